/-! texts: the other side reads a fair -/
theorem o_brg {b : Nat → Int} {N c p : Nat} {j : Bool} {M0 M : q_Mem} {F : t_Fr} (h : z_L b N M0 c (u_st b N (.inl (p, j)), F) M) (hle : p ≤ N) (hcb : F.2.2.2.2.1.length + F.2.2.2.2.2.length ≤ p) {K : q_Mem → Option (Int × q_Mem)} {Q : Int → q_Mem → Prop} (hK : ∀ M', z_L b N M0 c (s_brg b N F (.inl (p, j))) M' → q_P (K M') Q) : q_P (q_bd (fX12_number 0 9999 M) fun x29 M10 => (q_sto M10 122 6 1 x29).bind fun M11 => K M11) Q := by
  obtain ⟨hT, hz, hof, hF⟩ := h
  obtain ⟨h46, hF, hw, hcd⟩ : M.2 94 46 = (c : Int) ∧ zo_F F M ∧ w_F F ∧ _ := hF (by rw [ok_st]; rfl)
  obtain ⟨f1, f2, f3, f4, f5, f6, f7⟩ := hF
  obtain ⟨x, M1, a1, a2, a3, a4⟩ := o_num hT hz (lo := 0) (hi := 9999) (by omega) (by omega)
  rw [a1, b_some, sto_n (i := 1) (k := 1) rfl (by omega) (by omega), Option.bind_some]
  have gM : ∀ a k, ¬ (a = 94 ∧ (k = 2 ∨ k = 4 ∨ k = 5 ∨ k = 6 ∨ k = 35)) → ¬ (a = 122 ∧ k = 1) → (q_up M1 122 1 x).2 a k = M.2 a k := fun a k g1 g2 => by rw [up_ne g2, a2 a k g1]
  refine hK _ ⟨ot_fr (z94_T hT a2) (up_ne (by omega)) (fun k => up_ne (by omega)), O_fr a3 (fun k hk => up_ne (by omega)), fun a k hk => by rw [gM a k (by unfold v_o at hk; omega) (by unfold v_o at hk; omega), hof a k hk], fun hok => ⟨by rw [gM _ _ (by omega) (by omega)]; exact h46, ⟨⟨by rw [gM _ _ (by omega) (by omega)]; exact f1.1, by rw [up_rd, if_pos ⟨rfl, rfl⟩, a4 hok]; rfl, by rw [gM _ _ (by omega) (by omega)]; exact f1.2.2⟩, zoS_fr (S := F.2.1) f2 (fun a k h => gM _ _ (by omega) (by omega)), zoC_fr (S := F.2.2.1) f3 (fun a k h => gM _ _ (by omega) (by omega)), zoL_fr (S := F.2.2.2.1) f4 (fun a k h => gM _ _ (by omega) (by omega)), by rw [gM _ _ (by omega) (by omega)]; exact f5, zok_fr f6 (Nat.le_refl _) (fun a k h => gM _ _ (by omega) (by omega)), zok_fr f7 (Nat.le_refl _) (fun a k h => gM _ _ (by omega) (by omega))⟩, ?_, ?_⟩⟩
  · obtain ⟨y1, y2, y3, y4, y5, y6, y7, y8, y9, y10⟩ := hw
    exact ⟨y1, y2, y3, y4, y5, y6, NBd (by omega) (by omega), y8, y9, y10⟩
  · intro p' j' e
    have hi0 : u_in N (.inl (p, j)) := fun p0 j0 e0 => by cases e0; exact hle
    have l0 := le_st (b := b) hi0
    obtain ⟨_, p0, j0, e0, h0⟩ := le_t l0 (le_N (b := b) (lo := 0) (hi := 9999) (le_in l0)) p' j' e
    cases e0
    show F.2.2.2.2.1.length + F.2.2.2.2.2.length ≤ p'
    omega
theorem o_gus {b : Nat → Int} {N c p : Nat} {j : Bool} {M0 M : q_Mem} {F : t_Fr} (hw0 : r_words M0.2) (h : z_L b N M0 c (.inl (p, j), F) M) {K : q_Mem → Option (Int × q_Mem)} {Q : Int → q_Mem → Prop} (hK : ∀ M', z_L b N M0 c (if u_isW b N 14 (.inl (p, j)) = true then s_gus b N F (.inl (p, j)) else (u_fl 1 (u_p (.inl (p, j))) (.inl (p, j)), F)) M' → q_P (K M') Q) : q_P (q_bd (fX12_asks 111 4 M) fun _ M7 => q_bd (fX12_number 0 100 M7) fun x28 M8 => (q_sto M8 122 6 2 x28).bind fun M9 => K M9) Q := by
  have hL := h
  obtain ⟨hT, hz, hof, hF⟩ := h
  obtain ⟨h46, hF, hw, hcd⟩ : M.2 94 46 = (c : Int) ∧ zo_F F M ∧ w_F F ∧ _ := hF rfl
  obtain ⟨f1, f2, f3, f4, f5, f6, f7⟩ := hF
  have hcb : F.2.2.2.2.1.length + F.2.2.2.2.2.length ≤ p := hcd p j rfl
  have hle : p ≤ N := hz.2.1
  have hws := of_ws hof hw0
  obtain ⟨M1, g1, g2, g3⟩ := o_ak hws hT hz wc_p.2.2.2.2.2.2.1
  rw [g1, b_some]
  unfold u_W at g3
  by_cases cw : u_isW b N 14 (.inl (p, j)) = true
  · rw [if_pos cw] at g3 hK
    obtain ⟨x, M2, a1, a2, a3, a4⟩ := o_num (z94_T hT g2) g3 (lo := 0) (hi := 100) (by omega) (by omega)
    rw [a1, b_some, sto_n (i := 2) (k := 2) rfl (by omega) (by omega), Option.bind_some]
    have gM : ∀ a k, ¬ (a = 94 ∧ (k = 2 ∨ k = 4 ∨ k = 5 ∨ k = 6 ∨ k = 35)) → ¬ (a = 122 ∧ k = 2) → (q_up M2 122 2 x).2 a k = M.2 a k := fun a k h1 h2 => by rw [up_ne h2, a2 a k h1, g2 a k h1]
    refine hK _ ⟨ot_fr (z94_T (z94_T hT g2) a2) (up_ne (by omega)) (fun k => up_ne (by omega)), O_fr a3 (fun k hk => up_ne (by omega)), fun a k hk => by rw [gM a k (by unfold v_o at hk; omega) (by unfold v_o at hk; omega), hof a k hk], fun hok => ⟨by rw [gM _ _ (by omega) (by omega)]; exact h46, ⟨⟨by rw [gM _ _ (by omega) (by omega)]; exact f1.1, by rw [gM _ _ (by omega) (by omega)]; exact f1.2.1, by rw [up_rd, if_pos ⟨rfl, rfl⟩, a4 hok]; rfl⟩, zoS_fr (S := F.2.1) f2 (fun a k h => gM _ _ (by omega) (by omega)), zoC_fr (S := F.2.2.1) f3 (fun a k h => gM _ _ (by omega) (by omega)), zoL_fr (S := F.2.2.2.1) f4 (fun a k h => gM _ _ (by omega) (by omega)), by rw [gM _ _ (by omega) (by omega)]; exact f5, zok_fr f6 (Nat.le_refl _) (fun a k h => gM _ _ (by omega) (by omega)), zok_fr f7 (Nat.le_refl _) (fun a k h => gM _ _ (by omega) (by omega))⟩, ?_, ?_⟩⟩
    · obtain ⟨y1, y2, y3, y4, y5, y6, y7, y8, y9, y10⟩ := hw
      exact ⟨y1, y2, y3, y4, y5, y6, y7, NBd (by omega) (by omega), y9, y10⟩
    · intro p' j' e
      have hi0 : u_in N (.inl (p, j)) := fun p0 j0 e0 => by cases e0; exact hle
      have l0 := le_st (b := b) hi0
      obtain ⟨_, p0, j0, e0, h0⟩ := le_t l0 (le_N (b := b) (lo := 0) (hi := 100) (le_in l0)) p' j' e
      cases e0
      show F.2.2.2.2.1.length + F.2.2.2.2.2.length ≤ p'
      omega
  · rw [if_neg cw] at g3 hK
    rw [(num_F g3 ok_fl).1, b_some, sto_n (i := 2) (k := 2) rfl (by omega) (by omega), Option.bind_some]
    refine hK _ ⟨ot_fr (z94_T hT g2) (up_ne (by omega)) (fun k => up_ne (by omega)), O_fr g3 (fun k hk => up_ne (by omega)), fun a k hk => by rw [up_ne (by unfold v_o at hk; omega), g2 a k (by unfold v_o at hk; omega), hof a k hk], fun g => (by cases g)⟩
theorem zc_59 : z_c 59 := by
  unfold z_c
  decide
theorem o_167 {b : Nat → Int} {N c : Nat} {M0 M : q_Mem} {q : t_S × t_Fr} (h : z_L b N M0 c q M) : q_P (fX12_statementTold_167 M) (fun _ M' => z_L b N M0 (c + 1) (u_Z b N 59 q.1, q.2) M') := by
  unfold fX12_statementTold_167
  obtain ⟨M1, g1, g2, g3⟩ := o_askS h.1 h.2.1 zc_59.1 zc_59.2.1 zc_59.2.2
  rw [g1, b_some, q_le]
  refine w_some.mpr ⟨ot_fr (z94_T h.1 g2) (up_ne (by omega)) (fun k => up_ne (by omega)), O_fr g3 (fun k hk => up_ne (by omega)), fun a k hk => by rw [up_ne (by unfold v_o at hk; omega), g2 a k (by unfold v_o at hk; omega), h.2.2.1 a k hk], fun hok => ?_⟩
  have hq := (ok_Z hok).1
  obtain ⟨h46, hF, hw, hcd⟩ := h.2.2.2 hq
  have hle := le_Z (b := b) (c := 59) (O_in h.2.1)
  obtain ⟨σ, F⟩ := q
  have hcb : F.2.2.2.2.1.length + F.2.2.2.2.2.length ≤ 1600 := by
    rcases σ with ⟨p, j⟩ | e
    · have a1 : F.2.2.2.2.1.length + F.2.2.2.2.2.length ≤ p := hcd p j rfl
      have a2 : p ≤ N := h.2.1.2.1
      have a3 := h.1.2.2.2
      omega
    · cases hq
  refine ⟨by rw [up_rd, if_pos ⟨rfl, rfl⟩, g2 _ _ (by omega), h46]; omega, zoF_fr (F := F) hw hcb hF (fun a k h => by rw [up_ne (by omega), g2 _ _ (by omega)]), hw, ?_⟩
  intro p' j' e
  obtain ⟨_, p, j, e1, e2⟩ := hle p' j' e
  have := hcd p j e1
  show F.2.2.2.2.1.length + F.2.2.2.2.2.length ≤ p'
  have this' : F.2.2.2.2.1.length + F.2.2.2.2.2.length ≤ p := this
  omega
theorem o_st0 {b : Nat → Int} {N c p : Nat} {j : Bool} {M0 M : q_Mem} {F : t_Fr} (hw0 : r_words M0.2) (h : z_L b N M0 c (.inl (p, j), F) M) (hP : z_P b N p j M) (hc : c < 80) : q_P (fX12_statementTold M) (fun _ M' => z_L b N M0 (c + 1) (s_stm b N (.inl (p, j), F)) M') := by
  have h46 : M.2 94 46 = (c : Int) := (h.2.2.2 rfl).1
  have hcb : F.2.2.2.2.1.length + F.2.2.2.2.2.length ≤ p := (h.2.2.2 rfl).2.2.2 p j rfl
  have hle : p ≤ N := hP.2.1
  have hN := h.1.2.2.2
  have hin : u_in N (.inl (p, j)) := fun p0 j0 e0 => by cases e0; exact hle
  unfold fX12_statementTold s_stm s_st0
  rw [q_le, h46, n_w (by omega) (by omega), show q_w 80 = 80 from rfl, if_neg (by omega), show M.2 94 2 = (p : Int) from hP.2.2.1]
  obtain ⟨M1, t1, u1, v1⟩ := o_tk (of_ws (h).2.2.1 hw0) (h).1 (h).2.1 wc_p.1
  rw [t1, b_some, f_ite]
  by_cases c1 : u_isW b N 1 (.inl (p, j)) = true
  · rw [if_pos c1] at v1 ⊢
    have hl := L_94 h rfl u1 v1 (le_st hin)
    rw [if_pos c1]
    exact w_call (o_sta hw0 hl hle hcb) (fun _ M' h' => o_167 h')
  rw [if_neg c1] at v1 ⊢
  have l1 := L_94 h rfl u1 (Q_O v1) (le_r hin)
  obtain ⟨M6, t6, u6, v6⟩ := o_tk (of_ws (l1).2.2.1 hw0) (l1).1 (l1).2.1 wc_p.2.1
  rw [t6, b_some, f_ite]
  by_cases c6 : u_isW b N 6 (.inl (p, j)) = true
  · rw [if_pos c6] at v6 ⊢
    have hl := L_94 l1 rfl u6 v6 (le_st hin)
    rw [if_neg c1, if_pos c6]
    exact w_call (o_coi hw0 hl hle hcb) (fun _ M' h' => o_167 h')
  rw [if_neg c6] at v6 ⊢
  have l6 := L_94 l1 rfl u6 (Q_O v6) (le_r hin)
  obtain ⟨M9, t9, u9, v9⟩ := o_tk (of_ws (l6).2.2.1 hw0) (l6).1 (l6).2.1 wc_p.2.2.1
  rw [t9, b_some, f_ite]
  by_cases c9 : u_isW b N 9 (.inl (p, j)) = true
  · rw [if_pos c9] at v9 ⊢
    have hl := L_94 l6 rfl u9 v9 (le_st hin)
    rw [if_neg c1, if_neg c6, if_pos c9]
    exact w_call (o_clo hw0 hl hle hcb) (fun _ M' h' => o_167 h')
  rw [if_neg c9] at v9 ⊢
  have l9 := L_94 l6 rfl u9 (Q_O v9) (le_r hin)
  obtain ⟨M11, t11, u11, v11⟩ := o_tk (of_ws (l9).2.2.1 hw0) (l9).1 (l9).2.1 wc_p.2.2.2.1
  rw [t11, b_some, f_ite]
  by_cases c11 : u_isW b N 11 (.inl (p, j)) = true
  · rw [if_pos c11] at v11 ⊢
    have hl := L_94 l9 rfl u11 v11 (le_st hin)
    rw [if_neg c1, if_neg c6, if_neg c9, if_pos c11]
    exact w_call (o_sha hw0 hl hle hcb) (fun _ M' h' => o_167 h')
  rw [if_neg c11] at v11 ⊢
  have l11 := L_94 l9 rfl u11 (Q_O v11) (le_r hin)
  obtain ⟨M12, t12, u12, v12⟩ := o_tk (of_ws (l11).2.2.1 hw0) (l11).1 (l11).2.1 wc_p.2.2.2.2.1
  rw [t12, b_some, f_ite]
  by_cases c12 : u_isW b N 12 (.inl (p, j)) = true
  · rw [if_pos c12] at v12 ⊢
    have hl := L_94 l11 rfl u12 v12 (le_st hin)
    rw [if_neg c1, if_neg c6, if_neg c9, if_neg c11, if_pos c12]
    exact w_call (o_ref hw0 hl hle hcb) (fun _ M' h' => o_167 h')
  rw [if_neg c12] at v12 ⊢
  have l12 := L_94 l11 rfl u12 (Q_O v12) (le_r hin)
  obtain ⟨M13, t13, u13, v13⟩ := o_tk (of_ws (l12).2.2.1 hw0) (l12).1 (l12).2.1 wc_p.2.2.2.2.2.1
  rw [t13, b_some, f_ite]
  by_cases c13 : u_isW b N 13 (.inl (p, j)) = true
  · rw [if_pos c13] at v13 ⊢
    have hl := L_94 l12 rfl u13 v13 (le_st hin)
    rw [if_neg c1, if_neg c6, if_neg c9, if_neg c11, if_neg c12, if_pos c13]
    exact o_brg hl hle hcb (fun M' h' => o_167 h')
  rw [if_neg c13] at v13 ⊢
  have l13 := L_94 l12 rfl u13 (Q_O v13) (le_r hin)
  rw [if_neg c1, if_neg c6, if_neg c9, if_neg c11, if_neg c12, if_neg c13]
  exact o_gus hw0 l13 (fun M' h' => o_167 h')
theorem kd_0 {b : Nat → Int} {N p : Nat} {j : Bool} : t_kind b N p j = 0 ↔ t_at b N p = -1 := by
  unfold t_kind
  by_cases c1 : t_lt (t_at b N p) = true
  · rw [if_pos c1]
    constructor
    · intro g; cases j <;> simp at g
    · intro g; rw [g] at c1; exact absurd c1 (by decide)
  · rw [if_neg c1]
    by_cases c2 : t_dg (t_at b N p) = true
    · rw [if_pos c2]
      constructor
      · intro g; cases j <;> simp at g
      · intro g; rw [g] at c2; exact absurd c2 (by decide)
    · rw [if_neg c2]
      by_cases c3 : t_at b N p = -1
      · rw [if_pos c3]; simp [c3]
      · rw [if_neg c3]; simp [c3]
theorem o_rd {b : Nat → Int} {N : Nat} {M0 : q_Mem} (hw0 : r_words M0.2) : ∀ (n f c : Nat) (q : t_S × t_Fr) (M : q_Mem), 1 ≤ c → c ≤ 80 → 81 ≤ c + n → n + 1 < f → z_L b N M0 c q M → p_B M → ∃ M', fX12_fair_95 f M = fX12_fair_117 M' ∧ z_L b N M0 (s_rd b N n c q).1 (s_rd b N n c q).2 M' ∧ p_B M' := by
  have flt : ∀ (f c : Nat) (q : t_S × t_Fr) (M : q_Mem), 0 < f → z_L b N M0 c q M → u_ok q.1 = false → fX12_fair_95 f M = fX12_fair_117 M := by
    intro f c q M hf h hq
    cases f with
    | zero => omega
    | succ f => rw [fX12_fair_95, if_neg (num_F h.2.1 hq).2]
  intro n
  induction n with
  | zero => intro f c q M h1 h2 h3; omega
  | succ n ih =>
    intro f c q M h1 h2 h3 hf h hB
    obtain ⟨σ, F⟩ := q
    rcases σ with ⟨p, j⟩ | e
    · cases f with
      | zero => omega
      | succ f =>
        obtain ⟨M1, g1, g2, g3⟩ := o_look h.1 h.2.1
        have hin : u_in N (.inl (p, j)) := fun p0 j0 e0 => by cases e0; exact g3.2.1
        have hl1 : z_L b N M0 c (.inl (p, j), F) M1 := L_94 h rfl (fun a k ha => g2 a k (by omega)) (P_O g3) (le_r hin)
        have hB1 : p_B M1 := by
          unfold p_B
          rw [g2 94 5 (by omega), g2 94 6 (by omega)]
          exact hB
        have hat := at_b2 h.1 p
        rw [fX12_fair_95, show M.2 94 5 = 0 from h.2.1.1, show q_w 0 = 0 from rfl, if_pos rfl, g1, b_some, n_w (by omega) (by omega), show q_w (-1) = -1 from rfl, s_rd]
        by_cases c0 : t_at b N p = -1
        · rw [if_pos c0, if_neg (fun g => by
            have g2 : decide (t_kind b N p j = 0) = false := g.2
            exact of_decide_eq_false g2 (kd_0.mpr c0))]
          exact ⟨M1, rfl, hl1, hB1⟩
        · have hE : u_ok ((Sum.inl (p, j), F) : t_S × t_Fr).1 = true ∧ u_E b N ((Sum.inl (p, j), F) : t_S × t_Fr).1 = false := ⟨rfl, decide_eq_false (fun g => c0 (kd_0.mp g))⟩
          rw [if_neg c0, if_pos hE]
          by_cases cc : c < 80
          · rw [if_pos cc]
            obtain ⟨_, M2, k1, k2⟩ := o_st0 hw0 hl1 g3 cc
            rw [k1, b_some]
            exact ih f (c + 1) _ M2 (by omega) (by omega) (by omega) (by omega) k2 (B_fX12_statementTold hB1 _ _ k1)
          · rw [if_neg cc]
            unfold fX12_statementTold
            have h46 : M1.2 94 46 = (c : Int) := (hl1.2.2.2 rfl).1
            obtain ⟨M2, k1, k2, k3⟩ := o_fail (k := 5) (pl := (p : Int)) (P_O g3) (by omega)
            rw [q_le, h46, n_w (by omega) (by omega), show q_w 80 = 80 from rfl, if_pos (by omega), show M1.2 94 2 = (p : Int) from g3.2.2.1, k1, b_some, b_some]
            have hl2 : z_L b N M0 c (u_fl 5 (u_p (.inl (p, j))) (.inl (p, j)), F) M2 := L_flt hl1 k2 k3 rfl
            exact ⟨M2, flt f c _ M2 (by omega) hl2 rfl, hl2, fun g => absurd g (fun e => by have h5 : M2.2 94 5 = 5 := k3.1; omega)⟩
    · rw [s_rd, if_neg (fun g => by cases g.1)]
      exact ⟨M, flt f c _ M (by omega) h rfl, h, hB⟩
theorem sd_7 : ∀ (m x n : Nat) (M : q_Mem), x + m = 3 → m < n → ∃ M', fX12_stands_7 n (x : Int) M = fX12_stands_48 q_FU 0 M' ∧ (∀ k, x ≤ k → k < 3 → M'.2 122 (3 + k) = M.2 122 k) ∧ (∀ k, x ≤ k → k < 3 → M'.2 123 (3 + k) = M.2 123 k) ∧ (∀ a k, ¬ (a = 122 ∧ 3 + x ≤ k ∧ k < 3 + 3) → ¬ (a = 123 ∧ 3 + x ≤ k ∧ k < 3 + 3) → M'.2 a k = M.2 a k) := by
  intro m
  induction m with
  | zero =>
    intro x n M hx hn
    cases n with
    | zero => omega
    | succ n =>
      rw [fX12_stands_7, n_w (by omega) (by omega), show q_w 3 = 3 from rfl, if_neg (by omega)]
      exact ⟨M, rfl, fun k h1 h2 => absurd h1 (by omega), fun k h1 h2 => absurd h1 (by omega), fun a k _ _ => rfl⟩
  | succ m ih =>
    intro x n M hx hn
    cases n with
    | zero => omega
    | succ n =>
      rw [fX12_stands_7, n_w (a := (x : Int)) (by omega) (by omega), show q_w 3 = 3 from rfl, if_pos (by omega), ld_n rfl (by omega) (by omega), Option.bind_some, sto_n (k := 3 + x) (by omega) (by omega) (by omega), Option.bind_some, ld_n rfl (by omega) (by omega), Option.bind_some, sto_n (k := 3 + x) (by omega) (by omega) (by omega), Option.bind_some, show (x : Int) + 1 = ((x + 1 : Nat) : Int) from by omega]
      obtain ⟨M', g1, c0, c1, gf⟩ := ih (x + 1) n (q_up (q_up M 122 (3 + x) (M.2 122 x)) 123 (3 + x) ((q_up M 122 (3 + x) (M.2 122 x)).2 123 x)) (by omega) (by omega)
      refine ⟨M', g1, ?_, ?_, ?_⟩
      · intro k h1 h2
        by_cases ck : k = x
        · rw [ck, gf _ _ (by omega) (by omega), up_ne (by omega), up_rd, if_pos ⟨rfl, rfl⟩]
        · rw [c0 k (by omega) h2, up_ne (by omega), up_ne (by omega)]
      · intro k h1 h2
        by_cases ck : k = x
        · rw [ck, gf _ _ (by omega) (by omega), up_rd, if_pos ⟨rfl, rfl⟩, up_ne (by omega)]
        · rw [c1 k (by omega) h2, up_ne (by omega), up_ne (by omega)]
      · intro a k h0 h1
        rw [gf a k (by omega) (by omega), up_ne (by omega), up_ne (by omega)]
theorem sd_48 : ∀ (m x n : Nat) (M : q_Mem), x + m = 2 → m < n → ∃ M', fX12_stands_48 n (x : Int) M = fX12_stands_89 q_FU 0 M' ∧ (∀ k, x ≤ k → k < 2 → M'.2 128 (2 + k) = M.2 128 k) ∧ (∀ k, x ≤ k → k < 2 → M'.2 129 (2 + k) = M.2 129 k) ∧ (∀ a k, ¬ (a = 128 ∧ 2 + x ≤ k ∧ k < 2 + 2) → ¬ (a = 129 ∧ 2 + x ≤ k ∧ k < 2 + 2) → M'.2 a k = M.2 a k) := by
  intro m
  induction m with
  | zero =>
    intro x n M hx hn
    cases n with
    | zero => omega
    | succ n =>
      rw [fX12_stands_48, n_w (by omega) (by omega), show q_w 2 = 2 from rfl, if_neg (by omega)]
      exact ⟨M, rfl, fun k h1 h2 => absurd h1 (by omega), fun k h1 h2 => absurd h1 (by omega), fun a k _ _ => rfl⟩
  | succ m ih =>
    intro x n M hx hn
    cases n with
    | zero => omega
    | succ n =>
      rw [fX12_stands_48, n_w (a := (x : Int)) (by omega) (by omega), show q_w 2 = 2 from rfl, if_pos (by omega), ld_n rfl (by omega) (by omega), Option.bind_some, sto_n (k := 2 + x) (by omega) (by omega) (by omega), Option.bind_some, ld_n rfl (by omega) (by omega), Option.bind_some, sto_n (k := 2 + x) (by omega) (by omega) (by omega), Option.bind_some, show (x : Int) + 1 = ((x + 1 : Nat) : Int) from by omega]
      obtain ⟨M', g1, c0, c1, gf⟩ := ih (x + 1) n (q_up (q_up M 128 (2 + x) (M.2 128 x)) 129 (2 + x) ((q_up M 128 (2 + x) (M.2 128 x)).2 129 x)) (by omega) (by omega)
      refine ⟨M', g1, ?_, ?_, ?_⟩
      · intro k h1 h2
        by_cases ck : k = x
        · rw [ck, gf _ _ (by omega) (by omega), up_ne (by omega), up_rd, if_pos ⟨rfl, rfl⟩]
        · rw [c0 k (by omega) h2, up_ne (by omega), up_ne (by omega)]
      · intro k h1 h2
        by_cases ck : k = x
        · rw [ck, gf _ _ (by omega) (by omega), up_rd, if_pos ⟨rfl, rfl⟩, up_ne (by omega)]
        · rw [c1 k (by omega) h2, up_ne (by omega), up_ne (by omega)]
      · intro a k h0 h1
        rw [gf a k (by omega) (by omega), up_ne (by omega), up_ne (by omega)]
theorem sd_89 : ∀ (m x n : Nat) (M : q_Mem), x + m = 16 → m < n → ∃ M', fX12_stands_89 n (x : Int) M = fX12_stands_148 q_FU 0 M' ∧ (∀ k, x ≤ k → k < 16 → M'.2 124 (16 + k) = M.2 124 k) ∧ (∀ k, x ≤ k → k < 16 → M'.2 126 (16 + k) = M.2 126 k) ∧ (∀ k, x ≤ k → k < 16 → M'.2 127 (16 + k) = M.2 127 k) ∧ (∀ a k, ¬ (a = 124 ∧ 16 + x ≤ k ∧ k < 16 + 16) → ¬ (a = 126 ∧ 16 + x ≤ k ∧ k < 16 + 16) → ¬ (a = 127 ∧ 16 + x ≤ k ∧ k < 16 + 16) → M'.2 a k = M.2 a k) := by
  intro m
  induction m with
  | zero =>
    intro x n M hx hn
    cases n with
    | zero => omega
    | succ n =>
      rw [fX12_stands_89, n_w (by omega) (by omega), show q_w 16 = 16 from rfl, if_neg (by omega)]
      exact ⟨M, rfl, fun k h1 h2 => absurd h1 (by omega), fun k h1 h2 => absurd h1 (by omega), fun k h1 h2 => absurd h1 (by omega), fun a k _ _ _ => rfl⟩
  | succ m ih =>
    intro x n M hx hn
    cases n with
    | zero => omega
    | succ n =>
      rw [fX12_stands_89, n_w (a := (x : Int)) (by omega) (by omega), show q_w 16 = 16 from rfl, if_pos (by omega), ld_n rfl (by omega) (by omega), Option.bind_some, sto_n (k := 16 + x) (by omega) (by omega) (by omega), Option.bind_some, ld_n rfl (by omega) (by omega), Option.bind_some, sto_n (k := 16 + x) (by omega) (by omega) (by omega), Option.bind_some, ld_n rfl (by omega) (by omega), Option.bind_some, sto_n (k := 16 + x) (by omega) (by omega) (by omega), Option.bind_some, show (x : Int) + 1 = ((x + 1 : Nat) : Int) from by omega]
      obtain ⟨M', g1, c0, c1, c2, gf⟩ := ih (x + 1) n (q_up (q_up (q_up M 124 (16 + x) (M.2 124 x)) 126 (16 + x) ((q_up M 124 (16 + x) (M.2 124 x)).2 126 x)) 127 (16 + x) ((q_up (q_up M 124 (16 + x) (M.2 124 x)) 126 (16 + x) ((q_up M 124 (16 + x) (M.2 124 x)).2 126 x)).2 127 x)) (by omega) (by omega)
      refine ⟨M', g1, ?_, ?_, ?_, ?_⟩
      · intro k h1 h2
        by_cases ck : k = x
        · rw [ck, gf _ _ (by omega) (by omega) (by omega), up_ne (by omega), up_ne (by omega), up_rd, if_pos ⟨rfl, rfl⟩]
        · rw [c0 k (by omega) h2, up_ne (by omega), up_ne (by omega), up_ne (by omega)]
      · intro k h1 h2
        by_cases ck : k = x
        · rw [ck, gf _ _ (by omega) (by omega) (by omega), up_ne (by omega), up_rd, if_pos ⟨rfl, rfl⟩, up_ne (by omega)]
        · rw [c1 k (by omega) h2, up_ne (by omega), up_ne (by omega), up_ne (by omega)]
      · intro k h1 h2
        by_cases ck : k = x
        · rw [ck, gf _ _ (by omega) (by omega) (by omega), up_rd, if_pos ⟨rfl, rfl⟩, up_ne (by omega), up_ne (by omega)]
        · rw [c2 k (by omega) h2, up_ne (by omega), up_ne (by omega), up_ne (by omega)]
      · intro a k h0 h1 h2
        rw [gf a k (by omega) (by omega) (by omega), up_ne (by omega), up_ne (by omega), up_ne (by omega)]
theorem sd_148 : ∀ (m x n : Nat) (M : q_Mem), x + m = 24 → m < n → ∃ M', fX12_stands_148 n (x : Int) M = fX12_stands_177 q_FU 0 M' ∧ (∀ k, x ≤ k → k < 24 → M'.2 125 (24 + k) = M.2 125 k) ∧ (∀ a k, ¬ (a = 125 ∧ 24 + x ≤ k ∧ k < 24 + 24) → M'.2 a k = M.2 a k) := by
  intro m
  induction m with
  | zero =>
    intro x n M hx hn
    cases n with
    | zero => omega
    | succ n =>
      rw [fX12_stands_148, n_w (by omega) (by omega), show q_w 24 = 24 from rfl, if_neg (by omega)]
      exact ⟨M, rfl, fun k h1 h2 => absurd h1 (by omega), fun a k _ => rfl⟩
  | succ m ih =>
    intro x n M hx hn
    cases n with
    | zero => omega
    | succ n =>
      rw [fX12_stands_148, n_w (a := (x : Int)) (by omega) (by omega), show q_w 24 = 24 from rfl, if_pos (by omega), ld_n rfl (by omega) (by omega), Option.bind_some, sto_n (k := 24 + x) (by omega) (by omega) (by omega), Option.bind_some, show (x : Int) + 1 = ((x + 1 : Nat) : Int) from by omega]
      obtain ⟨M', g1, c0, gf⟩ := ih (x + 1) n (q_up M 125 (24 + x) (M.2 125 x)) (by omega) (by omega)
      refine ⟨M', g1, ?_, ?_⟩
      · intro k h1 h2
        by_cases ck : k = x
        · rw [ck, gf _ _ (by omega), up_rd, if_pos ⟨rfl, rfl⟩]
        · rw [c0 k (by omega) h2, up_ne (by omega)]
      · intro a k h0
        rw [gf a k (by omega), up_ne (by omega)]
theorem sd_177 {cd : Nat} (hcd : cd ≤ 1600) : ∀ (m x n : Nat) (M : q_Mem), x + m = cd → m < n → M.2 94 45 = (cd : Int) → ∃ M', fX12_stands_177 n (x : Int) M = fX12_stands_209 q_FU 0 M' ∧ (∀ k, x ≤ k → k < cd → M'.2 130 (1600 + k) = M.2 130 k) ∧ (∀ a k, ¬ (a = 130 ∧ 1600 + x ≤ k ∧ k < 1600 + cd) → M'.2 a k = M.2 a k) := by
  intro m
  induction m with
  | zero =>
    intro x n M hx hn h45
    cases n with
    | zero => omega
    | succ n =>
      rw [fX12_stands_177, h45, n_w (by omega) (by omega), n_w (by omega) (by omega), if_neg (by omega)]
      exact ⟨M, rfl, fun k h1 h2 => absurd h1 (by omega), fun a k _ => rfl⟩
  | succ m ih =>
    intro x n M hx hn h45
    cases n with
    | zero => omega
    | succ n =>
      rw [fX12_stands_177, h45, n_w (a := (x : Int)) (by omega) (by omega), n_w (a := (cd : Int)) (by omega) (by omega), if_pos (by omega), ld_n rfl (by omega) (by omega), Option.bind_some, sto_n (k := 1600 + x) (by omega) (by omega) (by omega), Option.bind_some, show (x : Int) + 1 = ((x + 1 : Nat) : Int) from by omega]
      obtain ⟨M', g1, c0, gf⟩ := ih (x + 1) n (q_up M 130 (1600 + x) (M.2 130 x)) (by omega) (by omega) (by rw [up_ne (by omega), h45])
      refine ⟨M', g1, ?_, ?_⟩
      · intro k h1 h2
        by_cases ck : k = x
        · rw [ck, gf _ _ (by omega), up_rd, if_pos ⟨rfl, rfl⟩]
        · rw [c0 k (by omega) h2, up_ne (by omega)]
      · intro a k h0
        rw [gf a k (by omega), up_ne (by omega)]
theorem sd_209 : ∀ (m x n : Nat) (M : q_Mem), x + m = 141 → m < n → ∃ M', fX12_stands_209 n (x : Int) M = some (0, M') ∧ (∀ k, x ≤ k → k < 141 → M'.2 131 k = 0) ∧ M'.2 94 65 = 0 ∧ M'.2 94 62 = 0 ∧ (∀ a k, ¬ (a = 131 ∧ x ≤ k ∧ k < 141) → ¬ (a = 94 ∧ (k = 65 ∨ k = 62)) → M'.2 a k = M.2 a k) := by
  intro m
  induction m with
  | zero =>
    intro x n M hx hn
    cases n with
    | zero => omega
    | succ n =>
      rw [fX12_stands_209, n_w (by omega) (by omega), show q_w 141 = 141 from rfl, if_neg (by omega), q_le, q_le]
      exact ⟨_, rfl, fun k h1 h2 => absurd h1 (by omega), by rw [up_ne (by omega), up_rd, if_pos ⟨rfl, rfl⟩], by rw [up_rd, if_pos ⟨rfl, rfl⟩], fun a k h1 h2 => by rw [up_ne (by omega), up_ne (by omega)]⟩
  | succ m ih =>
    intro x n M hx hn
    cases n with
    | zero => omega
    | succ n =>
      rw [fX12_stands_209, n_w (a := (x : Int)) (by omega) (by omega), show q_w 141 = 141 from rfl, if_pos (by omega), sto_n rfl (by omega) (by omega), Option.bind_some, show (x : Int) + 1 = ((x + 1 : Nat) : Int) from by omega]
      obtain ⟨M', g1, g2, g3, g4, gf⟩ := ih (x + 1) n (q_up M 131 x 0) (by omega) (by omega)
      refine ⟨M', g1, ?_, g3, g4, ?_⟩
      · intro k h1 h2
        by_cases ck : k = x
        · rw [ck, gf _ _ (by omega) (by omega), up_rd, if_pos ⟨rfl, rfl⟩]
        · exact g2 k (by omega) h2
      · intro a k h1 h2
        rw [gf a k (by omega) h2, up_ne (by omega)]
theorem o_std {cd : Nat} {M : q_Mem} (hcd : cd ≤ 1600) (h45 : M.2 94 45 = (cd : Int)) : ∃ M', fX12_stands M = some (0, M') ∧ M'.2 94 47 = 1 ∧ M'.2 94 65 = 0 ∧ M'.2 94 62 = 0 ∧ (∀ k, k < 141 → M'.2 131 k = 0) ∧ (∀ k, k < 3 → M'.2 122 (3 + k) = M.2 122 k ∧ M'.2 123 (3 + k) = M.2 123 k) ∧ (∀ k, k < 2 → M'.2 128 (2 + k) = M.2 128 k ∧ M'.2 129 (2 + k) = M.2 129 k) ∧ (∀ k, k < 16 → M'.2 124 (16 + k) = M.2 124 k ∧ M'.2 126 (16 + k) = M.2 126 k ∧ M'.2 127 (16 + k) = M.2 127 k) ∧ (∀ k, k < 24 → M'.2 125 (24 + k) = M.2 125 k) ∧ (∀ k, k < cd → M'.2 130 (1600 + k) = M.2 130 k) ∧ (∀ a k, ¬ (122 ≤ a ∧ a ≤ 131) → ¬ (a = 94 ∧ (k = 47 ∨ k = 62 ∨ k = 65)) → M'.2 a k = M.2 a k) := by
  unfold fX12_stands
  rw [q_le]
  obtain ⟨M1, a1, a2, a3, a4⟩ := sd_7 3 0 q_FU (q_up M 94 47 1) (by omega) (by unfold q_FU; omega)
  obtain ⟨M2, b1, b2, b3, b4⟩ := sd_48 2 0 q_FU M1 (by omega) (by unfold q_FU; omega)
  obtain ⟨M3, c1, c2, c3, c4, c5⟩ := sd_89 16 0 q_FU M2 (by omega) (by unfold q_FU; omega)
  obtain ⟨M4, d1, d2, d3⟩ := sd_148 24 0 q_FU M3 (by omega) (by unfold q_FU; omega)
  have h45' : M4.2 94 45 = (cd : Int) := by rw [d3 _ _ (by omega), c5 _ _ (by omega) (by omega) (by omega), b4 _ _ (by omega) (by omega), a4 _ _ (by omega) (by omega), up_ne (by omega), h45]
  obtain ⟨M5, e1, e2, e3⟩ := sd_177 hcd cd 0 q_FU M4 (by omega) (by unfold q_FU; omega) h45'
  obtain ⟨M6, f1, f2, f3, f4, f5⟩ := sd_209 141 0 q_FU M5 (by omega) (by unfold q_FU; omega)
  have z0 : ((0 : Nat) : Int) = 0 := rfl
  rw [z0] at a1 b1 c1 d1 e1 f1
  refine ⟨M6, by rw [a1, b1, c1, d1, e1, f1], ?_, f3, f4, fun k hk => f2 k (by omega) hk, ?_, ?_, ?_, ?_, ?_, ?_⟩
  · rw [f5 _ _ (by omega) (by omega), e3 _ _ (by omega), d3 _ _ (by omega), c5 _ _ (by omega) (by omega) (by omega), b4 _ _ (by omega) (by omega), a4 _ _ (by omega) (by omega), up_rd, if_pos ⟨rfl, rfl⟩]
  · intro k hk
    exact ⟨by rw [f5 _ _ (by omega) (by omega), e3 _ _ (by omega), d3 _ _ (by omega), c5 _ _ (by omega) (by omega) (by omega), b4 _ _ (by omega) (by omega), a2 k (by omega) hk, up_ne (by omega)], by rw [f5 _ _ (by omega) (by omega), e3 _ _ (by omega), d3 _ _ (by omega), c5 _ _ (by omega) (by omega) (by omega), b4 _ _ (by omega) (by omega), a3 k (by omega) hk, up_ne (by omega)]⟩
  · intro k hk
    exact ⟨by rw [f5 _ _ (by omega) (by omega), e3 _ _ (by omega), d3 _ _ (by omega), c5 _ _ (by omega) (by omega) (by omega), b2 k (by omega) hk, a4 _ _ (by omega) (by omega), up_ne (by omega)], by rw [f5 _ _ (by omega) (by omega), e3 _ _ (by omega), d3 _ _ (by omega), c5 _ _ (by omega) (by omega) (by omega), b3 k (by omega) hk, a4 _ _ (by omega) (by omega), up_ne (by omega)]⟩
  · intro k hk
    exact ⟨by rw [f5 _ _ (by omega) (by omega), e3 _ _ (by omega), d3 _ _ (by omega), c2 k (by omega) hk, b4 _ _ (by omega) (by omega), a4 _ _ (by omega) (by omega), up_ne (by omega)], by rw [f5 _ _ (by omega) (by omega), e3 _ _ (by omega), d3 _ _ (by omega), c3 k (by omega) hk, b4 _ _ (by omega) (by omega), a4 _ _ (by omega) (by omega), up_ne (by omega)], by rw [f5 _ _ (by omega) (by omega), e3 _ _ (by omega), d3 _ _ (by omega), c4 k (by omega) hk, b4 _ _ (by omega) (by omega), a4 _ _ (by omega) (by omega), up_ne (by omega)]⟩
  · intro k hk
    rw [f5 _ _ (by omega) (by omega), e3 _ _ (by omega), d2 k (by omega) hk, c5 _ _ (by omega) (by omega) (by omega), b4 _ _ (by omega) (by omega), a4 _ _ (by omega) (by omega), up_ne (by omega)]
  · intro k hk
    rw [f5 _ _ (by omega) (by omega), e2 k (by omega) hk, d3 _ _ (by omega), c5 _ _ (by omega) (by omega) (by omega), b4 _ _ (by omega) (by omega), a4 _ _ (by omega) (by omega), up_ne (by omega)]
  · intro a k h1 h2
    rw [f5 _ _ (by omega) (by omega), e3 _ _ (by omega), d3 _ _ (by omega), c5 _ _ (by omega) (by omega) (by omega), b4 _ _ (by omega) (by omega), a4 _ _ (by omega) (by omega), up_ne (by omega)]
