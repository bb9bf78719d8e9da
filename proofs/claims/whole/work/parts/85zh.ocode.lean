/-! texts: the other side reads codes, and a statement -/
def z_cf (i cd : Nat) (M M' : q_Mem) : Prop := ∀ a k, ¬ (a = 94 ∧ (k = 2 ∨ k = 4 ∨ k = 5 ∨ k = 6 ∨ k = 35 ∨ k = 45 ∨ k = 48 ∨ k = 91 ∨ k = 93 ∨ k = 94 ∨ k = 95)) → a ≠ 162 → a ≠ 163 → ¬ (a = 128 ∧ k = i) → ¬ (a = 129 ∧ k = i) → ¬ (a = 130 ∧ cd ≤ k ∧ k < 1600) → M'.2 a k = M.2 a k
def z_cp (b : Nat → Int) (N i cd : Nat) (q : t_R) (M M' : q_Mem) : Prop := z_ot b N M' ∧ z_O b N q.1 M' ∧ z_cf i cd M M' ∧ (u_ok q.1 = true → M'.2 128 i = (cd : Int) ∧ M'.2 129 i = ((cd + q.2.length : Nat) : Int) ∧ M'.2 94 45 = ((cd + q.2.length : Nat) : Int) ∧ ∀ k, k < q.2.length → M'.2 130 (cd + k) = q.2.reverse.getD k 0)
theorem o_72 {b : Nat → Int} {N i cd : Nat} {q : t_R} {e : Int} {M M5 M6 : q_Mem} (hi : i < 2) (h5 : ∀ a k, ¬ (a = 94 ∧ (k = 48 ∨ k = 91 ∨ k = 93 ∨ k = 94 ∨ k = 95)) → M5.2 a k = M.2 a k) (h45 : M.2 94 45 = (cd : Int)) (hcd : u_ok q.1 = true → cd + q.2.length ≤ 1600) (hE : z_E b N i 0 M5 q [] 0 0 e M6) : q_P (fX12_codesTold_72 (i : Int) M6) (fun _ M' => z_cp b N i cd q M M') := by
  unfold fX12_codesTold_72
  by_cases hok : u_ok q.1 = true
  · have hC := hE.1 hok
    have hcd := hcd hok
    have hO := hC.2.1
    have hf : ∀ a k, ¬ (a = 94 ∧ (k = 2 ∨ k = 4 ∨ k = 5 ∨ k = 6 ∨ k = 35 ∨ k = 48 ∨ k = 91 ∨ k = 93 ∨ k = 94 ∨ k = 95)) → a ≠ 162 → a ≠ 163 → M6.2 a k = M.2 a k := fun a k h1 h2 h3 => by rw [hC.2.2.2.2.2 a k h2 h3 (by omega), h5 a k (by omega)]
    have h45' : M6.2 94 45 = (cd : Int) := by rw [hf _ _ (by omega) (by omega) (by omega), h45]
    rw [if_pos ((O_bad hO).mpr hok), h45', sto_n rfl (by omega) (by omega), Option.bind_some]
    obtain ⟨M7, g1, g2, g3, g4, g5⟩ := cp_92 (i := i) (L := q.2.length) (cd := cd) hi hcd q.2.length 0 q_FU (q_up M6 128 i (cd : Int)) (by omega) (by unfold q_FU; omega) (by rw [up_ne (by omega)]; exact hC.2.2.1.2.2.2.1) (by rw [up_ne (by omega), h45']; omega)
    refine ⟨0, M7, g1, ot_fr hC.1 (by rw [g5 _ _ (by omega) (by omega) (by omega), up_ne (by omega)]) (fun k => by rw [g5 _ _ (by omega) (by omega) (by omega), up_ne (by omega)]), O_fr hO (fun k hk => by rw [g5 _ _ (by omega) (by omega) (by omega), up_ne (by omega)]), fun a k h1 h2 h3 h4 h6 h7 => by rw [g5 _ _ (by omega) (by omega) (by omega), up_ne (by omega), hf a k (by omega) h2 h3], fun _ => ⟨by rw [g5 _ _ (by omega) (by omega) (by omega), up_rd, if_pos ⟨rfl, rfl⟩], g3, g2, ?_⟩⟩
    intro k hk
    rw [g4 k (by omega) hk, up_ne (by omega)]
    exact stk_rev hC.2.2.2.1.2.1 k hk
  · have hff : u_ok q.1 = false := Bool.eq_false_iff.mpr hok
    have hF := hE.2 hff
    rw [if_neg (F_bad hF)]
    exact w_some.mpr ⟨hF.2.1, hF.2.2.1, fun a k h1 h2 h3 h4 h6 h7 => by rw [hF.2.2.2.2 a k h2 h3 (by omega), h5 a k (by omega)], fun g => absurd g hok⟩
theorem o_23 {b : Nat → Int} {N i cd p t : Nat} {j : Bool} {M : q_Mem} (hi : (i = 0 ∧ t = 3) ∨ (i = 1 ∧ t = 0)) (hw : r_words M.2) (hT : z_ot b N M) (hz : z_O b N (.inl (p, j)) M) (h45 : M.2 94 45 = (cd : Int)) (hcd : cd ≤ p) : q_P (fX12_codesTold_23 (i : Int) M) (fun _ M' => z_cp b N i cd (s_G b N i 60 t 0 (.inl (p, j), [])) M M') := by
  unfold fX12_codesTold_23
  rw [show M.2 94 5 = 0 from hz.1, show q_w 0 = 0 from rfl, if_pos rfl, q_le, q_le, q_le, q_le, q_le]
  have h5 : ∀ a k, ¬ (a = 94 ∧ (k = 48 ∨ k = 91 ∨ k = 93 ∨ k = 94 ∨ k = 95)) → (q_up (q_up (q_up (q_up (q_up M 94 48 (i : Int)) 94 91 0) 94 93 0) 94 94 0) 94 95 0).2 a k = M.2 a k := fun a k h => by rw [up_ne (by omega), up_ne (by omega), up_ne (by omega), up_ne (by omega), up_ne (by omega)]
  have hC : z_C b N i 0 (q_up (q_up (q_up (q_up (q_up M 94 48 (i : Int)) 94 91 0) 94 93 0) 94 94 0) 94 95 0) (.inl (p, j)) [] ((0 : Nat) : Int) 0 [] (q_up (q_up (q_up (q_up (q_up M 94 48 (i : Int)) 94 91 0) 94 93 0) 94 94 0) 94 95 0) := by
    refine ⟨ot_fr hT (h5 _ _ (by omega)) (fun k => h5 _ _ (by omega)), O_fr hz (fun k hk => h5 _ _ (by omega)), ⟨?_, ?_, ?_, ?_, ?_⟩, ⟨trivial, trivial, fun v hv => absurd hv List.not_mem_nil⟩, fun p0 j0 e0 => ?_, fun _ _ _ _ _ => rfl⟩
    · rw [up_ne (by omega), up_ne (by omega), up_rd, if_pos ⟨rfl, rfl⟩]; rfl
    · rw [up_ne (by omega), up_rd, if_pos ⟨rfl, rfl⟩]; rfl
    · rw [up_rd, if_pos ⟨rfl, rfl⟩]; rfl
    · rw [up_ne (by omega), up_ne (by omega), up_ne (by omega), up_rd, if_pos ⟨rfl, rfl⟩]; rfl
    · rw [up_ne (by omega), up_ne (by omega), up_ne (by omega), up_ne (by omega), up_rd, if_pos ⟨rfl, rfl⟩]
    · rw [List.length_nil]; omega
  have hw5 : r_words (q_up (q_up (q_up (q_up (q_up M 94 48 (i : Int)) 94 91 0) 94 93 0) 94 94 0) 94 95 0).2 := by
    intro e he k hk
    have := a_wc e he
    rw [h5 _ _ (by omega)]
    exact hw e he k hk
  have hlen : u_ok (s_G b N i 60 t 0 (.inl (p, j), [])).1 = true → cd + (s_G b N i 60 t 0 (.inl (p, j), [])).2.length ≤ 1600 := by
    intro g
    rcases hq : (s_G b N i 60 t 0 (.inl (p, j), [])).1 with ⟨p', j'⟩ | e
    · have h1 := len_G2 hT.2.2.1 hT.2.2.2 hz.2.1 (by omega) (by omega) hq
      have h2 := (le_G (b := b) (w := i) 60 t 0 (.inl (p, j), []) (fun p0 j0 e0 => by cases e0; exact hz.2.1) p' j' hq).1
      have h3 := hT.2.2.2
      omega
    · rw [hq] at g; cases g
  generalize q_up (q_up (q_up (q_up (q_up M 94 48 (i : Int)) 94 91 0) 94 93 0) 94 94 0) 94 95 0 = M5 at h5 hC hw5
  rcases hi with ⟨rfl, rfl⟩ | ⟨rfl, rfl⟩
  · rw [show q_w ((0 : Nat) : Int) = 0 from rfl, show q_w 1 = 1 from rfl, if_neg (by decide)]
    refine w_call (c_sums hw5 (by omega) (by omega) 60 ⟨by omega, by omega, fun _ => ⟨by omega, by omega⟩⟩ (fun u hu => by cases hu) hC) ?_
    intro _ M6 hE
    exact o_72 (by omega) h5 h45 hlen hE
  · rw [show q_w ((1 : Nat) : Int) = 1 from rfl, show q_w 1 = 1 from rfl, if_pos rfl]
    refine w_call (c_test hw5 (by omega) 60 ⟨by omega, by omega, fun _ => ⟨by omega, by omega⟩⟩ hC) ?_
    intro _ M6 hE
    exact o_72 (by omega) h5 h45 hlen hE
theorem o_sha {b : Nat → Int} {N c p : Nat} {j : Bool} {M0 M : q_Mem} {F : t_Fr} (hw0 : r_words M0.2) (h : z_L b N M0 c (u_st b N (.inl (p, j)), F) M) (hle : p ≤ N) (hcb : F.2.2.2.2.1.length + F.2.2.2.2.2.length ≤ p) : q_P (fX12_codesTold 0 (p : Int) M) (fun _ M' => z_L b N M0 c (s_sha b N F (.inl (p, j))) M') := by
  have hK := h
  obtain ⟨hT, hz, hof, hF⟩ := h
  obtain ⟨h46, hF, hw, hcd⟩ : M.2 94 46 = (c : Int) ∧ zo_F F M ∧ w_F F ∧ _ := hF (by rw [ok_st]; rfl)
  obtain ⟨f1, f2, f3, f4, f5, f6, f7⟩ := hF
  have hN := hT.2.2.2
  have hws := of_ws hof hw0
  have hi0 : u_in N (.inl (p, j)) := fun p0 j0 e0 => by cases e0; exact hle
  have l0 := le_st (b := b) hi0
  unfold fX12_codesTold s_sha
  obtain ⟨p1, j1, ep⟩ : ∃ p1 j1, u_st b N (.inl (p, j)) = .inl (p1, j1) := ⟨_, _, rfl⟩
  have hz1 : z_O b N (.inl (p1, j1)) M := by rw [← ep]; exact hz
  have hp1 : p ≤ p1 := by
    obtain ⟨_, p0, j0, e0, h0⟩ := l0 p1 j1 ep
    cases e0
    exact h0
  rw [show M.2 94 5 = 0 from hz1.1, show q_w 0 = 0 from rfl, if_pos rfl, ld_n (i := 0) (k := 0) rfl (by omega) (by omega), Option.bind_some]
  by_cases cR : F.2.2.2.2.1 = []
  · have h128 : M.2 128 0 = -1 := by
      rcases f6 with ⟨_, h2⟩ | ⟨h1, _⟩
      · exact h2
      · exact absurd cR h1
    rw [h128, if_pos rfl, if_pos cR]
    have hl0 : F.2.2.2.2.1.length = 0 := by rw [cR]; rfl
    refine w_mono (o_23 (i := 0) (t := 3) (cd := F.2.2.2.2.1.length + F.2.2.2.2.2.length) (by omega) hws hT hz1 f5 (by omega)) ?_
    rintro _ M' ⟨k1, k2, k3, k4⟩
    rw [← ep] at k2 k4
    have hG := tc_G (b := b) (N := N) (w := 0) (by omega) 60 3 0 (u_st b N (.inl (p, j))) [] [] (by omega) ⟨by omega, by omega, fun _ => ⟨by omega, by omega⟩⟩
    have lG := le_G (b := b) (w := 0) 60 3 0 (u_st b N (.inl (p, j)), []) (le_in l0)
    have hlen : ∀ p' j', (s_G b N 0 60 3 0 (u_st b N (.inl (p, j)), [])).1 = .inl (p', j') → (s_G b N 0 60 3 0 (u_st b N (.inl (p, j)), [])).2.length + p1 ≤ p' := by
      intro p' j' e
      rw [ep] at e ⊢
      exact len_G2 hT.2.2.1 hN hz1.2.1 (by omega) (by omega) e
    generalize s_G b N 0 60 3 0 (u_st b N (.inl (p, j)), []) = q at k2 k4 hG lG hlen
    refine ⟨k1, k2, fun a k hk => by rw [k3 a k (by unfold v_o at hk; omega) (by unfold v_o at hk; omega) (by unfold v_o at hk; omega) (by unfold v_o at hk; omega) (by unfold v_o at hk; omega) (by unfold v_o at hk; omega), hof a k hk], fun hok => ?_⟩
    obtain ⟨m1, m2, m3, m4⟩ := k4 hok
    have htc := hG hok rfl (by simp)
    have hne : q.2 ≠ [] := by
      intro e
      rw [e] at htc
      cases htc
    have hq16 : q.2.length ≤ 1600 := by
      rcases hq : q.1 with ⟨p', j'⟩ | e
      · have h1 := hlen p' j' hq
        have h2 := (lG p' j' hq).1
        omega
      · have : u_ok q.1 = true := hok
        rw [hq] at this; cases this
    refine ⟨by rw [k3 _ _ (by omega) (by omega) (by omega) (by omega) (by omega) (by omega)]; exact h46, ⟨⟨by rw [k3 _ _ (by omega) (by omega) (by omega) (by omega) (by omega) (by omega)]; exact f1.1, by rw [k3 _ _ (by omega) (by omega) (by omega) (by omega) (by omega) (by omega)]; exact f1.2.1, by rw [k3 _ _ (by omega) (by omega) (by omega) (by omega) (by omega) (by omega)]; exact f1.2.2⟩, zoS_fr (S := F.2.1) f2 (fun a k h => k3 _ _ (by omega) (by omega) (by omega) (by omega) (by omega) (by omega)), zoC_fr (S := F.2.2.1) f3 (fun a k h => k3 _ _ (by omega) (by omega) (by omega) (by omega) (by omega) (by omega)), zoL_fr (S := F.2.2.2.1) f4 (fun a k h => k3 _ _ (by omega) (by omega) (by omega) (by omega) (by omega) (by omega)), ?_, ?_, ?_⟩, ?_, ?_⟩
    · show M'.2 94 45 = ((q.2.length + F.2.2.2.2.2.length : Nat) : Int)
      rw [m3]; omega
    · show zo_k (q.2.length + F.2.2.2.2.2.length) 0 q.2 M'
      exact Or.inr ⟨hne, F.2.2.2.2.1.length + F.2.2.2.2.2.length, m1, m2, by omega, fun k hk => m4 k hk⟩
    · show zo_k (q.2.length + F.2.2.2.2.2.length) 1 F.2.2.2.2.2 M'
      exact zok_fr f7 (by omega) (fun a k h => k3 _ _ (by omega) (by omega) (by omega) (by omega) (by omega) (by omega))
    · obtain ⟨y1, y2, y3, y4, y5, y6, y7, y8, y9, y10⟩ := hw
      exact ⟨y1, y2, y3, y4, Or.inr htc, y6, y7, y8, y9, hq16, y10.2⟩
    · intro p' j' e
      have h1 := hlen p' j' e
      show q.2.length + F.2.2.2.2.2.length ≤ p'
      omega
  · have h128 : ¬ q_w (M.2 128 0) = q_w (-1) := by
      rcases f6 with ⟨h1, _⟩ | ⟨_, f, h2, h3, h4, _⟩
      · exact absurd h1 cR
      · rw [h2, n_w (by omega) (by omega), show q_w (-1) = -1 from rfl]
        omega
    obtain ⟨M', g1, g2, g3⟩ := o_fail (k := 5) (pl := (p : Int)) hz1 (by omega)
    rw [if_neg h128, g1, b_some, if_neg cR]
    unfold fX12_codesTold_23
    rw [if_neg (num_F g3 rfl).2]
    exact w_some.mpr (L_flt hK g2 g3 rfl)
theorem o_ref {b : Nat → Int} {N c p : Nat} {j : Bool} {M0 M : q_Mem} {F : t_Fr} (hw0 : r_words M0.2) (h : z_L b N M0 c (u_st b N (.inl (p, j)), F) M) (hle : p ≤ N) (hcb : F.2.2.2.2.1.length + F.2.2.2.2.2.length ≤ p) : q_P (fX12_codesTold 1 (p : Int) M) (fun _ M' => z_L b N M0 c (s_ref b N F (.inl (p, j))) M') := by
  have hK := h
  obtain ⟨hT, hz, hof, hF⟩ := h
  obtain ⟨h46, hF, hw, hcd⟩ : M.2 94 46 = (c : Int) ∧ zo_F F M ∧ w_F F ∧ _ := hF (by rw [ok_st]; rfl)
  obtain ⟨f1, f2, f3, f4, f5, f6, f7⟩ := hF
  have hN := hT.2.2.2
  have hws := of_ws hof hw0
  have hi0 : u_in N (.inl (p, j)) := fun p0 j0 e0 => by cases e0; exact hle
  have l0 := le_st (b := b) hi0
  unfold fX12_codesTold s_ref
  obtain ⟨p1, j1, ep⟩ : ∃ p1 j1, u_st b N (.inl (p, j)) = .inl (p1, j1) := ⟨_, _, rfl⟩
  have hz1 : z_O b N (.inl (p1, j1)) M := by rw [← ep]; exact hz
  have hp1 : p ≤ p1 := by
    obtain ⟨_, p0, j0, e0, h0⟩ := l0 p1 j1 ep
    cases e0
    exact h0
  rw [show M.2 94 5 = 0 from hz1.1, show q_w 0 = 0 from rfl, if_pos rfl, ld_n (i := 1) (k := 1) rfl (by omega) (by omega), Option.bind_some]
  by_cases cR : F.2.2.2.2.2 = []
  · have h128 : M.2 128 1 = -1 := by
      rcases f7 with ⟨_, h2⟩ | ⟨h1, _⟩
      · exact h2
      · exact absurd cR h1
    rw [h128, if_pos rfl, if_pos cR]
    have hl0 : F.2.2.2.2.2.length = 0 := by rw [cR]; rfl
    refine w_mono (o_23 (i := 1) (t := 0) (cd := F.2.2.2.2.1.length + F.2.2.2.2.2.length) (by omega) hws hT hz1 f5 (by omega)) ?_
    rintro _ M' ⟨k1, k2, k3, k4⟩
    rw [← ep] at k2 k4
    have hG := tc_G (b := b) (N := N) (w := 1) (by omega) 60 0 0 (u_st b N (.inl (p, j))) [] [] (by omega) ⟨by omega, by omega, fun _ => ⟨by omega, by omega⟩⟩
    have lG := le_G (b := b) (w := 1) 60 0 0 (u_st b N (.inl (p, j)), []) (le_in l0)
    have hlen : ∀ p' j', (s_G b N 1 60 0 0 (u_st b N (.inl (p, j)), [])).1 = .inl (p', j') → (s_G b N 1 60 0 0 (u_st b N (.inl (p, j)), [])).2.length + p1 ≤ p' := by
      intro p' j' e
      rw [ep] at e ⊢
      exact len_G2 hT.2.2.1 hN hz1.2.1 (by omega) (by omega) e
    generalize s_G b N 1 60 0 0 (u_st b N (.inl (p, j)), []) = q at k2 k4 hG lG hlen
    refine ⟨k1, k2, fun a k hk => by rw [k3 a k (by unfold v_o at hk; omega) (by unfold v_o at hk; omega) (by unfold v_o at hk; omega) (by unfold v_o at hk; omega) (by unfold v_o at hk; omega) (by unfold v_o at hk; omega), hof a k hk], fun hok => ?_⟩
    obtain ⟨m1, m2, m3, m4⟩ := k4 hok
    have htc := hG hok rfl (by simp)
    have hne : q.2 ≠ [] := by
      intro e
      rw [e] at htc
      cases htc
    have hq16 : q.2.length ≤ 1600 := by
      rcases hq : q.1 with ⟨p', j'⟩ | e
      · have h1 := hlen p' j' hq
        have h2 := (lG p' j' hq).1
        omega
      · have : u_ok q.1 = true := hok
        rw [hq] at this; cases this
    refine ⟨by rw [k3 _ _ (by omega) (by omega) (by omega) (by omega) (by omega) (by omega)]; exact h46, ⟨⟨by rw [k3 _ _ (by omega) (by omega) (by omega) (by omega) (by omega) (by omega)]; exact f1.1, by rw [k3 _ _ (by omega) (by omega) (by omega) (by omega) (by omega) (by omega)]; exact f1.2.1, by rw [k3 _ _ (by omega) (by omega) (by omega) (by omega) (by omega) (by omega)]; exact f1.2.2⟩, zoS_fr (S := F.2.1) f2 (fun a k h => k3 _ _ (by omega) (by omega) (by omega) (by omega) (by omega) (by omega)), zoC_fr (S := F.2.2.1) f3 (fun a k h => k3 _ _ (by omega) (by omega) (by omega) (by omega) (by omega) (by omega)), zoL_fr (S := F.2.2.2.1) f4 (fun a k h => k3 _ _ (by omega) (by omega) (by omega) (by omega) (by omega) (by omega)), ?_, ?_, ?_⟩, ?_, ?_⟩
    · show M'.2 94 45 = ((F.2.2.2.2.1.length + q.2.length : Nat) : Int)
      rw [m3]; omega
    · show zo_k (F.2.2.2.2.1.length + q.2.length) 0 F.2.2.2.2.1 M'
      exact zok_fr f6 (by omega) (fun a k h => k3 _ _ (by omega) (by omega) (by omega) (by omega) (by omega) (by omega))
    · show zo_k (F.2.2.2.2.1.length + q.2.length) 1 q.2 M'
      exact Or.inr ⟨hne, F.2.2.2.2.1.length + F.2.2.2.2.2.length, m1, m2, by omega, fun k hk => m4 k hk⟩
    · obtain ⟨y1, y2, y3, y4, y5, y6, y7, y8, y9, y10⟩ := hw
      exact ⟨y1, y2, y3, y4, y5, Or.inr htc, y7, y8, y9, y10.1, hq16⟩
    · intro p' j' e
      have h1 := hlen p' j' e
      show F.2.2.2.2.1.length + q.2.length ≤ p'
      omega
  · have h128 : ¬ q_w (M.2 128 1) = q_w (-1) := by
      rcases f7 with ⟨h1, _⟩ | ⟨_, f, h2, h3, h4, _⟩
      · exact absurd h1 cR
      · rw [h2, n_w (by omega) (by omega), show q_w (-1) = -1 from rfl]
        omega
    obtain ⟨M', g1, g2, g3⟩ := o_fail (k := 5) (pl := (p : Int)) hz1 (by omega)
    rw [if_neg h128, g1, b_some, if_neg cR]
    unfold fX12_codesTold_23
    rw [if_neg (num_F g3 rfl).2]
    exact w_some.mpr (L_flt hK g2 g3 rfl)
