/-! texts: the other side reads coins, clouds and codes -/
theorem o_coi {b : Nat → Int} {N c p : Nat} {j : Bool} {M0 M : q_Mem} {F : t_Fr} (hw0 : r_words M0.2) (h : z_L b N M0 c (u_st b N (.inl (p, j)), F) M) (hle : p ≤ N) (hcb : F.2.2.2.2.1.length + F.2.2.2.2.2.length ≤ p) : q_P (fX12_coinTold (p : Int) M) (fun _ M' => z_L b N M0 c (s_coi b N F (.inl (p, j))) M') := by
  have hK := h
  obtain ⟨hT, hz, hof, hF⟩ := h
  obtain ⟨h46, hF, hw, hcd⟩ : M.2 94 46 = (c : Int) ∧ zo_F F M ∧ w_F F ∧ _ := hF (by rw [ok_st]; rfl)
  obtain ⟨f1, f2, f3, f4, f5, f6, f7⟩ := hF
  have hN := hT.2.2.2
  have hws := of_ws hof hw0
  unfold fX12_coinTold s_coi
  obtain ⟨p1, j1, ep⟩ : ∃ p1 j1, u_st b N (.inl (p, j)) = .inl (p1, j1) := ⟨_, _, rfl⟩
  have hz1 : z_O b N (.inl (p1, j1)) M := by rw [← ep]; exact hz
  have hfull := o_full (pl := (p : Int)) hz1 (i := 1) (room := 8) (by omega) f3.1 (by have := hw.1.2.1; omega) (by omega)
  by_cases cf : F.2.2.1.length < 8
  · have hn : ¬ F.2.2.1.length = 8 := by omega
    have e0 : fX12_isFull 1 8 (p : Int) M = some (0, M) := hfull.2 hn
    rw [e0, b_some, show q_w 0 = 0 from rfl, if_pos rfl, if_pos cf]
    obtain ⟨x, M2, a1, a2, a3, a4⟩ := o_new hws hT hz hw f2 f3
    rw [a1, b_some]
    generalize hm : u_M b N (f_dup F) (u_st b N (.inl (p, j))) = m at a3 a4
    obtain ⟨x1, N1, M3, b1, b2, b3, b4, b5⟩ := o_wn (ws_94 hws a2) (z94_T hT a2) a3 (lo := 0) (hi := 99) wc_o.2.2.2.2.1 (by omega) (by omega)
    rw [b1, b_some, b2, b_some]
    obtain ⟨x2, N2, M4, c1, c2, c3, c4, c5⟩ := o_wn (ws_94 (ws_94 hws a2) b3) (z94_T (z94_T hT a2) b3) b4 (lo := 0) (hi := 9) wc_o.2.2.2.2.2.1 (by omega) (by omega)
    rw [c1, b_some, c2, b_some]
    have h9 : z_94 M M4 := z94_t (z94_t a2 b3) c3
    have hbad := O_bad c4
    generalize hs4 : s_wn b N 8 0 9 (s_wn b N 7 0 99 m.2).2 = q4 at c4 c5 hbad
    by_cases hok : u_ok q4.2 = true
    · have o2 : u_ok (s_wn b N 7 0 99 m.2).2 = true := ok_wn (by rw [hs4]; exact hok)
      have o1 := ok_wn o2
      obtain ⟨v0, v0'⟩ := a4 o1
      have v1 := b5 o2
      have v2 := c5 hok
      have l123 : M4.2 123 1 = (F.2.2.1.length : Int) := by rw [h9 _ _ (by omega), f3.1]
      rw [if_pos (hbad.mpr hok), ld_n (i := 1) (k := 1) rfl (by omega) (by omega), l123, Option.bind_some, sto_n (k := 8 + F.2.2.1.length) (by omega) (by omega) (by omega), Option.bind_some, ld_n (i := 1) (k := 1) rfl (by omega) (by omega), up_ne (by omega), l123, Option.bind_some, sto_n (k := 2 * F.2.2.1.length) (by omega) (by omega) (by omega), Option.bind_some, ld_n (i := 1) (k := 1) rfl (by omega) (by omega), up_ne (by omega), up_ne (by omega), l123, Option.bind_some, sto_n (k := 2 * F.2.2.1.length + 1) (by omega) (by omega) (by omega), Option.bind_some, ld_n (i := 1) (k := 1) rfl (by omega) (by omega), up_ne (by omega), up_ne (by omega), up_ne (by omega), l123, Option.bind_some, sto_n (i := 1) (k := 1) rfl (by omega) (by omega), Option.bind_some]
      have gf : ∀ a k, ¬ (a = 124 ∧ k = 8 + F.2.2.1.length) → ¬ (a = 126 ∧ 2 * F.2.2.1.length ≤ k ∧ k < 2 * F.2.2.1.length + 2) → ¬ (a = 123 ∧ k = 1) → (q_up (q_up (q_up (q_up M4 124 (8 + F.2.2.1.length) x) 126 (2 * F.2.2.1.length) x1) 126 (2 * F.2.2.1.length + 1) x2) 123 1 ((F.2.2.1.length : Int) + 1)).2 a k = M4.2 a k := fun a k g1 g2 g3 => by rw [up_ne (by omega), up_ne (by omega), up_ne (by omega), up_ne (by omega)]
      have w0 : (q_up (q_up (q_up (q_up M4 124 (8 + F.2.2.1.length) x) 126 (2 * F.2.2.1.length) x1) 126 (2 * F.2.2.1.length + 1) x2) 123 1 ((F.2.2.1.length : Int) + 1)).2 124 (8 + F.2.2.1.length) = x := by rw [up_ne (by omega), up_ne (by omega), up_ne (by omega), up_rd, if_pos ⟨rfl, rfl⟩]
      have w1 : (q_up (q_up (q_up (q_up M4 124 (8 + F.2.2.1.length) x) 126 (2 * F.2.2.1.length) x1) 126 (2 * F.2.2.1.length + 1) x2) 123 1 ((F.2.2.1.length : Int) + 1)).2 126 (2 * F.2.2.1.length) = x1 := by rw [up_ne (by omega), up_ne (by omega), up_rd, if_pos ⟨rfl, rfl⟩]
      have w2 : (q_up (q_up (q_up (q_up M4 124 (8 + F.2.2.1.length) x) 126 (2 * F.2.2.1.length) x1) 126 (2 * F.2.2.1.length + 1) x2) 123 1 ((F.2.2.1.length : Int) + 1)).2 126 (2 * F.2.2.1.length + 1) = x2 := by rw [up_ne (by omega), up_rd, if_pos ⟨rfl, rfl⟩]
      have w5 : (q_up (q_up (q_up (q_up M4 124 (8 + F.2.2.1.length) x) 126 (2 * F.2.2.1.length) x1) 126 (2 * F.2.2.1.length + 1) x2) 123 1 ((F.2.2.1.length : Int) + 1)).2 123 1 = (F.2.2.1.length : Int) + 1 := by rw [up_rd, if_pos ⟨rfl, rfl⟩]
      generalize q_up (q_up (q_up (q_up M4 124 (8 + F.2.2.1.length) x) 126 (2 * F.2.2.1.length) x1) 126 (2 * F.2.2.1.length + 1) x2) 123 1 ((F.2.2.1.length : Int) + 1) = M7 at gf w0 w1 w2 w5
      have gM : ∀ a k, ¬ (a = 94 ∧ (k = 2 ∨ k = 4 ∨ k = 5 ∨ k = 6 ∨ k = 35)) → ¬ (a = 124 ∧ k = 8 + F.2.2.1.length) → ¬ (a = 126 ∧ 2 * F.2.2.1.length ≤ k ∧ k < 2 * F.2.2.1.length + 2) → ¬ (a = 123 ∧ k = 1) → M7.2 a k = M.2 a k := fun a k g1 g2 g3 g4 => by rw [gf a k g2 g3 g4, h9 a k g1]
      have l6 := hw.1.1
      refine w_some.mpr ⟨ot_fr (z94_T hT h9) (gf _ _ (by omega) (by omega) (by omega)) (fun k => gf _ _ (by omega) (by omega) (by omega)), O_fr c4 (fun k hk => gf _ _ (by omega) (by omega) (by omega)), fun a k hk => by rw [gM a k (by unfold v_o at hk; omega) (by unfold v_o at hk; omega) (by unfold v_o at hk; omega) (by unfold v_o at hk; omega), hof a k hk], fun _ => ⟨by rw [gM _ _ (by omega) (by omega) (by omega) (by omega)]; exact h46, ?_, ?_, ?_⟩⟩
      · refine ⟨⟨by rw [gM _ _ (by omega) (by omega) (by omega) (by omega)]; exact f1.1, by rw [gM _ _ (by omega) (by omega) (by omega) (by omega)]; exact f1.2.1, by rw [gM _ _ (by omega) (by omega) (by omega) (by omega)]; exact f1.2.2⟩, zoS_fr (S := F.2.1) f2 (fun a k h => gM _ _ (by omega) (by omega) (by omega) (by omega)), ⟨by rw [w5, List.length_cons]; omega, sk_pu f3.2.1 (by rw [w0, v0]) (fun i hi => gM _ _ (by omega) (by omega) (by omega) (by omega)), sk_pu f3.2.2.1 (by rw [w1, v1]) (fun i hi => gM _ _ (by omega) (by omega) (by omega) (by omega)), sk_pu f3.2.2.2 (by rw [w2, v2]) (fun i hi => gM _ _ (by omega) (by omega) (by omega) (by omega))⟩, zoL_fr f4 (fun a k h => gM _ _ (by omega) (by omega) (by omega) (by omega)), by rw [gM _ _ (by omega) (by omega) (by omega) (by omega)]; exact f5, zok_fr f6 (Nat.le_refl _) (fun a k h => gM _ _ (by omega) (by omega) (by omega) (by omega)), zok_fr f7 (Nat.le_refl _) (fun a k h => gM _ _ (by omega) (by omega) (by omega) (by omega))⟩
      · obtain ⟨y1, y2, y3, y4⟩ := hw
        refine ⟨⟨y1.1, by show (_ :: F.2.2.1).length ≤ 8; rw [List.length_cons]; omega, y1.2.2⟩, y2, ?_, y4⟩
        intro s hs
        rcases List.mem_cons.mp hs with e | e
        · rw [e]
          refine ⟨v0', NBd (by omega) (by omega), ?_⟩
          rw [← hs4]
          exact NBd (by omega) (by omega)
        · exact y3 s e
      · intro p' j' e
        have hi0 : u_in N (.inl (p, j)) := fun p0 j0 e0 => by cases e0; exact hle
        have l0 := le_st (b := b) hi0
        have l1 := le_M (b := b) (dup := f_dup F) (le_in l0)
        rw [hm] at l1
        have l2 := le_wn (b := b) (w := 7) (lo := 0) (hi := 99) (le_in l1)
        have l3 := le_wn (b := b) (w := 8) (lo := 0) (hi := 9) (le_in l2)
        rw [hs4] at l3
        obtain ⟨_, p0, j0, e0, h0⟩ := le_t l0 (le_t l1 (le_t l2 l3)) p' j' e
        cases e0
        show F.2.2.2.2.1.length + F.2.2.2.2.2.length ≤ p'
        omega
    · rw [if_neg (fun g => hok (hbad.mp g))]
      exact w_some.mpr (L_flt hK h9 c4 (Bool.eq_false_iff.mpr hok))
  · have hn : F.2.2.1.length = 8 := by have := hw.1.2.1; omega
    obtain ⟨M', g1, g2, g3⟩ := hfull.1 hn
    have e0 : fX12_isFull 1 8 (p : Int) M = some (1, M') := g1
    rw [e0, b_some, show q_w 1 = 1 from rfl, if_neg (by decide), if_neg cf]
    exact w_some.mpr (L_flt hK g2 g3 rfl)
theorem o_clo {b : Nat → Int} {N c p : Nat} {j : Bool} {M0 M : q_Mem} {F : t_Fr} (hw0 : r_words M0.2) (h : z_L b N M0 c (u_st b N (.inl (p, j)), F) M) (hle : p ≤ N) (hcb : F.2.2.2.2.1.length + F.2.2.2.2.2.length ≤ p) : q_P (fX12_cloudTold (p : Int) M) (fun _ M' => z_L b N M0 c (s_clo b N F (.inl (p, j))) M') := by
  have hK := h
  obtain ⟨hT, hz, hof, hF⟩ := h
  obtain ⟨h46, hF, hw, hcd⟩ : M.2 94 46 = (c : Int) ∧ zo_F F M ∧ w_F F ∧ _ := hF (by rw [ok_st]; rfl)
  obtain ⟨f1, f2, f3, f4, f5, f6, f7⟩ := hF
  have hN := hT.2.2.2
  have hws := of_ws hof hw0
  unfold fX12_cloudTold s_clo
  obtain ⟨p1, j1, ep⟩ : ∃ p1 j1, u_st b N (.inl (p, j)) = .inl (p1, j1) := ⟨_, _, rfl⟩
  have hz1 : z_O b N (.inl (p1, j1)) M := by rw [← ep]; exact hz
  have hfull := o_full (pl := (p : Int)) hz1 (i := 2) (room := 8) (by omega) f4.1 (by have := hw.1.2.2; omega) (by omega)
  by_cases cf : F.2.2.2.1.length < 8
  · have hn : ¬ F.2.2.2.1.length = 8 := by omega
    have e0 : fX12_isFull 2 8 (p : Int) M = some (0, M) := hfull.2 hn
    rw [e0, b_some, show q_w 0 = 0 from rfl, if_pos rfl, if_pos cf]
    obtain ⟨x1, M2, a1, a2, a3, a4⟩ := o_num hT hz (lo := 0) (hi := 400) (by omega) (by omega)
    rw [a1, b_some]
    have hbm := NBd (b := b) (N := N) (σ := u_st b N (.inl (p, j))) (lo := 0) (hi := 400) (by omega) (by omega)
    generalize hm : u_N b N 0 400 (u_st b N (.inl (p, j))) = m at a3 a4 hbm
    obtain ⟨M3, b1, b2, b3⟩ := o_ak (ws_94 hws a2) (z94_T hT a2) a3 wc_o.2.2.2.2.2.2
    rw [b1, b_some]
    have hnum : ∃ x2 M4, fX12_number x1 400 M3 = some (x2, M4) ∧ z_94 M3 M4 ∧ z_O b N (s_wn b N 10 m.1 400 m.2).2 M4 ∧ (u_ok (s_wn b N 10 m.1 400 m.2).2 = true → x2 = (s_wn b N 10 m.1 400 m.2).1) := by
      by_cases hok1 : u_ok m.2 = true
      · rw [a4 hok1]
        exact o_num (z94_T (z94_T hT a2) b2) b3 (by omega) (by omega)
      · have hf1 : u_ok m.2 = false := Bool.eq_false_iff.mpr hok1
        have e1 : u_W b N 10 m.2 = m.2 ∧ (u_N b N m.1 400 m.2).2 = m.2 := by
          rcases hq : m.2 with ⟨p', j'⟩ | e
          · rw [hq] at hf1; cases hf1
          · exact ⟨rfl, rfl⟩
        have e2 : (s_wn b N 10 m.1 400 m.2).2 = m.2 := by
          unfold s_wn
          rw [e1.1, e1.2]
        rw [e1.1] at b3
        rw [e2]
        exact ⟨0, M3, (num_F b3 hf1).1 _ _, z94_r M3, b3, fun g => absurd g hok1⟩
    obtain ⟨x2, M4, c1, c3, c4, c5⟩ := hnum
    rw [c1, b_some]
    have h9 : z_94 M M4 := z94_t (z94_t a2 b2) c3
    have hbad := O_bad c4
    have hs5 : u_ok (s_wn b N 10 m.1 400 m.2).2 = true → m.1 ≤ (s_wn b N 10 m.1 400 m.2).1 ∧ (s_wn b N 10 m.1 400 m.2).1 ≤ 400 := fun g => N_hi g
    generalize hs4 : s_wn b N 10 m.1 400 m.2 = q4 at c4 c5 hbad hs5
    by_cases hok : u_ok q4.2 = true
    · have o1 : u_ok m.2 = true := ok_wn (w := 10) (lo := m.1) (hi := 400) (by rw [hs4]; exact hok)
      have v1 := a4 o1
      have v2 := c5 hok
      have hq5 := hs5 hok
      have l123 : M4.2 123 2 = (F.2.2.2.1.length : Int) := by rw [h9 _ _ (by omega), f4.1]
      rw [if_pos (hbad.mpr hok), ld_n (i := 2) (k := 2) rfl (by omega) (by omega), l123, Option.bind_some, sto_n (k := 2 * F.2.2.2.1.length) (by omega) (by omega) (by omega), Option.bind_some, ld_n (i := 2) (k := 2) rfl (by omega) (by omega), up_ne (by omega), l123, Option.bind_some, sto_n (k := 2 * F.2.2.2.1.length + 1) (by omega) (by omega) (by omega), Option.bind_some, ld_n (i := 2) (k := 2) rfl (by omega) (by omega), up_ne (by omega), up_ne (by omega), l123, Option.bind_some, sto_n (i := 2) (k := 2) rfl (by omega) (by omega), Option.bind_some]
      have gf : ∀ a k, ¬ (a = 127 ∧ 2 * F.2.2.2.1.length ≤ k ∧ k < 2 * F.2.2.2.1.length + 2) → ¬ (a = 123 ∧ k = 2) → (q_up (q_up (q_up M4 127 (2 * F.2.2.2.1.length) x1) 127 (2 * F.2.2.2.1.length + 1) x2) 123 2 ((F.2.2.2.1.length : Int) + 1)).2 a k = M4.2 a k := fun a k g1 g2 => by rw [up_ne (by omega), up_ne (by omega), up_ne (by omega)]
      have w1 : (q_up (q_up (q_up M4 127 (2 * F.2.2.2.1.length) x1) 127 (2 * F.2.2.2.1.length + 1) x2) 123 2 ((F.2.2.2.1.length : Int) + 1)).2 127 (2 * F.2.2.2.1.length) = x1 := by rw [up_ne (by omega), up_ne (by omega), up_rd, if_pos ⟨rfl, rfl⟩]
      have w2 : (q_up (q_up (q_up M4 127 (2 * F.2.2.2.1.length) x1) 127 (2 * F.2.2.2.1.length + 1) x2) 123 2 ((F.2.2.2.1.length : Int) + 1)).2 127 (2 * F.2.2.2.1.length + 1) = x2 := by rw [up_ne (by omega), up_rd, if_pos ⟨rfl, rfl⟩]
      have w5 : (q_up (q_up (q_up M4 127 (2 * F.2.2.2.1.length) x1) 127 (2 * F.2.2.2.1.length + 1) x2) 123 2 ((F.2.2.2.1.length : Int) + 1)).2 123 2 = (F.2.2.2.1.length : Int) + 1 := by rw [up_rd, if_pos ⟨rfl, rfl⟩]
      generalize q_up (q_up (q_up M4 127 (2 * F.2.2.2.1.length) x1) 127 (2 * F.2.2.2.1.length + 1) x2) 123 2 ((F.2.2.2.1.length : Int) + 1) = M7 at gf w1 w2 w5
      have gM : ∀ a k, ¬ (a = 94 ∧ (k = 2 ∨ k = 4 ∨ k = 5 ∨ k = 6 ∨ k = 35)) → ¬ (a = 127 ∧ 2 * F.2.2.2.1.length ≤ k ∧ k < 2 * F.2.2.2.1.length + 2) → ¬ (a = 123 ∧ k = 2) → M7.2 a k = M.2 a k := fun a k g1 g2 g3 => by rw [gf a k g2 g3, h9 a k g1]
      refine w_some.mpr ⟨ot_fr (z94_T hT h9) (gf _ _ (by omega) (by omega)) (fun k => gf _ _ (by omega) (by omega)), O_fr c4 (fun k hk => gf _ _ (by omega) (by omega)), fun a k hk => by rw [gM a k (by unfold v_o at hk; omega) (by unfold v_o at hk; omega) (by unfold v_o at hk; omega), hof a k hk], fun _ => ⟨by rw [gM _ _ (by omega) (by omega) (by omega)]; exact h46, ?_, ?_, ?_⟩⟩
      · refine ⟨⟨by rw [gM _ _ (by omega) (by omega) (by omega)]; exact f1.1, by rw [gM _ _ (by omega) (by omega) (by omega)]; exact f1.2.1, by rw [gM _ _ (by omega) (by omega) (by omega)]; exact f1.2.2⟩, zoS_fr (S := F.2.1) f2 (fun a k h => gM _ _ (by omega) (by omega) (by omega)), zoC_fr f3 (fun a k h => gM _ _ (by omega) (by omega) (by omega)), ⟨by rw [w5, List.length_cons]; omega, sk_pu f4.2.1 (by rw [w1, v1]) (fun i hi => gM _ _ (by omega) (by omega) (by omega)), sk_pu f4.2.2 (by rw [w2, v2]) (fun i hi => gM _ _ (by omega) (by omega) (by omega))⟩, by rw [gM _ _ (by omega) (by omega) (by omega)]; exact f5, zok_fr f6 (Nat.le_refl _) (fun a k h => gM _ _ (by omega) (by omega) (by omega)), zok_fr f7 (Nat.le_refl _) (fun a k h => gM _ _ (by omega) (by omega) (by omega))⟩
      · obtain ⟨y1, y2, y3, y4, y5⟩ := hw
        refine ⟨⟨y1.1, y1.2.1, by show (_ :: F.2.2.2.1).length ≤ 8; rw [List.length_cons]; omega⟩, y2, y3, ?_, y5⟩
        intro s hs
        rcases List.mem_cons.mp hs with e | e
        · rw [e]
          exact ⟨hbm.1, hq5.1, hq5.2⟩
        · exact y4 s e
      · intro p' j' e
        have hi0 : u_in N (.inl (p, j)) := fun p0 j0 e0 => by cases e0; exact hle
        have l0 := le_st (b := b) hi0
        have l1 := le_N (b := b) (lo := 0) (hi := 400) (le_in l0)
        rw [hm] at l1
        have l2 := le_wn (b := b) (w := 10) (lo := m.1) (hi := 400) (le_in l1)
        rw [hs4] at l2
        obtain ⟨_, p0, j0, e0, h0⟩ := le_t l0 (le_t l1 l2) p' j' e
        cases e0
        show F.2.2.2.2.1.length + F.2.2.2.2.2.length ≤ p'
        omega
    · rw [if_neg (fun g => hok (hbad.mp g))]
      exact w_some.mpr (L_flt hK h9 c4 (Bool.eq_false_iff.mpr hok))
  · have hn : F.2.2.2.1.length = 8 := by have := hw.1.2.2; omega
    obtain ⟨M', g1, g2, g3⟩ := hfull.1 hn
    have e0 : fX12_isFull 2 8 (p : Int) M = some (1, M') := g1
    rw [e0, b_some, show q_w 1 = 1 from rfl, if_neg (by decide), if_neg cf]
    exact w_some.mpr (L_flt hK g2 g3 rfl)
theorem len_G2 {b : Nat → Int} {N w t p p' : Nat} {j j' : Bool} (hb : ∀ k, 0 ≤ b k ∧ b k ≤ 255) (hN : N ≤ 1600) (hp : p ≤ N) (hw2 : w ≤ 2) (ht : t ≤ 5) (h : (s_G b N w 60 t 0 (.inl (p, j), [])).1 = .inl (p', j')) : (s_G b N w 60 t 0 (.inl (p, j), [])).2.length + p ≤ p' := by
  let M : q_Mem := (0, fun a k => if a = 1 then (N : Int) else if a = 2 then b k else if a = 5 then (if k = 1 then (p : Int) else if k = 2 then (t_end b N p : Int) else if k = 3 then t_kind b N p j else if k = 4 then t_val b N p else if k = 5 then 0 else -1) else if a = 8 then (if k = 1 then 6 else if k = 2 then (w : Int) else 0) else 0)
  have hG : z_G b N w 6 M (.inl (p, j)) 0 p [] M := ⟨⟨rfl, fun _ => rfl, hb, hN⟩, ⟨⟨rfl, rfl, rfl, rfl, rfl, hp⟩, rfl⟩, ⟨rfl, rfl, rfl⟩, fun p0 j0 e => (by cases e; exact ⟨rfl, trivial, by rw [List.length_nil]; omega⟩), fun _ _ _ _ _ _ => rfl⟩
  have hr : z_r 6 := ⟨by decide, by decide, by decide, by decide⟩
  obtain ⟨_, M', _, h5⟩ := c_G (M0 := M) hr hw2 60 t 0 p (.inl (p, j)) [] M (by omega) ⟨by omega, by omega, fun _ => ⟨by omega, by omega⟩⟩ (by omega) hG
  exact (Nat.le_trans (by omega) (h5.2.2.2.1 p' j' h).2.2)
theorem stk_rev {f : Nat → Int} : ∀ {R : List Int}, z_stk f R → ∀ i, i < R.length → f i = R.reverse.getD i 0 := by
  intro R
  induction R with
  | nil => intro _ i hi; exact absurd hi (by simp)
  | cons v R ih =>
    intro h i hi
    rw [List.length_cons] at hi
    rw [List.reverse_cons, List.getD_eq_getElem?_getD]
    by_cases c : i = R.length
    · rw [c, h.1, List.getElem?_append_right (by rw [List.length_reverse]; exact Nat.le_refl _), List.length_reverse, Nat.sub_self]
      rfl
    · rw [List.getElem?_append_left (by rw [List.length_reverse]; omega), ← List.getD_eq_getElem?_getD]
      exact ih h.2 i (by omega)
theorem cp_92 {i L cd : Nat} (hi : i < 2) (hL : cd + L ≤ 1600) : ∀ (m x n : Nat) (M : q_Mem), x + m = L → m < n → M.2 94 91 = (L : Int) → M.2 94 45 = ((cd + x : Nat) : Int) → ∃ M', fX12_codesTold_92 n (i : Int) (x : Int) M = some (0, M') ∧ M'.2 94 45 = ((cd + L : Nat) : Int) ∧ M'.2 129 i = ((cd + L : Nat) : Int) ∧ (∀ k, x ≤ k → k < L → M'.2 130 (cd + k) = M.2 162 k) ∧ (∀ a k, ¬ (a = 94 ∧ k = 45) → ¬ (a = 129 ∧ k = i) → ¬ (a = 130 ∧ cd + x ≤ k ∧ k < cd + L) → M'.2 a k = M.2 a k) := by
  intro m
  induction m with
  | zero =>
    intro x n M hx hn h91 h45
    cases n with
    | zero => omega
    | succ n =>
      rw [fX12_codesTold_92, h91, n_w (by omega) (by omega), n_w (by omega) (by omega), if_neg (by omega), sto_n rfl (by omega) (by omega), Option.bind_some]
      exact ⟨_, rfl, by rw [up_ne (by omega), h45]; omega, by rw [up_rd, if_pos ⟨rfl, rfl⟩, h45]; omega, fun k h1 h2 => absurd h1 (by omega), fun a k h1 h2 h3 => up_ne (by omega)⟩
  | succ m ih =>
    intro x n M hx hn h91 h45
    cases n with
    | zero => omega
    | succ n =>
      rw [fX12_codesTold_92, h91, n_w (a := (x : Int)) (by omega) (by omega), n_w (a := (L : Int)) (by omega) (by omega), if_pos (by omega), ld_n rfl (by omega) (by omega), Option.bind_some, sto_n (k := cd + x) h45 (by omega) (by omega), Option.bind_some, q_le, up_ne (by omega), h45, show (x : Int) + 1 = ((x + 1 : Nat) : Int) from by omega]
      obtain ⟨M', g1, g2, g3, g4, g5⟩ := ih (x + 1) n (q_up (q_up M 130 (cd + x) (M.2 162 x)) 94 45 (((cd + x : Nat) : Int) + 1)) (by omega) (by omega) (by rw [up_ne (by omega), up_ne (by omega), h91]) (by rw [up_rd, if_pos ⟨rfl, rfl⟩]; omega)
      refine ⟨M', g1, g2, g3, ?_, ?_⟩
      · intro k h1 h2
        by_cases ck : k = x
        · rw [ck, g5 _ _ (by omega) (by omega) (by omega), up_ne (by omega), up_rd, if_pos ⟨rfl, rfl⟩]
        · rw [g4 k (by omega) h2, up_ne (by omega), up_ne (by omega)]
      · intro a k h1 h2 h3
        rw [g5 a k h1 h2 (by omega), up_ne (by omega), up_ne (by omega)]
