/-! texts: what a text leaves as it was; the other side's whole reading -/
def w_ob (t a : Nat) : Prop := a ≤ 4 ∨ (10 ≤ a ∧ a ≤ 39) ∨ a = 56 ∨ (t ≤ a ∧ a ≤ t + 14) ∨ a = 87 ∨ a = 89
theorem lob_s {t a k : Nat} (ht : t = 57 ∨ t = 72) (h1 : 57 ≤ a) (h2 : a ≤ 86) (h : l_obs (t : Int) a k = true) : t ≤ a ∧ a ≤ t + 14 := by
  rcases ht with rfl | rfl
  · by_cases c : a ≤ 71
    · omega
    · have : a = 72 ∨ a = 73 ∨ a = 74 ∨ a = 75 ∨ a = 76 ∨ a = 77 ∨ a = 78 ∨ a = 79 ∨ a = 80 ∨ a = 81 ∨ a = 82 ∨ a = 83 ∨ a = 84 ∨ a = 85 ∨ a = 86 := by omega
      rcases this with rfl | rfl | rfl | rfl | rfl | rfl | rfl | rfl | rfl | rfl | rfl | rfl | rfl | rfl | rfl
      all_goals exact absurd h (by rw [show l_obs ((57 : Nat) : Int) _ k = false from rfl]; decide)
  · by_cases c : 72 ≤ a
    · omega
    · have : a = 57 ∨ a = 58 ∨ a = 59 ∨ a = 60 ∨ a = 61 ∨ a = 62 ∨ a = 63 ∨ a = 64 ∨ a = 65 ∨ a = 66 ∨ a = 67 ∨ a = 68 ∨ a = 69 ∨ a = 70 ∨ a = 71 := by omega
      rcases this with rfl | rfl | rfl | rfl | rfl | rfl | rfl | rfl | rfl | rfl | rfl | rfl | rfl | rfl | rfl
      all_goals exact absurd h (by rw [show l_obs ((72 : Nat) : Int) _ k = false from rfl]; decide)
theorem aco_x {a k : Nat} (h : a_core a k = true) : 94 ≤ a ∧ ¬ v_o a k ∧ ¬ (a = 94 ∧ k = 3) := by
  unfold a_core at h
  unfold v_o
  split at h
  all_goals (simp only [Bool.or_eq_true, Bool.and_eq_true, decide_eq_true_eq, beq_iff_eq] at h)
  all_goals omega
theorem u_txt {t : Nat} {M M' : q_Mem} {L A : q_G} (h : q_I t M L A) (hl : ∀ a k, w_ob t a → ¬ ((a = 1 ∧ k = 1) ∨ (a = 0 ∧ (k = 14 ∨ k = 15)) ∨ a = 56) → M'.2 a k = M.2 a k) (ha : ∀ a k, a_core a k = true → ¬ ((a = 94 ∧ (k = 1 ∨ k = 7 ∨ k = 8)) ∨ a = 96) → M'.2 a k = M.2 a k) (hc : r_cache (M'.2 88) A) (h1 : M'.2 1 1 = 0) (h2 : M'.2 94 1 = 0) (h3 : M'.2 0 14 = M'.2 94 7 ∧ M'.2 0 15 = M'.2 94 8) (h4 : ∀ k, M'.2 56 k = M'.2 96 k) : q_St M' := by
  obtain ⟨hJ, hR, hW⟩ := h
  have h0 : M'.2 0 11 = L 0 11 := by rw [hl 0 11 (by unfold w_ob; omega) (by omega)]; exact hJ.1 0 11 rfl
  have ht : t = 57 ∨ t = 72 := by
    rcases hJ.2.2.1.1 with g | g
    · exact Or.inl g.1
    · exact Or.inr g.1
  have hL0 : L 0 11 = (t : Int) := hJ.2.2.1.2.1
  have hL : ∀ a k, (w_ob t a ∨ (57 ≤ a ∧ a ≤ 86)) → ¬ ((a = 1 ∧ k = 1) ∨ (a = 0 ∧ (k = 14 ∨ k = 15)) ∨ a = 56) → m_L L M' a k = L a k := by
    intro a k hw hn
    unfold m_L
    rw [h0]
    by_cases c : l_obs (L 0 11) a k = true
    · have hw' : w_ob t a := by
        rcases hw with g | g
        · exact g
        · rw [hL0] at c
          have := lob_s ht g.1 g.2 c
          unfold w_ob
          omega
      rw [if_pos c, hl a k hw' hn]
      exact hJ.1 a k c
    · rw [if_neg c]
  have hA : ∀ a k, ¬ ((a = 94 ∧ (k = 1 ∨ k = 7 ∨ k = 8)) ∨ a = 96) → m_A A M' a k = A a k := by
    intro a k hn
    unfold m_A
    by_cases c : a_core a k = true
    · rw [if_pos c, ha a k c hn]
      exact hJ.2.1 a k c
    · rw [if_neg c]
  have hLc : ∀ a, (w_ob t a ∨ (57 ≤ a ∧ a ≤ 86)) → a ≠ 0 → a ≠ 1 → a ≠ 56 → m_L L M' a = L a := fun a g0 g1 g2 g3 => funext (fun k => hL a k g0 (by omega))
  have hAc : ∀ a, a ≠ 94 → a ≠ 96 → m_A A M' a = A a := fun a g1 g2 => funext (fun k => hA a k (by omega))
  have hE : e_fair A (m_A A M') := ⟨hA _ _ (by omega), fun a k g1 g2 => hA _ _ (by omega)⟩
  have lv : ∀ a k, l_obs (L 0 11) a k = true → m_L L M' a k = M'.2 a k := by
    intro a k c
    unfold m_L
    rw [h0, if_pos c]
  have av : ∀ a k, a_core a k = true → m_A A M' a k = M'.2 a k := by
    intro a k c
    unfold m_A
    rw [if_pos c]
  refine u_St ⟨e_fairL (L := L) hE (hL _ _ (by unfold w_ob; omega) (by omega)) (hL _ _ (by unfold w_ob; omega) (by omega)) (hL _ _ (by unfold w_ob; omega) (by omega)) (fun a k g1 g2 => hL _ _ (by unfold w_ob; omega) (by omega)) hJ.2.2.1, e_wf hE hJ.2.2.2.1, e_cache hE hc, ?_, hE⟩ ⟨e_day (L := L) hE (hAc 131 (by omega) (by omega)) (fun k _ => hL _ _ (by unfold w_ob; omega) (by omega)) (hLc 11 (by unfold w_ob; omega) (by omega) (by omega) (by omega)) (hLc 89 (by unfold w_ob; omega) (by omega) (by omega) (by omega)) hJ.2.2.2.2.1, ?_⟩ ?_
  · intro e he j hj
    have := a_wc e he
    rw [hA _ _ (by omega)]
    exact hW e he j hj
  · rw [hAc 131 (by omega) (by omega)]
    exact (e_dv hE).mpr hJ.2.2.2.2.2.2
  obtain ⟨j1, j2, j3, j4, j5, j6, j7, j8⟩ := hR
  refine ⟨⟨?_, ?_, ?_, ?_⟩, ?_, ⟨?_, ?_⟩, ?_, ?_, ?_, ?_, ?_⟩
  · rw [lv 1 1 rfl, av 94 1 rfl, h1, h2]
  · intro k
    rw [hLc 2 (by unfold w_ob; omega) (by omega) (by omega) (by omega), hAc 95 (by omega) (by omega)]
    exact j1.2.1 k
  · rw [av 94 1 rfl, h2]; omega
  · intro k
    rw [hAc 95 (by omega) (by omega)]
    exact j1.2.2.2 k
  · intro k
    rw [lv 56 k rfl, av 96 k rfl]
    exact h4 k
  · rw [lv 0 14 rfl, av 94 7 rfl]
    exact h3.1
  · rw [lv 0 15 rfl, av 94 8 rfl]
    exact h3.2
  · rw [hL 3 1 (by unfold w_ob; omega) (by omega), hLc 4 (by unfold w_ob; omega) (by omega) (by omega) (by omega), hA 94 101 (by omega), hAc 165 (by omega) (by omega)]
    exact j4
  · rw [hL 10 12 (by unfold w_ob; omega) (by omega), hA 94 67 (by omega)]
    exact j5
  · rw [hLc 36 (by unfold w_ob; omega) (by omega) (by omega) (by omega), hLc 37 (by unfold w_ob; omega) (by omega) (by omega) (by omega), hLc 38 (by unfold w_ob; omega) (by omega) (by omega) (by omega), hLc 39 (by unfold w_ob; omega) (by omega) (by omega) (by omega), hA 94 62 (by omega), hAc 138 (by omega) (by omega), hA 123 4 (by omega), hA 123 3 (by omega)]
    exact j6
  · rw [hL 10 5 (by unfold w_ob; omega) (by omega), hA 131 20 (by omega)]
    exact j7
  · exact e_ring (L := L) hE (hAc 131 (by omega) (by omega)) (hAc 139 (by omega) (by omega)) (hA _ _ (by omega)) (hA _ _ (by omega)) (hL _ _ (by unfold w_ob; omega) (by omega)) (hL _ _ (by unfold w_ob; omega) (by omega)) (fun a k g1 g2 => hL _ _ (by unfold w_ob; omega) (by omega)) j8
def z_in (M M' : q_Mem) : Prop := ∀ a k, ¬ (a = 94 ∧ (k = 1 ∨ k = 2 ∨ k = 3 ∨ k = 4 ∨ k = 5 ∨ k = 6 ∨ k = 45)) → M'.2 a k = M.2 a k
theorem o_40 {M : q_Mem} {K : q_Mem → Option (Int × q_Mem)} : fX12_fair_40 q_FU 0 M = (q_bd (fX12_fairTold (q_up (q_up (q_up (q_up (q_up (q_up (q_up M 123 0 0) 123 1 0) 123 2 0) 128 0 (-1)) 128 1 (-1)) 122 1 0) 122 2 0)) fun _ M5 => q_let (q_up M5 94 46 1) fun M6 => (fX12_fair_95 q_FU M6)) := by
  rw [show q_FU = 99996 + 1 + 1 + 1 + 1 from rfl, fX12_fair_40, show q_w 0 = 0 from rfl, show q_w 3 = 3 from rfl, if_pos (by decide), sto_n (i := 0) (k := 0) rfl (by omega) (by omega), Option.bind_some, fX12_fair_40, show q_w (0 + 1) = 1 from rfl, show q_w 3 = 3 from rfl, if_pos (by decide), sto_n (i := 0 + 1) (k := 1) rfl (by omega) (by omega), Option.bind_some, fX12_fair_40, show q_w (0 + 1 + 1) = 2 from rfl, show q_w 3 = 3 from rfl, if_pos (by decide), sto_n (i := 0 + 1 + 1) (k := 2) rfl (by omega) (by omega), Option.bind_some, fX12_fair_40, show q_w (0 + 1 + 1 + 1) = 3 from rfl, show q_w 3 = 3 from rfl, if_neg (by decide), sto_n (i := 0) (k := 0) rfl (by omega) (by omega), Option.bind_some, sto_n (i := 1) (k := 1) rfl (by omega) (by omega), Option.bind_some, sto_n (i := 1) (k := 1) rfl (by omega) (by omega), Option.bind_some, sto_n (i := 2) (k := 2) rfl (by omega) (by omega), Option.bind_some, show (99996 + 1 + 1 + 1 + 1 : Nat) = q_FU from rfl]
theorem o_fair {b : Nat → Int} {N : Nat} {M : q_Mem} (hw : r_words M.2) (h1 : M.2 94 1 = (N : Int)) (hb : ∀ k, M.2 95 k = b k) (hbb : ∀ k, 0 ≤ b k ∧ b k ≤ 255) (hN : N ≤ 1600) : ∃ Mi M', fX12_fair M = fX12_fair_117 M' ∧ z_in M Mi ∧ Mi.2 94 1 = 0 ∧ z_L b N Mi (s_rd b N 80 1 (s_fst b N (.inl (t_sk b N 0, false)))).1 (s_rd b N 80 1 (s_fst b N (.inl (t_sk b N 0, false)))).2 M' ∧ p_B M' := by
  unfold fX12_fair
  rw [q_le, q_le, q_le, q_le, q_le, q_le, q_le, h1]
  have hi : z_in M (q_up (q_up (q_up (q_up (q_up (q_up (q_up M 94 3 (N : Int)) 94 1 0) 94 2 0) 94 4 (-1)) 94 5 0) 94 6 (-1)) 94 45 0) := fun a k h => by rw [up_ne (by omega), up_ne (by omega), up_ne (by omega), up_ne (by omega), up_ne (by omega), up_ne (by omega), up_ne (by omega)]
  have i1 : (q_up (q_up (q_up (q_up (q_up (q_up (q_up M 94 3 (N : Int)) 94 1 0) 94 2 0) 94 4 (-1)) 94 5 0) 94 6 (-1)) 94 45 0).2 94 1 = 0 := by rw [up_ne (by omega), up_ne (by omega), up_ne (by omega), up_ne (by omega), up_ne (by omega), up_rd, if_pos ⟨rfl, rfl⟩]
  have i2 : (q_up (q_up (q_up (q_up (q_up (q_up (q_up M 94 3 (N : Int)) 94 1 0) 94 2 0) 94 4 (-1)) 94 5 0) 94 6 (-1)) 94 45 0).2 94 2 = 0 := by rw [up_ne (by omega), up_ne (by omega), up_ne (by omega), up_ne (by omega), up_rd, if_pos ⟨rfl, rfl⟩]
  have i3 : (q_up (q_up (q_up (q_up (q_up (q_up (q_up M 94 3 (N : Int)) 94 1 0) 94 2 0) 94 4 (-1)) 94 5 0) 94 6 (-1)) 94 45 0).2 94 3 = (N : Int) := by rw [up_ne (by omega), up_ne (by omega), up_ne (by omega), up_ne (by omega), up_ne (by omega), up_ne (by omega), up_rd, if_pos ⟨rfl, rfl⟩]
  have i4 : (q_up (q_up (q_up (q_up (q_up (q_up (q_up M 94 3 (N : Int)) 94 1 0) 94 2 0) 94 4 (-1)) 94 5 0) 94 6 (-1)) 94 45 0).2 94 4 = -1 := by rw [up_ne (by omega), up_ne (by omega), up_ne (by omega), up_rd, if_pos ⟨rfl, rfl⟩]
  have i5 : (q_up (q_up (q_up (q_up (q_up (q_up (q_up M 94 3 (N : Int)) 94 1 0) 94 2 0) 94 4 (-1)) 94 5 0) 94 6 (-1)) 94 45 0).2 94 5 = 0 := by rw [up_ne (by omega), up_ne (by omega), up_rd, if_pos ⟨rfl, rfl⟩]
  have i6 : (q_up (q_up (q_up (q_up (q_up (q_up (q_up M 94 3 (N : Int)) 94 1 0) 94 2 0) 94 4 (-1)) 94 5 0) 94 6 (-1)) 94 45 0).2 94 6 = -1 := by rw [up_ne (by omega), up_rd, if_pos ⟨rfl, rfl⟩]
  have i45 : (q_up (q_up (q_up (q_up (q_up (q_up (q_up M 94 3 (N : Int)) 94 1 0) 94 2 0) 94 4 (-1)) 94 5 0) 94 6 (-1)) 94 45 0).2 94 45 = 0 := by rw [up_rd, if_pos ⟨rfl, rfl⟩]
  generalize q_up (q_up (q_up (q_up (q_up (q_up (q_up M 94 3 (N : Int)) 94 1 0) 94 2 0) 94 4 (-1)) 94 5 0) 94 6 (-1)) 94 45 0 = Mi at hi i1 i2 i3 i4 i5 i6 i45
  rw [o_40 (K := fun _ => none)]
  have hfr : ∀ a k, ¬ ((a = 123 ∧ k < 3) ∨ (a = 128 ∧ k < 2) ∨ (a = 122 ∧ (k = 1 ∨ k = 2))) → (q_up (q_up (q_up (q_up (q_up (q_up (q_up Mi 123 0 0) 123 1 0) 123 2 0) 128 0 (-1)) 128 1 (-1)) 122 1 0) 122 2 0).2 a k = Mi.2 a k := fun a k h => by rw [up_ne (by omega), up_ne (by omega), up_ne (by omega), up_ne (by omega), up_ne (by omega), up_ne (by omega), up_ne (by omega)]
  have k1 : (q_up (q_up (q_up (q_up (q_up (q_up (q_up Mi 123 0 0) 123 1 0) 123 2 0) 128 0 (-1)) 128 1 (-1)) 122 1 0) 122 2 0).2 123 0 = 0 := by rw [up_ne (by omega), up_ne (by omega), up_ne (by omega), up_ne (by omega), up_ne (by omega), up_ne (by omega), up_rd, if_pos ⟨rfl, rfl⟩]
  have k2 : (q_up (q_up (q_up (q_up (q_up (q_up (q_up Mi 123 0 0) 123 1 0) 123 2 0) 128 0 (-1)) 128 1 (-1)) 122 1 0) 122 2 0).2 123 1 = 0 := by rw [up_ne (by omega), up_ne (by omega), up_ne (by omega), up_ne (by omega), up_ne (by omega), up_rd, if_pos ⟨rfl, rfl⟩]
  have k3 : (q_up (q_up (q_up (q_up (q_up (q_up (q_up Mi 123 0 0) 123 1 0) 123 2 0) 128 0 (-1)) 128 1 (-1)) 122 1 0) 122 2 0).2 123 2 = 0 := by rw [up_ne (by omega), up_ne (by omega), up_ne (by omega), up_ne (by omega), up_rd, if_pos ⟨rfl, rfl⟩]
  have k4 : (q_up (q_up (q_up (q_up (q_up (q_up (q_up Mi 123 0 0) 123 1 0) 123 2 0) 128 0 (-1)) 128 1 (-1)) 122 1 0) 122 2 0).2 128 0 = -1 := by rw [up_ne (by omega), up_ne (by omega), up_ne (by omega), up_rd, if_pos ⟨rfl, rfl⟩]
  have k5 : (q_up (q_up (q_up (q_up (q_up (q_up (q_up Mi 123 0 0) 123 1 0) 123 2 0) 128 0 (-1)) 128 1 (-1)) 122 1 0) 122 2 0).2 128 1 = -1 := by rw [up_ne (by omega), up_ne (by omega), up_rd, if_pos ⟨rfl, rfl⟩]
  have k6 : (q_up (q_up (q_up (q_up (q_up (q_up (q_up Mi 123 0 0) 123 1 0) 123 2 0) 128 0 (-1)) 128 1 (-1)) 122 1 0) 122 2 0).2 122 1 = 0 := by rw [up_ne (by omega), up_rd, if_pos ⟨rfl, rfl⟩]
  have k7 : (q_up (q_up (q_up (q_up (q_up (q_up (q_up Mi 123 0 0) 123 1 0) 123 2 0) 128 0 (-1)) 128 1 (-1)) 122 1 0) 122 2 0).2 122 2 = 0 := by rw [up_rd, if_pos ⟨rfl, rfl⟩]
  generalize q_up (q_up (q_up (q_up (q_up (q_up (q_up Mi 123 0 0) 123 1 0) 123 2 0) 128 0 (-1)) 128 1 (-1)) 122 1 0) 122 2 0 = M1 at hfr k1 k2 k3 k4 k5 k6 k7
  have hT1 : z_ot b N M1 := ⟨by rw [hfr _ _ (by omega), i3], fun k _ => by rw [hfr _ _ (by omega), hi _ _ (by omega), hb], hbb, hN⟩
  have hsk := run_b t_bl b (N - 0) 0
  have hz1 : z_O b N (.inl (t_sk b N 0, false)) M1 := ⟨by rw [hfr _ _ (by omega), i5], by unfold t_sk; omega, 0, -1, by rw [hfr _ _ (by omega), i2]; rfl, by rw [hfr _ _ (by omega), i4], Nat.zero_le _, by omega, by omega, rfl, by rw [decide_eq_false (by omega)]⟩
  have hw1 : r_words M1.2 := by
    intro e he j hj
    have := a_wc e he
    rw [hfr _ _ (by omega), hi _ _ (by omega)]
    exact hw e he j hj
  have hB1 : p_B M1 := fun _ => by rw [hfr _ _ (by omega), i6]
  have hft : ∃ M4, fX12_fairTold M1 = some (0, M4) ∧ z_L b N Mi 1 (s_fst b N (.inl (t_sk b N 0, false))) (q_up M4 94 46 1) := by
    unfold fX12_fairTold
    obtain ⟨x, N1, M2, a1, a2, a3, a4, a5⟩ := o_wn hw1 hT1 hz1 (lo := 10) (hi := 400) wc_p.2.2.2.2.2.2.2 (by omega) (by omega)
    rw [a1, b_some, a2, b_some, sto_n (i := 0) (k := 0) rfl (by omega) (by omega), Option.bind_some]
    have hT3 : z_ot b N (q_up M2 122 0 x) := ot_fr (z94_T hT1 a3) (up_ne (by omega)) (fun k => up_ne (by omega))
    have hz3 := O_fr (M' := q_up M2 122 0 x) a4 (fun k hk => up_ne (by omega))
    obtain ⟨M4, g1, g2, g3⟩ := o_askS hT3 hz3 zc_59.1 zc_59.2.1 zc_59.2.2
    rw [g1, b_some]
    have gM : ∀ a k, ¬ (a = 94 ∧ (k = 2 ∨ k = 4 ∨ k = 5 ∨ k = 6 ∨ k = 35 ∨ k = 46)) → ¬ (a = 122 ∧ k = 0) → (q_up M4 94 46 1).2 a k = M1.2 a k := fun a k h1 h2 => by rw [up_ne (by omega), g2 a k (by omega), up_ne h2, a3 a k (by omega)]
    refine ⟨M4, rfl, ot_fr (z94_T hT3 g2) (up_ne (by omega)) (fun k => up_ne (by omega)), O_fr g3 (fun k hk => up_ne (by omega)), fun a k hk => by rw [gM a k (by unfold v_o at hk; omega) (by unfold v_o at hk; omega), hfr a k (by unfold v_o at hk; omega)], fun hok => ⟨by rw [up_rd, if_pos ⟨rfl, rfl⟩]; rfl, ?_, ?_, fun p j _ => Nat.zero_le _⟩⟩
    · have hok2 := (ok_Z hok).1
      refine ⟨⟨by rw [up_ne (by omega), g2 _ _ (by omega), up_rd, if_pos ⟨rfl, rfl⟩, a5 hok2]; rfl, by rw [gM _ _ (by omega) (by omega), k6]; rfl, by rw [gM _ _ (by omega) (by omega), k7]; rfl⟩, ⟨by rw [gM _ _ (by omega) (by omega), k1]; rfl, trivial, trivial, trivial, trivial, trivial⟩, ⟨by rw [gM _ _ (by omega) (by omega), k2]; rfl, trivial, trivial, trivial⟩, ⟨by rw [gM _ _ (by omega) (by omega), k3]; rfl, trivial, trivial⟩, by rw [gM _ _ (by omega) (by omega), hfr _ _ (by omega), i45]; rfl, Or.inl ⟨rfl, by rw [gM _ _ (by omega) (by omega), k4]⟩, Or.inl ⟨rfl, by rw [gM _ _ (by omega) (by omega), k5]⟩⟩
    · exact ⟨⟨Nat.zero_le _, Nat.zero_le _, Nat.zero_le _⟩, fun s hs => absurd hs List.not_mem_nil, fun s hs => absurd hs List.not_mem_nil, fun s hs => absurd hs List.not_mem_nil, Or.inl rfl, Or.inl rfl, ⟨Int.le_refl 0, (by decide : (0 : Int) ≤ 9999)⟩, ⟨Int.le_refl 0, (by decide : (0 : Int) ≤ 100)⟩, N_hi (ok_Z hok).1, ⟨Nat.zero_le _, Nat.zero_le _⟩⟩
  obtain ⟨M4, e4, h4⟩ := hft
  have hB4 : p_B (q_up M4 94 46 1) := B_up (B_fX12_fairTold hB1 _ _ e4) (by omega)
  rw [e4, b_some, q_le]
  have hwi : r_words Mi.2 := by
    intro e he j hj
    have := a_wc e he
    rw [hi _ _ (by omega)]
    exact hw e he j hj
  obtain ⟨M', g1, g2, g3⟩ := o_rd hwi 80 q_FU 1 _ (q_up M4 94 46 1) (by omega) (by omega) (by omega) (by unfold q_FU; omega) h4 hB4
  exact ⟨Mi, M', g1, hi, i1, g2, g3⟩
