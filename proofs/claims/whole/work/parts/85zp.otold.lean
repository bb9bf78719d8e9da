/-! ask: the other side's evaluation of a coin -/
theorem e_shad {A A' : q_G} (h : e_fair A A') (h1 : A' 131 = A 131) : s_shadow A' = s_shadow A := by
  funext c s m
  unfold s_shadow s_len s_val s_env
  simp only [e_cloud h h1, e_codes h, e_fc h 125 (by decide) (by decide), e_fc h 126 (by decide) (by decide), e_fc h 128 (by decide) (by decide)]
theorem e_buy {A A' : q_G} (h : e_fair A A') (h1 : A' 131 = A 131) : s_buys A' = s_buys A := by
  funext c s m
  unfold s_buys s_pay s_len s_val s_env
  simp only [e_cloud h h1, e_codes h, e_fc h 125 (by decide) (by decide), e_fc h 126 (by decide) (by decide), e_fc h 128 (by decide) (by decide)]
theorem e_hix {A A' : q_G} (h : e_fair A A') (h1 : A' 131 = A 131) : ∀ n x, h_ix A' n x = h_ix A n x := by
  intro n
  induction n with
  | zero => intro x; rfl
  | succ n ih =>
    intro x
    rw [h_ix, h_ix, ih, e_fc h 125 (by decide) (by decide), h1]
theorem e_aenv {A A' : q_G} (h : e_fair A A') (h1 : A' 131 = A 131) (c : Nat) : a_env A' c = a_env A c := by
  funext k
  unfold a_env h_val
  rw [e_shad h h1, e_hix h h1, e_fc h 126 (by decide) (by decide), e_fc h 123 (by decide) (by decide), h1]
theorem e_aofs {A A' : q_G} (h : e_fair A A') (h1 : A' 131 = A 131) (c : Nat) : a_ofs A' c = a_ofs A c := by
  funext k a
  unfold a_ofs
  rw [e_shad h h1, e_buy h h1, e_fc h 123 (by decide) (by decide), h1]
theorem e_av {A A' : q_G} (h : e_fair A A') (h1 : A' 131 = A 131) (cs : List Int) (c : Nat) : a_v A' cs c = a_v A cs c := by
  unfold a_v
  rw [e_aenv h h1, e_aofs h h1]
theorem r_lay {t C S : Nat} {L A : q_G} {M : q_Mem} (hC : A 123 4 = (C : Int)) (hS : A 123 3 = (S : Int)) (h : q_K t M L A) : q_P (fX12_laysNow M) (fun _ M' => q_K t M' L A ∧ M'.2 94 53 = h_ix A S (-1) ∧ (∀ s c : Nat, s < S → c < C → M'.2 132 (6 * c + s) = s_shadow A c s (A 131 0) ∧ M'.2 133 (6 * c + s) = if s_buys A c s (A 131 0) = true then 1 else 0) ∧ ∀ a k, ¬ (a = 94 ∧ (k = 48 ∨ k = 50 ∨ k = 51 ∨ k = 52 ∨ k = 97 ∨ k = 53)) → a ≠ 164 → a ≠ 132 → a ≠ 133 → M'.2 a k = M.2 a k) := by
  have w := y_j_wf h
  unfold fX12_laysNow
  have h1 : q_K t (q_up M 94 53 (-1)) L A := k_scr h rfl rfl rfl
  rw [q_le, y_r_sm h1, b_some, q_le, hS]
  refine w_mono (r_12 (t := t) (L := L) hC hS S q_FU (-1) _ h1 (Nat.le_refl _) (by unfold q_FU; omega) (by rw [up_rd, if_pos ⟨rfl, rfl⟩]) (fun s c g1 g2 => by omega)) ?_
  rintro _ M' ⟨q1, q2, q3, q4⟩
  exact ⟨q1, q2, q3, fun a k y1 y2 y3 y4 => by rw [q4 a k y1 y2 y3 y4, up_ne (by omega)]⟩
/-- what stands laid -/
def p_Q (t : Nat) (L A : q_G) (cs : List Int) (C S : Nat) (M : q_Mem) : Prop := q_K t M L A ∧ M.2 94 53 = h_ix A S (-1) ∧ M.2 94 51 = A 131 0 ∧ (∀ s c : Nat, s < S → c < C → M.2 132 (6 * c + s) = s_shadow A c s (A 131 0) ∧ M.2 133 (6 * c + s) = if s_buys A c s (A 131 0) = true then 1 else 0) ∧ M.2 94 91 = (cs.length : Int) ∧ ∀ j : Nat, j < cs.length → M.2 162 j = cs.getD j 0
theorem pQ_fr {t : Nat} {L A : q_G} {cs : List Int} {C S : Nat} {M M' : q_Mem} (h : p_Q t L A cs C S M) (hf : ∀ a k, ¬ ((a = 94 ∧ (k = 97 ∨ k = 98 ∨ k = 99)) ∨ a = 164) → M'.2 a k = M.2 a k) : p_Q t L A cs C S M' := by
  obtain ⟨h1, h2, h3, h4, h5, h6⟩ := h
  refine ⟨k_mv h1 ?_, by rw [hf _ _ (by omega)]; exact h2, by rw [hf _ _ (by omega)]; exact h3, ?_, by rw [hf _ _ (by omega)]; exact h5, fun j hj => by rw [hf _ _ (by omega)]; exact h6 j hj⟩
  · intro a k ha
    refine hf a k ?_
    rintro (⟨rfl, rfl | rfl | rfl⟩ | rfl) <;> cases ha
  · intro s c g1 g2
    rw [hf _ _ (by omega), hf _ _ (by omega)]
    exact h4 s c g1 g2
theorem r_qpart {t C S c : Nat} {L A : q_G} {cs : List Int} {M : q_Mem} (h : p_Q t L A cs C S M) (hC : A 123 4 = (C : Int)) (hS : A 123 3 = (S : Int)) (hc : c < C) (hb : ∀ k, -1000000 ≤ a_env A c k ∧ a_env A c k ≤ 1000000) {k : Int} (k0 : 0 ≤ k) (k7 : k ≤ 7) (hk : q_may 2 k = true) : fX12_qPartOf k (c : Int) M = some (a_env A c k, M) := by
  obtain ⟨h1, h2, h3, h4, h5, h6⟩ := h
  have w := y_j_wf h1
  have hbk := hb k
  have hkk : k = 0 ∨ k = 1 ∨ k = 3 ∨ k = 6 ∨ k = 7 := by
    unfold q_may at hk
    simp at hk
    omega
  have hix := ix_b A (S := A 123 3) S (-1) (by omega) (by omega)
  unfold fX12_qPartOf
  rcases hkk with rfl | rfl | rfl | rfl | rfl
  · rw [show q_w 0 = 0 from rfl, if_pos rfl, ld_n (k := 16 + 2 * c) (by omega) (by omega) (by omega), Option.bind_some, h1.2.1 126 _ (decide_eq_true (by omega))]
    unfold a_env at hbk ⊢
    rw [if_pos rfl] at hbk ⊢
    rw [n_w (by omega) (by omega)]
  · rw [show q_w 1 = 1 from rfl, if_neg (by omega), if_pos rfl, ld_n (k := 17 + 2 * c) (by omega) (by omega) (by omega), Option.bind_some, h1.2.1 126 _ (decide_eq_true (by omega))]
    unfold a_env at hbk ⊢
    rw [if_neg (by omega), if_pos rfl] at hbk ⊢
    rw [n_w (by omega) (by omega)]
  · rw [show q_w 3 = 3 from rfl, if_neg (by omega), if_neg (by omega), if_neg (by omega), if_pos rfl, h3]
    unfold a_env at hbk ⊢
    rw [if_neg (by omega), if_neg (by omega), if_pos rfl] at hbk ⊢
    rw [n_w (by omega) (by omega)]
  · rw [show q_w 6 = 6 from rfl, if_neg (by omega), if_neg (by omega), if_neg (by omega), if_neg (by omega), if_neg (by omega), if_neg (by omega), if_pos rfl]
    unfold a_env at hbk ⊢
    rw [if_neg (by omega), if_neg (by omega), if_neg (by omega), if_pos rfl] at hbk ⊢
    rw [n_w (by omega) (by omega)]
  · rw [show q_w 7 = 7 from rfl, if_neg (by omega), if_neg (by omega), if_neg (by omega), if_neg (by omega), if_neg (by omega), if_neg (by omega), if_neg (by omega), h2, show q_w (-1) = -1 from rfl, n_w (by omega) (by omega)]
    have ea : a_env A c 7 = if h_ix A S (-1) = -1 then -1 else s_shadow A c (h_ix A S (-1)) (A 131 0) := by
      unfold a_env h_val
      rw [if_neg (by decide), if_neg (by decide), if_neg (by decide), if_neg (by decide), if_pos rfl, hS, Int.toNat_natCast]
    rw [ea] at hbk ⊢
    generalize h_ix A S (-1) = x at hix hbk ⊢
    by_cases cx : x = -1
    · rw [if_pos cx, if_pos cx]
    · rw [if_neg cx] at hbk ⊢
      rw [if_neg cx]
      obtain ⟨s, rfl⟩ := Int.eq_ofNat_of_zero_le (show 0 ≤ x by omega)
      have e := (h4 s c (by omega) hc).1
      rw [ld_n (k := 6 * c + s) (by omega) (by omega) (by omega), Option.bind_some, e, n_w (by omega) (by omega)]
theorem r_qof {t C S c : Nat} {L A : q_G} {cs : List Int} {M : q_Mem} (h : p_Q t L A cs C S M) (hC : A 123 4 = (C : Int)) (hS : A 123 3 = (S : Int)) (hc : c < C) (hb : ∀ k a, -1000000 ≤ a_ofs A c k a ∧ a_ofs A c k a ≤ 1000000) {k a : Int} (k0 : 0 ≤ k) (k7 : k ≤ 1) (a0 : -1000000 ≤ a) (a1 : a ≤ 1000000) : fX12_qOf k a (c : Int) M = some (a_ofs A c k a, M) := by
  obtain ⟨h1, h2, h3, h4, h5, h6⟩ := h
  have w := y_j_wf h1
  have hbk := hb k a
  have hst := y_r_isStall h1 (x := a) (by unfold q_R; omega)
  rw [n_w (by omega) (by omega)] at hst
  unfold fX12_qOf
  rw [n_w (a := k) (by omega) (by omega), hst, b_some]
  unfold a_ofs at hbk ⊢
  by_cases cs : 0 ≤ a ∧ a < A 123 3
  · rw [if_pos cs] at hbk ⊢
    rw [if_pos cs, show q_w 1 = 1 from rfl, if_neg (by omega : ¬ (1 : Int) = 0)]
    obtain ⟨s, rfl⟩ := Int.eq_ofNat_of_zero_le cs.1
    have e := h4 s c (by omega) hc
    by_cases k00 : k = 0
    · rw [if_pos k00] at hbk ⊢
      rw [if_pos k00, ld_n (k := 6 * c + s) (by omega) (by omega) (by omega), Option.bind_some, e.1, n_w (by omega) (by omega)]
    · rw [if_neg k00] at hbk ⊢
      rw [if_neg k00, b_some, show q_w 1 = 1 from rfl, if_neg (by omega : ¬ (1 : Int) = 0), ld_n (k := 6 * c + s) (by omega) (by omega) (by omega), Option.bind_some, e.2]
      by_cases cb : s_buys A c s (A 131 0) = true
      · rw [if_pos cb, show q_w 1 = 1 from rfl, if_neg (by omega)]
      · rw [if_neg cb, show q_w 0 = 0 from rfl, if_pos rfl]
  · rw [if_neg cs, if_neg cs, show q_w 0 = 0 from rfl, if_pos rfl, b_some, show q_w 0 = 0 from rfl, if_pos rfl]
    split <;> rfl
theorem r_qtold {t C S c : Nat} {L A : q_G} {cs : List Int} {b : Bool} {M : q_Mem} (h : p_Q t L A cs C S M) (hC : A 123 4 = (C : Int)) (hS : A 123 3 = (S : Int)) (hc : c < C) (hb : ∀ k, -1000000 ≤ a_env A c k ∧ a_env A c k ≤ 1000000) (hb' : ∀ k a, -1000000 ≤ a_ofs A c k a ∧ a_ofs A c k a ≤ 1000000) (hcl : cs.length ≤ 1600) (htc : q_tc 2 cs [] = some [b]) : q_P (fX12_qTold (c : Int) M) (fun v M' => v = a_v A cs c ∧ ∀ a j, ¬ ((a = 94 ∧ j = 97) ∨ a = 164) → M'.2 a j = M.2 a j) := by
  refine p_told (env := a_env A c) (ofs := a_ofs A c) hcl h.2.2.2.2.1 h.2.2.2.2.2 ?_ ?_ htc
  · intro M' st hS' k k0 k7 hk
    exact ⟨r_qpart (pQ_fr h (fun a j g => hS'.2.2 a j (by omega))) hC hS hc hb k0 k7 hk, hb k⟩
  · intro M' st hS' k a k0 k7 a0 a1
    exact ⟨r_qof (pQ_fr h (fun a j g => hS'.2.2 a j (by omega))) hC hS hc hb' k0 k7 a0 a1, hb' k a⟩
