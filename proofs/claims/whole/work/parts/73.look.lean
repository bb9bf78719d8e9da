theorem st_kept {M : q_Mem} (hS : q_St M) (x1 x2 : Int) (h1 : q_R x1) (h2 : q_R x2) : q_Step M (fX11_kept x1 x2 M) (fun M1 => fX12_kept x1 x2 M1) := by
  obtain ⟨t, L, A, hI⟩ := id hS
  have w := j_wf hI.1
  have db := j_db hI.1
  have h1' := h1
  have h2' := h2
  unfold q_R at h1' h2'
  have e5 : M.2 10 5 = A 131 20 := by rw [hI.1.1 10 5 rfl]; exact hI.2.1.2.2.2.2.2.2.1
  obtain ⟨-, -, -, -, rr, -⟩ := hI.2.1.2.2.2.2.2.2.2
  have rr0 := (rr 0 (by have := hI.2.1.2.2.2.2.2.2.2.2.1; omega)).2.2
  by_cases c : (0 ≤ x1 ∧ x1 < A 131 20) ∧ (0 ≤ x2 ∧ x2 ≤ 2)
  · obtain ⟨k, rfl, hk⟩ := nat_of c.1
    obtain ⟨r1, r2, r3⟩ := rr0 k hk
    refine st_q hI (A 131 (21 + 3 * k + x2.toNat)) ?_ ?_
    · unfold fX11_kept
      rw [n_w (a := (k : Int)) (by omega) (by omega), e5, n_w (a := A 131 20) (by omega) (by omega), n_w h2'.1 h2'.2, if_neg (by omega), if_pos (by omega)]
      have hx : x2 = 0 ∨ x2 = 1 ∨ x2 = 2 := by omega
      rcases hx with rfl | rfl | rfl
      · rw [if_pos rfl, b_ld (by omega) (by omega) (by decide), Option.bind_some, Int.toNat_natCast, hI.1.1 12 k rfl, r1]
        exact w_some.mpr ⟨rfl, hI.1⟩
      · rw [if_neg (by decide), if_pos rfl, b_ld (by omega) (by omega) (by decide), Option.bind_some, Int.toNat_natCast, hI.1.1 13 k rfl, r2]
        refine w_some.mpr ⟨?_, hI.1⟩
        show A 131 (22 + 3 * k) = A 131 (21 + 3 * k + 1)
        rw [show 22 + 3 * k = 21 + 3 * k + 1 from by omega]
      · rw [if_neg (by decide), if_neg (by decide), if_pos rfl, b_ld (by omega) (by omega) (by decide), Option.bind_some, Int.toNat_natCast, hI.1.1 14 k rfl, r3]
        refine w_some.mpr ⟨?_, hI.1⟩
        show A 131 (23 + 3 * k) = A 131 (21 + 3 * k + 2)
        rw [show 23 + 3 * k = 21 + 3 * k + 2 from by omega]
    · intro M1 hJ
      unfold fX12_kept
      rw [r_ld131 hJ (by decide) (by decide), Option.bind_some, show (20 : Int).toNat = 20 from rfl, n_w (a := A 131 20 - 1) (by omega) (by omega), f_isInW h1 (by decide) (by decide) (by omega) (by omega), b_some, f_ite, if_pos (by omega), f_isInW h2 (by decide) (by decide) (by decide) (by decide), b_some, f_ite, if_pos (by omega), r_ld131 hJ (by omega) (by omega), Option.bind_some]
      refine w_some.mpr ⟨?_, hJ⟩
      rw [show ((21 : Int) + 3 * (k : Int) + x2).toNat = 21 + 3 * k + x2.toNat from by omega]
  · refine st_q hI (-1) ?_ ?_
    · unfold fX11_kept
      rw [n_w h1'.1 h1'.2, e5, n_w (a := A 131 20) (by omega) (by omega), n_w h2'.1 h2'.2]
      refine w_ite (fun _ => w_some.mpr ⟨rfl, hI.1⟩) (fun c1 => ?_)
      refine w_ite (fun c2 => ?_) (fun _ => w_some.mpr ⟨rfl, hI.1⟩)
      rw [if_neg (by omega), if_neg (by omega), if_neg (by omega)]
      exact w_some.mpr ⟨rfl, hI.1⟩
    · intro M1 hJ
      unfold fX12_kept
      rw [r_ld131 hJ (by decide) (by decide), Option.bind_some, show (20 : Int).toNat = 20 from rfl, n_w (a := A 131 20 - 1) (by omega) (by omega), f_isInW h1 (by decide) (by decide) (by omega) (by omega), b_some, f_ite]
      refine w_ite (fun c1 => ?_) (fun _ => w_some.mpr ⟨rfl, hJ⟩)
      rw [f_isInW h2 (by decide) (by decide) (by decide) (by decide), b_some, f_ite]
      exact w_ite (fun c2 => absurd ⟨⟨c1.1, by omega⟩, c2⟩ c) (fun _ => w_some.mpr ⟨rfl, hJ⟩)
theorem st_coin {M : q_Mem} (hS : q_St M) (x1 x2 : Int) (h1 : q_R x1) (h2 : q_R x2) : q_Step M (fX11_coin x1 x2 M) (fun M1 => fX12_coin x1 x2 M1) := by
  obtain ⟨t, L, A, hI⟩ := id hS
  have w := j_wf hI.1
  have h2' := h2
  unfold q_R at h2'
  obtain ⟨ht, -, hT, -, hL⟩ := j_t hI.1
  obtain ⟨-, -, -, -, -, -, -, -, -, -, rc, -⟩ := hI.1.2.2.1
  by_cases c : (0 ≤ x1 ∧ x1 < A 123 4) ∧ (0 ≤ x2 ∧ x2 ≤ 1)
  · obtain ⟨k, rfl, hk⟩ := nat_of c.1
    obtain ⟨r1, r2, -⟩ := rc k hk
    refine st_q hI (A 126 (16 + 2 * k + x2.toNat)) ?_ ?_
    · unfold fX11_coin
      rw [c_isCoin hI.1 h1, b_some, f_ite, if_pos c.1, n_w h2'.1 h2'.2]
      simp only [q_let]
      rw [j_told hI.1, fq9 ht, fq10 ht, b_ld (by omega) (by omega) (by decide), b_ld (by omega) (by omega) (by decide), Option.bind_some, Option.bind_some, Int.toNat_natCast, hL 7 k (by decide), hL 8 k (by decide), r1, r2]
      have hx : x2 = 0 ∨ x2 = 1 := by omega
      rcases hx with rfl | rfl
      · rw [if_pos rfl]
        exact w_some.mpr ⟨rfl, hI.1⟩
      · rw [if_neg (by decide), if_pos rfl]
        refine w_some.mpr ⟨?_, hI.1⟩
        show A 126 (17 + 2 * k) = A 126 (16 + 2 * k + 1)
        rw [show 17 + 2 * k = 16 + 2 * k + 1 from by omega]
    · intro M1 hJ
      unfold fX12_coin
      rw [r_isCoin hJ h1, b_some, f_ite, if_pos c.1, f_isInW h2 (by decide) (by decide) (by decide) (by decide), b_some, f_ite, if_pos c.2, b_ld (by omega) (by omega) (by decide), Option.bind_some, show ((16 : Int) + 2 * (k : Int) + x2).toNat = 16 + 2 * k + x2.toNat from by omega, hJ.2.1 126 _ (decide_eq_true (by omega))]
      exact w_some.mpr ⟨rfl, hJ⟩
  · refine st_q hI (-1) ?_ ?_
    · unfold fX11_coin
      rw [c_isCoin hI.1 h1, b_some, f_ite]
      refine w_ite (fun c1 => ?_) (fun _ => w_some.mpr ⟨rfl, hI.1⟩)
      rw [n_w h2'.1 h2'.2, if_neg (by omega), if_neg (by omega)]
      exact w_some.mpr ⟨rfl, hI.1⟩
    · intro M1 hJ
      unfold fX12_coin
      rw [r_isCoin hJ h1, b_some, f_ite]
      refine w_ite (fun c1 => ?_) (fun _ => w_some.mpr ⟨rfl, hJ⟩)
      rw [f_isInW h2 (by decide) (by decide) (by decide) (by decide), b_some, f_ite]
      exact w_ite (fun c2 => absurd ⟨c1, c2⟩ c) (fun _ => w_some.mpr ⟨rfl, hJ⟩)
theorem c_bought {t : Nat} {M : q_Mem} {L A : q_G} (h : q_J t M L A) {x : Int} : fX1_hasBought x M = some (if q_w (q_and (q_shr (A 131 2) x) 1) = 1 then 1 else 0, M) := by
  unfold fX1_hasBought
  rw [(j_d h).2.2.1, show q_w 1 = 1 from rfl]
  by_cases c : q_w (q_and (q_shr (A 131 2) x) 1) = 1
  · rw [if_pos c, if_pos c]
  · rw [if_neg c, if_neg c]
theorem r_bought {t : Nat} {M : q_Mem} {L A : q_G} (h : q_J t M L A) {x : Int} : fX12_isBought x M = some (if q_w (q_and (q_shr (A 131 2) x) 1) = 1 then 1 else 0, M) := by
  unfold fX12_isBought
  rw [r_ld131 h (by decide) (by decide), Option.bind_some, show (2 : Int).toNat = 2 from rfl, show q_w 1 = 1 from rfl]
  by_cases c : q_w (q_and (q_shr (A 131 2) x) 1) = 1
  · rw [if_pos c, if_pos c]
  · rw [if_neg c, if_neg c]
theorem st_stall {M : q_Mem} (hS : q_St M) (x1 x2 : Int) (h1 : q_R x1) (h2 : q_R x2) : q_Step M (fX11_stall x1 x2 M) (fun M1 => fX12_stall x1 x2 M1) := by
  obtain ⟨t, L, A, hI⟩ := id hS
  have w := j_wf hI.1
  have h2' := h2
  unfold q_R at h2'
  obtain ⟨ht, -, hT, -, hL⟩ := j_t hI.1
  obtain ⟨-, -, -, -, -, -, -, -, -, rs, -⟩ := hI.1.2.2.1
  by_cases c : (0 ≤ x1 ∧ x1 < A 123 3) ∧ (0 ≤ x2 ∧ x2 ≤ 4)
  · obtain ⟨k, rfl, hk⟩ := nat_of c.1
    obtain ⟨r1, r2, r3, r4, -⟩ := rs k hk
    by_cases c4 : x2 = 4
    · refine st_q hI (if q_w (q_and (q_shr (A 131 2) (k : Int)) 1) = 1 then 1 else 0) ?_ ?_
      · unfold fX11_stall
        rw [c_isStall hI.1 h1, b_some, f_ite, if_pos c.1, n_w h2'.1 h2'.2, if_neg (by omega), if_neg (by omega), if_neg (by omega), if_neg (by omega), if_pos c4, c_bought hI.1, b_some, f_ite]
        by_cases cb : q_w (q_and (q_shr (A 131 2) (k : Int)) 1) = 1
        · rw [if_pos cb, if_pos cb]
          exact w_some.mpr ⟨rfl, hI.1⟩
        · rw [if_neg cb, if_neg cb]
          exact w_some.mpr ⟨rfl, hI.1⟩
      · intro M1 hJ
        unfold fX12_stall
        rw [r_isStall hJ h1, b_some, f_ite, if_pos c.1, f_isInW h2 (by decide) (by decide) (by decide) (by decide), b_some, f_ite, if_neg (by omega), c4, if_pos rfl, r_bought hJ, b_some, f_ite]
        by_cases cb : q_w (q_and (q_shr (A 131 2) (k : Int)) 1) = 1
        · rw [if_pos cb, if_pos cb]
          exact w_some.mpr ⟨rfl, hJ⟩
        · rw [if_neg cb, if_neg cb]
          exact w_some.mpr ⟨rfl, hJ⟩
    refine st_q hI (A 125 (24 + 4 * k + x2.toNat)) ?_ ?_
    · unfold fX11_stall
      rw [c_isStall hI.1 h1, b_some, f_ite, if_pos c.1, n_w h2'.1 h2'.2]
      simp only [q_let]
      rw [j_told hI.1, fq3 ht, fq4 ht, fq5 ht, fq6 ht, b_ld (by omega) (by omega) (by decide), b_ld (by omega) (by omega) (by decide), b_ld (by omega) (by omega) (by decide), b_ld (by omega) (by omega) (by decide)]
      simp only [Option.bind_some]
      rw [Int.toNat_natCast, hL 2 k (by decide), hL 3 k (by decide), hL 4 k (by decide), hL 5 k (by decide), r1, r2, r3, r4]
      have hx : x2 = 0 ∨ x2 = 1 ∨ x2 = 2 ∨ x2 = 3 := by omega
      rcases hx with rfl | rfl | rfl | rfl
      · rw [if_pos rfl]
        exact w_some.mpr ⟨rfl, hI.1⟩
      · rw [if_neg (by decide), if_pos rfl]
        refine w_some.mpr ⟨?_, hI.1⟩
        show A 125 (25 + 4 * k) = A 125 (24 + 4 * k + 1)
        rw [show 25 + 4 * k = 24 + 4 * k + 1 from by omega]
      · rw [if_neg (by decide), if_neg (by decide), if_pos rfl]
        refine w_some.mpr ⟨?_, hI.1⟩
        show A 125 (26 + 4 * k) = A 125 (24 + 4 * k + 2)
        rw [show 26 + 4 * k = 24 + 4 * k + 2 from by omega]
      · rw [if_neg (by decide), if_neg (by decide), if_neg (by decide), if_pos rfl]
        refine w_some.mpr ⟨?_, hI.1⟩
        show A 125 (27 + 4 * k) = A 125 (24 + 4 * k + 3)
        rw [show 27 + 4 * k = 24 + 4 * k + 3 from by omega]
    · intro M1 hJ
      unfold fX12_stall
      rw [r_isStall hJ h1, b_some, f_ite, if_pos c.1, f_isInW h2 (by decide) (by decide) (by decide) (by decide), b_some, f_ite, if_pos (by omega), b_ld (by omega) (by omega) (by decide), Option.bind_some, show ((24 : Int) + 4 * (k : Int) + x2).toNat = 24 + 4 * k + x2.toNat from by omega, hJ.2.1 125 _ (decide_eq_true (by omega))]
      exact w_some.mpr ⟨rfl, hJ⟩
  · refine st_q hI (-1) ?_ ?_
    · unfold fX11_stall
      rw [c_isStall hI.1 h1, b_some, f_ite]
      refine w_ite (fun c1 => ?_) (fun _ => w_some.mpr ⟨rfl, hI.1⟩)
      rw [n_w h2'.1 h2'.2, if_neg (by omega), if_neg (by omega), if_neg (by omega), if_neg (by omega), if_neg (by omega)]
      exact w_some.mpr ⟨rfl, hI.1⟩
    · intro M1 hJ
      unfold fX12_stall
      rw [r_isStall hJ h1, b_some, f_ite]
      refine w_ite (fun c1 => ?_) (fun _ => w_some.mpr ⟨rfl, hJ⟩)
      rw [f_isInW h2 (by decide) (by decide) (by decide) (by decide), b_some, f_ite, if_neg (by omega), n_w h2'.1 h2'.2, show q_w 4 = 4 from rfl, if_neg (by omega)]
      exact w_some.mpr ⟨rfl, hJ⟩
theorem st_has {M : q_Mem} (hS : q_St M) (x1 : Int) (h1 : q_R x1) : q_Step M (fX11_has x1 M) (fun M1 => fX12_has x1 M1) := by
  obtain ⟨t, L, A, hI⟩ := id hS
  have w := j_wf hI.1
  have db := j_db hI.1
  have jf := j_f hI.1
  have jd := j_d hI.1
  have e5 : M.2 10 5 = A 131 20 := by rw [hI.1.1 10 5 rfl]; exact hI.2.1.2.2.2.2.2.2.1
  have e9 : M.2 36 0 = A 94 62 := by rw [hI.1.1 36 0 rfl]; exact hI.2.1.2.2.2.2.2.1.1
  have e10 : M.2 10 11 = A 94 65 := by rw [hI.1.1 10 11 rfl]; exact hI.2.1.2.2.2.2.2.2.2.1
  obtain ⟨m, hm, hm2⟩ := nat_of' db.1
  unfold q_R at h1
  by_cases c0 : x1 = 0
  · subst c0
    refine st_q hI (A 122 3) ?_ ?_
    · unfold fX11_has
      rw [if_pos (by decide)]
      simp only [q_let]
      rw [j_told hI.1, jf.1]
      exact w_some.mpr ⟨rfl, hI.1⟩
    · intro M1 hJ
      unfold fX12_has
      rw [if_pos (by decide)]
      rw [r_fm hJ, b_some]
      exact w_some.mpr ⟨rfl, hJ⟩
  by_cases c1 : x1 = 1
  · subst c1
    refine st_q hI (A 123 3) ?_ ?_
    · unfold fX11_has
      rw [if_neg (by decide), if_pos (by decide)]
      simp only [q_let]
      rw [j_told hI.1, jf.2.1]
      exact w_some.mpr ⟨rfl, hI.1⟩
    · intro M1 hJ
      unfold fX12_has
      rw [if_neg (by decide), if_pos (by decide)]
      rw [b_ld (by decide) (by decide) (by decide), Option.bind_some, show (3 + 1 - 1 : Int).toNat = 3 from rfl, hJ.2.1 123 3 rfl]
      exact w_some.mpr ⟨rfl, hJ⟩
  by_cases c2 : x1 = 2
  · subst c2
    refine st_q hI (A 123 4) ?_ ?_
    · unfold fX11_has
      rw [if_neg (by decide), if_neg (by decide), if_pos (by decide)]
      simp only [q_let]
      rw [j_told hI.1, jf.2.2.1]
      exact w_some.mpr ⟨rfl, hI.1⟩
    · intro M1 hJ
      unfold fX12_has
      rw [if_neg (by decide), if_neg (by decide), if_pos (by decide)]
      rw [b_ld (by decide) (by decide) (by decide), Option.bind_some, show (3 + 2 - 1 : Int).toNat = 4 from rfl, hJ.2.1 123 4 rfl]
      exact w_some.mpr ⟨rfl, hJ⟩
  by_cases c3 : x1 = 3
  · subst c3
    refine st_q hI (A 123 5 + A 131 3) ?_ ?_
    · unfold fX11_has
      rw [if_neg (by decide), if_neg (by decide), if_neg (by decide), if_pos (by decide)]
      simp only [q_let]
      rw [j_told hI.1, jf.2.2.2.1, jd.2.2.2]
      exact w_some.mpr ⟨rfl, hI.1⟩
    · intro M1 hJ
      unfold fX12_has
      rw [if_neg (by decide), if_neg (by decide), if_neg (by decide), if_pos (by decide)]
      rw [b_ld (by decide) (by decide) (by decide), Option.bind_some, show (5 : Int).toNat = 5 from rfl, hJ.2.1 123 5 rfl, r_ld131 hJ (by decide) (by decide), Option.bind_some]
      exact w_some.mpr ⟨rfl, hJ⟩
  by_cases c4 : x1 = 4
  · subst c4
    refine st_q hI (A 131 0) ?_ ?_
    · unfold fX11_has
      rw [if_neg (by decide), if_neg (by decide), if_neg (by decide), if_neg (by decide), if_pos (by decide)]
      rw [jd.1]
      exact w_some.mpr ⟨rfl, hI.1⟩
    · intro M1 hJ
      unfold fX12_has
      rw [if_neg (by decide), if_neg (by decide), if_neg (by decide), if_neg (by decide), if_pos (by decide)]
      rw [r_ld131 hJ (by decide) (by decide), Option.bind_some]
      exact w_some.mpr ⟨rfl, hJ⟩
  by_cases c5 : x1 = 5
  · subst c5
    refine st_q hI (A 131 1) ?_ ?_
    · unfold fX11_has
      rw [if_neg (by decide), if_neg (by decide), if_neg (by decide), if_neg (by decide), if_neg (by decide), if_pos (by decide)]
      rw [jd.2.1]
      exact w_some.mpr ⟨rfl, hI.1⟩
    · intro M1 hJ
      unfold fX12_has
      rw [if_neg (by decide), if_neg (by decide), if_neg (by decide), if_neg (by decide), if_neg (by decide), if_pos (by decide)]
      rw [r_ld131 hJ (by decide) (by decide), Option.bind_some]
      exact w_some.mpr ⟨rfl, hJ⟩
  by_cases c6 : x1 = 6
  · subst c6
    refine st_q hI (q_pc (A 131 2)) ?_ ?_
    · unfold fX11_has
      rw [if_neg (by decide), if_neg (by decide), if_neg (by decide), if_neg (by decide), if_neg (by decide), if_neg (by decide), if_pos (by decide)]
      rw [jd.2.2.1, c_bits db.2.2.1.1 (by omega), b_some]
      exact w_some.mpr ⟨rfl, hI.1⟩
    · intro M1 hJ
      unfold fX12_has
      rw [if_neg (by decide), if_neg (by decide), if_neg (by decide), if_neg (by decide), if_neg (by decide), if_neg (by decide), if_pos (by decide)]
      rw [r_ld131 hJ (by decide) (by decide), Option.bind_some, show (2 : Int).toNat = 2 from rfl, r_bits db.2.2.1.1 (by omega), b_some]
      exact w_some.mpr ⟨rfl, hJ⟩
  by_cases c7 : x1 = 7
  · subst c7
    refine st_q hI (if s_cloud A (A 131 0) = true then 1 else 0) ?_ ?_
    · unfold fX11_has
      rw [if_neg (by decide), if_neg (by decide), if_neg (by decide), if_neg (by decide), if_neg (by decide), if_neg (by decide), if_neg (by decide), if_pos (by decide)]
      rw [jd.1, hm, c_cloudy hI.1 (by omega), b_some, f_ite]
      refine w_ite (fun c => w_some.mpr ⟨by rw [if_pos c], hI.1⟩) (fun c => w_some.mpr ⟨by rw [if_neg c], hI.1⟩)
    · intro M1 hJ
      unfold fX12_has
      rw [if_neg (by decide), if_neg (by decide), if_neg (by decide), if_neg (by decide), if_neg (by decide), if_neg (by decide), if_neg (by decide), if_pos (by decide)]
      rw [r_ld131 hJ (by decide) (by decide), Option.bind_some, show (0 : Int).toNat = 0 from rfl, r_cloud hJ (by unfold q_R; omega), b_some, f_ite]
      refine w_ite (fun c => w_some.mpr ⟨by rw [if_pos c], hJ⟩) (fun c => w_some.mpr ⟨by rw [if_neg c], hJ⟩)
  by_cases c8 : x1 = 8
  · subst c8
    refine st_q hI (A 131 20) ?_ ?_
    · unfold fX11_has
      rw [if_neg (by decide), if_neg (by decide), if_neg (by decide), if_neg (by decide), if_neg (by decide), if_neg (by decide), if_neg (by decide), if_neg (by decide), if_pos (by decide)]
      rw [e5]
      exact w_some.mpr ⟨rfl, hI.1⟩
    · intro M1 hJ
      unfold fX12_has
      rw [if_neg (by decide), if_neg (by decide), if_neg (by decide), if_neg (by decide), if_neg (by decide), if_neg (by decide), if_neg (by decide), if_neg (by decide), if_pos (by decide)]
      rw [r_ld131 hJ (by decide) (by decide), Option.bind_some]
      exact w_some.mpr ⟨rfl, hJ⟩
  by_cases c9 : x1 = 9
  · subst c9
    refine st_q hI (A 94 62) ?_ ?_
    · unfold fX11_has
      rw [if_neg (by decide), if_neg (by decide), if_neg (by decide), if_neg (by decide), if_neg (by decide), if_neg (by decide), if_neg (by decide), if_neg (by decide), if_neg (by decide), if_pos (by decide)]
      rw [e9]
      exact w_some.mpr ⟨rfl, hI.1⟩
    · intro M1 hJ
      unfold fX12_has
      rw [if_neg (by decide), if_neg (by decide), if_neg (by decide), if_neg (by decide), if_neg (by decide), if_neg (by decide), if_neg (by decide), if_neg (by decide), if_neg (by decide), if_pos (by decide)]
      rw [hJ.2.1 94 62 rfl]
      exact w_some.mpr ⟨rfl, hJ⟩
  by_cases c10 : x1 = 10
  · subst c10
    refine st_q hI (A 94 65) ?_ ?_
    · unfold fX11_has
      rw [if_neg (by decide), if_neg (by decide), if_neg (by decide), if_neg (by decide), if_neg (by decide), if_neg (by decide), if_neg (by decide), if_neg (by decide), if_neg (by decide), if_neg (by decide), if_pos (by decide)]
      rw [e10]
      exact w_some.mpr ⟨rfl, hI.1⟩
    · intro M1 hJ
      unfold fX12_has
      rw [if_neg (by decide), if_neg (by decide), if_neg (by decide), if_neg (by decide), if_neg (by decide), if_neg (by decide), if_neg (by decide), if_neg (by decide), if_neg (by decide), if_neg (by decide), if_pos (by decide)]
      rw [hJ.2.1 94 65 rfl]
      exact w_some.mpr ⟨rfl, hJ⟩
  refine st_q hI (-1) ?_ ?_
  · unfold fX11_has
    rw [n_w h1.1 h1.2, if_neg c0, if_neg c1, if_neg c2, if_neg c3, if_neg c4, if_neg c5, if_neg c6, if_neg c7, if_neg c8, if_neg c9, if_neg c10]
    exact w_some.mpr ⟨rfl, hI.1⟩
  · intro M1 hJ
    unfold fX12_has
    rw [n_w h1.1 h1.2, if_neg c0, if_neg c1, if_neg c2, if_neg c3, if_neg c4, if_neg c5, if_neg c6, if_neg c7, if_neg c8, if_neg c9, if_neg c10]
    exact w_some.mpr ⟨rfl, hJ⟩
theorem n27_p : ∀ ds : List Int, (∀ c ∈ ds, 1 ≤ c ∧ c ≤ 26) → 0 ≤ q_n27 ds ∧ (ds ≠ [] → 0 < q_n27 ds) := by
  intro ds
  induction ds with
  | nil => intro _; exact ⟨by decide, fun h => absurd rfl h⟩
  | cons c ds ih =>
    intro h
    have h1 := h c (List.mem_cons_self)
    have h2 := ih (fun x hx => h x (List.mem_cons_of_mem _ hx))
    show 0 ≤ c + 27 * q_n27 ds ∧ (_ → 0 < c + 27 * q_n27 ds)
    exact ⟨by omega, fun _ => by omega⟩
theorem l_67 {x3 x4 : Int} {M : q_Mem} : ∀ (ds : List Int) (n : Nat) (x6 : Int), (∀ c ∈ ds, 1 ≤ c ∧ c ≤ 26) → q_n27 ds ≤ 1000000000 → ds.length < n → fX12_letter_67 n x3 x4 x6 (q_n27 ds) M = if q_w x3 < q_w (x6 + (ds.length : Int)) then fX12_letter_102 q_FU x3 x4 (x6 + (ds.length : Int) - 1) M else some (0, M) := by
  intro ds
  induction ds with
  | nil =>
    intro n x6 _ _ hn
    cases n with
    | zero => cases hn
    | succ n =>
      rw [fX12_letter_67, if_neg (by decide)]
      simp only [q_let, List.length_nil]
      rw [show x6 + ((0 : Nat) : Int) = x6 from by omega]
  | cons c ds ih =>
    intro n x6 h hb hn
    cases n with
    | zero => cases hn
    | succ n =>
      have h1 := h c (List.mem_cons_self)
      have h0 := n27_p ds (fun x hx => h x (List.mem_cons_of_mem _ hx))
      have e : q_n27 (c :: ds) = c + 27 * q_n27 ds := rfl
      rw [e] at hb ⊢
      have k := f_lc (a := c + 27 * q_n27 ds) (b := 0) (by omega) (by omega) (by decide) (by decide)
      rw [fX12_letter_67, if_pos (k.1.mpr (by omega))]
      simp only [q_let]
      rw [n_ldiv (by omega) (by omega) (by decide) (by decide), n_td (by omega), show (c + 27 * q_n27 ds) / 27 = q_n27 ds from by omega]
      rw [ih n (x6 + 1) (fun x hx => h x (List.mem_cons_of_mem _ hx)) (by omega) (by rw [List.length_cons] at hn; omega)]
      rw [List.length_cons, show x6 + 1 + (ds.length : Int) = x6 + ((ds.length + 1 : Nat) : Int) from by omega]
theorem l_102 {x3 : Int} {M : q_Mem} (hx : 0 ≤ x3 ∧ x3 ≤ 5) : ∀ (j : Nat) (ds : List Int) (n : Nat), (∀ c ∈ ds, 1 ≤ c ∧ c ≤ 26) → q_n27 ds ≤ 1000000000 → j < ds.length → j < n → j ≤ 6 → fX12_letter_102 n x3 (q_n27 ds) (x3 + (j : Int)) M = some (ds.getD j 0, M) := by
  intro j
  induction j with
  | zero =>
    intro ds n h hb hj hn _
    match ds, n, hj, hn with
    | c :: ds, n + 1, _, _ =>
      have h1 := h c (List.mem_cons_self)
      have h0 := n27_p ds (fun x hx => h x (List.mem_cons_of_mem _ hx))
      have e : q_n27 (c :: ds) = c + 27 * q_n27 ds := rfl
      rw [e] at hb ⊢
      rw [fX12_letter_102, n_w (a := x3) (by omega) (by omega), n_w (by omega) (by omega), if_neg (by omega), n_lrem (by omega) (by omega) (by decide) (by decide), n_tm (by omega), show (c + 27 * q_n27 ds) % 27 = c from by omega]
      rfl
  | succ j ih =>
    intro ds n h hb hj hn hj6
    match ds, n, hj, hn with
    | c :: ds, n + 1, hj, hn =>
      have h1 := h c (List.mem_cons_self)
      have h0 := n27_p ds (fun x hx => h x (List.mem_cons_of_mem _ hx))
      have e : q_n27 (c :: ds) = c + 27 * q_n27 ds := rfl
      rw [e] at hb ⊢
      rw [List.length_cons] at hj
      rw [fX12_letter_102, n_w (a := x3) (by omega) (by omega), n_w (by omega) (by omega), if_pos (by omega)]
      simp only [q_let]
      rw [n_ldiv (by omega) (by omega) (by decide) (by decide), n_td (by omega), show (c + 27 * q_n27 ds) / 27 = q_n27 ds from by omega, show x3 + ((j + 1 : Nat) : Int) + -1 = x3 + (j : Int) from by omega]
      rw [ih ds n (fun x hx => h x (List.mem_cons_of_mem _ hx)) (by omega) (by omega) (by omega) (by omega)]
      rfl
theorem n27_b : ∀ ds : List Int, (∀ c ∈ ds, 1 ≤ c ∧ c ≤ 26) → q_n27 ds + 1 ≤ 27 ^ ds.length := by
  intro ds
  induction ds with
  | nil => intro _; decide
  | cons c ds ih =>
    intro h
    have h1 := h c (List.mem_cons_self)
    have h2 := ih (fun x hx => h x (List.mem_cons_of_mem _ hx))
    show c + 27 * q_n27 ds + 1 ≤ _
    rw [List.length_cons, Int.pow_succ]
    omega
theorem n32_d : ∀ (cs : List Int) (k : Nat), (∀ c ∈ cs, 1 ≤ c ∧ c ≤ 26) → cs.length ≤ 6 → k ≤ 5 → 0 ≤ q_n32 cs ∧ q_n32 cs ≤ 1073741823 ∧ q_n32 cs / 2 ^ (5 * k) % 32 = cs.getD k 0 := by
  intro cs k h hl hk
  have hk' : k = 0 ∨ k = 1 ∨ k = 2 ∨ k = 3 ∨ k = 4 ∨ k = 5 := by omega
  match cs, h, hl with
  | [], _, _ => rcases hk' with rfl | rfl | rfl | rfl | rfl | rfl <;> decide
  | [a], h, _ =>
    have ha := h a (by simp)
    rcases hk' with rfl | rfl | rfl | rfl | rfl | rfl <;> simp [q_n32] <;> omega
  | [a, b], h, _ =>
    have ha := h a (by simp)
    have hb := h b (by simp)
    rcases hk' with rfl | rfl | rfl | rfl | rfl | rfl <;> simp [q_n32] <;> omega
  | [a, b, c], h, _ =>
    have ha := h a (by simp)
    have hb := h b (by simp)
    have hc := h c (by simp)
    rcases hk' with rfl | rfl | rfl | rfl | rfl | rfl <;> simp [q_n32] <;> omega
  | [a, b, c, d], h, _ =>
    have ha := h a (by simp)
    have hb := h b (by simp)
    have hc := h c (by simp)
    have hd := h d (by simp)
    rcases hk' with rfl | rfl | rfl | rfl | rfl | rfl <;> simp [q_n32] <;> omega
  | [a, b, c, d, e], h, _ =>
    have ha := h a (by simp)
    have hb := h b (by simp)
    have hc := h c (by simp)
    have hd := h d (by simp)
    have he := h e (by simp)
    rcases hk' with rfl | rfl | rfl | rfl | rfl | rfl <;> simp [q_n32] <;> omega
  | [a, b, c, d, e, f], h, _ =>
    have ha := h a (by simp)
    have hb := h b (by simp)
    have hc := h c (by simp)
    have hd := h d (by simp)
    have he := h e (by simp)
    have hf := h f (by simp)
    rcases hk' with rfl | rfl | rfl | rfl | rfl | rfl <;> simp [q_n32] <;> omega
  | _ :: _ :: _ :: _ :: _ :: _ :: _ :: _, _, hl => simp at hl
theorem c_letter {x y : Int} (h : r_name x y) {k : Nat} (hk : k ≤ 5) (M : q_Mem) : ∃ v, fX11_letterOf x (k : Int) M = some (v, M) ∧ fX12_letter_67 q_FU (k : Int) y 0 y M = some (v, M) := by
  obtain ⟨cs, h1, h2, h3, rfl, rfl⟩ := h
  refine ⟨cs.getD k 0, ?_, ?_⟩
  · obtain ⟨a1, a2, a3⟩ := n32_d cs k h3 h1 hk
    unfold fX11_letterOf
    rw [n_and31, n_shr (by omega) (by omega) (by omega) (by omega), show ((5 : Int) * (k : Int)).toNat = 5 * k from by omega, a3]
  · have h3' : ∀ c ∈ cs.reverse, 1 ≤ c ∧ c ≤ 26 := fun c hc => h3 c (List.mem_reverse.mp hc)
    have hb := n27_b cs.reverse h3'
    have hp : (27 : Int) ^ cs.reverse.length ≤ 27 ^ 6 := by
      have : 27 ^ cs.reverse.length ≤ 27 ^ 6 := Nat.pow_le_pow_right (by decide) (by rw [List.length_reverse]; exact h1)
      have h3 : ((27 ^ cs.reverse.length : Nat) : Int) ≤ ((27 ^ 6 : Nat) : Int) := Int.ofNat_le.mpr this
      rw [Int.natCast_pow] at h3
      exact h3
    have hp2 : (27 : Int) ^ 6 = 387420489 := by decide
    rw [l_67 cs.reverse q_FU 0 h3' (by omega) (by rw [List.length_reverse]; unfold q_FU; omega), List.length_reverse, n_w (a := (k : Int)) (by omega) (by omega), n_w (by omega) (by omega)]
    by_cases c : k < cs.length
    · rw [if_pos (by omega), show (0 : Int) + (cs.length : Int) - 1 = (k : Int) + ((cs.length - 1 - k : Nat) : Int) from by omega, l_102 (by omega) _ cs.reverse q_FU h3' (by omega) (by rw [List.length_reverse]; omega) (by unfold q_FU; omega) (by omega)]
      congr 2
      rw [List.getD_eq_getElem?_getD, List.getD_eq_getElem?_getD, List.getElem?_reverse (by omega), show cs.length - 1 - (cs.length - 1 - k) = k from by omega]
    · rw [if_neg (by omega), List.getD_eq_getElem?_getD, List.getElem?_eq_none (by omega)]
      rfl
theorem st_letter {M : q_Mem} (hS : q_St M) (x1 x2 x3 : Int) (h1 : q_R x1) (h2 : q_R x2) (h3 : q_R x3) : q_Step M (fX11_letter x1 x2 x3 M) (fun M1 => fX12_letter x1 x2 x3 M1) := by
  obtain ⟨t, L, A, hI⟩ := id hS
  have w := j_wf hI.1
  have h1' := h1
  have h3' := h3
  unfold q_R at h1' h3'
  obtain ⟨ht, -, hT, -, hL⟩ := j_t hI.1
  obtain ⟨-, -, -, -, -, -, -, -, -, rs, rc, -⟩ := hI.1.2.2.1
  have e5 : (5 : Int) = ((5 : Nat) : Int) := rfl
  by_cases ck : 0 ≤ x3 ∧ x3 ≤ 5
  · obtain ⟨k, rfl, hk⟩ := nat_of' ck
    by_cases c0 : x1 = 0 ∧ (0 ≤ x2 ∧ x2 < A 123 3)
    · obtain ⟨c0, c1⟩ := c0
      obtain ⟨s, rfl, hs⟩ := nat_of c1
      obtain ⟨-, -, -, -, r5⟩ := rs s hs
      obtain ⟨v, v1, v2⟩ := c_letter r5 (k := k) (by omega) M
      subst c0
      refine st_same hS (r := v) (r' := v) ?_ ?_ rfl
      · unfold fX11_letter
        rw [n_w (a := (k : Int)) (by omega) (by omega), show q_w 6 = 6 from rfl, if_neg (by omega), if_pos (by omega), if_pos (by decide), c_isStall hI.1 h2, b_some, f_ite, if_pos c1]
        simp only [q_let]
        rw [j_told hI.1, fq2 ht, b_ld (by omega) (by omega) (by decide), Option.bind_some, Int.toNat_natCast, hL 1 s (by decide), v1]
        rfl
      · show fX12_letter _ _ _ M = _
        unfold fX12_letter
        rw [f_isInW h1 (by decide) (by decide) (by decide) (by decide), b_some, f_ite, if_pos (by omega), b_ld (by decide) (by decide) (by decide), Option.bind_some, show (3 + 0 : Int).toNat = 3 from rfl, hI.1.2.1 123 3 rfl, n_w (a := A 123 3 - 1) (by omega) (by omega), f_isInW h2 (by decide) (by decide) (by omega) (by omega), b_some, f_ite, if_pos (by omega), f_isInW h3 (by decide) (by decide) (by decide) (by decide), b_some, f_ite, if_pos (by omega), b_ld (by omega) (by omega) (by decide), Option.bind_some, show ((16 : Int) + 8 * 0 + (s : Int)).toNat = 16 + s from by omega, hI.1.2.1 124 _ (decide_eq_true (by omega)), v2]
    by_cases c1 : x1 = 1 ∧ (0 ≤ x2 ∧ x2 < A 123 4)
    · obtain ⟨c1, c2⟩ := c1
      obtain ⟨s, rfl, hs⟩ := nat_of c2
      obtain ⟨-, -, r5⟩ := rc s hs
      obtain ⟨v, v1, v2⟩ := c_letter r5 (k := k) (by omega) M
      subst c1
      refine st_same hS (r := v) (r' := v) ?_ ?_ rfl
      · unfold fX11_letter fX11_letter_38
        rw [n_w (a := (k : Int)) (by omega) (by omega), show q_w 6 = 6 from rfl, if_neg (by omega), if_pos (by omega), if_neg (by decide), if_pos rfl, c_isCoin hI.1 h2, b_some, f_ite, if_pos c2]
        simp only [q_let]
        rw [j_told hI.1, fq8 ht, b_ld (by omega) (by omega) (by decide), Option.bind_some, Int.toNat_natCast, hL 6 s (by decide), v1]
        rfl
      · show fX12_letter _ _ _ M = _
        unfold fX12_letter
        rw [f_isInW h1 (by decide) (by decide) (by decide) (by decide), b_some, f_ite, if_pos (by omega), b_ld (by decide) (by decide) (by decide), Option.bind_some, show (3 + 1 : Int).toNat = 4 from rfl, hI.1.2.1 123 4 rfl, n_w (a := A 123 4 - 1) (by omega) (by omega), f_isInW h2 (by decide) (by decide) (by omega) (by omega), b_some, f_ite, if_pos (by omega), f_isInW h3 (by decide) (by decide) (by decide) (by decide), b_some, f_ite, if_pos (by omega), b_ld (by omega) (by omega) (by decide), Option.bind_some, show ((16 : Int) + 8 * 1 + (s : Int)).toNat = 24 + s from by omega, hI.1.2.1 124 _ (decide_eq_true (by omega)), v2]
    refine st_q hI (-1) ?_ ?_
    · have e38 : q_P (fX11_letter_38 x1 x2 (k : Int) M) (fun r M' => r = -1 ∧ q_J t M' L A) := by
        unfold fX11_letter_38
        rw [n_w h1'.1 h1'.2, show q_w 1 = 1 from rfl]
        refine w_ite (fun c => ?_) (fun _ => w_some.mpr ⟨rfl, hI.1⟩)
        rw [c_isCoin hI.1 h2, b_some, f_ite, if_neg (fun h => c1 ⟨c, h⟩)]
        exact w_some.mpr ⟨rfl, hI.1⟩
      unfold fX11_letter
      rw [n_w (a := (k : Int)) (by omega) (by omega), show q_w 6 = 6 from rfl, if_neg (by omega), if_pos (by omega), n_w h1'.1 h1'.2]
      refine w_ite (fun c => ?_) (fun _ => e38)
      rw [c_isStall hI.1 h2, b_some, f_ite, if_neg (fun h => c0 ⟨c, h⟩)]
      exact e38
    · intro M1 hJ
      unfold fX12_letter
      rw [f_isInW h1 (by decide) (by decide) (by decide) (by decide), b_some, f_ite]
      refine w_ite (fun c => ?_) (fun _ => w_some.mpr ⟨rfl, hJ⟩)
      rw [b_ld (by omega) (by omega) (by decide), Option.bind_some]
      have hx : x1 = 0 ∨ x1 = 1 := by omega
      rcases hx with rfl | rfl
      · rw [show (3 + 0 : Int).toNat = 3 from rfl, hJ.2.1 123 3 rfl, n_w (a := A 123 3 - 1) (by omega) (by omega), f_isInW h2 (by decide) (by decide) (by omega) (by omega), b_some, f_ite, if_neg (by omega)]
        exact w_some.mpr ⟨rfl, hJ⟩
      · rw [show (3 + 1 : Int).toNat = 4 from rfl, hJ.2.1 123 4 rfl, n_w (a := A 123 4 - 1) (by omega) (by omega), f_isInW h2 (by decide) (by decide) (by omega) (by omega), b_some, f_ite, if_neg (by omega)]
        exact w_some.mpr ⟨rfl, hJ⟩
  · refine st_q hI (-1) ?_ ?_
    · unfold fX11_letter
      rw [n_w h3'.1 h3'.2, show q_w 6 = 6 from rfl]
      refine w_ite (fun c => w_some.mpr ⟨rfl, hI.1⟩) (fun c => ?_)
      rw [if_neg (by omega)]
      exact w_some.mpr ⟨rfl, hI.1⟩
    · intro M1 hJ
      unfold fX12_letter
      rw [f_isInW h1 (by decide) (by decide) (by decide) (by decide), b_some, f_ite]
      refine w_ite (fun c => ?_) (fun _ => w_some.mpr ⟨rfl, hJ⟩)
      rw [b_ld (by omega) (by omega) (by decide), Option.bind_some]
      have hb : -9223372036854775808 ≤ q_w (M1.2 123 (3 + x1).toNat - 1) ∧ q_w (M1.2 123 (3 + x1).toNat - 1) ≤ 9223372036854775807 := by
        have := n_wr (M1.2 123 (3 + x1).toNat - 1)
        omega
      rw [f_isInW h2 (by decide) (by decide) hb.1 hb.2, b_some, f_ite]
      refine w_ite (fun c => ?_) (fun _ => w_some.mpr ⟨rfl, hJ⟩)
      rw [f_isInW h3 (by decide) (by decide) (by decide) (by decide), b_some, f_ite, if_neg (by omega)]
      exact w_some.mpr ⟨rfl, hJ⟩
