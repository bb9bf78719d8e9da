/-! the day: what an act changes -/
def r_sj (L A : q_G) (d : Nat → Int) : Prop := r_dv A d ∧ (∀ k : Nat, (k : Int) < d 3 → L 11 k = d (4 + k)) ∧ (∀ k : Nat, (k : Int) < d 20 → L 12 k = d (21 + 3 * k) ∧ L 13 k = d (22 + 3 * k) ∧ L 14 k = d (23 + 3 * k))
theorem pc6_b (x : Int) : q_pc6 x ≤ 6 := by
  unfold q_pc6
  have := List.countP_le_length (p := fun i => x.toNat.testBit i) (l := List.range 6)
  rw [List.length_range] at this
  omega
theorem dv_cg {A : q_G} {d d' : Nat → Int} (hc : 0 ≤ A 123 5) (h : ∀ k, k < 141 → d' k = d k) (h0 : r_dv A d) : r_dv A d' := by
  obtain ⟨h1, h2, h3, h4, h5, h6⟩ := h0
  unfold r_dv
  rw [h 0 (by decide), h 1 (by decide), h 2 (by decide), h 3 (by decide), h 20 (by decide)]
  refine ⟨h1, h2, h3, h4, ?_, h6⟩
  intro k hk
  rw [h (4 + k) (by omega)]
  exact h5 k hk
theorem sj_cg {L A : q_G} {d d' : Nat → Int} (hc : 0 ≤ A 123 5) (h : ∀ k, k < 141 → d' k = d k) (h0 : r_sj L A d) : r_sj L A d' := by
  have h6 := h0.1.2.2.2.2.2
  have h4 := h0.1.2.2.2.1
  have h7 := pc6_b (d 2)
  refine ⟨dv_cg hc h h0.1, ?_, ?_⟩
  · intro k hk
    rw [h 3 (by decide)] at hk
    rw [h (4 + k) (by omega)]
    exact h0.2.1 k hk
  · intro k hk
    rw [h 20 (by decide)] at hk
    rw [h (21 + 3 * k) (by omega), h (22 + 3 * k) (by omega), h (23 + 3 * k) (by omega)]
    exact h0.2.2 k hk
theorem ring_mono {L A : q_G} (h : r_ring L A) : ∀ j : Nat, (j : Int) ≤ A 94 65 → s_at A j 3 ≤ A 131 3 ∧ s_at A j 20 ≤ A 131 20 := by
  obtain ⟨-, -, -, -, -, g6⟩ := h
  intro j
  induction j with
  | zero => intro _; exact ⟨Int.le_refl _, Int.le_refl _⟩
  | succ j ih =>
    intro hj
    have h1 := ih (by omega)
    obtain ⟨h2, h3, -⟩ := g6 j (by omega)
    omega
theorem ring_push {L A L' A' : q_G} {p q : Nat} (h : r_ring L A) (hc : 0 ≤ A' 123 5) (ef : ∀ d, r_dv A d → r_dv A' d)
    (hp : L 10 10 = (p : Int)) (hq : A 94 66 = (q : Int))
    (a1 : A' 94 66 = (((q + 1) % 20 : Nat) : Int)) (a2 : A' 94 65 = if A 94 65 < 20 then A 94 65 + 1 else A 94 65)
    (a3 : ∀ k, k < 141 → A' 139 (141 * ((q + 1) % 20) + k) = A 131 k)
    (a4 : ∀ r k, r < 20 → r ≠ (q + 1) % 20 → k < 141 → A' 139 (141 * r + k) = A 139 (141 * r + k))
    (l1 : L' 10 10 = (((p + 1) % 20 : Nat) : Int)) (l2 : L' 10 11 = A' 94 65)
    (l3 : ∀ k, k < 4 → L' (16 + p) k = A 131 k) (l4 : L' (16 + p) 4 = A 131 20)
    (l5 : ∀ r k, r < 20 → r ≠ p → L' (16 + r) k = L (16 + r) k)
    (d1 : r_sj L' A' (A' 131)) (d2 : A 131 3 ≤ A' 131 3) (d3 : A 131 20 ≤ A' 131 20)
    (d4 : ∀ k : Nat, (k : Int) < A 131 3 → L' 11 k = L 11 k)
    (d5 : ∀ k : Nat, (k : Int) < A 131 20 → L' 12 k = L 12 k ∧ L' 13 k = L 13 k ∧ L' 14 k = L 14 k) : r_ring L' A' := by
  have hm := ring_mono h
  obtain ⟨g1, g2, g3, g4, g5, g6⟩ := h
  have hu : A' 94 65 ≤ A 94 65 + 1 ∧ A' 94 65 ≤ 20 ∧ 0 ≤ A' 94 65 := by
    rw [a2]
    by_cases c : A 94 65 < 20
    · rw [if_pos c]; omega
    · rw [if_neg c]; omega
  have sjt : ∀ j : Nat, (j : Int) ≤ A 94 65 → r_sj L' A' (s_at A j) := by
    intro j hj
    obtain ⟨x1, x2, x3⟩ := g5 j hj
    obtain ⟨m1, m2⟩ := hm j hj
    refine ⟨ef _ x1, ?_, ?_⟩
    · intro k hk
      rw [d4 k (by omega)]
      exact x2 k hk
    · intro k hk
      obtain ⟨y1, y2, y3⟩ := d5 k (by omega)
      rw [y1, y2, y3]
      exact x3 k hk
  have at' : ∀ i : Nat, i < 20 → ∀ k, k < 141 → s_at A' (i + 1) k = s_at A i k := by
    intro i hi k hk
    show A' 139 (141 * (((A' 94 66).toNat + 20 - i) % 20) + k) = _
    rw [a1, Int.toNat_natCast]
    cases i with
    | zero =>
      rw [show ((q + 1) % 20 + 20 - 0) % 20 = (q + 1) % 20 from by omega]
      exact a3 k hk
    | succ i =>
      rw [a4 _ k (by omega) (by omega) hk]
      show _ = A 139 (141 * (((A 94 66).toNat + 20 - i) % 20) + k)
      rw [hq, Int.toNat_natCast, show ((q + 1) % 20 + 20 - (i + 1)) % 20 = (q + 20 - i) % 20 from by omega]
  refine ⟨l2, ⟨hu.2.2, hu.2.1⟩, ?_, ?_, ?_, ?_⟩
  · rw [l1]; omega
  · rw [a1]; omega
  · intro j hj
    cases j with
    | zero => exact d1
    | succ i => exact sj_cg hc (at' i (by omega)) (sjt i (by omega))
  · intro i hi
    have hi20 : i < 20 := by omega
    rw [at' i hi20 3 (by decide), at' i hi20 20 (by decide), l1, Int.toNat_natCast]
    cases i with
    | zero =>
      refine ⟨d2, d3, ?_, ?_⟩
      · intro k hk
        rw [show ((p + 1) % 20 + 19 - 0) % 20 = p from by omega, l3 k hk, at' 0 (by decide) k (by omega)]
        rfl
      · rw [show ((p + 1) % 20 + 19 - 0) % 20 = p from by omega, l4]
        rfl
    | succ i =>
      obtain ⟨x1, x2, x3, x4⟩ := g6 i (by omega)
      rw [hp, Int.toNat_natCast] at x3 x4
      rw [at' i (by omega) 3 (by decide), at' i (by omega) 20 (by decide), show ((p + 1) % 20 + 19 - (i + 1)) % 20 = (p + 19 - i) % 20 from by omega]
      refine ⟨x1, x2, ?_, ?_⟩
      · intro k hk
        rw [l5 _ k (by omega) (by omega), x3 k hk, at' (i + 1) hi20 k (by omega)]
      · rw [l5 _ 4 (by omega) (by omega), x4]
theorem ring_pop {L A L' A' : q_G} {p q : Nat} (h : r_ring L A) (hc : 0 ≤ A' 123 5) (ef : ∀ d, r_dv A d → r_dv A' d) (hu1 : 1 ≤ A 94 65)
    (hp : L 10 10 = (p : Int)) (hq : A 94 66 = (q : Int))
    (a1 : A' 94 66 = (((q + 19) % 20 : Nat) : Int)) (a2 : A' 94 65 = A 94 65 - 1)
    (a3 : ∀ k, k < 141 → A' 131 k = A 139 (141 * q + k)) (a4 : A' 139 = A 139)
    (l1 : L' 10 10 = (((p + 19) % 20 : Nat) : Int)) (l2 : L' 10 11 = A 94 65 - 1)
    (l5 : ∀ a k, 11 ≤ a → a ≤ 35 → a ≠ 15 → L' a k = L a k) : r_ring L' A' := by
  obtain ⟨g1, g2, g3, g4, g5, g6⟩ := h
  have e11 : L' 11 = L 11 := funext (fun k => l5 11 k (by decide) (by decide) (by decide))
  have e12 : L' 12 = L 12 := funext (fun k => l5 12 k (by decide) (by decide) (by decide))
  have e13 : L' 13 = L 13 := funext (fun k => l5 13 k (by decide) (by decide) (by decide))
  have e14 : L' 14 = L 14 := funext (fun k => l5 14 k (by decide) (by decide) (by decide))
  have sjt : ∀ j : Nat, (j : Int) ≤ A 94 65 → r_sj L' A' (s_at A j) := by
    intro j hj
    obtain ⟨x1, x2, x3⟩ := g5 j hj
    unfold r_sj
    rw [e11, e12, e13, e14]
    exact ⟨ef _ x1, x2, x3⟩
  have at' : ∀ i : Nat, i < 20 → ∀ k, k < 141 → s_at A' i k = s_at A (i + 1) k := by
    intro i hi k hk
    show _ = A 139 (141 * (((A 94 66).toNat + 20 - i) % 20) + k)
    rw [hq, Int.toNat_natCast]
    cases i with
    | zero =>
      rw [show (q + 20 - 0) % 20 = q from by omega]
      exact a3 k hk
    | succ i =>
      show A' 139 (141 * (((A' 94 66).toNat + 20 - i) % 20) + k) = _
      rw [a1, a4, Int.toNat_natCast, show ((q + 19) % 20 + 20 - i) % 20 = (q + 20 - (i + 1)) % 20 from by omega]
  refine ⟨by rw [l2, a2], ?_, ?_, ?_, ?_, ?_⟩
  · rw [a2]; omega
  · rw [l1]; omega
  · rw [a1]; omega
  · intro j hj
    rw [a2] at hj
    exact sj_cg hc (at' j (by omega)) (sjt (j + 1) (by omega))
  · intro i hi
    rw [a2] at hi
    obtain ⟨x1, x2, x3, x4⟩ := g6 (i + 1) (by omega)
    rw [hp, Int.toNat_natCast] at x3 x4
    rw [at' i (by omega) 3 (by decide), at' i (by omega) 20 (by decide), at' (i + 1) (by omega) 3 (by decide), at' (i + 1) (by omega) 20 (by decide), l1, Int.toNat_natCast, show ((p + 19) % 20 + 19 - i) % 20 = (p + 19 - (i + 1)) % 20 from by omega]
    refine ⟨x1, x2, ?_, ?_⟩
    · intro k hk
      rw [l5 _ k (by omega) (by omega) (by omega), x3 k hk, at' (i + 1) (by omega) k (by omega)]
    · rw [l5 _ 4 (by omega) (by omega) (by omega), x4]
theorem ring_clear {L' A' : q_G} (a1 : 0 ≤ A' 94 66 ∧ A' 94 66 < 20) (a2 : A' 94 65 = 0) (l1 : 0 ≤ L' 10 10 ∧ L' 10 10 < 20) (l2 : L' 10 11 = 0) (d1 : r_sj L' A' (A' 131)) : r_ring L' A' := by
  refine ⟨by rw [l2, a2], by rw [a2]; decide, l1, a1, ?_, ?_⟩
  · intro j hj
    rw [a2] at hj
    have : j = 0 := by omega
    subst this
    exact d1
  · intro i hi
    rw [a2] at hi
    omega
def v_dc (a j : Nat) : Prop := a = 10 ∨ (11 ≤ a ∧ a ≤ 35 ∧ a ≠ 15) ∨ a = 89 ∨ a = 131 ∨ a = 139 ∨ (a = 94 ∧ (j = 65 ∨ j = 66 ∨ j = 67)) ∨ (a = 94 ∧ (j = 48 ∨ j = 50 ∨ j = 51 ∨ j = 52 ∨ j = 97)) ∨ a = 164
theorem l_past {tl : Int} {i k : Nat} (h : i < 20) : l_obs tl (16 + i) k = true := by
  have hi : i = 0 ∨ i = 1 ∨ i = 2 ∨ i = 3 ∨ i = 4 ∨ i = 5 ∨ i = 6 ∨ i = 7 ∨ i = 8 ∨ i = 9 ∨ i = 10 ∨ i = 11 ∨ i = 12 ∨ i = 13 ∨ i = 14 ∨ i = 15 ∨ i = 16 ∨ i = 17 ∨ i = 18 ∨ i = 19 := by omega
  rcases hi with rfl | rfl | rfl | rfl | rfl | rfl | rfl | rfl | rfl | rfl | rfl | rfl | rfl | rfl | rfl | rfl | rfl | rfl | rfl | rfl <;> rfl
theorem m_cloud (A : q_G) (M' : q_Mem) (m : Int) : s_cloud (m_A A M') m = s_cloud M'.2 m := by
  have e1 : m_A A M' 123 5 = M'.2 123 5 := rfl
  have e2 : m_A A M' 131 = M'.2 131 := rfl
  have e3 : ∀ k, m_A A M' 127 (16 + 2 * k) = M'.2 127 (16 + 2 * k) := fun k => if_pos (decide_eq_true (by omega))
  have e4 : ∀ k, m_A A M' 127 (17 + 2 * k) = M'.2 127 (17 + 2 * k) := fun k => if_pos (decide_eq_true (by omega))
  unfold s_cloud
  simp only [e1, e2, e3, e4]
theorem m_ring {L A : q_G} {M' : q_Mem} (h : r_ring M'.2 M'.2) : r_ring (m_L L M') (m_A A M') := by
  have e1 : ∀ j, s_at (m_A A M') j = s_at M'.2 j := by
    intro j
    cases j with
    | zero => rfl
    | succ j => rfl
  have e2 : ∀ d, r_dv (m_A A M') d ↔ r_dv M'.2 d := fun d => Iff.rfl
  have e3 : ∀ i k, m_L L M' (16 + i % 20) k = M'.2 (16 + i % 20) k := fun i k => if_pos (l_past (by omega))
  obtain ⟨g1, g2, g3, g4, g5, g6⟩ := h
  refine ⟨g1, g2, g3, g4, ?_, ?_⟩
  · intro j hj
    rw [e1]
    exact g5 j hj
  · intro i hi
    obtain ⟨x1, x2, x3, x4⟩ := g6 i hi
    rw [e1, e1]
    refine ⟨x1, x2, ?_, ?_⟩
    · intro k hk
      rw [e3]
      exact x3 k hk
    · rw [e3]
      exact x4
theorem u_dc {t : Nat} {M M' : q_Mem} {L A : q_G} (h : q_I t M L A) (hk : ∀ a j, ¬ v_dc a j → M'.2 a j = M.2 a j)
    (d1 : M'.2 10 0 = M'.2 131 0) (d2 : M'.2 10 1 = M'.2 131 1) (d3 : M'.2 10 2 = M'.2 131 2) (d4 : M'.2 10 3 = M'.2 131 3)
    (d6 : ∀ m : Nat, m ≤ 400 → M'.2 89 m = if s_cloud M'.2 m then 1 else 0)
    (s1 : M'.2 10 12 = M'.2 94 67 ∧ 0 ≤ M'.2 94 67 ∧ M'.2 94 67 < 2147483648) (k1 : M'.2 10 5 = M'.2 131 20) (hr : r_ring M'.2 M'.2) : q_St M' := by
  obtain ⟨hJ, hR, hW⟩ := h
  have h0 : M'.2 0 11 = M.2 0 11 := hk _ _ (by unfold v_dc; omega)
  have hL : ∀ a j, ¬ v_dc a j → m_L L M' a j = L a j := fun a j h1 => m_Le hJ h0 (hk a j h1)
  have hA : ∀ a j, ¬ v_dc a j → m_A A M' a j = A a j := fun a j h1 => m_Ae hJ (hk a j h1)
  have hLc : ∀ a, (∀ j, ¬ v_dc a j) → m_L L M' a = L a := fun a h1 => funext (fun j => hL a j (h1 j))
  have hAc : ∀ a, (∀ j, ¬ v_dc a j) → m_A A M' a = A a := fun a h1 => funext (fun j => hA a j (h1 j))
  have hF := u_fair hJ hW (fun a j hv => hk a j (by unfold v_fair at hv; unfold v_dc; omega))
  have hsj : r_sj M'.2 M'.2 (M'.2 131) := hr.2.2.2.2.1 0 (by have := hr.2.1; omega)
  refine u_St hF ⟨⟨d1, d2, d3, d4, hsj.2.1, ?_⟩, hsj.1⟩ ?_
  · intro m hm
    rw [m_cloud]
    exact d6 m hm
  obtain ⟨j1, j2, j3, j4, j5, j6, j7, j8⟩ := hR
  refine ⟨?_, ?_, ?_, ?_, s1, ?_, k1, m_ring hr⟩
  · rw [hL 1 1 (by unfold v_dc; omega), hLc 2 (by unfold v_dc; omega), hA 94 1 (by unfold v_dc; omega), hAc 95 (by unfold v_dc; omega)]
    exact j1
  · rw [hLc 56 (by unfold v_dc; omega), hAc 96 (by unfold v_dc; omega)]
    exact j2
  · rw [hL 0 14 (by unfold v_dc; omega), hL 0 15 (by unfold v_dc; omega), hA 94 7 (by unfold v_dc; omega), hA 94 8 (by unfold v_dc; omega)]
    exact j3
  · rw [hL 3 1 (by unfold v_dc; omega), hLc 4 (by unfold v_dc; omega), hA 94 101 (by unfold v_dc; omega), hAc 165 (by unfold v_dc; omega)]
    exact j4
  · rw [hLc 36 (by unfold v_dc; omega), hLc 37 (by unfold v_dc; omega), hLc 38 (by unfold v_dc; omega), hLc 39 (by unfold v_dc; omega), hA 94 62 (by unfold v_dc; omega), hAc 138 (by unfold v_dc; omega), hAc 123 (by unfold v_dc; omega)]
    exact j6
/-- one's own memory as the snapshot -/
theorem i_self {t : Nat} {M : q_Mem} {L A : q_G} (h : q_I t M L A) : r_ring M.2 M.2 ∧ (M.2 10 12 = M.2 94 67 ∧ 0 ≤ M.2 94 67 ∧ M.2 94 67 < 2147483648) ∧ M.2 10 5 = M.2 131 20 ∧ (∀ m : Nat, m ≤ 400 → M.2 89 m = if s_cloud M.2 m then 1 else 0) := by
  obtain ⟨hJ, hR, hW⟩ := h
  have eA : ∀ a k, a_core a k = true → M.2 a k = A a k := hJ.2.1
  have eL : ∀ a k, l_obs (L 0 11) a k = true → M.2 a k = L a k := hJ.1
  have a131 : M.2 131 = A 131 := funext (fun k => eA 131 k rfl)
  have a139 : M.2 139 = A 139 := funext (fun k => eA 139 k rfl)
  have a122 : M.2 122 3 = A 122 3 := eA 122 3 rfl
  have a1233 : M.2 123 3 = A 123 3 := eA 123 3 rfl
  have a1235 : M.2 123 5 = A 123 5 := eA 123 5 rfl
  have a65 : M.2 94 65 = A 94 65 := eA 94 65 rfl
  have a66 : M.2 94 66 = A 94 66 := eA 94 66 rfl
  have l11 : M.2 11 = L 11 := funext (fun k => eL 11 k rfl)
  have l12 : M.2 12 = L 12 := funext (fun k => eL 12 k rfl)
  have l13 : M.2 13 = L 13 := funext (fun k => eL 13 k rfl)
  have l14 : M.2 14 = L 14 := funext (fun k => eL 14 k rfl)
  have l10 : M.2 10 = L 10 := funext (fun k => eL 10 k rfl)
  have lp : ∀ i, M.2 (16 + i % 20) = L (16 + i % 20) := fun i => funext (fun k => eL _ k (l_past (by omega)))
  have e1 : ∀ j, s_at M.2 j = s_at A j := by
    intro j
    cases j with
    | zero => exact a131
    | succ j =>
      funext k
      show M.2 139 _ = A 139 _
      rw [a139, a66]
  have e2 : ∀ d, r_dv M.2 d ↔ r_dv A d := by
    intro d
    unfold r_dv
    rw [a122, a1233, a1235]
  refine ⟨?_, ?_, ?_, ?_⟩
  · have hr := hR.2.2.2.2.2.2.2
    unfold r_ring at hr ⊢
    simp only [e1, e2, l10, l11, l12, l13, l14, a65, a66, lp]
    exact hr
  · rw [l10, eA 94 67 rfl]
    exact hR.2.2.2.2.1
  · rw [l10, a131]
    exact hR.2.2.2.2.2.2.1
  · intro m hm
    have e3 : ∀ k, M.2 127 (16 + 2 * k) = A 127 (16 + 2 * k) := fun k => eA 127 _ (decide_eq_true (by omega))
    have e4 : ∀ k, M.2 127 (17 + 2 * k) = A 127 (17 + 2 * k) := fun k => eA 127 _ (decide_eq_true (by omega))
    have e5 : s_cloud M.2 m = s_cloud A m := by
      unfold s_cloud
      simp only [a1235, a131, e3, e4]
    rw [e5, eL 89 m rfl]
    exact hJ.2.2.2.2.1.2.2.2.2.2 m hm
