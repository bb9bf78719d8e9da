/-! queries: what both sides read off the relation -/
theorem j_wf {t : Nat} {M : q_Mem} {L A : q_G} (h : q_J t M L A) : (0 ≤ A 122 3 ∧ A 122 3 ≤ 400) ∧ (0 ≤ A 123 3 ∧ A 123 3 ≤ 6) ∧ (0 ≤ A 123 4 ∧ A 123 4 ≤ 8) ∧ (0 ≤ A 123 5 ∧ A 123 5 ≤ 8) := by
  obtain ⟨w0, w1, w2, w3, w4, -⟩ := h.2.2.2.1
  rcases w0 with ⟨-, w0, -⟩ | ⟨-, w0⟩ <;> omega
theorem j_fair {t : Nat} {M : q_Mem} {L A : q_G} (h : q_J t M L A) : (A 94 47 = 0 ∧ A 122 3 = 0 ∧ A 123 3 = 0 ∧ A 123 4 = 0 ∧ A 123 5 = 0) ∨ (A 94 47 = 1 ∧ 10 ≤ A 122 3) := h.2.2.2.1.1
theorem j_told {t : Nat} {M : q_Mem} {L A : q_G} (h : q_J t M L A) : (M.2 0 11).toNat = t := by
  obtain ⟨-, -, -, h1, -⟩ := j_t h
  rw [h1]
  rfl
theorem j_f {t : Nat} {M : q_Mem} {L A : q_G} (h : q_J t M L A) : M.2 t 0 = A 122 3 ∧ M.2 t 1 = A 123 3 ∧ M.2 t 7 = A 123 4 ∧ M.2 t 11 = A 123 5 ∧ M.2 t 16 = A 122 4 ∧ M.2 t 17 = A 122 5 := by
  obtain ⟨-, -, -, -, h1⟩ := j_t h
  obtain ⟨-, -, -, f1, f2, f3, f4, f5, f6, -⟩ := h.2.2.1
  have e : ∀ k, M.2 t k = L t k := fun k => h1 0 k (by decide)
  rw [e, e, e, e, e, e]
  exact ⟨f1, f2, f3, f4, f5, f6⟩
theorem j_d {t : Nat} {M : q_Mem} {L A : q_G} (h : q_J t M L A) : M.2 10 0 = A 131 0 ∧ M.2 10 1 = A 131 1 ∧ M.2 10 2 = A 131 2 ∧ M.2 10 3 = A 131 3 := by
  obtain ⟨d1, d2, d3, d4, -⟩ := h.2.2.2.2.1
  rw [h.1 10 0 rfl, h.1 10 1 rfl, h.1 10 2 rfl, h.1 10 3 rfl]
  exact ⟨d1, d2, d3, d4⟩
theorem j_db {t : Nat} {M : q_Mem} {L A : q_G} (h : q_J t M L A) : (0 ≤ A 131 0 ∧ A 131 0 ≤ A 122 3) ∧ (0 ≤ A 131 1 ∧ A 131 1 ≤ 99) ∧ (0 ≤ A 131 2 ∧ A 131 2 < 64) ∧ (0 ≤ A 131 3 ∧ A 123 5 + A 131 3 ≤ 16) ∧ (0 ≤ A 131 20 ∧ A 131 20 ≤ 6) := by
  obtain ⟨d1, d2, d3, d4, d5, d6⟩ := h.2.2.2.2.2.2
  obtain ⟨-, w2, -⟩ := j_wf h
  have h6 : (2 : Int) ^ (A 123 3).toNat ≤ 64 := by
    have : (A 123 3).toNat ≤ 6 := by omega
    have h2 : 2 ^ (A 123 3).toNat ≤ 2 ^ 6 := Nat.pow_le_pow_right (by decide) this
    have h3 : ((2 ^ (A 123 3).toNat : Nat) : Int) ≤ ((2 ^ 6 : Nat) : Int) := Int.ofNat_le.mpr h2
    rw [Int.natCast_pow] at h3
    exact h3
  have h7 : q_pc6 (A 131 2) ≤ 6 := by
    unfold q_pc6
    have := List.countP_le_length (p := fun i => (A 131 2).toNat.testBit i) (l := List.range 6)
    rw [List.length_range] at this
    omega
  exact ⟨d1, d2, ⟨d3.1, by omega⟩, d4, by omega⟩
theorem r_ld131 {t : Nat} {M : q_Mem} {L A : q_G} (h : q_J t M L A) {k : Int} (h0 : 0 ≤ k) (h1 : k < 141) : q_ld M 131 141 k = some (A 131 k.toNat) := by
  rw [b_ld h0 (by omega) (by decide), h.2.1 131 _ rfl]
theorem r_fm {t : Nat} {M : q_Mem} {L A : q_G} (h : q_J t M L A) : fX12_fairMinutes M = some (A 122 3, M) := by
  unfold fX12_fairMinutes
  rw [b_ld (by decide) (by decide) (by decide), Option.bind_some, show (3 : Int).toNat = 3 from rfl, h.2.1 122 3 rfl]
theorem r_sm {t : Nat} {M : q_Mem} {L A : q_G} (h : q_J t M L A) : fX12_stallMany M = some (A 123 3, M) := by
  unfold fX12_stallMany
  rw [b_ld (by decide) (by decide) (by decide), Option.bind_some, show (3 : Int).toNat = 3 from rfl, h.2.1 123 3 rfl]
theorem r_cm {t : Nat} {M : q_Mem} {L A : q_G} (h : q_J t M L A) : fX12_coinMany M = some (A 123 4, M) := by
  unfold fX12_coinMany
  rw [b_ld (by decide) (by decide) (by decide), Option.bind_some, show (4 : Int).toNat = 4 from rfl, h.2.1 123 4 rfl]
theorem c_isCoin {t : Nat} {M : q_Mem} {L A : q_G} (h : q_J t M L A) {x : Int} (hx : q_R x) : fX11_isCoin x M = some (if 0 ≤ x ∧ x < A 123 4 then 1 else 0, M) := by
  have w := j_wf h
  unfold q_R at hx
  unfold fX11_isCoin
  simp only [q_let]
  rw [j_told h, (j_f h).2.2.1, n_w hx.1 hx.2, n_w (by omega) (by omega)]
  by_cases c : x < 0
  · rw [if_pos c, if_neg (by omega)]
  · rw [if_neg c]
    by_cases c2 : x < A 123 4
    · rw [if_pos c2, if_pos (by omega)]
    · rw [if_neg c2, if_neg (by omega)]
theorem c_isStall {t : Nat} {M : q_Mem} {L A : q_G} (h : q_J t M L A) {x : Int} (hx : q_R x) : fX11_isStall x M = some (if 0 ≤ x ∧ x < A 123 3 then 1 else 0, M) := by
  have w := j_wf h
  unfold q_R at hx
  unfold fX11_isStall
  simp only [q_let]
  rw [j_told h, (j_f h).2.1, n_w hx.1 hx.2, n_w (by omega) (by omega)]
  by_cases c : x < 0
  · rw [if_pos c, if_neg (by omega)]
  · rw [if_neg c]
    by_cases c2 : x < A 123 3
    · rw [if_pos c2, if_pos (by omega)]
    · rw [if_neg c2, if_neg (by omega)]
theorem c_isMinute {t : Nat} {M : q_Mem} {L A : q_G} (h : q_J t M L A) {x : Int} (hx : q_R x) : fX11_isMinute x M = some (if 0 ≤ x ∧ x ≤ A 122 3 then 1 else 0, M) := by
  have w := j_wf h
  unfold q_R at hx
  unfold fX11_isMinute
  simp only [q_let]
  rw [j_told h, (j_f h).1, n_w hx.1 hx.2, n_w (by omega) (by omega)]
  by_cases c : x < 0
  · rw [if_pos c, if_neg (by omega)]
  · rw [if_neg c]
    by_cases c2 : A 122 3 < x
    · rw [if_pos c2, if_neg (by omega)]
    · rw [if_neg c2, if_pos (by omega)]
theorem f_01 {c : Prop} [Decidable c] {α : Type} {a b : α} : (if (if c then (1 : Int) else 0) = 0 ∨ (if c then (1 : Int) else 0) = 1 then a else b) = a := by
  by_cases h : c
  · rw [if_pos h, if_pos (Or.inr rfl)]
  · rw [if_neg h, if_pos (Or.inl rfl)]
theorem r_isCoin {t : Nat} {M : q_Mem} {L A : q_G} (h : q_J t M L A) {x : Int} (hx : q_R x) : fX12_isCoin x M = some (if 0 ≤ x ∧ x < A 123 4 then 1 else 0, M) := by
  have w := j_wf h
  unfold fX12_isCoin
  rw [r_cm h, b_some, n_w (a := A 123 4 - 1) (by omega) (by omega), f_isInW hx (by decide) (by decide) (by omega) (by omega), b_some, f_01]
  by_cases c : 0 ≤ x ∧ x < A 123 4
  · rw [if_pos c, if_pos (by omega)]
  · rw [if_neg c, if_neg (by omega)]
theorem r_isStall {t : Nat} {M : q_Mem} {L A : q_G} (h : q_J t M L A) {x : Int} (hx : q_R x) : fX12_isStall (q_w x) M = some (if 0 ≤ x ∧ x < A 123 3 then 1 else 0, M) := by
  have w := j_wf h
  unfold fX12_isStall
  rw [r_sm h, b_some, n_w (a := A 123 3 - 1) (by omega) (by omega), f_isInW hx (by decide) (by decide) (by omega) (by omega), b_some, f_01]
  by_cases c : 0 ≤ x ∧ x < A 123 3
  · rw [if_pos c, if_pos (by omega)]
  · rw [if_neg c, if_neg (by omega)]
theorem r_isMinute {t : Nat} {M : q_Mem} {L A : q_G} (h : q_J t M L A) {x : Int} (hx : q_R x) : fX12_isMinute x M = some (if A 94 47 = 1 ∧ 0 ≤ x ∧ x ≤ A 122 3 then 1 else 0, M) := by
  have w := j_wf h
  have wf := j_fair h
  unfold fX12_isMinute
  rw [h.2.1 94 47 rfl]
  by_cases c : A 94 47 = 1
  · rw [c, if_neg (by decide), r_fm h, b_some, n_w (a := A 122 3) (by omega) (by omega), f_isInW hx (by decide) (by decide) (by omega) (by omega), b_some, f_ite]
    by_cases c2 : 0 ≤ x ∧ x ≤ A 122 3
    · rw [if_pos c2, if_pos ⟨rfl, c2⟩]
    · rw [if_neg c2, if_neg (fun h => c2 h.2)]
  · have : A 94 47 = 0 := by omega
    rw [this, if_pos (by decide), if_neg (fun h => absurd h.1 (by decide))]
theorem st_q {t : Nat} {M : q_Mem} {L A : q_G} (hI : q_I t M L A) (v : Int) {o1 : Option (Int × q_Mem)} {o2 : q_Mem → Option (Int × q_Mem)} (h1 : q_P o1 (fun r M' => r = v ∧ q_J t M' L A)) (h2 : ∀ M1, q_J t M1 L A → q_P (o2 M1) (fun r M' => r = v ∧ q_J t M' L A)) : q_Step M o1 o2 := by
  obtain ⟨r, M1, e1, rfl, hJ1⟩ := h1
  obtain ⟨r', M2, e2, rfl, hJ2⟩ := h2 M1 hJ1
  exact ⟨_, M1, _, M2, e1, e2, rfl, t, L, A, hJ2, hI.2.1, hI.2.2⟩
theorem c_len {t : Nat} {M : q_Mem} {L A : q_G} (h : q_J t M L A) {c s m : Nat} (hc : (c : Int) < A 123 4) (hs : (s : Int) < A 123 3) (hm : (m : Int) ≤ A 122 3) : q_P (fX5_lengthAt (c : Int) (s : Int) (m : Int) M) (fun r M' => r = s_shadow A c s m ∧ q_J t M' L A) := by
  have w := j_wf h
  unfold fX5_lengthAt s_shadow
  rw [c_cloudy h (by omega), b_some, f_ite]
  by_cases hcl : s_cloud A m = true
  · rw [if_pos hcl, if_pos hcl]
    exact w_some.mpr ⟨rfl, h⟩
  · rw [if_neg hcl, if_neg hcl]
    refine w_call (c_cell h hc hs hm) ?_
    rintro r M1 ⟨rfl, hJ1⟩
    have hb := cell_b h hc s m
    rw [n_shr (by omega) (by omega) (by decide) (by decide)]
    exact w_some.mpr ⟨hb.2.2.1, hJ1⟩
theorem c_pays {t : Nat} {M : q_Mem} {L A : q_G} (h : q_J t M L A) {c s m : Nat} (hc : (c : Int) < A 123 4) (hs : (s : Int) < A 123 3) (hm : (m : Int) ≤ A 122 3) : q_P (fX5_paysAt (c : Int) (s : Int) (m : Int) M) (fun r M' => r = (if s_buys A c s m = true then 1 else 0) ∧ q_J t M' L A) := by
  have w := j_wf h
  obtain ⟨ht, -, hT, -, hL⟩ := j_t h
  obtain ⟨-, -, -, -, -, w5, -⟩ := h.2.2.2.1
  obtain ⟨-, -, u3, u4⟩ := w5 s hs
  obtain ⟨-, -, -, -, -, -, -, -, -, rs, -⟩ := h.2.2.1
  obtain ⟨-, -, -, rs5, -⟩ := rs s hs
  have e27 : ((27 : Int) + 4 * (s : Int)).toNat = 27 + 4 * s := by omega
  unfold fX5_paysAt s_buys
  simp only [q_let]
  rw [hT, Int.toNat_natCast, fq6 ht, b_ld (by omega) (by omega) (by decide), Option.bind_some, Int.toNat_natCast, hL 5 s (by decide), rs5, n_w (by omega) (by omega), n_w (by omega) (by omega), e27]
  by_cases c1 : (m : Int) < A 125 (27 + 4 * s)
  · rw [if_pos c1, decide_eq_true c1, Bool.true_and, c_cloudy h (by omega), b_some, f_ite]
    by_cases hcl : s_cloud A m = true
    · rw [if_pos hcl, hcl]
      exact w_some.mpr ⟨rfl, h⟩
    · rw [if_neg hcl]
      refine w_call (c_cell h hc hs hm) ?_
      rintro r M1 ⟨rfl, hJ1⟩
      have hb := cell_b h hc s m
      rw [n_and1, hb.2.2.2, Bool.not_eq_true] at *
      rw [hcl, Bool.not_false, Bool.true_and]
      cases s_pay A c s m with
      | true => exact w_some.mpr ⟨rfl, hJ1⟩
      | false => exact w_some.mpr ⟨rfl, hJ1⟩
  · rw [if_neg c1, decide_eq_false c1]
    exact w_some.mpr ⟨rfl, h⟩
theorem nat_of {x b : Int} (h : 0 ≤ x ∧ x < b) : ∃ n : Nat, x = (n : Int) ∧ (n : Int) < b := by
  obtain ⟨n, rfl⟩ := Int.eq_ofNat_of_zero_le h.1
  exact ⟨n, rfl, h.2⟩
theorem nat_of' {x b : Int} (h : 0 ≤ x ∧ x ≤ b) : ∃ n : Nat, x = (n : Int) ∧ (n : Int) ≤ b := by
  obtain ⟨n, rfl⟩ := Int.eq_ofNat_of_zero_le h.1
  exact ⟨n, rfl, h.2⟩
theorem st_shadow {M : q_Mem} (hS : q_St M) (x1 x2 x3 : Int) (h1 : q_R x1) (h2 : q_R x2) (h3 : q_R x3) : q_Step M (fX11_shadow x1 x2 x3 M) (fun M1 => fX12_shadow x1 x2 x3 M1) := by
  obtain ⟨t, L, A, hI⟩ := id hS
  have w := j_wf hI.1
  have wf := j_fair hI.1
  by_cases c : (0 ≤ x1 ∧ x1 < A 123 4) ∧ (0 ≤ x2 ∧ x2 < A 123 3) ∧ (0 ≤ x3 ∧ x3 ≤ A 122 3)
  · obtain ⟨a, rfl, ha⟩ := nat_of c.1
    obtain ⟨b, rfl, hb⟩ := nat_of c.2.1
    obtain ⟨m, rfl, hm⟩ := nat_of' c.2.2
    refine st_q hI (s_shadow A a b m) ?_ ?_
    · unfold fX11_shadow
      rw [c_isCoin hI.1 h1, b_some, f_ite, if_pos c.1, c_isStall hI.1 h2, b_some, f_ite, if_pos c.2.1, c_isMinute hI.1 h3, b_some, f_ite, if_pos c.2.2]
      exact w_call (c_len hI.1 ha hb hm) (fun r M1 hr => w_some.mpr hr)
    · intro M1 hJ
      unfold fX12_shadow
      rw [r_isCoin hJ h1, b_some, f_ite, if_pos c.1, r_isStall hJ h2, b_some, f_ite, if_pos c.2.1, r_isMinute hJ h3, b_some, f_ite, if_pos ⟨by omega, c.2.2⟩]
      exact w_call (r_shadow hJ ha hb ⟨by omega, by omega⟩) (fun r M1 hr => w_some.mpr hr)
  · refine st_q hI (-1) ?_ ?_
    · unfold fX11_shadow
      rw [c_isCoin hI.1 h1, b_some, f_ite]
      refine w_ite (fun c1 => ?_) (fun _ => w_some.mpr ⟨rfl, hI.1⟩)
      rw [c_isStall hI.1 h2, b_some, f_ite]
      refine w_ite (fun c2 => ?_) (fun _ => w_some.mpr ⟨rfl, hI.1⟩)
      rw [c_isMinute hI.1 h3, b_some, f_ite]
      exact w_ite (fun c3 => absurd ⟨c1, c2, c3⟩ c) (fun _ => w_some.mpr ⟨rfl, hI.1⟩)
    · intro M1 hJ
      unfold fX12_shadow
      rw [r_isCoin hJ h1, b_some, f_ite]
      refine w_ite (fun c1 => ?_) (fun _ => w_some.mpr ⟨rfl, hJ⟩)
      rw [r_isStall hJ h2, b_some, f_ite]
      refine w_ite (fun c2 => ?_) (fun _ => w_some.mpr ⟨rfl, hJ⟩)
      rw [r_isMinute hJ h3, b_some, f_ite]
      exact w_ite (fun c3 => absurd ⟨c1, c2, c3.2⟩ c) (fun _ => w_some.mpr ⟨rfl, hJ⟩)
theorem st_buys {M : q_Mem} (hS : q_St M) (x1 x2 x3 : Int) (h1 : q_R x1) (h2 : q_R x2) (h3 : q_R x3) : q_Step M (fX11_buys x1 x2 x3 M) (fun M1 => fX12_buys x1 x2 x3 M1) := by
  obtain ⟨t, L, A, hI⟩ := id hS
  have w := j_wf hI.1
  have wf := j_fair hI.1
  by_cases c : (0 ≤ x1 ∧ x1 < A 123 4) ∧ (0 ≤ x2 ∧ x2 < A 123 3) ∧ (0 ≤ x3 ∧ x3 ≤ A 122 3)
  · obtain ⟨a, rfl, ha⟩ := nat_of c.1
    obtain ⟨b, rfl, hb⟩ := nat_of c.2.1
    obtain ⟨m, rfl, hm⟩ := nat_of' c.2.2
    refine st_q hI (if s_buys A a b m = true then 1 else 0) ?_ ?_
    · unfold fX11_buys
      rw [c_isCoin hI.1 h1, b_some, f_ite, if_pos c.1, c_isStall hI.1 h2, b_some, f_ite, if_pos c.2.1, c_isMinute hI.1 h3, b_some, f_ite, if_pos c.2.2]
      refine w_call (c_pays hI.1 ha hb hm) ?_
      rintro r M1 ⟨rfl, hJ⟩
      rw [f_ite]
      by_cases cb : s_buys A a b m = true
      · rw [if_pos cb, if_pos cb]
        exact w_some.mpr ⟨rfl, hJ⟩
      · rw [if_neg cb, if_neg cb]
        exact w_some.mpr ⟨rfl, hJ⟩
    · intro M1 hJ
      unfold fX12_buys
      rw [r_isCoin hJ h1, b_some, f_ite, if_pos c.1, r_isStall hJ h2, b_some, f_ite, if_pos c.2.1, r_isMinute hJ h3, b_some, f_ite, if_pos ⟨by omega, c.2.2⟩]
      refine w_call (r_buys hJ ha hb c.2.2) ?_
      rintro r M1 ⟨rfl, hJ⟩
      rw [f_ite]
      by_cases cb : s_buys A a b m = true
      · rw [if_pos cb, if_pos cb]
        exact w_some.mpr ⟨rfl, hJ⟩
      · rw [if_neg cb, if_neg cb]
        exact w_some.mpr ⟨rfl, hJ⟩
  · refine st_q hI (-1) ?_ ?_
    · unfold fX11_buys
      rw [c_isCoin hI.1 h1, b_some, f_ite]
      refine w_ite (fun c1 => ?_) (fun _ => w_some.mpr ⟨rfl, hI.1⟩)
      rw [c_isStall hI.1 h2, b_some, f_ite]
      refine w_ite (fun c2 => ?_) (fun _ => w_some.mpr ⟨rfl, hI.1⟩)
      rw [c_isMinute hI.1 h3, b_some, f_ite]
      exact w_ite (fun c3 => absurd ⟨c1, c2, c3⟩ c) (fun _ => w_some.mpr ⟨rfl, hI.1⟩)
    · intro M1 hJ
      unfold fX12_buys
      rw [r_isCoin hJ h1, b_some, f_ite]
      refine w_ite (fun c1 => ?_) (fun _ => w_some.mpr ⟨rfl, hJ⟩)
      rw [r_isStall hJ h2, b_some, f_ite]
      refine w_ite (fun c2 => ?_) (fun _ => w_some.mpr ⟨rfl, hJ⟩)
      rw [r_isMinute hJ h3, b_some, f_ite]
      exact w_ite (fun c3 => absurd ⟨c1, c2, c3.2⟩ c) (fun _ => w_some.mpr ⟨rfl, hJ⟩)
