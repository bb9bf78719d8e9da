/-! clouds marked; pause, chance, undo -/
def z_M (M0 : q_Mem) (g : Nat → Bool) (M : q_Mem) : Prop := (∀ a j, a ≠ 89 → M.2 a j = M0.2 a j) ∧ ∀ m : Nat, m ≤ 400 → M.2 89 m = if g m = true then 1 else 0
theorem z_cg {M0 M : q_Mem} {g g' : Nat → Bool} (h : ∀ m, g m = g' m) (hz : z_M M0 g M) : z_M M0 g' M := ⟨hz.1, fun m hm => by rw [← h m]; exact hz.2 m hm⟩
theorem z_set {M0 M : q_Mem} {g : Nat → Bool} {x : Nat} (hz : z_M M0 g M) : z_M M0 (fun m => g m || decide (m = x)) (q_up M 89 x 1) := by
  refine ⟨fun a j ha => by rw [up_ne (by omega)]; exact hz.1 a j ha, ?_⟩
  intro m hm
  rw [up_rd]
  by_cases c : m = x
  · rw [if_pos ⟨rfl, c⟩]
    simp [c]
  · rw [if_neg (fun h => c h.2), hz.2 m hm]
    simp [c]
theorem c_fill {r0 n0 : Nat} (hn0 : n0 ≤ 50000) {v : Int} : ∀ (n i : Nat) (M : q_Mem), i ≤ n0 → n0 - i < n → q_P (fJ7_fill_53178_5 r0 n0 n v (i : Int) (n0 : Int) M) (fun _ M' => (∀ a j, a ≠ r0 → M'.2 a j = M.2 a j) ∧ (∀ j, j < i → M'.2 r0 j = M.2 r0 j) ∧ ∀ j, i ≤ j → j < n0 → M'.2 r0 j = v) := by
  intro n
  induction n with
  | zero => intro i M _ h; omega
  | succ n ih =>
    intro i M hi hn
    rw [fJ7_fill_53178_5, n_w (by omega) (by omega), n_w (by omega) (by omega)]
    by_cases c : i < n0
    · rw [if_pos (by omega), b_sto (by omega) (by omega) (by omega), Option.bind_some, Int.toNat_natCast, show (i : Int) + 1 = ((i + 1 : Nat) : Int) from by omega]
      refine w_mono (ih (i + 1) _ (by omega) (by omega)) ?_
      rintro r M' ⟨g1, g2, g3⟩
      refine ⟨fun a j ha => by rw [g1 a j ha, up_ne (by omega)], fun j hj => by rw [g2 j (by omega), up_ne (by omega)], ?_⟩
      intro j h1 h2
      by_cases cj : j = i
      · rw [cj, g2 i (by omega), up_rd, if_pos ⟨rfl, rfl⟩]
      · exact g3 j (by omega) h2
    · rw [if_neg (by omega)]
      exact w_some.mpr ⟨fun _ _ _ => rfl, fun _ _ => rfl, fun j h1 h2 => by omega⟩
theorem z_31 {M0 : q_Mem} {t k hi : Nat} (ht : t = 57 ∨ t = 72) (hT : M0.2 87 0 = (t : Int)) (hk : k < 8) (hl : M0.2 (t + 10) k = (hi : Int)) (hh : hi ≤ 400) {K : Int → q_Mem → Option (Int × q_Mem)} {Q : Int → q_Mem → Prop} : ∀ (n x : Nat) (M : q_Mem) (g : Nat → Bool), z_M M0 g M → x ≤ hi + 1 → hi + 1 - x < n → (∀ M', z_M M0 (fun m => g m || (decide (x ≤ m) && decide (m ≤ hi))) M' → q_P (K ((k : Int) + 1) M') Q) → q_P (fX5_markClouds_31 K n (k : Int) (x : Int) M) Q := by
  intro n
  induction n with
  | zero => intro x M g _ _ h; omega
  | succ n ih =>
    intro x M g hz hx hn hK
    rw [fX5_markClouds_31]
    simp only [q_let]
    rw [hz.1 87 0 (by decide), hT, Int.toNat_natCast, fq13 ht, b_ld (by omega) (by omega) (by decide), Option.bind_some, Int.toNat_natCast, hz.1 (t + 10) k (by omega), hl, n_w (by omega) (by omega), n_w (by omega) (by omega)]
    by_cases c : hi < x
    · rw [if_pos (by omega)]
      refine hK M (z_cg ?_ hz)
      intro m
      have : (decide (x ≤ m) && decide (m ≤ hi)) = false := by
        rw [Bool.and_eq_false_iff, decide_eq_false_iff_not, decide_eq_false_iff_not]
        omega
      rw [this, Bool.or_false]
    · rw [if_neg (by omega), b_sto (by omega) (by omega) (by decide), Option.bind_some, Int.toNat_natCast, show (x : Int) + 1 = ((x + 1 : Nat) : Int) from by omega]
      refine ih (x + 1) _ _ (z_set hz) (by omega) (by omega) ?_
      intro M' hz'
      refine hK M' (z_cg ?_ hz')
      intro m
      rw [Bool.or_assoc]
      congr 1
      by_cases c1 : m = x
      · subst c1
        have : m ≤ hi := by omega
        simp [this]
      · by_cases c2 : x + 1 ≤ m
        · have : x ≤ m := by omega
          simp [c1, c2, this]
        · have : ¬ x ≤ m := by omega
          simp [c1, c2, this]
theorem z_65 {M0 : q_Mem} {D : Nat} (hD : M0.2 10 3 = (D : Int)) (hD2 : D ≤ 16) (hv : ∀ k : Nat, k < D → 0 ≤ M0.2 11 k ∧ M0.2 11 k ≤ 400) : ∀ (n k : Nat) (M : q_Mem) (g : Nat → Bool), z_M M0 g M → k ≤ D → D - k < n → q_P (fX5_markClouds_65 n (k : Int) M) (fun _ M' => z_M M0 (fun m => g m || ((List.range D).drop k).any (fun k => decide (M0.2 11 k = (m : Int)))) M') := by
  intro n
  induction n with
  | zero => intro k M g _ _ h; omega
  | succ n ih =>
    intro k M g hz hk hn
    rw [fX5_markClouds_65, hz.1 10 3 (by decide), hD, n_w (by omega) (by omega), n_w (by omega) (by omega)]
    by_cases c : k < D
    · have hvk := hv k c
      obtain ⟨x, hx, hx2⟩ := nat_of' hvk
      rw [if_pos (by omega), b_ld (by omega) (by omega) (by decide), Option.bind_some, Int.toNat_natCast, hz.1 11 k (by decide), hx, b_sto (by omega) (by omega) (by decide), Option.bind_some, Int.toNat_natCast, show (k : Int) + 1 = ((k + 1 : Nat) : Int) from by omega]
      refine w_mono (ih (k + 1) _ _ (z_set hz) (by omega) (by omega)) ?_
      intro r M' hz'
      refine z_cg ?_ hz'
      intro m
      rw [rng_drop c, List.any_cons, Bool.or_assoc]
      congr 2
      rw [hx]
      by_cases cm : m = x
      · simp [cm]
      · have : ¬ ((x : Int) = (m : Int)) := by omega
        simp [cm, this]
    · rw [if_neg (by omega)]
      refine w_some.mpr (z_cg ?_ hz)
      intro m
      rw [List.drop_eq_nil_of_le (by simp; omega)]
      simp
def s_mk (M : q_Mem) (t : Nat) (m : Int) : Bool := (List.range (M.2 t 11).toNat).any (fun k => decide (M.2 (t + 9) k ≤ m) && decide (m ≤ M.2 (t + 10) k)) || (List.range (M.2 10 3).toNat).any (fun k => decide (M.2 11 k = m))
theorem z_10 {M0 : q_Mem} {t C D : Nat} (ht : t = 57 ∨ t = 72) (hT : M0.2 87 0 = (t : Int)) (hC : M0.2 t 11 = (C : Int)) (hC2 : C ≤ 8) (hc : ∀ k : Nat, k < C → 0 ≤ M0.2 (t + 9) k ∧ M0.2 (t + 9) k ≤ M0.2 (t + 10) k ∧ M0.2 (t + 10) k ≤ 400) (hD : M0.2 10 3 = (D : Int)) (hD2 : D ≤ 16) (hv : ∀ k : Nat, k < D → 0 ≤ M0.2 11 k ∧ M0.2 11 k ≤ 400) : ∀ (n k : Nat) (M : q_Mem) (g : Nat → Bool), z_M M0 g M → k ≤ C → C - k < n → q_P (fX5_markClouds_10 n (k : Int) M) (fun _ M' => z_M M0 (fun m => g m || (((List.range C).drop k).any (fun k => decide (M0.2 (t + 9) k ≤ (m : Int)) && decide ((m : Int) ≤ M0.2 (t + 10) k)) || (List.range D).any (fun k => decide (M0.2 11 k = (m : Int))))) M') := by
  intro n
  induction n with
  | zero => intro k M g _ _ h; omega
  | succ n ih =>
    intro k M g hz hk hn
    rw [fX5_markClouds_10]
    simp only [q_let]
    rw [hz.1 87 0 (by decide), hT, Int.toNat_natCast, hz.1 t 11 (by omega), hC, n_w (by omega) (by omega), n_w (by omega) (by omega)]
    by_cases c : k < C
    · obtain ⟨x1, x2, x3⟩ := hc k c
      obtain ⟨lo, hlo, hlo2⟩ := nat_of' ⟨x1, x2⟩
      obtain ⟨hi, hhi, hhi2⟩ := nat_of' (x := M0.2 (t + 10) k) (b := 400) ⟨by omega, x3⟩
      rw [if_pos (by omega), fq12 ht, b_ld (by omega) (by omega) (by decide), Option.bind_some, Int.toNat_natCast, hz.1 (t + 9) k (by omega), hlo]
      refine z_31 ht hT (by omega) hhi (by omega) q_FU lo M g hz (by omega) (by unfold q_FU; omega) ?_
      intro M' hz'
      rw [show (k : Int) + 1 = ((k + 1 : Nat) : Int) from by omega]
      refine w_mono (ih (k + 1) M' _ hz' (by omega) (by omega)) ?_
      intro r M2 hz2
      refine z_cg ?_ hz2
      intro m
      rw [rng_drop c, List.any_cons, hlo, hhi]
      have e1 : decide ((lo : Int) ≤ (m : Int)) = decide (lo ≤ m) := by
        by_cases c1 : lo ≤ m
        · rw [decide_eq_true c1, decide_eq_true (by omega)]
        · rw [decide_eq_false c1, decide_eq_false (by omega)]
      have e2 : decide ((m : Int) ≤ (hi : Int)) = decide (m ≤ hi) := by
        by_cases c1 : m ≤ hi
        · rw [decide_eq_true c1, decide_eq_true (by omega)]
        · rw [decide_eq_false c1, decide_eq_false (by omega)]
      rw [e1, e2]
      simp only [Bool.or_assoc]
    · rw [if_neg (by omega)]
      refine w_mono (z_65 hD hD2 hv q_FU 0 M g hz (by omega) (by unfold q_FU; omega)) ?_
      intro r M' hz'
      refine z_cg ?_ hz'
      intro m
      rw [List.drop_zero, List.drop_eq_nil_of_le (by simp; omega)]
      simp
theorem c_fill0 {r0 n0 : Nat} (hn0 : n0 ≤ 50000) (v : Int) (M : q_Mem) : q_P (fJ7_fill_53178 r0 n0 v M) (fun _ M' => (∀ a j, a ≠ r0 → M'.2 a j = M.2 a j) ∧ ∀ j, j < n0 → M'.2 r0 j = v) := by
  unfold fJ7_fill_53178
  simp only [q_let]
  refine w_mono (c_fill hn0 q_FU 0 M (by omega) (by unfold q_FU; omega)) ?_
  rintro r M1 ⟨g1, -, g3⟩
  exact ⟨g1, fun j hj => g3 j (by omega) hj⟩
theorem c_fill89 (M : q_Mem) : q_P (fJ7_fill_53178 89 401 0 M) (fun _ M1 => z_M M (fun _ => false) M1) := by
  refine w_mono (c_fill0 (r0 := 89) (n0 := 401) (by omega) 0 M) ?_
  rintro r M1 ⟨g1, g3⟩
  exact ⟨g1, fun m hm => by rw [g3 m (by omega)]; rfl⟩
theorem c_mark10 {M M1 : q_Mem} {t : Nat} (ht : t = 57 ∨ t = 72) (hT : M.2 87 0 = (t : Int)) (hC : 0 ≤ M.2 t 11 ∧ M.2 t 11 ≤ 8) (hc : ∀ k : Nat, (k : Int) < M.2 t 11 → 0 ≤ M.2 (t + 9) k ∧ M.2 (t + 9) k ≤ M.2 (t + 10) k ∧ M.2 (t + 10) k ≤ 400) (hD : 0 ≤ M.2 10 3 ∧ M.2 10 3 ≤ 16) (hv : ∀ k : Nat, (k : Int) < M.2 10 3 → 0 ≤ M.2 11 k ∧ M.2 11 k ≤ 400) (hz : z_M M (fun _ => false) M1) : q_P (fX5_markClouds_10 q_FU ((0 : Nat) : Int) M1) (fun _ M' => (∀ a j, a ≠ 89 → M'.2 a j = M.2 a j) ∧ ∀ m : Nat, m ≤ 400 → M'.2 89 m = if s_mk M t m = true then 1 else 0) := by
  obtain ⟨C, hC1, hC2⟩ := nat_of' hC
  obtain ⟨D, hD1, hD2⟩ := nat_of' hD
  refine w_mono (z_10 ht hT hC1 (by omega) (fun k hk => hc k (by omega)) hD1 (by omega) (fun k hk => hv k (by omega)) q_FU 0 M1 _ hz (by omega) (by unfold q_FU; omega)) ?_
  intro r M' hz'
  refine ⟨hz'.1, ?_⟩
  intro m hm
  have h := hz'.2 m hm
  simp only [List.drop_zero, Bool.false_or] at h
  rw [h]
  unfold s_mk
  rw [hC1, hD1, Int.toNat_natCast, Int.toNat_natCast]
theorem c_marks {M : q_Mem} {t : Nat} (ht : t = 57 ∨ t = 72) (hT : M.2 87 0 = (t : Int)) (hC : 0 ≤ M.2 t 11 ∧ M.2 t 11 ≤ 8) (hc : ∀ k : Nat, (k : Int) < M.2 t 11 → 0 ≤ M.2 (t + 9) k ∧ M.2 (t + 9) k ≤ M.2 (t + 10) k ∧ M.2 (t + 10) k ≤ 400) (hD : 0 ≤ M.2 10 3 ∧ M.2 10 3 ≤ 16) (hv : ∀ k : Nat, (k : Int) < M.2 10 3 → 0 ≤ M.2 11 k ∧ M.2 11 k ≤ 400) : q_P (fX5_markClouds M) (fun _ M' => (∀ a j, a ≠ 89 → M'.2 a j = M.2 a j) ∧ ∀ m : Nat, m ≤ 400 → M'.2 89 m = if s_mk M t m = true then 1 else 0) := by
  obtain ⟨C, hC1, hC2⟩ := nat_of' hC
  obtain ⟨D, hD1, hD2⟩ := nat_of' hD
  unfold fX5_markClouds
  refine w_call (c_fill89 M) ?_
  intro r M1 hz
  exact c_mark10 ht hT hC hc hD hv hz
theorem c_canWait {t : Nat} {M : q_Mem} {L A : q_G} (h : q_J t M L A) {x : Int} (hx : q_R x) : fX11_canWait x M = some (if (1 ≤ x ∧ x ≤ 400) ∧ A 131 0 + x ≤ A 122 3 then 1 else 0, M) := by
  have w := j_wf h
  have db := j_db h
  unfold q_R at hx
  unfold fX11_canWait
  simp only [q_let]
  rw [j_told h, (j_f h).1, (j_d h).1, n_w hx.1 hx.2, show q_w 1 = 1 from rfl, show q_w 400 = 400 from rfl]
  by_cases c1 : x < 1
  · rw [if_pos c1, if_neg (by omega)]
  rw [if_neg c1]
  by_cases c2 : 400 < x
  · rw [if_pos c2, if_neg (by omega)]
  rw [if_neg c2, n_w (by omega) (by omega), n_w (by omega) (by omega)]
  by_cases c3 : A 122 3 < A 131 0 + x
  · rw [if_pos c3, if_neg (by omega)]
  · rw [if_neg c3, if_pos (by omega)]
theorem r_canWait {t : Nat} {M : q_Mem} {L A : q_G} (h : q_K t M L A) {x : Int} (hx : q_R x) : fX12_canWait x M = some (if (1 ≤ x ∧ x ≤ 400) ∧ A 131 0 + x ≤ A 122 3 then 1 else 0, M) := by
  have w := y_j_wf h
  have wf := y_j_fair h
  have db := y_j_db h
  unfold fX12_canWait
  rw [h.2.1 94 47 rfl]
  rcases wf with ⟨f1, f2, -⟩ | ⟨f1, -⟩
  · rw [f1, if_pos (by decide), if_neg (by omega)]
  · rw [f1, if_neg (by decide), f_isInW hx (by decide) (by decide) (by decide) (by decide), b_some, f_ite]
    by_cases c1 : 1 ≤ x ∧ x ≤ 400
    · rw [if_pos c1, y_r_ld131 h (by decide) (by decide), Option.bind_some, show (0 : Int).toNat = 0 from rfl, y_r_fm h, b_some, n_w (by omega) (by omega), n_w (by omega) (by omega)]
      by_cases c3 : A 122 3 < A 131 0 + x
      · rw [if_pos c3, if_neg (by omega)]
      · rw [if_neg c3, if_pos (by omega)]
    · rw [if_neg c1, if_neg (fun h => c1 h.1)]
theorem rem_ma {M Ma : q_Mem} (h : z_rem M Ma) : ∀ a j, ¬ (16 ≤ a ∧ a ≤ 35) → ¬ (a = 10 ∧ (j = 10 ∨ j = 11)) → Ma.2 a j = M.2 a j := by
  obtain ⟨p, hp, hp1, z1, z2, z3, z4, z5⟩ := h
  exact fun a j ha hb => z1 a j (by omega) hb
theorem keep_mb {M Ma : q_Mem} (h : z_keep M Ma) : ∀ a j, a ≠ 139 → ¬ (a = 94 ∧ (j = 65 ∨ j = 66)) → Ma.2 a j = M.2 a j := by
  obtain ⟨q, hq, hq1, y1, y2, y3, y4, y5⟩ := h
  exact y1
theorem st_pause {M : q_Mem} (hS : q_St M) (x1 : Int) (h1 : q_R x1) : q_Step M (fX11_pause x1 M) (fun M1 => fX12_pause x1 M1) := by
  obtain ⟨t, L, A, hI⟩ := id hS
  have w := j_wf hI.1
  have db := j_db hI.1
  have jd := j_d hI.1
  by_cases c : (1 ≤ x1 ∧ x1 ≤ 400) ∧ A 131 0 + x1 ≤ A 122 3
  · have rg := i_rg hI
    obtain ⟨_, Ma, ea, hza⟩ := c_rem rg.1 rg.2.1
    have ma := rem_ma hza
    have hM1 : ∀ a j, ¬ (a = 10 ∧ j = 0) → (q_up Ma 10 0 (A 131 0 + x1)).2 a j = Ma.2 a j := fun a j ha => up_ne (by omega)
    have v0 : (q_up Ma 10 0 (A 131 0 + x1)).2 10 0 = A 131 0 + x1 := rfl
    have eM1 : fX11_pause x1 M = some (1, q_up Ma 10 0 (A 131 0 + x1)) := by
      unfold fX11_pause
      rw [c_canWait hI.1 h1, b_some, f_ite, if_pos c, ea, b_some]
      simp only [q_let]
      rw [ma 10 0 (by omega) (by omega), jd.1]
    generalize q_up Ma 10 0 (A 131 0 + x1) = M1 at hM1 v0 eM1
    have hK1 : q_K t M1 L A := k_lt (k_of hI.1) (fun a k ha => by rw [hM1 a k (by omega), ma a k (by omega) (by omega)])
    have c1 : ∀ a j, 90 ≤ a → M1.2 a j = M.2 a j := fun a j ha => by rw [hM1 a j (by omega), ma a j (by omega) (by omega)]
    obtain ⟨_, Mb, eb, hzb⟩ := r_keeps (M := M1) (by rw [c1 94 66 (by decide)]; exact rg.2.2.1) (by rw [c1 94 65 (by decide)]; exact rg.2.2.2)
    have y1 := keep_mb hzb
    have hb131 : ∀ k, Mb.2 131 k = A 131 k := fun k => by rw [y1 131 k (by decide) (by omega), c1 131 k (by decide), hI.1.2.1 131 k rfl]
    refine ⟨1, M1, 1, q_up Mb 131 0 (A 131 0 + x1), eM1, ?_, rfl, ?_⟩
    · show fX12_pause _ _ = _
      unfold fX12_pause
      rw [r_canWait hK1 h1, b_some, f_ite, if_pos c, eb, b_some, b_ld (by decide) (by decide) (by decide), Option.bind_some, b_sto (by decide) (by decide) (by decide), Option.bind_some, show (0 : Int).toNat = 0 from rfl, hb131]
    · have h131 : ∀ k, 1 ≤ k → (q_up Mb 131 0 (A 131 0 + x1)).2 131 k = A 131 k := fun k hk => by rw [up_ne (by omega), hb131]
      have u0 : (q_up Mb 131 0 (A 131 0 + x1)).2 131 0 = A 131 0 + x1 := rfl
      have u2 : ∀ a j, a ≠ 131 → (q_up Mb 131 0 (A 131 0 + x1)).2 a j = Mb.2 a j := fun a j ha => up_ne (by omega)
      generalize q_up Mb 131 0 (A 131 0 + x1) = M2 at h131 u0 u2
      obtain ⟨i1, i2, i3, i4⟩ := i_self hI
      have m131 : ∀ k, M.2 131 k = A 131 k := fun k => hI.1.2.1 131 k rfl
      have sj := sj_self hI
      refine u_act hI hza (fun a j ha => hM1 a j (by omega)) (fun _ _ _ => rfl) hzb (fun a j ha => u2 a j (by omega)) ?_ ?_ ?_ ?_ ?_ ?_ ?_ ?_ ?_
      · intro k hk
        have hk' : k = 0 ∨ k = 1 ∨ k = 2 ∨ k = 3 := by omega
        rcases hk' with rfl | rfl | rfl | rfl
        · rw [v0, u0]
        · rw [h131 1 (by decide), hM1 10 1 (by omega), ma 10 1 (by omega) (by omega), jd.2.1]
        · rw [h131 2 (by decide), hM1 10 2 (by omega), ma 10 2 (by omega) (by omega), jd.2.2.1]
        · rw [h131 3 (by decide), hM1 10 3 (by omega), ma 10 3 (by omega) (by omega), jd.2.2.2]
      · rw [h131 20 (by decide), hM1 10 5 (by omega), ma 10 5 (by omega) (by omega), i3, m131]
      · rw [u2 94 67 (by decide), y1 94 67 (by decide) (by decide), c1 94 67 (by decide), hM1 10 12 (by omega), ma 10 12 (by omega) (by omega)]
        exact i2
      · obtain ⟨⟨x1, x2, x3, x4, x5, x6⟩, s2, s3⟩ := sj
        refine ⟨⟨by rw [u0]; omega, by rw [h131 1 (by decide)]; exact x2, by rw [h131 2 (by decide)]; exact x3, by rw [h131 3 (by decide)]; exact x4, ?_, by rw [h131 20 (by decide), h131 2 (by decide)]; exact x6⟩, ?_, ?_⟩
        · intro k hk
          rw [h131 3 (by decide)] at hk
          rw [h131 _ (by omega)]
          exact x5 k hk
        · intro k hk
          rw [h131 3 (by decide)] at hk
          rw [h131 _ (by omega), hM1 11 k (by omega), ma 11 k (by omega) (by omega)]
          exact s2 k hk
        · intro k hk
          rw [h131 20 (by decide)] at hk
          rw [h131 _ (by omega), h131 _ (by omega), h131 _ (by omega), hM1 12 k (by omega), ma 12 k (by omega) (by omega), hM1 13 k (by omega), ma 13 k (by omega) (by omega), hM1 14 k (by omega), ma 14 k (by omega) (by omega)]
          exact s3 k hk
      · rw [h131 3 (by decide), m131]; exact Int.le_refl _
      · rw [h131 20 (by decide), m131]; exact Int.le_refl _
      · intro k _
        rw [hM1 11 k (by omega), ma 11 k (by omega) (by omega)]
      · intro k _
        rw [hM1 12 k (by omega), ma 12 k (by omega) (by omega), hM1 13 k (by omega), ma 13 k (by omega) (by omega), hM1 14 k (by omega), ma 14 k (by omega) (by omega)]
        exact ⟨rfl, rfl, rfl⟩
      · intro m hm
        rw [hM1 89 m (by omega), ma 89 m (by omega) (by omega), i4 m hm, cloud_cg (A := M.2) (B := M2.2)]
        · rw [u2 123 5 (by decide), y1 123 5 (by decide) (by decide), c1 123 5 (by decide)]
        · intro k _
          rw [u2 127 k (by decide), y1 127 k (by decide) (by omega), c1 127 k (by decide)]
        · rw [h131 3 (by decide), m131]
        · intro k _
          rw [h131 _ (by omega), m131]
  · refine ⟨0, q_up M 56 3 (M.2 56 3 + 1), 0, _, ?_, ?_, rfl, u_ref hS 3⟩
    · unfold fX11_pause
      rw [c_canWait hI.1 h1, b_some, f_ite, if_neg c, f_refuse (by decide) (by decide)]
      rfl
    · show fX12_pause _ _ = _
      have hK : q_K t (q_up M 56 3 (M.2 56 3 + 1)) L A := k_lt (k_of hI.1) (fun a k ha => up_ne (by omega))
      unfold fX12_pause
      rw [r_canWait hK h1, b_some, f_ite, if_neg c]
      exact f_refused (by decide) (by decide)
def s_dr (x : Int) : Int := (1103515245 * x + 12345) % 2147483648
theorem dr_b (x : Int) : 0 ≤ s_dr x ∧ s_dr x < 2147483648 := by
  unfold s_dr
  omega
def s_ch (gu to : Int) : Nat → Int → Int → List Int → Int × Int × List Int
  | 0, x, m, cs => (x, m, cs)
  | n + 1, x, m, cs => s_ch gu to n (s_dr x) (m + 1) (if s_dr x / 64 % 100 < gu ∧ to + (cs.length : Int) < 16 then cs ++ [m] else cs)
theorem ch_x (gu to : Int) : ∀ (n : Nat) (x m : Int) (cs : List Int), (s_ch gu to n x m cs).2.1 = m + (n : Int) ∧ (0 ≤ x ∧ x < 2147483648 → 0 ≤ (s_ch gu to n x m cs).1 ∧ (s_ch gu to n x m cs).1 < 2147483648) ∧ (∃ e, (s_ch gu to n x m cs).2.2 = cs ++ e ∧ ∀ v ∈ e, m ≤ v ∧ v < m + (n : Int)) ∧ (to + (cs.length : Int) ≤ 16 → to + ((s_ch gu to n x m cs).2.2.length : Int) ≤ 16) := by
  intro n
  induction n with
  | zero => intro x m cs; exact ⟨by simp [s_ch], fun h => h, ⟨[], by simp [s_ch]⟩, fun h => h⟩
  | succ n ih =>
    intro x m cs
    rw [s_ch]
    by_cases c : s_dr x / 64 % 100 < gu ∧ to + (cs.length : Int) < 16
    · rw [if_pos c]
      obtain ⟨i1, i2, ⟨e, i3, i4⟩, i5⟩ := ih (s_dr x) (m + 1) (cs ++ [m])
      refine ⟨by rw [i1]; omega, fun _ => i2 (dr_b x), ⟨m :: e, by rw [i3]; simp, ?_⟩, fun _ => i5 (by simp; omega)⟩
      intro v hv
      rcases List.mem_cons.mp hv with rfl | hv
      · omega
      · have := i4 v hv
        omega
    · rw [if_neg c]
      obtain ⟨i1, i2, ⟨e, i3, i4⟩, i5⟩ := ih (s_dr x) (m + 1) cs
      refine ⟨by rw [i1]; omega, fun _ => i2 (dr_b x), ⟨e, i3, ?_⟩, i5⟩
      intro v hv
      have := i4 v hv
      omega
def z_cl (M0 : q_Mem) (x m : Int) (cs : List Int) (M : q_Mem) : Prop := M.2 10 12 = x ∧ M.2 10 0 = m ∧ M.2 10 3 = (cs.length : Int) ∧ (∀ k : Nat, k < cs.length → M.2 11 k = cs.getD k 0) ∧ ∀ a j, ¬ ((a = 10 ∧ (j = 0 ∨ j = 3 ∨ j = 12)) ∨ a = 11) → M.2 a j = M0.2 a j
theorem snoc_get {cs : List Int} {m : Int} {k : Nat} : (cs ++ [m]).getD k 0 = if k = cs.length then m else cs.getD k 0 := by
  rw [List.getD_eq_getElem?_getD, List.getD_eq_getElem?_getD]
  by_cases c : k = cs.length
  · rw [if_pos c, c, List.getElem?_append_right (Nat.le_refl _)]
    simp
  · rw [if_neg c]
    by_cases c2 : k < cs.length
    · rw [List.getElem?_append_left c2]
    · rw [List.getElem?_eq_none (by simp; omega), List.getElem?_eq_none (by omega)]
theorem c_wait {M0 M : q_Mem} {t : Nat} (ht : t = 57 ∨ t = 72) {gu to x m : Int} {cs : List Int} (hg : M0.2 t 17 = gu) (hto : M0.2 t 11 = to) (hgb : 0 ≤ gu ∧ gu ≤ 100) (htb : 0 ≤ to ∧ to ≤ 8) (hx : 0 ≤ x ∧ x < 2147483648) (hm : 0 ≤ m ∧ m ≤ 400) (hcs : to + (cs.length : Int) ≤ 16) (hz : z_cl M0 x m cs M) : q_P (fX1_waitByChance t M) (fun _ M' => z_cl M0 (s_dr x) (m + 1) (if s_dr x / 64 % 100 < gu ∧ to + (cs.length : Int) < 16 then cs ++ [m] else cs) M') := by
  obtain ⟨z1, z2, z3, z4, z5⟩ := hz
  have hd := dr_b x
  unfold fX1_waitByChance fX1_waitByChance_78
  have ed : q_lrem (1103515245 * x + 12345) 2147483648 = s_dr x := by
    unfold s_dr
    rw [n_lrem (by omega) (by omega) (by decide) (by decide), n_tm (by omega)]
  rw [z1, ed]
  generalize hgd : s_dr x = y at hd ⊢
  simp only [q_let]
  have e12 : (q_up M 10 12 y).2 10 12 = y := by rw [up_rd, if_pos ⟨rfl, rfl⟩]
  have et : ∀ k, (q_up M 10 12 y).2 t k = M0.2 t k := fun k => by rw [up_ne (by omega), z5 t k (by omega)]
  have e3 : (q_up M 10 12 y).2 10 3 = (cs.length : Int) := by rw [up_ne (by omega), z3]
  have e0 : (q_up M 10 12 y).2 10 0 = m := by rw [up_ne (by omega), z2]
  rw [e12, et, et, hg, hto, e3, e0, n_ldiv (by omega) (by omega) (by decide) (by decide), n_td (by omega), n_lrem (by omega) (by omega) (by decide) (by decide), n_tm (by omega), n_w (a := gu) (by omega) (by omega), n_w (a := to + (cs.length : Int)) (by omega) (by omega), show q_w 16 = 16 from rfl]
  have k := f_lc (a := y / 64 % 100) (b := gu) (by omega) (by omega) (by omega) (by omega)
  have zz : ∀ (cs' : List Int) (M2 : q_Mem), M2.2 10 12 = y → M2.2 10 3 = (cs'.length : Int) → (∀ k : Nat, k < cs'.length → M2.2 11 k = cs'.getD k 0) → (∀ a j, ¬ ((a = 10 ∧ (j = 0 ∨ j = 3 ∨ j = 12)) ∨ a = 11) → M2.2 a j = M0.2 a j) → z_cl M0 y (m + 1) cs' (q_up M2 10 0 (m + 1)) := by
    intro cs' M2 h1 h2 h3 h4
    refine ⟨by rw [up_ne (by omega), h1], by rw [up_rd, if_pos ⟨rfl, rfl⟩], by rw [up_ne (by omega), h2], fun k hk => by rw [up_ne (by omega)]; exact h3 k hk, fun a j ha => by rw [up_ne (by omega)]; exact h4 a j ha⟩
  by_cases c1 : y / 64 % 100 < gu
  · rw [if_pos (k.2.1.mpr c1)]
    by_cases c2 : to + (cs.length : Int) < 16
    · rw [if_pos c2, if_pos ⟨c1, c2⟩, b_sto (by omega) (by omega) (by decide), Option.bind_some, Int.toNat_natCast]
      have f3 : (q_up (q_up M 10 12 y) 11 cs.length m).2 10 3 = (cs.length : Int) := by rw [up_ne (by omega), e3]
      have f0 : (q_up (q_up (q_up M 10 12 y) 11 cs.length m) 10 3 ((cs.length : Int) + 1)).2 10 0 = m := by rw [up_ne (by omega), up_ne (by omega), e0]
      rw [f3, f0]
      refine w_some.mpr (zz _ _ ?_ ?_ ?_ ?_)
      · rw [up_ne (by omega), up_ne (by omega), e12]
      · rw [up_rd, if_pos ⟨rfl, rfl⟩]
        simp
      · intro k hk
        simp at hk
        rw [up_ne (by omega), up_rd, snoc_get]
        by_cases ck : k = cs.length
        · rw [if_pos ⟨rfl, ck⟩, if_pos ck]
        · rw [if_neg (by omega), if_neg ck, up_ne (by omega)]
          exact z4 k (by omega)
      · intro a j ha
        rw [up_ne (by omega), up_ne (by omega), up_ne (by omega)]
        exact z5 a j ha
    · rw [if_neg c2, if_neg (fun h => c2 h.2)]
      exact w_some.mpr (zz cs _ e12 e3 (fun k hk => by rw [up_ne (by omega)]; exact z4 k hk) (fun a j ha => by rw [up_ne (by omega)]; exact z5 a j ha))
  · rw [if_neg (fun h => c1 (k.2.1.mp h)), if_neg (fun h => c1 h.1)]
    exact w_some.mpr (zz cs _ e12 e3 (fun k hk => by rw [up_ne (by omega)]; exact z4 k hk) (fun a j ha => by rw [up_ne (by omega)]; exact z5 a j ha))
