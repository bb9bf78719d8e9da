/-! texts: the class reads a TEST or a SUM, the whole -/
theorem g_fact {b : Nat → Int} {N w r : Nat} {M0 : q_Mem} {k o d : Nat} (hr : z_r r) (ih : h_I b N w r M0 k) {σ : t_S} {R : List Int} {M : q_Mem} (hD : h_D o 2 (k + 1) σ) (h : z_G b N w r M0 σ o d R M) : q_P (fX4_fact (fG k) M) (fun _ M' => z_G b N w r M0 (s_G b N w (k + 1) 2 o (σ, R)).1 o d (s_G b N w (k + 1) 2 o (σ, R)).2 M') := by
  unfold fX4_fact
  rw [sG_2, c_isW h.1 h.2.1 (by omega), b_some, f_ite]
  by_cases c1 : u_isW b N 21 σ = true
  · rw [if_pos c1, if_pos c1]
    refine w_call (g_en hr (by have := hD.2.1; omega) h (isW_nz c1)) ?_
    intro _ M1 h1
    refine w_call (ih 2 (o + 1) (d + 1) _ R M1 (by omega) (D_en hD (ok_isW c1)) (by omega) h1) ?_
    intro _ M2 h2
    refine w_call (g_lv hr h2) ?_
    intro _ M3 h3
    rw [q_le]
    exact w_call (g_op (v := 12) hr (d := d) h3 (fun _ => rfl)) (fun _ M4 h4 => w_some.mpr h4)
  rw [if_neg c1, if_neg c1, c_isS h.1 h.2.1 (by omega), b_some, f_ite]
  by_cases c2 : u_isS b N 91 σ = true
  · rw [if_pos c2, if_pos c2]
    refine w_call (g_en hr (by have := hD.2.1; omega) h (isS_nz c2)) ?_
    intro _ M1 h1
    refine w_call (ih 0 (o + 1) (d + 1) _ R M1 (by omega) (D_en hD (ok_isS c2)) (by omega) h1) ?_
    intro _ M2 h2
    refine w_call (g_tZ hr h2 (by omega)) ?_
    intro _ M3 h3
    exact w_call (g_lv hr h3) (fun _ M4 h4 => w_some.mpr (g_d (e := 1) h4))
  rw [if_neg c2, if_neg c2, c_isW h.1 h.2.1 (by omega), b_some, f_ite]
  by_cases c3 : u_isW b N 22 σ = true
  · rw [if_pos c3, if_pos c3]
    refine w_call (g_st hr h (isW_nz c3)) ?_
    intro _ M1 h1
    rw [q_le]
    exact w_call (g_op (v := 13) hr (d := d) h1 (fun _ => rfl)) (fun _ M4 h4 => w_some.mpr h4)
  rw [if_neg c3, if_neg c3]
  have hD3 : h_D o 3 k σ := D_s hD (by omega) (by omega)
  refine w_call (ih 3 o d _ R M (by omega) hD3 (by omega) h) ?_
  intro _ M1 h1
  have hD4 : h_D o 3 k (s_G b N w k 3 o (σ, R)).1 := D_G (t2 := 0) hD3
  generalize s_G b N w k 3 o (σ, R) = q at h1 hD4
  rw [q_le]
  have go : ∀ cc v : Int, 10000 + cc = q_enc v → u_isS b N cc q.1 = true → u_cmp b N q.1 = v → v ≠ 0 → q_P (fX4_fact_166 (fG k) (M1.2 5 4) M1) (fun _ M' => z_G b N w r M0 (if u_cmp b N q.1 = 0 then (u_fl 1 (u_p q.1) q.1, []) else u_pu (u_cmp b N q.1) (s_G b N w k 3 o (u_st b N q.1, q.2))).1 o d (if u_cmp b N q.1 = 0 then (u_fl 1 (u_p q.1) q.1, []) else u_pu (u_cmp b N q.1) (s_G b N w k 3 o (u_st b N q.1, q.2))).2 M') := by
    intro cc v hcv c hu hv
    rw [if_neg (by rw [hu]; exact hv), hu]
    unfold fX4_fact_166
    rw [isS_v h1 c]
    refine w_call (g_st hr h1 (isS_nz c)) ?_
    intro _ M2 h2
    refine w_call (ih 3 o (d + 1) _ _ M2 (by omega) (D_st hD4) (by omega) h2) ?_
    intro _ M3 h3
    rw [q_le]
    exact w_call (g_op (v := v) hr (d := d) h3 (fun _ => hcv)) (fun _ M4 h4 => w_some.mpr h4)
  rw [c_isS h1.1 h1.2.1 (by omega), b_some, f_ite]
  by_cases c4 : u_isS b N 60 q.1 = true
  · rw [if_pos c4]
    exact go 60 7 (by rfl) c4 (by unfold u_cmp; rw [if_pos c4]) (by decide)
  rw [if_neg c4, c_isS h1.1 h1.2.1 (by omega), b_some, f_ite]
  by_cases c5 : u_isS b N 62 q.1 = true
  · rw [if_pos c5]
    exact go 62 8 (by rfl) c5 (by unfold u_cmp; rw [if_neg c4, if_pos c5]) (by decide)
  rw [if_neg c5, c_isS h1.1 h1.2.1 (by omega), b_some, f_ite]
  by_cases c6 : u_isS b N 61 q.1 = true
  · rw [if_pos c6]
    exact go 61 9 (by rfl) c6 (by unfold u_cmp; rw [if_neg c4, if_neg c5, if_pos c6]) (by decide)
  have hu : u_cmp b N q.1 = 0 := by unfold u_cmp; rw [if_neg c4, if_neg c5, if_neg c6]
  rw [if_neg c6, if_pos hu]
  obtain ⟨M2, g1, g2⟩ := g_fl (d' := d) (R' := q.2) hr h1 (k := 1) (by omega)
  rw [g1, b_some]
  unfold fX4_fact_166
  have hf : u_ok (u_fl 1 (u_p q.1) q.1) = false := ok_fl
  have hD5 : h_D o 3 k (u_fl 1 (u_p q.1) q.1) := D_fl hD4
  show q_P _ (fun _ M' => z_G b N w r M0 (u_fl 1 (u_p q.1) q.1) o d [] M')
  generalize u_fl 1 (u_p q.1) q.1 = τ at g2 hf hD5
  have hst : u_st b N τ = τ ∧ u_nz b N τ := by
    rcases τ with ⟨p, j⟩ | ⟨k', pl⟩
    · cases hf
    · exact ⟨rfl, trivial⟩
  have h2 := g_st hr g2 hst.2
  rw [hst.1] at h2
  refine w_call h2 ?_
  intro _ M3 h3
  refine w_call (ih 3 o (d + 1) _ _ M3 (by omega) hD5 (by omega) h3) ?_
  intro _ M4 h4
  rw [q_le]
  rw [s_keep k 3 o (τ, q.2) hf] at h4
  exact w_call (g_op (v := 0) hr (d := d) h4 (fun g => by rw [show u_ok τ = true from g] at hf; cases hf)) (fun _ M5 h5 => w_some.mpr (g_f2 hf h5))
theorem isV_c {w : Nat} {M : q_Mem} {v : Int} (hw : M.2 8 2 = (w : Int)) (hw2 : w ≤ 2) (hv : -1 ≤ v ∧ v ≤ 30) : fX4_isValue v M = some (if v = 7 ∨ v = 8 ∨ v = 16 ∨ (v = 3 ∧ w ≠ 2) ∨ ((v = 15 ∨ v = 4) ∧ w = 1) ∨ ((v = 17 ∨ v = 18) ∧ w = 2) then 1 else 0, M) := by
  have hw' : q_w (M.2 8 2) = (w : Int) := by rw [hw, n_w (by omega) (by omega)]
  unfold fX4_isValue
  rw [n_w (a := v) (by omega) (by omega), hw', show q_w 2 = 2 from rfl, show q_w 1 = 1 from rfl]
  by_cases c3 : v = 3
  · rw [if_pos c3]
    by_cases d : (w : Int) = 2
    · rw [if_pos d, if_neg (by omega)]
    · rw [if_neg d, if_pos (by omega)]
  rw [if_neg c3]
  by_cases c4 : v = 4
  · rw [if_pos c4]
    by_cases d : (w : Int) = 1
    · rw [if_pos d, if_pos (by omega)]
    · rw [if_neg d, if_neg (by omega)]
  rw [if_neg c4]
  by_cases c5 : v = 5
  · rw [if_pos c5, if_neg (by omega)]
  rw [if_neg c5]
  by_cases c6 : v = 6
  · rw [if_pos c6, if_neg (by omega)]
  rw [if_neg c6]
  by_cases c7 : v = 7
  · rw [if_pos c7, if_pos (by omega)]
  rw [if_neg c7]
  by_cases c8 : v = 8
  · rw [if_pos c8, if_pos (by omega)]
  rw [if_neg c8]
  by_cases c9 : v = 9
  · rw [if_pos c9, if_neg (by omega)]
  rw [if_neg c9]
  by_cases c10 : v = 10
  · rw [if_pos c10, if_neg (by omega)]
  rw [if_neg c10]
  by_cases c11 : v = 11
  · rw [if_pos c11, if_neg (by omega)]
  rw [if_neg c11]
  by_cases c12 : v = 12
  · rw [if_pos c12, if_neg (by omega)]
  rw [if_neg c12]
  by_cases c13 : v = 13
  · rw [if_pos c13, if_neg (by omega)]
  rw [if_neg c13]
  by_cases c14 : v = 14
  · rw [if_pos c14, if_neg (by omega)]
  rw [if_neg c14]
  by_cases c15 : v = 15
  · rw [if_pos c15]
    by_cases d : (w : Int) = 1
    · rw [if_pos d, if_pos (by omega)]
    · rw [if_neg d, if_neg (by omega)]
  rw [if_neg c15]
  by_cases c16 : v = 16
  · rw [if_pos c16, if_pos (by omega)]
  rw [if_neg c16]
  by_cases c17 : v = 17
  · rw [if_pos c17]
    by_cases d : (w : Int) = 2
    · rw [if_pos d, if_pos (by omega)]
    · rw [if_neg d, if_neg (by omega)]
  rw [if_neg c17]
  by_cases c18 : v = 18
  · rw [if_pos c18]
    by_cases d : (w : Int) = 2
    · rw [if_pos d, if_pos (by omega)]
    · rw [if_neg d, if_neg (by omega)]
  rw [if_neg c18]
  rw [if_neg (by omega)]
theorem vl_c {b : Nat → Int} {N w p : Nat} {j : Bool} (hw2 : w ≤ 2) (hk : t_kind b N p j = 1) : (t_val b N p = 7 ∨ t_val b N p = 8 ∨ t_val b N p = 16 ∨ (t_val b N p = 3 ∧ w ≠ 2) ∨ ((t_val b N p = 15 ∨ t_val b N p = 4) ∧ w = 1) ∨ ((t_val b N p = 17 ∨ t_val b N p = 18) ∧ w = 2)) ↔ u_vl b N w (.inl (p, j)) ≠ 0 := by
  have hW : ∀ c, u_isW b N c (.inl (p, j)) = true ↔ t_val b N p = c := by
    intro c
    rw [u_isW, decide_eq_true hk, Bool.true_and, decide_eq_true_iff]
  unfold u_vl
  simp only [hW]
  generalize t_val b N p = v
  have hm : w = 0 ∨ w = 1 ∨ w = 2 := by omega
  rcases hm with rfl | rfl | rfl
  · simp only [u_may, q_may]
    repeat' split
    all_goals first | omega | (simp_all; done) | (simp_all; omega)
  · simp only [u_may, q_may]
    repeat' split
    all_goals first | omega | (simp_all; done) | (simp_all; omega)
  · simp only [u_may, q_may]
    repeat' split
    all_goals first | omega | (simp_all; done) | (simp_all; omega)
theorem vl_e {b : Nat → Int} {N w : Nat} {σ : t_S} {c : Int} (h : u_isW b N c σ = true) (hv : u_vl b N w σ ≠ 0) : 10000 + c = q_enc (u_vl b N w σ) := by
  rcases σ with ⟨p, j⟩ | ⟨k', pl⟩
  · have h1 := of_decide_eq_true (Bool.and_eq_true_iff.mp h).1
    have h2 := of_decide_eq_true (Bool.and_eq_true_iff.mp h).2
    have hW : ∀ c, u_isW b N c (.inl (p, j)) = true ↔ t_val b N p = c := by
      intro c
      rw [u_isW, decide_eq_true h1, Bool.true_and, decide_eq_true_iff]
    revert hv
    unfold u_vl
    simp only [hW, h2]
    unfold u_may
    intro hv
    by_cases c1 : c = 7
    · subst c1; rfl
    rw [if_neg c1] at hv ⊢
    by_cases c2 : c = 8
    · subst c2; rfl
    rw [if_neg c2] at hv ⊢
    by_cases c3 : c = 3
    · subst c3
      rw [if_pos rfl] at hv ⊢
      by_cases m : q_may w 2 = true
      · rw [if_pos m]; rfl
      · rw [if_neg m] at hv; exact absurd rfl hv
    rw [if_neg c3] at hv ⊢
    by_cases c4 : c = 16
    · subst c4; rfl
    rw [if_neg c4] at hv ⊢
    by_cases c5 : c = 15
    · subst c5
      rw [if_pos rfl] at hv ⊢
      by_cases m : q_may w 4 = true
      · rw [if_pos m]; rfl
      · rw [if_neg m] at hv; exact absurd rfl hv
    rw [if_neg c5] at hv ⊢
    by_cases c6 : c = 4
    · subst c6
      rw [if_pos rfl] at hv ⊢
      by_cases m : q_may w 5 = true
      · rw [if_pos m]; rfl
      · rw [if_neg m] at hv; exact absurd rfl hv
    rw [if_neg c6] at hv ⊢
    by_cases c7 : c = 17
    · subst c7
      rw [if_pos rfl] at hv ⊢
      by_cases m : q_may w 6 = true
      · rw [if_pos m]; rfl
      · rw [if_neg m] at hv; exact absurd rfl hv
    rw [if_neg c7] at hv ⊢
    by_cases c8 : c = 18
    · subst c8
      rw [if_pos rfl] at hv ⊢
      by_cases m : q_may w 7 = true
      · rw [if_pos m]; rfl
      · rw [if_neg m] at hv; exact absurd rfl hv
    rw [if_neg c8] at hv
    exact absurd rfl hv
  · cases h
theorem g_169 {b : Nat → Int} {N w r : Nat} {M0 : q_Mem} {G : Nat → q_Mem → Option (Int × q_Mem)} {o d : Nat} (hr : z_r r) (hw2 : w ≤ 2) {σ : t_S} {R : List Int} {M : q_Mem} (h : z_G b N w r M0 σ o d R M) : q_P (fX4_part_169 G (M.2 5 4) M) (fun _ M' => z_G b N w r M0 (if u_vl b N w σ = 0 then (u_fl 1 (u_p σ) σ, []) else (u_st b N σ, u_vl b N w σ :: R) : t_R).1 o d (if u_vl b N w σ = 0 then (u_fl 1 (u_p σ) σ, []) else (u_st b N σ, u_vl b N w σ :: R) : t_R).2 M') := by
  unfold fX4_part_169
  have bad : u_vl b N w σ = 0 → q_P (fX4_part_206 G M) (fun _ M' => z_G b N w r M0 (if u_vl b N w σ = 0 then (u_fl 1 (u_p σ) σ, []) else (u_st b N σ, u_vl b N w σ :: R) : t_R).1 o d (if u_vl b N w σ = 0 then (u_fl 1 (u_p σ) σ, []) else (u_st b N σ, u_vl b N w σ :: R) : t_R).2 M') := by
    intro hv
    unfold fX4_part_206
    obtain ⟨M1, g1, g2⟩ := g_fl (d' := d) (R' := []) hr h (k := 1) (by omega)
    rw [g1, b_some, if_pos hv]
    exact w_some.mpr g2
  rcases σ with ⟨p, j⟩ | ⟨k', pl⟩
  · have hk := kd_b b N p j
    rw [h.2.1.1.2.2.1, n_w (by omega) (by omega), show q_w 1 = 1 from rfl]
    by_cases c1 : t_kind b N p j = 1
    · have hvb : -1 ≤ t_val b N p ∧ t_val b N p ≤ 30 := by
        unfold t_val
        rw [if_pos (kd_1.mp c1).1]
        exact wv_b _ 31 0 (-1) rfl (by omega)
      have e4 : M.2 5 4 = t_val b N p := h.2.1.1.2.2.2.1
      rw [if_pos c1, e4, isV_c h.2.2.1.2.1 hw2 hvb, b_some, f_ite]
      by_cases c2 : u_vl b N w (.inl (p, j)) = 0
      · rw [if_neg (fun g => (vl_c hw2 c1).mp g c2)]
        exact bad c2
      · have hW : u_isW b N (t_val b N p) (.inl (p, j)) = true := by
          rw [u_isW, decide_eq_true c1, decide_eq_true rfl]
          rfl
        rw [if_pos ((vl_c hw2 c1).mpr c2), if_neg c2]
        refine w_call (g_st hr h (isW_nz hW)) ?_
        intro _ M1 h1
        rw [q_le]
        exact w_call (g_op (v := u_vl b N w (.inl (p, j))) hr (d := d) h1 (fun _ => vl_e hW c2)) (fun _ M4 h4 => w_some.mpr h4)
    · rw [if_neg c1]
      refine bad ?_
      have hW : ∀ c, u_isW b N c (.inl (p, j)) = false := by
        intro c
        rw [u_isW, decide_eq_false c1]
        rfl
      unfold u_vl
      simp only [hW]
      rfl
  · rw [h.2.1.2.2.1, show q_w 4 = 4 from rfl, show q_w 1 = 1 from rfl, if_neg (by decide)]
    exact bad rfl
theorem g_part {b : Nat → Int} {N w r : Nat} {M0 : q_Mem} {k o d : Nat} (hr : z_r r) (hw2 : w ≤ 2) (ih : h_I b N w r M0 k) {σ : t_S} {R : List Int} {M : q_Mem} (hD : h_D o 5 (k + 1) σ) (h : z_G b N w r M0 σ o d R M) : q_P (fX4_part (fG k) M) (fun _ M' => z_G b N w r M0 (s_G b N w (k + 1) 5 o (σ, R)).1 o d (s_G b N w (k + 1) 5 o (σ, R)).2 M') := by
  unfold fX4_part
  rw [q_le, sG_5]
  have hkin : (q_w (M.2 5 3) = q_w 2) ↔ u_isN b N σ = true := by
    rcases σ with ⟨p, j⟩ | ⟨k', pl⟩
    · have hk := kd_b b N p j
      rw [h.2.1.1.2.2.1, n_w (by omega) (by omega), show q_w 2 = 2 from rfl, u_isN, decide_eq_true_iff]
    · rw [h.2.1.2.2.1, u_isN]
      decide
  by_cases c1 : u_isN b N σ = true
  · rw [if_pos (hkin.mpr c1), if_pos c1, q_le]
    have e81 : (M.2 8 1).toNat = r := by rw [h.2.2.1.1, Int.toNat_natCast]
    rw [e81]
    refine w_call (g_tN hr h (lo := 0) (hi := 9999) (by omega) (by omega)) ?_
    rintro x M1 ⟨h1, hx⟩
    exact w_call (g_put hr (d := d) h1 (v := 1000 + (u_N b N 0 9999 σ).1) (fun _ => by rw [hx]; exact e_num (N_v (by omega)))) (fun _ M4 h4 => w_some.mpr h4)
  rw [if_neg (fun g => c1 (hkin.mp g)), if_neg c1, c_isS h.1 h.2.1 (by omega), b_some, f_ite]
  by_cases c2 : u_isS b N 40 σ = true
  · rw [if_pos c2, if_pos c2]
    refine w_call (g_en hr (by have := hD.2.1; omega) h (isS_nz c2)) ?_
    intro _ M1 h1
    refine w_call (ih 3 (o + 1) (d + 1) _ R M1 (by omega) (D_en hD (ok_isS c2)) (by omega) h1) ?_
    intro _ M2 h2
    refine w_call (g_tZ hr h2 (by omega)) ?_
    intro _ M3 h3
    exact w_call (g_lv hr h3) (fun _ M4 h4 => w_some.mpr (g_d (e := 1) h4))
  rw [if_neg c2, if_neg c2, c_isW h.1 h.2.1 (by omega), b_some, f_ite]
  by_cases c3 : u_isW b N 23 σ = true
  · rw [if_pos c3, if_pos c3, isW_v h c3]
    unfold fX4_part_100
    refine w_call (ih 6 o d _ R M (by omega) (D_s hD (by omega) (by omega)) (fun _ => isW_nz c3) h) ?_
    intro _ M2 h2
    rw [q_le]
    exact w_call (g_op (v := 5) hr (d := d) h2 (fun _ => rfl)) (fun _ M4 h4 => w_some.mpr h4)
  rw [if_neg c3, if_neg c3, c_isW h.1 h.2.1 (by omega), b_some, f_ite]
  by_cases c4 : u_isW b N 24 σ = true
  · rw [if_pos c4, if_pos c4, isW_v h c4]
    unfold fX4_part_100
    refine w_call (ih 6 o d _ R M (by omega) (D_s hD (by omega) (by omega)) (fun _ => isW_nz c4) h) ?_
    intro _ M2 h2
    rw [q_le]
    exact w_call (g_op (v := 6) hr (d := d) h2 (fun _ => rfl)) (fun _ M4 h4 => w_some.mpr h4)
  rw [if_neg c4, if_neg c4, h.2.2.1.2.1, n_w (by omega) (by omega), show q_w 2 = 2 from rfl]
  have of : ∀ c v : Int, 10000 + c = q_enc v → u_isW b N c σ = true → q_P (fX4_part_146 (fG k) (M.2 5 4) M) (fun _ M' => z_G b N w r M0 (u_pu v (s_G b N w k 5 (o + 1) (u_en b N o σ, R))).1 o d (u_pu v (s_G b N w k 5 (o + 1) (u_en b N o σ, R))).2 M') := by
    intro c v hv hc
    rw [isW_v h hc]
    unfold fX4_part_146
    refine w_call (g_en hr (by have := hD.2.1; omega) h (isW_nz hc)) ?_
    intro _ M1 h1
    refine w_call (ih 5 (o + 1) (d + 1) _ R M1 (by omega) (D_en hD (ok_isW hc)) (by omega) h1) ?_
    intro _ M2 h2
    refine w_call (g_lv hr h2) ?_
    intro _ M3 h3
    rw [q_le]
    exact w_call (g_op (v := v) hr (d := d) h3 (fun _ => hv)) (fun _ M4 h4 => w_some.mpr h4)
  by_cases cw : w = 2
  · rw [if_pos (show (w : Int) = 2 by omega), c_isW h.1 h.2.1 (by omega), b_some, f_ite]
    by_cases c5 : u_isW b N 11 σ = true
    · rw [if_pos c5, if_pos ⟨cw, c5⟩]
      exact of 11 60 (by rfl) c5
    rw [if_neg c5, if_neg (fun g => c5 g.2), c_isW h.1 h.2.1 (by omega), b_some, f_ite]
    by_cases c6 : u_isW b N 2 σ = true
    · rw [if_pos c6, if_pos ⟨cw, c6⟩]
      exact of 2 61 (by rfl) c6
    rw [if_neg c6, if_neg (fun g => c6 g.2)]
    exact g_169 hr hw2 h
  · rw [if_neg (show ¬ (w : Int) = 2 by omega), if_neg (fun g => cw g.1), if_neg (fun g => cw g.1)]
    exact g_169 hr hw2 h
theorem g_two {b : Nat → Int} {N w r : Nat} {M0 : q_Mem} {k o d : Nat} (hr : z_r r) (ih : h_I b N w r M0 k) {σ : t_S} {R : List Int} {M : q_Mem} (hD : h_D o 6 (k + 1) σ) (hn : u_nz b N σ) (h : z_G b N w r M0 σ o d R M) : q_P (fX4_twoSums (fG k) M) (fun _ M' => z_G b N w r M0 (s_G b N w (k + 1) 6 o (σ, R)).1 o (d + 1) (s_G b N w (k + 1) 6 o (σ, R)).2 M') := by
  unfold fX4_twoSums
  rw [sG_6]
  refine w_call (g_st hr h hn) ?_
  intro _ M1 h1
  have hD1 : h_D o 6 (k + 1) (u_st b N σ) := D_st hD
  show q_P _ (fun _ M' => z_G b N w r M0 (if u_isS b N 40 (u_st b N σ) = true then u_rz b N 41 (s_G b N w k 3 (o + 1) (u_rz b N 44 (s_G b N w k 3 (o + 1) (u_en b N o (u_st b N σ), R)))) else (u_fl 1 (u_p (u_st b N σ)) (u_st b N σ), [])).1 o (d + 1) (if u_isS b N 40 (u_st b N σ) = true then u_rz b N 41 (s_G b N w k 3 (o + 1) (u_rz b N 44 (s_G b N w k 3 (o + 1) (u_en b N o (u_st b N σ), R)))) else (u_fl 1 (u_p (u_st b N σ)) (u_st b N σ), [])).2 M')
  generalize u_st b N σ = τ at h1 hD1
  rw [c_isS h1.1 h1.2.1 (by omega), b_some, f_ite]
  by_cases c : u_isS b N 40 τ = true
  · rw [if_pos c, if_pos c]
    refine w_call (g_en hr (by have := hD.2.1; omega) h1 (isS_nz c)) ?_
    intro _ M2 h2
    have hD2 : h_D (o + 1) 3 k (u_en b N o τ) := D_en hD1 (ok_isS c)
    refine w_call (ih 3 (o + 1) (d + 1 + 1) _ R M2 (by omega) hD2 (by omega) h2) ?_
    intro _ M3 h3
    refine w_call (g_tZ hr h3 (by omega)) ?_
    intro _ M4 h4
    have hD3 : h_D (o + 1) 3 k (u_Z b N 44 (s_G b N w k 3 (o + 1) (u_en b N o τ, R)).1) := D_Z (D_G (t2 := 0) hD2)
    refine w_call (ih 3 (o + 1) (d + 1 + 1) _ _ M4 (by omega) hD3 (by omega) h4) ?_
    intro _ M5 h5
    refine w_call (g_tZ hr h5 (by omega)) ?_
    intro _ M6 h6
    exact w_call (g_lv hr h6) (fun _ M7 h7 => w_some.mpr (g_d (e := 1) h7))
  · rw [if_neg c, if_neg c]
    obtain ⟨M2, g1, g2⟩ := g_fl (d' := d + 1) (R' := []) hr h1 (k := 1) (by omega)
    rw [g1, b_some]
    exact w_some.mpr g2
theorem c_G {b : Nat → Int} {N w r : Nat} {M0 : q_Mem} (hr : z_r r) (hw2 : w ≤ 2) : ∀ k, h_I b N w r M0 k := by
  intro k
  induction k with
  | zero => intro t o d σ R M _ hD; exact absurd hD.1 (by omega)
  | succ k ih =>
    intro t o d σ R M ht hD hn h
    match t, ht with
    | 0, _ =>
      show q_P (fX4_test (fG k) M) _
      unfold fX4_test
      have hD1 : h_D o 1 k σ := D_s hD (by omega) (by omega)
      refine w_call (ih 1 o d σ R M (by omega) hD1 (by omega) h) ?_
      intro _ M1 h1
      exact g_test hr ih 1600 0 q_FU d _ _ M1 (by omega) (by unfold q_FU; omega) (D_G (t2 := 0) hD1) h1
    | 1, _ =>
      show q_P (fX4_both (fG k) M) _
      unfold fX4_both
      have hD1 : h_D o 2 k σ := D_s hD (by omega) (by omega)
      refine w_call (ih 2 o d σ R M (by omega) hD1 (by omega) h) ?_
      intro _ M1 h1
      exact g_both hr ih 1600 0 q_FU d _ _ M1 (by omega) (by unfold q_FU; omega) (D_G (t2 := 0) hD1) h1
    | 2, _ => exact g_fact hr ih hD h
    | 3, _ =>
      show q_P (fX4_sum (fG k) M) _
      unfold fX4_sum
      have hD1 : h_D o 4 k σ := D_s hD (by omega) (by omega)
      refine w_call (ih 4 o d σ R M (by omega) hD1 (by omega) h) ?_
      intro _ M1 h1
      exact g_sum hr ih 1600 0 q_FU d _ _ M1 (by omega) (by unfold q_FU; omega) (D_G (t2 := 0) hD1) h1
    | 4, _ =>
      show q_P (fX4_product (fG k) M) _
      unfold fX4_product
      have hD1 : h_D o 5 k σ := D_s hD (by omega) (by omega)
      refine w_call (ih 5 o d σ R M (by omega) hD1 (by omega) h) ?_
      intro _ M1 h1
      exact g_product hr ih 1600 0 q_FU d _ _ M1 (by omega) (by unfold q_FU; omega) (D_G (t2 := 0) hD1) h1
    | 5, _ => exact g_part hr hw2 ih hD h
    | 6, _ => exact g_two hr ih hD (hn rfl) h
    | n + 7, ht => omega
