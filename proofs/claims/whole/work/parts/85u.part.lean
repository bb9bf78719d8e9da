/-! texts: the other side reads a SUM, step by step -/
def r_B (n1 n2 : Nat) (x : Int) (M : q_Mem) : Option (Int × q_Mem) := q_bd (fX12_qGoesOn_0 n1 M) fun x21 M2 => if q_w x21 = 0 then ((fX12_qSums_48 (fX12_qSums_15 n2) x M2)) else ((fX12_qSums_49 (fX12_qSums_15 n2) x 1 M2))
def r_K (n2 : Nat) (x : Int) (_ : Int) (M1 : q_Mem) : Option (Int × q_Mem) := if q_w (M1.2 94 5) = 0 then (r_B q_FU n2 x M1) else ((fX12_qSums_48 (fX12_qSums_15 n2) x M1))
def r_A (n1 n2 : Nat) (x : Int) (M : q_Mem) : Option (Int × q_Mem) := q_bd (fX12_qPartTold_2 n1 1 M) (r_K n2 x)
def h_F (b : Nat → Int) (N : Nat) (M0 : q_Mem) (x : Int) (Q : Int → q_Mem → Prop) (σ : t_S) : Prop := ∀ M, z_F b N M0 1 σ M → q_P (fX12_qSums_78 x M) Q
def h_A (b : Nat → Int) (N w base : Nat) (M0 : q_Mem) (x δ : Int) (Q : Int → q_Mem → Prop) (σ : t_S) (T : List Int) (o : Int) (R : List Int) : Prop := (u_ok σ = false → h_F b N M0 x Q σ) ∧ ∀ p j, σ = .inl (p, j) → ∀ n1 n2 M, N + 2 ≤ p + n1 → N + 2 ≤ p + n2 → z_C b N w base M0 σ T o δ R M → q_P (r_A n1 n2 x M) Q
def h_B (b : Nat → Int) (N w base : Nat) (M0 : q_Mem) (x δ : Int) (Q : Int → q_Mem → Prop) (σ : t_S) (T : List Int) (o : Int) (R : List Int) : Prop := (u_ok σ = false → h_F b N M0 x Q σ) ∧ ∀ p j, σ = .inl (p, j) → ∀ n1 n2 M, N + 2 ≤ p + n1 → N + 2 ≤ p + n2 → z_C b N w base M0 σ T o δ R M → q_P (r_B n1 n2 x M) Q
def h_Y (w base : Nat) (M0 : q_Mem) (δ : Int) : Prop := r_words M0.2 ∧ w ≤ 2 ∧ base ≤ 1600 ∧ 0 ≤ δ
theorem F_bad {b : Nat → Int} {N : Nat} {M0 M : q_Mem} {e : Int} {σ : t_S} (h : z_F b N M0 e σ M) : ¬ q_w (M.2 94 5) = 0 := by
  rcases σ with ⟨p, j⟩ | ⟨k, pl⟩
  · cases h.1
  · have h1 : M.2 94 5 = k := h.2.2.1.1
    have h4 := h.2.2.1.2.2
    rw [h1, n_w (by omega) (by omega)]
    omega
theorem F_w {b : Nat → Int} {N : Nat} {M0 M : q_Mem} {e e' : Int} {σ : t_S} (h : z_F b N M0 e σ M) (he : e ≤ e') : z_F b N M0 e' σ M := by
  obtain ⟨h0, h1, h2, h3, h4⟩ := h
  exact ⟨h0, h1, h2, by omega, h4⟩
theorem fin_F {b : Nat → Int} {N : Nat} {M0 M : q_Mem} {e x : Int} {Q : Int → q_Mem → Prop} {σ : t_S} {n2 : Nat} (hF : h_F b N M0 x Q σ) (hz : z_F b N M0 e σ M) (he : e ≤ 1) (hn : 0 < n2) : q_P (fX12_qSums_48 (fX12_qSums_15 n2) x M) Q := by
  unfold fX12_qSums_48 fX12_qSums_49
  cases n2 with
  | zero => omega
  | succ n2 =>
    rw [fX12_qSums_15, show q_w 0 = 0 from rfl, if_pos rfl, show q_FU = 99999 + 1 from rfl, fX12_qSums_53, if_neg (F_bad hz)]
    exact hF M (F_w hz he)
theorem rA_F {b : Nat → Int} {N : Nat} {M0 M : q_Mem} {e x : Int} {Q : Int → q_Mem → Prop} {σ : t_S} {n1 n2 : Nat} {x1 : Int} (hF : h_F b N M0 x Q σ) (hz : z_F b N M0 e σ M) (he : e ≤ 1) (hn1 : 0 < n1) (hn : 0 < n2) : q_P (q_bd (fX12_qPartTold_2 n1 x1 M) (r_K n2 x)) Q := by
  have e1 : fX12_qPartTold_2 n1 x1 M = some (0, M) := by
    cases n1 with
    | zero => omega
    | succ n1 =>
      have e2 : fX12_qPartTold_186 M = some (0, M) := by
        unfold fX12_qPartTold_186
        rw [if_neg (F_bad hz)]
      rw [fX12_qPartTold_2, e2, if_neg (F_bad hz)]
      split <;> rfl
  rw [e1, b_some]
  unfold r_K
  rw [if_neg (F_bad hz)]
  exact fin_F hF hz he hn
theorem P_fr {b : Nat → Int} {N p : Nat} {j : Bool} {M M' : q_Mem} (h : z_P b N p j M) (hk : ∀ k, k = 2 ∨ k = 4 ∨ k = 5 ∨ k = 6 → M'.2 94 k = M.2 94 k) : z_P b N p j M' := by
  obtain ⟨k5, kp, k2, ks, k41, k42, kj⟩ := h
  exact ⟨by rw [hk 5 (by omega), k5], kp, by rw [hk 2 (by omega), k2], ks, by rw [hk 4 (by omega)]; exact k41, by rw [hk 4 (by omega)]; exact k42, by rw [hk 4 (by omega)]; exact kj⟩
theorem zc_b : z_c 40 ∧ z_c 41 ∧ z_c 42 ∧ z_c 43 ∧ z_c 44 ∧ z_c 45 ∧ z_c 47 ∧ z_c 60 ∧ z_c 61 ∧ z_c 62 ∧ z_c 91 ∧ z_c 93 := by
  unfold z_c
  decide
theorem st_x {b : Nat → Int} {N p : Nat} {j : Bool} (hp : p ≤ N) (hn : t_at b N p ≠ -1) : ∃ p' j', u_st b N (.inl (p, j)) = .inl (p', j') ∧ p + 1 ≤ p' ∧ p' ≤ N := ⟨_, _, rfl, (np_c hp).2.2 hn, (np_c hp).2.1⟩
theorem F_2 {b : Nat → Int} {N : Nat} {M0 M : q_Mem} {e z : Int} {σ : t_S} (h : z_F b N M0 e σ M) : z_F b N M0 e σ (q_up M 94 2 z) := by
  obtain ⟨h0, h1, h2, h3, h4⟩ := h
  refine ⟨h0, ot_fr h1 (up_ne (by omega)) (fun k => up_ne (by omega)), ?_, by rw [up_ne (by omega)]; exact h3, fun a k g1 g2 g3 => by rw [up_ne (by omega), h4 a k g1 g2 g3]⟩
  rcases σ with ⟨p, j⟩ | ⟨k, pl⟩
  · cases h0
  · exact ⟨by rw [up_ne (by omega)]; exact h2.1, by rw [up_ne (by omega)]; exact h2.2.1, h2.2.2⟩
theorem A_open {b : Nat → Int} {N w base : Nat} {M0 : q_Mem} {x δ : Int} {Q : Int → q_Mem → Prop} {σ : t_S} {T R : List Int} {o : Nat} (hy : h_Y w base M0 δ) (c : u_isS b N 40 σ = true) (ho : o ≤ 6) (h : h_A b N w base M0 x δ Q (u_en b N o σ) (20 :: T) ((o : Int) + 1) R) : h_A b N w base M0 x δ Q σ T (o : Int) R := by
  obtain ⟨hw0, hw2, hb, hd⟩ := hy
  refine ⟨fun hf => (by rw [ok_isS c] at hf; cases hf), ?_⟩
  rintro p j rfl n1 n2 M hn1 hn2 hC
  have hpN := C_pN hC
  have hat : t_at b N p ≠ -1 := isS_nz c
  have hlt := at_lt hat
  cases n1 with
  | zero => omega
  | succ n =>
    obtain ⟨M1, g1, g2, g3⟩ := C_look hC
    obtain ⟨M2, k1, k2, k3⟩ := C_wo hw0 hw2 g2 (x := 8) (y := 10) (by omega) (by omega)
    have e40 : t_at b N p = 40 := (at_S zc_b.1).mpr c
    unfold r_A
    rw [fX12_qPartTold_2, show q_w 1 = 1 from rfl, if_neg (by decide), show M.2 94 5 = 0 from hC.2.1.1, show q_w 0 = 0 from rfl, if_pos rfl, g1, b_some, k1, b_some, e40, if_pos rfl, show M2.2 94 2 = (p : Int) from k3.2.2.1]
    obtain ⟨M7, o1, o2, o3⟩ := C_opens (x := 20) (pl := (p : Int)) k2 (by omega) (by omega) (by omega)
    rw [o1, b_some, q_le]
    unfold fX12_qPartTold_183
    unfold u_en at h
    by_cases c6 : o < 6
    · obtain ⟨q1, q2⟩ := o2 (by omega)
      have hP := P_fr k3 q2
      have hadv := C_adv q1 hP c (z := M7.2 94 2 + 1) (by rw [hP.2.2.1])
      rw [if_pos c6] at h
      obtain ⟨p', j', e1, e2, e3⟩ := st_x (j := j) hpN.2.1 hat
      exact h.2 p' j' e1 n n2 _ (by omega) (by omega) (C_w hadv (by omega))
    · rw [if_neg c6] at h
      exact rA_F (h.1 ok_fl) (F_2 (C_F rfl (by omega) (o3 (by omega)))) (by omega) (by omega) (by omega)
theorem at_40 {b : Nat → Int} {N p : Nat} {j : Bool} {M : q_Mem} (hT : z_ot b N M) {c : Int} (hc : z_c c) (h : ¬ u_isS b N c (.inl (p, j)) = true) : ¬ q_w (t_at b N p) = q_w c := by
  have := at_b2 hT p
  have := hc.1
  rw [n_w (by omega) (by omega), n_w (by omega) (by omega)]
  exact fun g => h ((at_S hc).mp g)
theorem A_101 {b : Nat → Int} {N w base : Nat} {M0 : q_Mem} {x δ : Int} {Q : Int → q_Mem → Prop} {p : Nat} {j : Bool} {T R : List Int} {o n n2 : Nat} {M : q_Mem} {x4 v : Int} (hy : h_Y w base M0 δ) (ho : o ≤ 6) (hx4 : (x4 = 1 ∧ v = 21) ∨ (x4 = 0 ∧ v = 22)) (hn1 : N + 1 ≤ p + n) (hn2 : N + 1 ≤ p + n2) (hC : z_C b N w base M0 (.inl (p, j)) T (o : Int) (δ + 1) R M) (h : h_A b N w base M0 x δ Q (if u_isS b N 40 (.inl (p, j)) = true then u_en b N o (.inl (p, j)) else u_fl 1 (p : Int) (.inl (p, j))) (v :: T) ((o : Int) + 1) R) : q_P (q_bd (fX12_qPartTold_101 (fX12_qPartTold_2 n) 1 x4 M) (r_K n2 x)) Q := by
  obtain ⟨hw0, hw2, hb, hd⟩ := hy
  have hpN := C_pN hC
  obtain ⟨M1, g1, g2, g3⟩ := C_look hC
  unfold fX12_qPartTold_101
  rw [g1, b_some]
  by_cases c : u_isS b N 40 (.inl (p, j)) = true
  · have hat : t_at b N p ≠ -1 := isS_nz c
    have hlt := at_lt hat
    rw [if_pos c] at h
    rw [(at_S zc_b.1).mpr c, if_pos rfl]
    unfold fX12_qPartTold_118
    rw [show M1.2 94 2 = (p : Int) from g3.2.2.1, n_w (a := (p : Int)) (by omega) (by omega), show q_w (-1) = -1 from rfl, if_neg (by omega)]
    have e : (if q_w x4 = 0 then fX12_qPartTold_139 (fX12_qPartTold_2 n) 1 (p : Int) 22 M1 else fX12_qPartTold_139 (fX12_qPartTold_2 n) 1 (p : Int) 21 M1) = fX12_qPartTold_139 (fX12_qPartTold_2 n) 1 (p : Int) v M1 := by
      rcases hx4 with ⟨e1, e2⟩ | ⟨e1, e2⟩
      · rw [e1, e2, show q_w 1 = 1 from rfl, if_neg (by decide)]
      · rw [e1, e2, show q_w 0 = 0 from rfl, if_pos rfl]
    rw [e]
    unfold fX12_qPartTold_139 fX12_qPartTold_144 fX12_qPartTold_183
    obtain ⟨M7, o1, o2, o3⟩ := C_opens (x := v) (pl := (p : Int)) g2 (by omega) (by omega) (by omega)
    rw [o1, b_some]
    unfold u_en at h
    by_cases c6 : o < 6
    · obtain ⟨q1, q2⟩ := o2 (by omega)
      rw [if_pos c6] at h
      obtain ⟨M8, s1, s2, s3⟩ := C_askS q1 zc_b.1
      rw [s1, b_some]
      obtain ⟨p', j', e1, e2, e3⟩ := st_x (j := j) hpN.2.1 hat
      exact h.2 p' j' e1 n n2 _ (by omega) (by omega) (C_w (s2 c) (by omega))
    · rw [if_neg c6] at h
      have hF := C_F rfl (by omega) (o3 (by omega))
      have e5 : fX12_asksSign 40 M7 = some (0, M7) := by
        unfold fX12_asksSign
        rw [if_neg (F_bad hF)]
      rw [e5, b_some]
      exact rA_F (h.1 ok_fl) hF (by omega) (by omega) (by omega)
  · rw [if_neg c] at h
    rw [if_neg (at_40 hC.1 zc_b.1 c)]
    unfold fX12_qPartTold_118
    rw [if_pos rfl]
    unfold fX12_qPartTold_144 fX12_qPartTold_183
    obtain ⟨M8, s1, s2, s3⟩ := C_askS g2 zc_b.1
    rw [s1, b_some]
    exact rA_F (h.1 rfl) (C_F rfl (by omega) (s3 c)) (by omega) (by omega) (by omega)
theorem A_min {b : Nat → Int} {N w base : Nat} {M0 : q_Mem} {x δ : Int} {Q : Int → q_Mem → Prop} {σ : t_S} {T R : List Int} {o : Nat} {cw v : Int} (hy : h_Y w base M0 δ) (hcv : (cw = 23 ∧ v = 21) ∨ (cw = 24 ∧ v = 22)) (c : u_isW b N cw σ = true) (ho : o ≤ 6) (h : h_A b N w base M0 x δ Q (if u_isS b N 40 (u_st b N σ) = true then u_en b N o (u_st b N σ) else u_fl 1 (u_p (u_st b N σ)) (u_st b N σ)) (v :: T) ((o : Int) + 1) R) : h_A b N w base M0 x δ Q σ T (o : Int) R := by
  have hy' := hy
  obtain ⟨hw0, hw2, hb, hd⟩ := hy
  refine ⟨fun hf => (by rw [ok_isW c] at hf; cases hf), ?_⟩
  rintro p j rfl n1 n2 M hn1 hn2 hC
  have hpN := C_pN hC
  have hat : t_at b N p ≠ -1 := isW_nz c
  have hlt := at_lt hat
  cases n1 with
  | zero => omega
  | succ n =>
    obtain ⟨M1, g1, g2, g3⟩ := C_look hC
    obtain ⟨M2, k1, k2, k3⟩ := C_wo hw0 hw2 g2 (x := 8) (y := 10) (by omega) (by omega)
    have n40 : ¬ u_isS b N 40 (.inl (p, j)) = true := fun g => isS_W g c
    unfold r_A
    rw [fX12_qPartTold_2, show q_w 1 = 1 from rfl, if_neg (by decide), show M.2 94 5 = 0 from hC.2.1.1, show q_w 0 = 0 from rfl, if_pos rfl, g1, b_some, k1, b_some, if_neg (at_40 hC.1 zc_b.1 n40)]
    obtain ⟨M3, a1, a2, a3⟩ := C_isH hw0 k2 wm_23
    rw [a1, b_some, f_ite]
    obtain ⟨p', j', e1, e2, e3⟩ := st_x (j := j) hpN.2.1 hat
    rw [e1] at h
    rcases hcv with ⟨rfl, hv⟩ | ⟨rfl, hv⟩
    · rw [if_pos c]
      unfold fX12_qPartTold_78
      obtain ⟨M4, t1, t2, t3⟩ := C_takes hw0 a2 wm_23
      rw [if_pos c] at t1
      rw [t1, b_some, show q_w 1 = 1 from rfl, if_neg (by decide)]
      have t4 := t2 c
      rw [e1] at t4
      exact A_101 hy' ho (Or.inl ⟨rfl, hv⟩) (by omega) (by omega) t4 h
    · have n23 : ¬ u_isW b N 23 (.inl (p, j)) = true := isW_u c (by decide)
      rw [if_neg n23]
      obtain ⟨M4, a4, a5, a6⟩ := C_isH hw0 a2 wm_24
      rw [a4, b_some, f_ite, if_pos c]
      unfold fX12_qPartTold_78
      obtain ⟨M5, t1, t2, t3⟩ := C_takes hw0 a5 wm_23
      rw [if_neg n23] at t1
      rw [t1, b_some, show q_w 0 = 0 from rfl, if_pos rfl]
      obtain ⟨M6, u1, u2⟩ := C_asks hw0 (t3 n23).1 wm_24 c
      rw [u1, b_some]
      rw [e1] at u2
      exact A_101 hy' ho (Or.inr ⟨rfl, hv⟩) (by omega) (by omega) u2 h
theorem aw_F {b : Nat → Int} {N : Nat} {M0 M : q_Mem} {e k : Int} {σ : t_S} (h : z_F b N M0 e σ M) : fX12_qAsksWord k M = some (0, M) := by
  have ha : ∀ r m, fX12_asks r m M = some (0, M) := by
    intro r m
    unfold fX12_asks
    rw [if_neg (F_bad h)]
  unfold fX12_qAsksWord
  simp only [ha, b_some]
  repeat' split
  all_goals rfl
theorem A_of {b : Nat → Int} {N w base : Nat} {M0 : q_Mem} {x δ : Int} {Q : Int → q_Mem → Prop} {σ : t_S} {T R : List Int} {o : Nat} {cw v : Int} (hy : h_Y w base M0 δ) (hwe : w = 2) (hcv : (cw = 11 ∧ v = 60) ∨ (cw = 2 ∧ v = 61)) (c : u_isW b N cw σ = true) (ho : o ≤ 6) (h : h_A b N w base M0 x δ Q (u_en b N o σ) (v :: T) ((o : Int) + 1) R) : h_A b N w base M0 x δ Q σ T (o : Int) R := by
  obtain ⟨hw0, hw2, hb, hd⟩ := hy
  refine ⟨fun hf => (by rw [ok_isW c] at hf; cases hf), ?_⟩
  rintro p j rfl n1 n2 M hn1 hn2 hC
  have hpN := C_pN hC
  have hat : t_at b N p ≠ -1 := isW_nz c
  have hlt := at_lt hat
  cases n1 with
  | zero => omega
  | succ n =>
    obtain ⟨M1, g1, g2, g3⟩ := C_look hC
    obtain ⟨M2, k1, k2, k3⟩ := C_wo hw0 hw2 g2 (x := 8) (y := 10) (by omega) (by omega)
    have n40 : ¬ u_isS b N 40 (.inl (p, j)) = true := fun g => isS_W g c
    have hkw : k_wh b N (.inl (p, j)) = v - 52 := by
      rcases hcv with ⟨rfl, rfl⟩ | ⟨rfl, rfl⟩
      · exact wh_of.2.1 c
      · exact wh_of.2.2 c
    have hof : 8 ≤ k_wh b N (.inl (p, j)) ∧ k_wh b N (.inl (p, j)) < 10 ∧ q_may w (k_wh b N (.inl (p, j))) = true := by
      rw [hwe]
      refine wh_of.1.mpr ?_
      rcases hcv with ⟨rfl, rfl⟩ | ⟨rfl, rfl⟩
      · exact Or.inl c
      · exact Or.inr c
    rw [if_pos hof, hkw] at k1
    have n23 : ¬ u_isW b N 23 (.inl (p, j)) = true := isW_u c (by omega)
    have n24 : ¬ u_isW b N 24 (.inl (p, j)) = true := isW_u c (by omega)
    unfold r_A
    rw [fX12_qPartTold_2, show q_w 1 = 1 from rfl, if_neg (by decide), show M.2 94 5 = 0 from hC.2.1.1, show q_w 0 = 0 from rfl, if_pos rfl, g1, b_some, k1, b_some, if_neg (at_40 hC.1 zc_b.1 n40)]
    obtain ⟨M3, a1, a2, a3⟩ := C_isH hw0 k2 wm_23
    rw [a1, b_some, f_ite, if_neg n23]
    obtain ⟨M4, a4, a5, a6⟩ := C_isH hw0 a2 wm_24
    rw [a4, b_some, f_ite, if_neg n24, n_w (a := v - 52) (by omega) (by omega), show q_w (-1) = -1 from rfl, if_neg (by omega), show M4.2 94 2 = (p : Int) from a6.2.2.1, show (60 + (v - 52)) - 8 = v from by omega]
    obtain ⟨M7, o1, o2, o3⟩ := C_opens (x := v) (pl := (p : Int)) a5 (by omega) (by omega) (by omega)
    rw [o1, b_some]
    unfold fX12_qPartTold_183
    unfold u_en at h
    by_cases c6 : o < 6
    · obtain ⟨q1, q2⟩ := o2 (by omega)
      rw [if_pos c6] at h
      obtain ⟨M8, s1, s2⟩ := C_aw hw0 q1 (k := v - 52) (by omega) hkw
      rw [s1, b_some]
      obtain ⟨p', j', e1, e2, e3⟩ := st_x (j := j) hpN.2.1 hat
      exact h.2 p' j' e1 n n2 _ (by omega) (by omega) (C_w s2 (by omega))
    · rw [if_neg c6] at h
      have hF := C_F rfl (by omega) (o3 (by omega))
      rw [aw_F hF, b_some]
      exact rA_F (h.1 ok_fl) hF (by omega) (by omega) (by omega)
theorem of_no {b : Nat → Int} {N w : Nat} {σ : t_S} (hw2 : w ≤ 2) (h1 : ¬ (w = 2 ∧ u_isW b N 11 σ = true)) (h2 : ¬ (w = 2 ∧ u_isW b N 2 σ = true)) : ¬ (8 ≤ k_wh b N σ ∧ k_wh b N σ < 10 ∧ q_may w (k_wh b N σ) = true) := by
  intro h
  have hm : w = 0 ∨ w = 1 ∨ w = 2 := by omega
  rcases hm with rfl | rfl | rfl
  · have := of_decide_eq_true h.2.2
    omega
  · have := of_decide_eq_true h.2.2
    omega
  · rcases wh_of.1.mp h with g | g
    · exact h1 ⟨rfl, g⟩
    · exact h2 ⟨rfl, g⟩
/-- the end of a part: the code, and what waits for it -/
theorem A_237 {b : Nat → Int} {N w base : Nat} {M0 : q_Mem} {x δ : Int} {Q : Int → q_Mem → Prop} {p : Nat} {j : Bool} {T R : List Int} {o s0 : Int} {n2 : Nat} {M : q_Mem} (hy : h_Y w base M0 δ) (hn2 : N + 2 ≤ p + n2) (hC : z_C b N w base M0 (.inl (p, j)) T o (δ + 1) R M) (h : h_B b N w base M0 x δ Q (.inl (p, j)) (k_es base T o (s0 :: R)).1 (k_es base T o (s0 :: R)).2.1 (k_es base T o (s0 :: R)).2.2) : q_P (q_bd (fX12_qPartTold_237 s0 M) (r_K n2 x)) Q := by
  obtain ⟨hw0, hw2, hb, hd⟩ := hy
  have hpN := C_pN hC
  unfold fX12_qPartTold_237
  obtain ⟨M1, g1, g2⟩ := C_code (x := s0) hC (by omega)
  rw [g1, b_some]
  unfold fX12_qEndsPart
  obtain ⟨M2, k1, k2⟩ := C_ends (p := p) (j := j) (d := δ + 1 - 1) (by omega) (by omega) T q_FU o (s0 :: R) M1 (by unfold q_FU; omega) g2
  rw [k1, b_some, b_some]
  unfold r_K
  rw [show M2.2 94 5 = 0 from k2.2.1.1, show q_w 0 = 0 from rfl, if_pos rfl]
  exact h.2 p j rfl q_FU n2 M2 (by unfold q_FU; omega) hn2 (C_w k2 (by omega))
theorem A_rest {b : Nat → Int} {N w base : Nat} {M0 : q_Mem} {x δ : Int} {Q : Int → q_Mem → Prop} {σ : t_S} {T R : List Int} {o : Nat} (hy : h_Y w base M0 δ) (n40 : ¬ u_isS b N 40 σ = true) (n23 : ¬ u_isW b N 23 σ = true) (n24 : ¬ u_isW b N 24 σ = true) (n11 : ¬ (w = 2 ∧ u_isW b N 11 σ = true)) (n2' : ¬ (w = 2 ∧ u_isW b N 2 σ = true)) {τ : t_R} (hτ : τ = if u_vl b N w σ = 0 then ((u_N b N 0 9999 σ).2, (1000 + (u_N b N 0 9999 σ).1) :: R) else (u_st b N σ, u_vl b N w σ :: R)) (h : h_B b N w base M0 x δ Q τ.1 (k_es base T (o : Int) τ.2).1 (k_es base T (o : Int) τ.2).2.1 (k_es base T (o : Int) τ.2).2.2) (hok : u_ok σ = true) : h_A b N w base M0 x δ Q σ T (o : Int) R := by
  have hy' := hy
  obtain ⟨hw0, hw2, hb, hd⟩ := hy
  refine ⟨fun hf => (by rw [hok] at hf; cases hf), ?_⟩
  rintro p j rfl n1 n2 M hn1 hn2 hC
  have hpN := C_pN hC
  cases n1 with
  | zero => omega
  | succ n =>
  cases n with
  | zero => omega
  | succ n =>
    obtain ⟨M1, g1, g2, g3⟩ := C_look hC
    obtain ⟨M2, k1, k2, k3⟩ := C_wo hw0 hw2 g2 (x := 8) (y := 10) (by omega) (by omega)
    rw [if_neg (of_no hw2 n11 n2')] at k1
    unfold r_A
    rw [fX12_qPartTold_2, show q_w 1 = 1 from rfl, if_neg (by decide), show M.2 94 5 = 0 from hC.2.1.1, show q_w 0 = 0 from rfl, if_pos rfl, g1, b_some, k1, b_some, if_neg (at_40 hC.1 zc_b.1 n40)]
    obtain ⟨M3, a1, a2, a3⟩ := C_isH hw0 k2 wm_23
    rw [a1, b_some, f_ite, if_neg n23]
    obtain ⟨M4, a4, a5, a6⟩ := C_isH hw0 a2 wm_24
    rw [a4, b_some, f_ite, if_neg n24, if_pos rfl]
    unfold fX12_qPartTold_183
    rw [fX12_qPartTold_2, show q_w 0 = 0 from rfl, if_pos rfl]
    unfold fX12_qPartTold_186
    rw [show M4.2 94 5 = 0 from a5.2.1.1, show q_w 0 = 0 from rfl, if_pos rfl]
    obtain ⟨M5, w1, w2, w3⟩ := C_wo hw0 hw2 a5 (x := 0) (y := 8) (by omega) (by omega)
    rw [wh_vl hw2] at w1
    rw [w1, b_some]
    by_cases cv : u_vl b N w (.inl (p, j)) = 0
    · rw [if_pos cv] at hτ
      rw [if_pos cv, if_pos rfl]
      unfold fX12_qPartTold_212
      rw [if_pos rfl]
      obtain ⟨r, M6, r1, r2, r3⟩ := C_num w2
      rw [r1, b_some]
      by_cases ck : u_ok (u_N b N 0 9999 (.inl (p, j))).2 = true
      · rw [r3 ck]
        have hp' : ∃ p' j', (u_N b N 0 9999 (.inl (p, j))).2 = .inl (p', j') := by
          rcases hq : (u_N b N 0 9999 (.inl (p, j))).2 with ⟨p', j'⟩ | e
          · exact ⟨p', j', rfl⟩
          · rw [hq] at ck; cases ck
        obtain ⟨p', j', e1⟩ := hp'
        rw [e1] at r2
        have hge : p ≤ p' := by
          rw [u_N] at e1
          by_cases c1 : t_kind b N p j = 2
          · rw [if_pos c1] at e1
            by_cases c2 : 4 < t_end b N p - p
            · rw [if_pos c2] at e1; cases e1
            · rw [if_neg c2] at e1
              by_cases c3 : t_val b N p < 0 ∨ 9999 < t_val b N p
              · rw [if_pos c3] at e1; cases e1
              · rw [if_neg c3] at e1
                cases e1
                exact (np_c hpN.2.1).1
          · rw [if_neg c1] at e1; cases e1
        refine A_237 hy' (p := p') (j := j') (by omega) r2 ?_
        rw [hτ] at h
        rw [e1] at h
        exact h
      · have ck' : u_ok (u_N b N 0 9999 (.inl (p, j))).2 = false := Bool.eq_false_iff.mpr ck
        unfold fX12_qPartTold_237
        obtain ⟨M7, q1, q2⟩ := F_code (x := 1000 + r) (C_F ck' (by omega) r2) (by omega)
        rw [q1, b_some]
        unfold fX12_qEndsPart
        rw [show q_FU = 99999 + 1 from rfl, fX12_qEndsPart_0, if_neg (F_bad q2), b_some, b_some]
        unfold r_K
        rw [if_neg (F_bad q2)]
        rw [hτ] at h
        exact fin_F (h.1 ck') q2 (by omega) (by omega)
    · rw [if_neg cv] at hτ
      have hvl : -100 ≤ u_vl b N w (.inl (p, j)) - 40 ∧ u_vl b N w (.inl (p, j)) - 40 ≤ 7 ∧ 0 ≤ u_vl b N w (.inl (p, j)) - 40 ∧ k_wh b N (.inl (p, j)) = u_vl b N w (.inl (p, j)) - 40 := by
        have e := wh_vl (b := b) (N := N) (σ := .inl (p, j)) hw2
        rw [if_neg cv] at e
        by_cases cq : 0 ≤ k_wh b N (.inl (p, j)) ∧ k_wh b N (.inl (p, j)) < 8 ∧ q_may w (k_wh b N (.inl (p, j))) = true
        · rw [if_pos cq] at e
          omega
        · rw [if_neg cq] at e
          exfalso
          revert e cv
          unfold u_vl u_may
          repeat' split
          all_goals omega
      rw [if_neg cv, n_w (a := u_vl b N w (.inl (p, j)) - 40) (by omega) (by omega), show q_w (-1) = -1 from rfl, if_neg (by omega)]
      obtain ⟨M6, r1, r2⟩ := C_aw hw0 w2 (k := u_vl b N w (.inl (p, j)) - 40) (by omega) hvl.2.2.2
      rw [r1, b_some]
      unfold fX12_qPartTold_212
      rw [n_w (a := u_vl b N w (.inl (p, j)) - 40) (by omega) (by omega), show q_w (-1) = -1 from rfl, if_neg (by omega), show 40 + (u_vl b N w (.inl (p, j)) - 40) = u_vl b N w (.inl (p, j)) from by omega]
      rw [hτ] at h
      obtain ⟨p', j', e1⟩ : ∃ p' j', u_st b N (.inl (p, j)) = .inl (p', j') := ⟨_, _, rfl⟩
      have hge : p ≤ p' := by
        cases e1
        exact (np_c hpN.2.1).1
      rw [e1] at r2 h
      exact A_237 hy' (p := p') (j := j') (by omega) r2 h
