/-! ask: the other side reads the question -/
theorem wm_q : ((140, t_W.getD 25 []) ∈ a_words ∧ 25 < 31 ∧ 5 = (t_W.getD 25 []).length ∧ (25 : Int) = ((25 : Nat) : Int)) ∧ ((141, t_W.getD 26 []) ∈ a_words ∧ 26 < 31 ∧ 4 = (t_W.getD 26 []).length ∧ (26 : Int) = ((26 : Nat) : Int)) ∧ ((142, t_W.getD 27 []) ∈ a_words ∧ 27 < 31 ∧ 5 = (t_W.getD 27 []).length ∧ (27 : Int) = ((27 : Nat) : Int)) ∧ ((143, t_W.getD 28 []) ∈ a_words ∧ 28 < 31 ∧ 5 = (t_W.getD 28 []).length ∧ (28 : Int) = ((28 : Nat) : Int)) ∧ ((144, t_W.getD 29 []) ∈ a_words ∧ 29 < 31 ∧ 4 = (t_W.getD 29 []).length ∧ (29 : Int) = ((29 : Nat) : Int)) ∧ ((145, t_W.getD 30 []) ∈ a_words ∧ 30 < 31 ∧ 5 = (t_W.getD 30 []).length ∧ (30 : Int) = ((30 : Nat) : Int)) := by decide +kernel
theorem val_30 {b : Nat → Int} {N p : Nat} {j : Bool} (h : t_kind b N p j = 1) : t_val b N p ≤ 30 := by
  have h1 := (kd_1.mp h).1
  unfold t_val t_word
  rw [if_pos h1]
  exact (wv_b _ 31 0 (-1) (by omega) (by omega)).2
theorem isW_K {b : Nat → Int} {N p : Nat} {j : Bool} {w : Int} (hw : 25 ≤ w) : u_isW b N w (.inl (p, j)) = true → u_K b N (.inl (p, j)) = w := by
  intro h
  have h1 : (decide (t_kind b N p j = 1) && decide (t_val b N p = w)) = true := h
  rw [Bool.and_eq_true, decide_eq_true_eq, decide_eq_true_eq] at h1
  have : u_K b N (.inl (p, j)) = t_val b N p := if_pos ⟨h1.1, by omega⟩
  rw [this, h1.2]
theorem K_none {b : Nat → Int} {N p : Nat} {j : Bool} (h : ∀ w : Int, 25 ≤ w → w ≤ 30 → ¬ u_isW b N w (.inl (p, j)) = true) : u_K b N (.inl (p, j)) = -1 := by
  refine if_neg ?_
  rintro ⟨h1, h2⟩
  refine h (t_val b N p) h2 (val_30 h1) ?_
  show (decide (t_kind b N p j = 1) && decide (t_val b N p = t_val b N p)) = true
  rw [decide_eq_true h1, decide_eq_true rfl]
  rfl
def z_qk (b : Nat → Int) (N : Nat) (M0 : q_Mem) (p : Nat) (j : Bool) (kd : Int) (M : q_Mem) : Prop := (u_K b N (.inl (p, j)) = -1 → z_ot b N M ∧ z_O b N (.inr (1, (p : Int))) M ∧ z_fr M0 M) ∧ (u_K b N (.inl (p, j)) ≠ -1 → kd = u_K b N (.inl (p, j)) - 25 ∧ z_C b N 2 0 M0 (u_st b N (.inl (p, j))) [] 0 1 [] M)
theorem o_qk {b : Nat → Int} {N p : Nat} {j : Bool} {M0 M : q_Mem} (hw0 : r_words M0.2) (h : z_C b N 2 0 M0 (.inl (p, j)) [] 0 0 [] M) : ∃ kd M', fX12_qKind M = some (kd, M') ∧ (0 ≤ kd ∧ kd ≤ 5) ∧ z_qk b N M0 p j kd M' := by
  obtain ⟨w1, w2, w3, w4, w5, w6⟩ := wm_q
  have k76 : ∀ (i : Int) (M : q_Mem), 0 ≤ i → i < 5 → fX12_qKind_76 i M = some (i, M) := by
    intro i M h1 h2
    unfold fX12_qKind_76
    rw [n_w (by omega) (by omega), show q_w 5 = 5 from rfl, if_neg (by omega)]
  have hit : ∀ (i : Int) (M : q_Mem), 0 ≤ i → u_isW b N (25 + i) (.inl (p, j)) = true → z_C b N 2 0 M0 (u_st b N (.inl (p, j))) [] 0 (0 + 1) [] M → z_qk b N M0 p j i M := by
    intro i M h1 h2 h3
    have hK := isW_K (by omega) h2
    exact ⟨fun g => by omega, fun _ => ⟨by omega, h3⟩⟩
  unfold fX12_qKind
  obtain ⟨M1, e1, y1, n1⟩ := C_takes hw0 h w1
  rw [e1, b_some, f_ite]
  by_cases c1 : u_isW b N 25 (.inl (p, j)) = true
  · rw [if_pos c1, k76 0 M1 (by omega) (by omega)]
    exact ⟨0, M1, rfl, by omega, hit 0 M1 (by omega) c1 (y1 c1)⟩
  rw [if_neg c1]
  obtain ⟨M2, e2, y2, n2⟩ := C_takes hw0 (n1 c1).1 w2
  rw [e2, b_some, f_ite]
  by_cases c2 : u_isW b N 26 (.inl (p, j)) = true
  · rw [if_pos c2, k76 1 M2 (by omega) (by omega)]
    exact ⟨1, M2, rfl, by omega, hit 1 M2 (by omega) c2 (y2 c2)⟩
  rw [if_neg c2]
  obtain ⟨M3, e3, y3, n3⟩ := C_takes hw0 (n2 c2).1 w3
  rw [e3, b_some, f_ite]
  by_cases c3 : u_isW b N 27 (.inl (p, j)) = true
  · rw [if_pos c3, k76 2 M3 (by omega) (by omega)]
    exact ⟨2, M3, rfl, by omega, hit 2 M3 (by omega) c3 (y3 c3)⟩
  rw [if_neg c3]
  obtain ⟨M4, e4, y4, n4⟩ := C_takes hw0 (n3 c3).1 w4
  rw [e4, b_some, f_ite]
  by_cases c4 : u_isW b N 28 (.inl (p, j)) = true
  · rw [if_pos c4, k76 3 M4 (by omega) (by omega)]
    exact ⟨3, M4, rfl, by omega, hit 3 M4 (by omega) c4 (y4 c4)⟩
  rw [if_neg c4]
  obtain ⟨M5, e5, y5, n5⟩ := C_takes hw0 (n4 c4).1 w5
  rw [e5, b_some, f_ite]
  by_cases c5 : u_isW b N 29 (.inl (p, j)) = true
  · rw [if_pos c5, k76 4 M5 (by omega) (by omega)]
    exact ⟨4, M5, rfl, by omega, hit 4 M5 (by omega) c5 (y5 c5)⟩
  rw [if_neg c5]
  have h5 := (n5 c5).1
  unfold fX12_qKind_76
  rw [if_pos rfl]
  by_cases c6 : u_isW b N 30 (.inl (p, j)) = true
  · obtain ⟨M6, e6, y6⟩ := C_asks hw0 h5 w6 c6
    rw [e6, b_some]
    exact ⟨5, M6, rfl, by omega, hit 5 M6 (by omega) c6 y6⟩
  · have h1 := a_wc _ w6.1
    obtain ⟨M6, g1, g2, g3⟩ := o_asks h5.1 h5.2.1 w6.2.1 (by omega) (zw_M hw0 h5.2.2.2.2.2 w6.1) w6.2.2.1
    rw [← w6.2.2.2] at g3
    unfold u_W at g3
    rw [if_neg c6] at g3
    rw [g1, b_some]
    have hK : u_K b N (.inl (p, j)) = -1 := K_none (fun w h1 h2 => by
      have : w = 25 ∨ w = 26 ∨ w = 27 ∨ w = 28 ∨ w = 29 ∨ w = 30 := by omega
      rcases this with rfl | rfl | rfl | rfl | rfl | rfl
      · exact c1
      · exact c2
      · exact c3
      · exact c4
      · exact c5
      · exact c6)
    refine ⟨5, M6, rfl, by omega, fun _ => ⟨z94_T h5.1 g2, g3, fun a k k1 k2 k3 => by rw [g2 a k (by omega), h5.2.2.2.2.2 a k k1 k2 k3]⟩, fun g => absurd hK g⟩
theorem pB_f {b : Nat → Int} {N : Nat} {σ : t_S} {M : q_Mem} (h : z_O b N σ M) (hf : u_ok σ = false) : p_B M := by
  rcases σ with ⟨p, j⟩ | ⟨k, pl⟩
  · cases hf
  · intro g
    have h1 : M.2 94 5 = k := h.1
    have h2 := h.2.2
    omega
theorem o_109 {b : Nat → Int} {N : Nat} {σ : t_S} {M : q_Mem} (kd : Int) (hT : z_ot b N M) (hz : z_O b N σ M) (hB : p_B M) : ∃ M', fX12_ask_109 kd M = fX12_ask_133 kd M' ∧ z_94 M M' ∧ z_O b N (u_end b N σ) M' ∧ p_B M' := by
  unfold fX12_ask_109 u_end
  rcases σ with ⟨p, j⟩ | ⟨k, pl⟩
  · rw [if_pos ((O_bad hz).mpr rfl)]
    obtain ⟨M1, g1, g2, g3⟩ := o_look hT hz
    have hat := at_b2 hT p
    rw [g1, b_some, n_w (a := t_at b N p) (by omega) (by omega), show q_w (-1) = -1 from rfl]
    have hB1 : p_B M1 := by
      unfold p_B
      rw [g2 94 5 (by omega), g2 94 6 (by omega)]
      exact hB
    by_cases c : t_at b N p = -1
    · rw [if_pos c, if_neg (fun g => by have := g.2; rw [show u_E b N (Sum.inl (p, j)) = decide (t_kind b N p j = 0) from rfl, decide_eq_true (kd_0.mpr c)] at this; cases this)]
      exact ⟨M1, rfl, fun a k h => g2 a k (by omega), P_O g3, hB1⟩
    · obtain ⟨M2, r1, r2, r3⟩ := o_fail (k := 1) (pl := M1.2 94 2) (P_O g3) (by omega)
      rw [if_neg c, if_pos ⟨rfl, decide_eq_false (fun g => c (kd_0.mp g))⟩, r1, b_some]
      rw [g3.2.2.1] at r3
      exact ⟨M2, rfl, fun a k h => by rw [r2 a k h, g2 a k (by omega)], r3, pB_f r3 ok_fl⟩
  · rw [if_neg (fun g => by have := (O_bad hz).mp g; cases this), if_neg (fun g => by cases g.1)]
    exact ⟨M, rfl, z94_r M, hz, hB⟩
