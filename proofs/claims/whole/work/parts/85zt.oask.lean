/-! ask: the other side reads, from the call on -/
def z_qr (b : Nat → Int) (N : Nat) (M : q_Mem) (kd : Int) (M' : q_Mem) : Prop := (∀ a k, ¬ (a = 94 ∧ (k = 1 ∨ k = 2 ∨ k = 3 ∨ k = 4 ∨ k = 5 ∨ k = 6 ∨ k = 35 ∨ k = 48 ∨ k = 91 ∨ k = 93 ∨ k = 94 ∨ k = 95)) → a ≠ 162 → a ≠ 163 → M'.2 a k = M.2 a k) ∧ M'.2 94 1 = 0 ∧ z_O b N (s_Q b N (.inl (t_sk b N 0, false))).1 M' ∧ p_B M' ∧ (u_ok (s_Q b N (.inl (t_sk b N 0, false))).1 = true → kd = u_K b N (.inl (t_sk b N 0, false)) - 25 ∧ M'.2 94 91 = ((s_Q b N (.inl (t_sk b N 0, false))).2.length : Int) ∧ z_stk (M'.2 162) (s_Q b N (.inl (t_sk b N 0, false))).2)
theorem o_askr {b : Nat → Int} {N : Nat} {M : q_Mem} (h47 : ¬ q_w (M.2 94 47) = 0) (hw : r_words M.2) (h1 : M.2 94 1 = (N : Int)) (hb : ∀ k, M.2 95 k = b k) (hbb : ∀ k, 0 ≤ b k ∧ b k ≤ 255) (hN : N ≤ 1600) : ∃ kd M', fX12_ask M = fX12_ask_133 kd M' ∧ (0 ≤ kd ∧ kd ≤ 5) ∧ z_qr b N M kd M' := by
  unfold fX12_ask
  rw [if_neg h47, h1, q_le, q_le, q_le, q_le, q_le, q_le, q_le, q_le, q_le, q_le, q_le]
  have hi : ∀ a k, ¬ (a = 94 ∧ (k = 1 ∨ k = 2 ∨ k = 3 ∨ k = 4 ∨ k = 5 ∨ k = 6 ∨ k = 48 ∨ k = 91 ∨ k = 93 ∨ k = 94 ∨ k = 95)) → (q_up (q_up (q_up (q_up (q_up (q_up (q_up (q_up (q_up (q_up (q_up M 94 3 (N : Int)) 94 1 0) 94 2 0) 94 4 (-1)) 94 5 0) 94 6 (-1)) 94 48 2) 94 91 0) 94 93 0) 94 94 0) 94 95 0).2 a k = M.2 a k := fun a k h => by rw [up_ne (by omega), up_ne (by omega), up_ne (by omega), up_ne (by omega), up_ne (by omega), up_ne (by omega), up_ne (by omega), up_ne (by omega), up_ne (by omega), up_ne (by omega), up_ne (by omega)]
  have i3 : (q_up (q_up (q_up (q_up (q_up (q_up (q_up (q_up (q_up (q_up (q_up M 94 3 (N : Int)) 94 1 0) 94 2 0) 94 4 (-1)) 94 5 0) 94 6 (-1)) 94 48 2) 94 91 0) 94 93 0) 94 94 0) 94 95 0).2 94 3 = (N : Int) := by rw [up_ne (by omega), up_ne (by omega), up_ne (by omega), up_ne (by omega), up_ne (by omega), up_ne (by omega), up_ne (by omega), up_ne (by omega), up_ne (by omega), up_ne (by omega), up_rd, if_pos ⟨rfl, rfl⟩]
  have i1 : (q_up (q_up (q_up (q_up (q_up (q_up (q_up (q_up (q_up (q_up (q_up M 94 3 (N : Int)) 94 1 0) 94 2 0) 94 4 (-1)) 94 5 0) 94 6 (-1)) 94 48 2) 94 91 0) 94 93 0) 94 94 0) 94 95 0).2 94 1 = 0 := by rw [up_ne (by omega), up_ne (by omega), up_ne (by omega), up_ne (by omega), up_ne (by omega), up_ne (by omega), up_ne (by omega), up_ne (by omega), up_ne (by omega), up_rd, if_pos ⟨rfl, rfl⟩]
  have i2 : (q_up (q_up (q_up (q_up (q_up (q_up (q_up (q_up (q_up (q_up (q_up M 94 3 (N : Int)) 94 1 0) 94 2 0) 94 4 (-1)) 94 5 0) 94 6 (-1)) 94 48 2) 94 91 0) 94 93 0) 94 94 0) 94 95 0).2 94 2 = 0 := by rw [up_ne (by omega), up_ne (by omega), up_ne (by omega), up_ne (by omega), up_ne (by omega), up_ne (by omega), up_ne (by omega), up_ne (by omega), up_rd, if_pos ⟨rfl, rfl⟩]
  have i4 : (q_up (q_up (q_up (q_up (q_up (q_up (q_up (q_up (q_up (q_up (q_up M 94 3 (N : Int)) 94 1 0) 94 2 0) 94 4 (-1)) 94 5 0) 94 6 (-1)) 94 48 2) 94 91 0) 94 93 0) 94 94 0) 94 95 0).2 94 4 = (-1) := by rw [up_ne (by omega), up_ne (by omega), up_ne (by omega), up_ne (by omega), up_ne (by omega), up_ne (by omega), up_ne (by omega), up_rd, if_pos ⟨rfl, rfl⟩]
  have i5 : (q_up (q_up (q_up (q_up (q_up (q_up (q_up (q_up (q_up (q_up (q_up M 94 3 (N : Int)) 94 1 0) 94 2 0) 94 4 (-1)) 94 5 0) 94 6 (-1)) 94 48 2) 94 91 0) 94 93 0) 94 94 0) 94 95 0).2 94 5 = 0 := by rw [up_ne (by omega), up_ne (by omega), up_ne (by omega), up_ne (by omega), up_ne (by omega), up_ne (by omega), up_rd, if_pos ⟨rfl, rfl⟩]
  have i6 : (q_up (q_up (q_up (q_up (q_up (q_up (q_up (q_up (q_up (q_up (q_up M 94 3 (N : Int)) 94 1 0) 94 2 0) 94 4 (-1)) 94 5 0) 94 6 (-1)) 94 48 2) 94 91 0) 94 93 0) 94 94 0) 94 95 0).2 94 6 = (-1) := by rw [up_ne (by omega), up_ne (by omega), up_ne (by omega), up_ne (by omega), up_ne (by omega), up_rd, if_pos ⟨rfl, rfl⟩]
  have i48 : (q_up (q_up (q_up (q_up (q_up (q_up (q_up (q_up (q_up (q_up (q_up M 94 3 (N : Int)) 94 1 0) 94 2 0) 94 4 (-1)) 94 5 0) 94 6 (-1)) 94 48 2) 94 91 0) 94 93 0) 94 94 0) 94 95 0).2 94 48 = 2 := by rw [up_ne (by omega), up_ne (by omega), up_ne (by omega), up_ne (by omega), up_rd, if_pos ⟨rfl, rfl⟩]
  have i91 : (q_up (q_up (q_up (q_up (q_up (q_up (q_up (q_up (q_up (q_up (q_up M 94 3 (N : Int)) 94 1 0) 94 2 0) 94 4 (-1)) 94 5 0) 94 6 (-1)) 94 48 2) 94 91 0) 94 93 0) 94 94 0) 94 95 0).2 94 91 = 0 := by rw [up_ne (by omega), up_ne (by omega), up_ne (by omega), up_rd, if_pos ⟨rfl, rfl⟩]
  have i93 : (q_up (q_up (q_up (q_up (q_up (q_up (q_up (q_up (q_up (q_up (q_up M 94 3 (N : Int)) 94 1 0) 94 2 0) 94 4 (-1)) 94 5 0) 94 6 (-1)) 94 48 2) 94 91 0) 94 93 0) 94 94 0) 94 95 0).2 94 93 = 0 := by rw [up_ne (by omega), up_ne (by omega), up_rd, if_pos ⟨rfl, rfl⟩]
  have i94 : (q_up (q_up (q_up (q_up (q_up (q_up (q_up (q_up (q_up (q_up (q_up M 94 3 (N : Int)) 94 1 0) 94 2 0) 94 4 (-1)) 94 5 0) 94 6 (-1)) 94 48 2) 94 91 0) 94 93 0) 94 94 0) 94 95 0).2 94 94 = 0 := by rw [up_ne (by omega), up_rd, if_pos ⟨rfl, rfl⟩]
  have i95 : (q_up (q_up (q_up (q_up (q_up (q_up (q_up (q_up (q_up (q_up (q_up M 94 3 (N : Int)) 94 1 0) 94 2 0) 94 4 (-1)) 94 5 0) 94 6 (-1)) 94 48 2) 94 91 0) 94 93 0) 94 94 0) 94 95 0).2 94 95 = 0 := by rw [up_rd, if_pos ⟨rfl, rfl⟩]
  generalize q_up (q_up (q_up (q_up (q_up (q_up (q_up (q_up (q_up (q_up (q_up M 94 3 (N : Int)) 94 1 0) 94 2 0) 94 4 (-1)) 94 5 0) 94 6 (-1)) 94 48 2) 94 91 0) 94 93 0) 94 94 0) 94 95 0 = Mi at hi i3 i1 i2 i4 i5 i6 i48 i91 i93 i94 i95 ⊢
  have hT : z_ot b N Mi := ⟨i3, fun k _ => by rw [hi _ _ (by omega), hb], hbb, hN⟩
  have hsk := run_b t_bl b (N - 0) 0
  have hz : z_O b N (.inl (t_sk b N 0, false)) Mi := ⟨i5, by unfold t_sk; omega, 0, -1, by rw [i2]; rfl, i4, Nat.zero_le _, by omega, by omega, rfl, by rw [decide_eq_false (by omega)]⟩
  have hwi : r_words Mi.2 := by
    intro e he j hj
    have := a_wc e he
    rw [hi _ _ (by omega)]
    exact hw e he j hj
  have hBi : p_B Mi := fun _ => i6
  have hC : z_C b N 2 0 Mi (.inl (t_sk b N 0, false)) [] 0 0 [] Mi := ⟨hT, hz, ⟨by rw [i93]; rfl, i94, by rw [i95]; rfl, by rw [i91]; rfl, by rw [i48]; rfl⟩, ⟨trivial, trivial, fun v hv => absurd hv List.not_mem_nil⟩, fun p0 j0 e0 => by rw [List.length_nil]; omega, fun _ _ _ _ _ => rfl⟩
  have fin : ∀ {Mx : q_Mem}, z_fr Mi Mx → ∀ a k, ¬ (a = 94 ∧ (k = 1 ∨ k = 2 ∨ k = 3 ∨ k = 4 ∨ k = 5 ∨ k = 6 ∨ k = 35 ∨ k = 48 ∨ k = 91 ∨ k = 93 ∨ k = 94 ∨ k = 95)) → a ≠ 162 → a ≠ 163 → Mx.2 a k = M.2 a k := fun h a k h1 h2 h3 => by rw [h a k h2 h3 (by omega), hi a k (by omega)]
  unfold z_qr s_Q
  generalize t_sk b N 0 = p at *
  obtain ⟨kd, M12, e12, hkd, q1, q2⟩ := o_qk hwi hC
  have hB12 : p_B M12 := B_fX12_qKind hBi _ _ e12
  rw [e12, b_some]
  refine ⟨kd, ?_⟩
  by_cases cK : u_K b N (.inl (p, false)) = -1
  · obtain ⟨t1, t2, t3⟩ := q1 cK
    obtain ⟨M', g1, g2, g3, g4⟩ := o_109 kd t1 t2 hB12
    unfold fX12_ask_98
    rw [if_neg (num_F t2 rfl).2, if_neg (num_F t2 rfl).2, if_pos cK]
    refine ⟨M', g1, hkd, fin (fun a k h1 h2 h3 => by rw [g2 a k (by omega), t3 a k h1 h2 h3]), by rw [g2 _ _ (by omega), t3 _ _ (by omega) (by omega) (by omega), i1], g3, g4, fun g => ?_⟩
    cases g
  · obtain ⟨ekd, hC2⟩ := q2 cK
    rw [if_neg cK]
    have hok2 : u_ok (u_st b N (.inl (p, false))) = true := rfl
    rw [if_pos ((O_bad hC2.2.1).mpr hok2), n_w (a := kd) (by omega) (by omega), show q_w 3 = 3 from rfl]
    have hC3 : z_C b N 2 0 Mi (u_st b N (.inl (p, false))) [] ((0 : Nat) : Int) 0 [] M12 := ⟨hC2.1, hC2.2.1, hC2.2.2.1, hC2.2.2.2.1, fun p0 j0 e0 => by have := hC2.2.2.2.2.1 p0 j0 e0; omega, hC2.2.2.2.2.2⟩
    have go : ∀ (t : Nat) (e : Int) (M13 : q_Mem), z_E b N 2 0 Mi (s_G b N 2 60 t 0 (u_st b N (.inl (p, false)), [])) [] ((0 : Nat) : Int) 0 e M13 → p_B M13 → ∃ M', fX12_ask_109 kd M13 = fX12_ask_133 kd M' ∧ (0 ≤ kd ∧ kd ≤ 5) ∧ (∀ a k, ¬ (a = 94 ∧ (k = 1 ∨ k = 2 ∨ k = 3 ∨ k = 4 ∨ k = 5 ∨ k = 6 ∨ k = 35 ∨ k = 48 ∨ k = 91 ∨ k = 93 ∨ k = 94 ∨ k = 95)) → a ≠ 162 → a ≠ 163 → M'.2 a k = M.2 a k) ∧ M'.2 94 1 = 0 ∧ z_O b N (u_end b N (s_G b N 2 60 t 0 (u_st b N (.inl (p, false)), [])).1) M' ∧ p_B M' ∧ (u_ok (u_end b N (s_G b N 2 60 t 0 (u_st b N (.inl (p, false)), [])).1) = true → kd = u_K b N (.inl (p, false)) - 25 ∧ M'.2 94 91 = ((s_G b N 2 60 t 0 (u_st b N (.inl (p, false)), [])).2.length : Int) ∧ z_stk (M'.2 162) (s_G b N 2 60 t 0 (u_st b N (.inl (p, false)), [])).2) := by
      intro t e M13 hE hB
      generalize s_G b N 2 60 t 0 (u_st b N (.inl (p, false)), []) = q at hE ⊢
      have hb3 : z_ot b N M13 ∧ z_O b N q.1 M13 ∧ z_fr Mi M13 := by
        by_cases hok : u_ok q.1 = true
        · have := hE.1 hok
          exact ⟨this.1, this.2.1, this.2.2.2.2.2⟩
        · have := hE.2 (Bool.eq_false_iff.mpr hok)
          exact ⟨this.2.1, this.2.2.1, this.2.2.2.2⟩
      obtain ⟨t1, t2, t3⟩ := hb3
      obtain ⟨M', g1, g2, g3, g4⟩ := o_109 kd t1 t2 hB
      refine ⟨M', g1, hkd, fin (fun a k h1 h2 h3 => by rw [g2 a k (by omega), t3 a k h1 h2 h3]), by rw [g2 _ _ (by omega), t3 _ _ (by omega) (by omega) (by omega), i1], g3, g4, fun g => ⟨ekd, ?_, ?_⟩⟩
      · have := hE.1 (ok_end g)
        rw [g2 _ _ (by omega), this.2.2.1.2.2.2.1]
      · have := hE.1 (ok_end g)
        rw [show M'.2 162 = M13.2 162 from funext (fun k => g2 162 k (by omega))]
        exact this.2.2.2.1.2.1
    by_cases c3 : kd < 3
    · rw [if_pos c3, if_neg (by omega)]
      obtain ⟨v, M13, e13, hE⟩ := c_test hwi (by decide : 2 ≤ 2) 60 ⟨by omega, by omega, fun _ => ⟨by omega, by omega⟩⟩ hC3
      rw [e13, b_some]
      exact go 0 2 M13 hE (B_fX12_qTest hB12 _ _ e13)
    · unfold fX12_ask_98
      rw [if_neg c3, if_pos ((O_bad hC2.2.1).mpr hok2), if_pos (by omega)]
      obtain ⟨v, M13, e13, hE⟩ := c_sums hwi (by decide : 2 ≤ 2) (by omega) 60 ⟨by omega, by omega, fun _ => ⟨by omega, by omega⟩⟩ (fun u hu => by cases hu) hC3
      rw [e13, b_some]
      exact go 3 1 M13 hE (B_fX12_qSums hB12 _ _ e13)
