/-! ask: the question is read -/
def u_K (b : Nat → Int) (N : Nat) : t_S → Int
  | .inl (p, j) => if t_kind b N p j = 1 ∧ 25 ≤ t_val b N p then t_val b N p else -1
  | .inr _ => -1
def u_end (b : Nat → Int) (N : Nat) (σ : t_S) : t_S := if u_ok σ = true ∧ u_E b N σ = false then u_fl 1 (u_p σ) σ else σ
def s_Q (b : Nat → Int) (N : Nat) (σ : t_S) : t_R := if u_K b N σ = -1 then (u_fl 1 (u_p σ) σ, []) else (u_end b N (s_G b N 2 60 (if 27 < u_K b N σ then 3 else 0) 0 (u_st b N σ, [])).1, (s_G b N 2 60 (if 27 < u_K b N σ then 3 else 0) 0 (u_st b N σ, [])).2)
theorem ok_end {b : Nat → Int} {N : Nat} {σ : t_S} (h : u_ok (u_end b N σ) = true) : u_ok σ = true := by
  unfold u_end at h
  split at h
  · rw [ok_fl] at h; cases h
  · exact h
theorem c_106 {b : Nat → Int} {N : Nat} {σ : t_S} {M : q_Mem} {x : Int} (hz : z_S b N σ M) : q_P (fX11_readQuestion_106 x M) (fun v M' => v = x ∧ z_5 M M' ∧ z_S b N (u_end b N σ) M') := by
  unfold fX11_readQuestion_106 u_end
  rcases σ with ⟨p, j⟩ | ⟨k', pl⟩
  · have hk := kd_b b N p j
    rw [hz.1.2.2.1, n_w (by omega) (by omega)]
    by_cases c0 : t_kind b N p j = 0
    · rw [if_pos c0, if_neg (fun g => by have := g.2; rw [show u_E b N (Sum.inl (p, j)) = decide (t_kind b N p j = 0) from rfl, decide_eq_true c0] at this; cases this)]
      exact w_some.mpr ⟨rfl, fun _ _ _ => rfl, hz⟩
    · rw [if_neg c0, if_pos ⟨rfl, decide_eq_false c0⟩]
      obtain ⟨M', g1, g2, g3⟩ := c_fail hz (k := 1) (pl := M.2 5 1) (by omega)
      rw [g1, b_some]
      rw [hz.1.1] at g3
      exact w_some.mpr ⟨rfl, g2, g3⟩
  · rw [show M.2 5 3 = 4 from hz.2.2.1, show q_w 4 = 4 from rfl, if_neg (by decide), if_neg (fun g => by cases g.1)]
    obtain ⟨M', g1, g2, g3⟩ := c_fail hz (k := 1) (pl := M.2 5 1) (by omega)
    rw [g1, b_some]
    exact w_some.mpr ⟨rfl, g2, g3⟩
theorem c_rq {b : Nat → Int} {N : Nat} {M : q_Mem} (hT : z_tp b N M) : q_P (fX11_readQuestion M) (fun x M' => z_tp b N M' ∧ z_S b N (s_Q b N (.inl (t_sk b N 0, false))).1 M' ∧ (∀ a k, a ≠ 5 → a ≠ 6 → a ≠ 7 → a ≠ 8 → M'.2 a k = M.2 a k) ∧ (u_ok (s_Q b N (.inl (t_sk b N 0, false))).1 = true → x = u_K b N (.inl (t_sk b N 0, false)) ∧ M'.2 6 1 = ((s_Q b N (.inl (t_sk b N 0, false))).2.length : Int) ∧ z_stk (M'.2 7) ((s_Q b N (.inl (t_sk b N 0, false))).2.map q_enc) ∧ (s_Q b N (.inl (t_sk b N 0, false))).2.length ≤ 1600)) := by
  unfold fX11_readQuestion
  refine w_call (c_begin hT) ?_
  rintro _ M1 ⟨f1, z1, z6⟩
  generalize t_sk b N 0 = p at *
  have hz : z_S b N (.inl (p, false)) M1 := ⟨z1, z6⟩
  have hT1 : z_tp b N M1 := z5_T hT f1
  have hk := kd_b b N p false
  have hv := val_b hT p
  have bad : u_K b N (.inl (p, false)) = -1 → q_P (fX11_readQuestion_40 M1) (fun x M' => z_tp b N M' ∧ z_S b N (s_Q b N (.inl (p, false))).1 M' ∧ (∀ a k, a ≠ 5 → a ≠ 6 → a ≠ 7 → a ≠ 8 → M'.2 a k = M.2 a k) ∧ (u_ok (s_Q b N (.inl (p, false))).1 = true → x = u_K b N (.inl (p, false)) ∧ M'.2 6 1 = ((s_Q b N (.inl (p, false))).2.length : Int) ∧ z_stk (M'.2 7) ((s_Q b N (.inl (p, false))).2.map q_enc) ∧ (s_Q b N (.inl (p, false))).2.length ≤ 1600)) := by
    intro hu
    unfold fX11_readQuestion_40 fX11_readQuestion_41 s_Q
    rw [if_pos hu, if_pos rfl]
    obtain ⟨M', g1, g2, g3⟩ := c_fail hz (k := 1) (pl := M1.2 5 1) (by omega)
    rw [g1, b_some]
    rw [z1.1] at g3
    refine w_some.mpr ⟨z5_T hT1 g2, g3, fun a k h1 _ _ _ => by rw [g2 a k h1, f1 a k h1], fun g => ?_⟩
    rw [ok_fl] at g
    cases g
  rw [z1.2.2.1, z1.2.2.2.1, n_w (a := t_kind b N p false) (by omega) (by omega), n_w (a := t_val b N p) (by omega) (by omega), show q_w 1 = 1 from rfl, show q_w 25 = 25 from rfl]
  by_cases c1 : t_kind b N p false = 1
  · rw [if_pos c1]
    by_cases c2 : t_val b N p < 25
    · rw [if_pos c2]
      exact bad (if_neg (by omega))
    · rw [if_neg c2]
      have hu : u_K b N (.inl (p, false)) = t_val b N p := if_pos ⟨c1, by omega⟩
      unfold fX11_readQuestion_41 s_Q
      rw [hu, n_w (a := t_val b N p) (by omega) (by omega), show q_w (-1) = -1 from rfl, show q_w 27 = 27 from rfl, if_neg (by omega), if_neg (by omega)]
      refine w_call (c_st hT1 hz) ?_
      rintro _ M2 ⟨s1, s2⟩
      unfold fX4_begin
      have e81 : ((q_up M2 8 1 ((6 : Nat) : Int)).2 8 1).toNat = 6 := by rw [up_rd, if_pos ⟨rfl, rfl⟩, Int.toNat_natCast]
      rw [q_le, q_le, e81, q_le, q_le, q_le, b_some]
      have hG : z_G b N 2 6 (q_up (q_up (q_up (q_up M2 8 1 ((6 : Nat) : Int)) 6 1 0) 8 2 2) 8 3 0) (u_st b N (.inl (p, false))) 0 0 [] (q_up (q_up (q_up (q_up M2 8 1 ((6 : Nat) : Int)) 6 1 0) 8 2 2) 8 3 0) := by
        refine ⟨tp_fr (z5_T hT1 s1) (fun a' j h' => by rw [up_ne (by omega), up_ne (by omega), up_ne (by omega), up_ne (by omega)]), S_fr s2 (fun k => by rw [up_ne (by omega), up_ne (by omega), up_ne (by omega), up_ne (by omega)]), ⟨by rw [up_ne (by omega), up_ne (by omega), up_ne (by omega), up_rd, if_pos ⟨rfl, rfl⟩], by rw [up_ne (by omega), up_rd, if_pos ⟨rfl, rfl⟩]; rfl, by rw [up_rd, if_pos ⟨rfl, rfl⟩]; rfl⟩, ?_, fun _ _ _ _ _ _ => rfl⟩
        intro p j _
        exact ⟨by rw [up_ne (by omega), up_ne (by omega), up_rd, if_pos ⟨rfl, rfl⟩]; rfl, trivial, by rw [List.length_nil]; omega⟩
      have hfr : ∀ a' k', a' ≠ 5 → a' ≠ 6 → a' ≠ 8 → (q_up (q_up (q_up (q_up M2 8 1 ((6 : Nat) : Int)) 6 1 0) 8 2 2) 8 3 0).2 a' k' = M.2 a' k' := fun a' k' h1 h2 h3 => by rw [up_ne (by omega), up_ne (by omega), up_ne (by omega), up_ne (by omega), s1 a' k' h1, f1 a' k' h1]
      generalize q_up (q_up (q_up (q_up M2 8 1 ((6 : Nat) : Int)) 6 1 0) 8 2 2) 8 3 0 = M4 at hG hfr ⊢
      have z6r : z_r 6 := ⟨by decide, by decide, by decide, f52.2.2.2⟩
      have fin : ∀ t : Nat, t ≤ 5 → q_P (q_bd (fG q_GD t M4) fun _ M3 => fX11_readQuestion_106 (t_val b N p) M3) (fun x M' => z_tp b N M' ∧ z_S b N (u_end b N (s_G b N 2 60 t 0 (u_st b N (.inl (p, false)), [])).1) M' ∧ (∀ a k, a ≠ 5 → a ≠ 6 → a ≠ 7 → a ≠ 8 → M'.2 a k = M.2 a k) ∧ (u_ok (u_end b N (s_G b N 2 60 t 0 (u_st b N (.inl (p, false)), [])).1) = true → x = t_val b N p ∧ M'.2 6 1 = ((s_G b N 2 60 t 0 (u_st b N (.inl (p, false)), [])).2.length : Int) ∧ z_stk (M'.2 7) ((s_G b N 2 60 t 0 (u_st b N (.inl (p, false)), [])).2.map q_enc) ∧ (s_G b N 2 60 t 0 (u_st b N (.inl (p, false)), [])).2.length ≤ 1600)) := by
        intro t ht
        have hD : h_D 0 t 60 (u_st b N (.inl (p, false))) := ⟨by omega, by omega, fun _ => ⟨by omega, by omega⟩⟩
        have := c_G (M0 := M4) z6r (by decide : 2 ≤ 2) 60 t 0 0 (u_st b N (.inl (p, false))) [] M4 (by omega) hD (by omega) hG
        refine w_call this ?_
        intro _ M5 h5
        refine w_mono (c_106 (x := t_val b N p) h5.2.1) ?_
        rintro v M6 ⟨rfl, g2, g3⟩
        refine ⟨z5_T h5.1 g2, g3, fun a k h1 h2 h3 h4 => by rw [g2 a k h1, h5.2.2.2.2 a k h1 h4 h2 h3, hfr a k h1 h2 h4], fun g => ?_⟩
        obtain ⟨k1, k2, k3⟩ := sG_len h5 (ok_end g)
        refine ⟨rfl, by rw [g2 _ _ (by omega), k1], ?_, k3⟩
        rw [show M6.2 7 = M5.2 7 from funext (fun k => g2 7 k (by omega))]
        exact k2
      by_cases c27 : 27 < t_val b N p
      · rw [if_pos c27, if_pos c27]
        exact fin 3 (by omega)
      · rw [if_neg c27, if_neg c27]
        exact fin 0 (by omega)
  · rw [if_neg c1]
    exact bad (if_neg (by omega))
