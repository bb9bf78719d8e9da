/-! texts: what the other side takes -/
theorem kd_2 {b : Nat → Int} {N p : Nat} {j : Bool} : t_kind b N p j = 2 ↔ t_lt (t_at b N p) = false ∧ t_dg (t_at b N p) = true ∧ j = false := by
  unfold t_kind
  by_cases c1 : t_lt (t_at b N p) = true
  · rw [if_pos c1]
    cases j <;> simp [c1]
  · rw [if_neg c1]
    by_cases c2 : t_dg (t_at b N p) = true
    · rw [if_pos c2]
      cases j <;> simp [c1, c2]
    · rw [if_neg c2]
      constructor
      · intro h
        exfalso
        revert h
        split <;> omega
      · intro h
        exact absurd h.2.1 c2
theorem kd_3 {b : Nat → Int} {N p : Nat} {j : Bool} : t_kind b N p j = 3 ↔ t_lt (t_at b N p) = false ∧ t_dg (t_at b N p) = false ∧ t_at b N p ≠ -1 := by
  unfold t_kind
  by_cases c1 : t_lt (t_at b N p) = true
  · rw [if_pos c1]
    cases j <;> simp [c1]
  · rw [if_neg c1]
    by_cases c2 : t_dg (t_at b N p) = true
    · rw [if_pos c2]
      cases j <;> simp [c2]
    · rw [if_neg c2]
      by_cases c3 : t_at b N p = -1
      · rw [if_pos c3]; simp [c3]
      · rw [if_neg c3]; simp [c1, c2, c3]
theorem O_st {b : Nat → Int} {N p : Nat} {j : Bool} {M : q_Mem} (hN : N ≤ 1600) (hp : p ≤ N) (hk : t_kind b N p j = 1 ∨ t_kind b N p j = 2) (h5 : M.2 94 5 = 0) (h2 : M.2 94 2 = (t_end b N p : Int)) (h4 : M.2 94 4 = (t_end b N p : Int)) : z_O b N (u_st b N (.inl (p, j))) M := by
  have he := te_b (b := b) hp
  have hr := run_b t_bl b (N - t_end b N p) (t_end b N p)
  refine ⟨h5, ?_, t_end b N p, (t_end b N p : Int), h2, h4, he.2, by omega, by omega, rfl, ?_⟩
  · unfold t_np t_sk; omega
  · unfold t_nj
    have : (decide (t_kind b N p j = 1) || decide (t_kind b N p j = 2)) = true := by
      rcases hk with hk | hk
      · rw [decide_eq_true hk]; rfl
      · rw [decide_eq_true hk, Bool.or_true]
    rw [this, Bool.true_and]
    by_cases c : t_np b N p = t_end b N p
    · rw [decide_eq_true c, decide_eq_true (by omega)]
    · rw [decide_eq_false c, decide_eq_false (by omega)]
theorem O_st3 {b : Nat → Int} {N p : Nat} {j : Bool} {M : q_Mem} (hN : N ≤ 1600) (hk : t_kind b N p j = 3) (hP : z_P b N p j M) : z_O b N (u_st b N (.inl (p, j))) (q_up M 94 2 ((p : Int) + 1)) := by
  obtain ⟨k5, kp, k2, ks, k41, k42, kj⟩ := hP
  have hk' := kd_3.mp hk
  have hend : t_end b N p = p + 1 := by
    unfold t_end
    rw [if_neg (by rw [hk'.1]; decide), if_neg (by rw [hk'.2.1]; decide), if_neg hk'.2.2]
  have he := te_b (b := b) kp
  have hr := run_b t_bl b (N - t_end b N p) (t_end b N p)
  refine ⟨by rw [up_ne (by omega), k5], ?_, p + 1, M.2 94 4, by rw [up_rd, if_pos ⟨rfl, rfl⟩]; omega, by rw [up_ne (by omega)], by omega, k41, by omega, ?_, ?_⟩
  · unfold t_np t_sk; omega
  · unfold t_np; rw [hend]
  · unfold t_nj
    have hd : decide (M.2 94 4 = ((t_np b N p : Nat) : Int)) = false := decide_eq_false (by unfold t_np t_sk; omega)
    rw [hk, hd]
    rfl
theorem o_takes {b : Nat → Int} {N : Nat} {σ : t_S} {M : q_Mem} (hT : z_ot b N M) (hz : z_O b N σ M) {w r m : Nat} (hw : w < 31) (hr94 : r ≠ 94) (hzw : z_w M r (t_W.getD w [])) (hm : m = (t_W.getD w []).length) : ∃ M', fX12_takes r m M = some (if u_isW b N (w : Int) σ = true then 1 else 0, M') ∧ z_94 M M' ∧ (if u_isW b N (w : Int) σ = true then z_O b N (u_st b N σ) M' else z_Q b N σ M') := by
  obtain ⟨M1, g1, g2, g3⟩ := o_isH hT hz hw hr94 hzw hm
  unfold fX12_takes
  rw [g1, b_some, f_ite]
  by_cases c : u_isW b N (w : Int) σ = true
  · rw [if_pos c, if_pos c, q_le, q_le]
    rcases σ with ⟨p, j⟩ | ⟨k, pl⟩
    · have c0 := c
      rw [u_isW] at c
      obtain ⟨c1, c2⟩ := Bool.and_eq_true_iff.mp c
      have c1' := of_decide_eq_true c1
      have c2' := of_decide_eq_true c2
      have hl := (kd_1.mp c1').1
      have hN := hT.2.2.2
      obtain ⟨k5, kp, k2, ks, k41, k42, kj⟩ := g3
      unfold t_val at c2'
      rw [if_pos hl] at c2'
      have h3 := (wd_iff hw).mp c2'
      have h4 : (t_seg b p (t_we b N p)).length = m := by rw [h3, hm]
      unfold t_seg at h4
      rw [List.length_map, List.length_range] at h4
      have hend : t_end b N p = t_we b N p := by unfold t_end; rw [if_pos hl]
      have he := te_b (b := b) kp
      rw [up_rd, if_pos ⟨rfl, rfl⟩, k2]
      refine ⟨_, rfl, fun a k ha => by rw [up_ne (by omega), up_ne (by omega), g2 a k ha], by rw [if_pos c0]; exact O_st hN kp (Or.inl c1') (by rw [up_ne (by omega), up_ne (by omega), k5]) (by rw [up_ne (by omega), up_rd, if_pos ⟨rfl, rfl⟩]; omega) (by rw [up_rd, if_pos ⟨rfl, rfl⟩]; omega)⟩
    · exact absurd c (by rw [u_isW]; decide)
  · rw [if_neg c, if_neg c]
    exact ⟨M1, rfl, g2, by rw [if_neg c]; exact g3⟩
theorem o_asks {b : Nat → Int} {N : Nat} {σ : t_S} {M : q_Mem} (hT : z_ot b N M) (hz : z_O b N σ M) {w r m : Nat} (hw : w < 31) (hr94 : r ≠ 94) (hzw : z_w M r (t_W.getD w [])) (hm : m = (t_W.getD w []).length) : ∃ M', fX12_asks r m M = some (0, M') ∧ z_94 M M' ∧ z_O b N (u_W b N (w : Int) σ) M' := by
  unfold fX12_asks u_W
  rcases σ with ⟨p, j⟩ | ⟨k, pl⟩
  · have h5 : M.2 94 5 = 0 := hz.1
    rw [h5, show q_w 0 = 0 from rfl, if_pos rfl]
    obtain ⟨M1, g1, g2, g3⟩ := o_takes hT hz hw hr94 hzw hm
    rw [g1, b_some, f_ite]
    by_cases c : u_isW b N (w : Int) (.inl (p, j)) = true
    · rw [if_pos c] at g3
      rw [if_pos c, if_pos c]
      exact ⟨M1, rfl, g2, g3⟩
    · rw [if_neg c] at g3
      rw [if_neg c, if_neg c, show M1.2 94 2 = (p : Int) from g3.2.2.1]
      obtain ⟨M2, k1, k2, k3⟩ := o_fail (k := 1) (pl := (p : Int)) (P_O g3) (by omega)
      rw [k1, b_some]
      exact ⟨M2, rfl, z94_t g2 k2, k3⟩
  · have hz' := hz
    obtain ⟨h1, h2, h4⟩ := hz
    rw [h1, n_w (by omega) (by omega), if_neg (by omega)]
    exact ⟨M, rfl, z94_r M, hz'⟩
theorem o_takeS {b : Nat → Int} {N : Nat} {σ : t_S} {M : q_Mem} (hT : z_ot b N M) (hz : z_O b N σ M) {c : Int} (hc : 0 ≤ c ∧ c ≤ 255) (hc1 : t_lt c = false) (hc2 : t_dg c = false) : ∃ M', fX12_takesSign c M = some (if u_isS b N c σ = true then 1 else 0, M') ∧ z_94 M M' ∧ (if u_isS b N c σ = true then z_O b N (u_st b N σ) M' else z_Q b N σ M') := by
  unfold fX12_takesSign
  rcases σ with ⟨p, j⟩ | ⟨k, pl⟩
  · have h5 : M.2 94 5 = 0 := hz.1
    rw [h5, show q_w 0 = 0 from rfl, if_pos rfl]
    obtain ⟨M1, g1, g2, g3⟩ := o_look hT hz
    have hf : z_94 M M1 := fun a k ha => g2 a k (by omega)
    have hN := hT.2.2.2
    have hat : -1 ≤ t_at b N p ∧ t_at b N p ≤ 255 := by
      have := hT.2.2.1 p
      unfold t_at
      by_cases c : p < N
      · rw [if_pos c]; omega
      · rw [if_neg c]; omega
    rw [g1, b_some, n_w (a := t_at b N p) (by omega) (by omega), n_w (a := c) (by omega) (by omega), q_le, u_isS]
    by_cases e : t_at b N p = c
    · have hk : t_kind b N p j = 3 := kd_3.mpr ⟨by rw [e]; exact hc1, by rw [e]; exact hc2, by omega⟩
      have hv : t_val b N p = c := by unfold t_val; rw [e, if_neg (by rw [hc1]; decide), if_neg (by rw [hc2]; decide)]
      have hu : (decide (t_kind b N p j = 3) && decide (t_val b N p = c)) = true := by rw [decide_eq_true hk, decide_eq_true hv]; rfl
      rw [if_pos e, if_pos hu, show M1.2 94 2 = (p : Int) from g3.2.2.1]
      exact ⟨_, rfl, fun a k ha => by rw [up_ne (by omega), hf a k ha], by rw [if_pos hu]; exact O_st3 hN hk g3⟩
    · have hu : ¬ (decide (t_kind b N p j = 3) && decide (t_val b N p = c)) = true := by
        intro h
        obtain ⟨h1, h2⟩ := Bool.and_eq_true_iff.mp h
        have h1' := kd_3.mp (of_decide_eq_true h1)
        have h2' := of_decide_eq_true h2
        unfold t_val at h2'
        rw [if_neg (by rw [h1'.1]; decide), if_neg (by rw [h1'.2.1]; decide)] at h2'
        exact e h2'
      rw [if_neg e, if_neg hu]
      exact ⟨M1, rfl, hf, by rw [if_neg hu]; exact g3⟩
  · have hz' := hz
    obtain ⟨h1, h2, h4⟩ := hz
    rw [h1, n_w (by omega) (by omega), if_neg (by omega), u_isS, if_neg (by decide)]
    exact ⟨M, rfl, z94_r M, by rw [if_neg (by decide)]; exact hz'⟩
theorem o_askS {b : Nat → Int} {N : Nat} {σ : t_S} {M : q_Mem} (hT : z_ot b N M) (hz : z_O b N σ M) {c : Int} (hc : 0 ≤ c ∧ c ≤ 255) (hc1 : t_lt c = false) (hc2 : t_dg c = false) : ∃ M', fX12_asksSign c M = some (0, M') ∧ z_94 M M' ∧ z_O b N (u_Z b N c σ) M' := by
  unfold fX12_asksSign u_Z
  rcases σ with ⟨p, j⟩ | ⟨k, pl⟩
  · have h5 : M.2 94 5 = 0 := hz.1
    rw [h5, show q_w 0 = 0 from rfl, if_pos rfl]
    obtain ⟨M1, g1, g2, g3⟩ := o_takeS hT hz hc hc1 hc2
    rw [g1, b_some, f_ite]
    by_cases c' : u_isS b N c (.inl (p, j)) = true
    · rw [if_pos c'] at g3
      rw [if_pos c', if_pos c']
      exact ⟨M1, rfl, g2, g3⟩
    · rw [if_neg c'] at g3
      rw [if_neg c', if_neg c', show M1.2 94 2 = (p : Int) from g3.2.2.1]
      obtain ⟨M2, k1, k2, k3⟩ := o_fail (k := 1) (pl := (p : Int)) (P_O g3) (by omega)
      rw [k1, b_some]
      exact ⟨M2, rfl, z94_t g2 k2, k3⟩
  · have hz' := hz
    obtain ⟨h1, h2, h4⟩ := hz
    rw [h1, n_w (by omega) (by omega), if_neg (by omega)]
    exact ⟨M, rfl, z94_r M, hz'⟩
