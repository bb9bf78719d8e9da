theorem k_br_b (base : Nat) : ∀ T : List Int, (∀ v ∈ T, 0 ≤ v ∧ v ≤ 100) → -1 ≤ k_br base T ∧ k_br base T ≤ 100 := by
  intro T
  induction T with
  | nil => intro _; rw [k_br]; omega
  | cons v T ih =>
    intro h
    have h1 := ih (fun x hx => h x (List.mem_cons_of_mem _ hx))
    rw [k_br]
    split
    · omega
    · split
      · omega
      · exact h1
/-! texts: the other side behind a part -/
theorem go_A {b : Nat → Int} {N w base : Nat} {M0 : q_Mem} {x δ : Int} {Q : Int → q_Mem → Prop} {p : Nat} {j : Bool} {T R : List Int} {o : Int} {n2 : Nat} {M : q_Mem} (h : h_A b N w base M0 x δ Q (.inl (p, j)) T o R) (hp : p ≤ N) (hN : N ≤ 1600) (hn : N + 3 ≤ p + n2) (hC : z_C b N w base M0 (.inl (p, j)) T o δ R M) : q_P (fX12_qSums_49 (fX12_qSums_15 n2) x 1 M) Q := by
  unfold fX12_qSums_49
  cases n2 with
  | zero => omega
  | succ n2 =>
    rw [fX12_qSums_15, show q_w 1 = 1 from rfl, if_neg (by decide), show M.2 94 5 = 0 from hC.2.1.1, show q_w 0 = 0 from rfl, if_pos rfl]
    exact h.2 p j rfl q_FU n2 M (by unfold q_FU; omega) (by omega) hC
theorem B_122 {b : Nat → Int} {N w base : Nat} {M0 : q_Mem} {δ : Int} {p n : Nat} {j : Bool} {T R : List Int} {o : Int} {M : q_Mem} (hy : h_Y w base M0 δ) (hC : z_C b N w base M0 (.inl (p, j)) T o δ R M) (hno : u_isS b N 41 (.inl (p, j)) = true → ¬ (k_br base T = 20 ∨ k_br base T = 23 ∨ k_br base T = 24)) : ∃ M', fX12_qGoesOn_0 (n + 1) M = fX12_qGoesOn_122 M' ∧ z_C b N w base M0 (.inl (p, j)) T o δ R M' := by
  obtain ⟨hw0, hw2, hb, hd⟩ := hy
  obtain ⟨M1, g1, g2, g3⟩ := C_look hC
  rw [fX12_qGoesOn_0, show M.2 94 5 = 0 from hC.2.1.1, show q_w 0 = 0 from rfl, if_pos rfl, g1, b_some]
  by_cases c : u_isS b N 41 (.inl (p, j)) = true
  · have hbr := hno c
    have hkb := k_br_b base T hC.2.2.2.1.2.2
    rw [(at_S zc_b.2.1).mpr c, if_pos rfl, C_br g2 (by omega) (by omega), b_some, C_br g2 (by omega) (by omega), b_some, C_br g2 (by omega) (by omega), b_some, n_w (a := k_br base T) (by omega) (by omega), show q_w 20 = 20 from rfl, show q_w 23 = 23 from rfl, show q_w 24 = 24 from rfl, if_neg (by omega), if_neg (by omega), if_neg (by omega)]
    exact ⟨M1, rfl, g2⟩
  · rw [if_neg (at_40 hC.1 zc_b.2.1 c)]
    exact ⟨M1, rfl, g2⟩
theorem mul_0 {b : Nat → Int} {N : Nat} {σ : t_S} (h : u_mul b N σ = 0) : (¬ u_isS b N 42 σ = true) ∧ ¬ u_isS b N 47 σ = true := by
  unfold u_mul at h
  by_cases c : u_isS b N 42 σ = true
  · rw [if_pos c] at h; cases h
  · rw [if_neg c] at h
    by_cases c' : u_isS b N 47 σ = true
    · rw [if_pos c'] at h; cases h
    · exact ⟨c, c'⟩
theorem add_0 {b : Nat → Int} {N : Nat} {σ : t_S} (h : u_add b N σ = 0) : (¬ u_isS b N 43 σ = true) ∧ ¬ u_isS b N 45 σ = true := by
  unfold u_add at h
  by_cases c : u_isS b N 43 σ = true
  · rw [if_pos c] at h; cases h
  · rw [if_neg c] at h
    by_cases c' : u_isS b N 45 σ = true
    · rw [if_pos c'] at h; cases h
    · exact ⟨c, c'⟩
theorem ld_t {b : Nat → Int} {N p : Nat} {j : Bool} {M : q_Mem} (hT : z_ot b N M) {c z : Int} (hc : z_c c) (h : u_isS b N c (.inl (p, j)) = true) (hz : z = (p : Int) + 1) : q_ld M 95 1600 (z - 1) = some c := by
  have hlt : p < N := at_lt (isS_nz h)
  rw [hz, show (p : Int) + 1 - 1 = (p : Int) from by omega, o_ld hT hlt]
  have := (at_S hc).mpr h
  rw [at_in hlt] at this
  rw [this]
theorem B_mul {b : Nat → Int} {N w base : Nat} {M0 : q_Mem} {x δ : Int} {Q : Int → q_Mem → Prop} {σ : t_S} {pm T R : List Int} {o : Int} {v : Int} (hy : h_Y w base M0 δ) (hv : u_mul b N σ = v) (hv0 : v ≠ 0) (hpm : ∀ u ∈ pm, u = 3 ∨ u = 4) (hT : ¬ T.head? = some 3 ∧ ¬ T.head? = some 4) (h : h_A b N w base M0 x δ Q (u_st b N σ) (v :: T) o (pm.reverse ++ R)) : h_B b N w base M0 x δ Q σ (pm ++ T) o R := by
  have hy' := hy
  obtain ⟨hw0, hw2, hb, hd⟩ := hy
  have hc : (u_isS b N 42 σ = true ∧ v = 3) ∨ (u_isS b N 47 σ = true ∧ v = 4) := by
    unfold u_mul at hv
    by_cases c : u_isS b N 42 σ = true
    · rw [if_pos c] at hv; exact Or.inl ⟨c, hv.symm⟩
    · rw [if_neg c] at hv
      by_cases c' : u_isS b N 47 σ = true
      · rw [if_pos c'] at hv; exact Or.inr ⟨c', hv.symm⟩
      · rw [if_neg c'] at hv; exact absurd hv.symm hv0
  have hok : u_ok σ = true := by
    rcases hc with ⟨c, _⟩ | ⟨c, _⟩ <;> exact ok_isS c
  refine ⟨fun hf => (by rw [hok] at hf; cases hf), ?_⟩
  rintro p j rfl n1 n2 M hn1 hn2 hC
  have hpN := C_pN hC
  rw [List.length_append] at hpN
  cases n1 with
  | zero => omega
  | succ n =>
    unfold r_B
    have hat : t_at b N p ≠ -1 := by
      rcases hc with ⟨c, _⟩ | ⟨c, _⟩ <;> exact isS_nz c
    obtain ⟨M1, g1, g2⟩ := B_122 (n := n) hy' hC (fun g => by
      rcases hc with ⟨c, _⟩ | ⟨c, _⟩
      · exact absurd g (isS_u c (by decide))
      · exact absurd g (isS_u c (by decide)))
    rw [g1]
    unfold fX12_qGoesOn_122
    obtain ⟨p', j', e1, e2, e3⟩ := st_x (j := j) hpN.2.1 hat
    rw [e1] at h
    have fin : ∀ M2, z_C b N w base M0 (.inl (p', j')) (pm ++ T) o (δ + 1) R M2 → q_P (q_bd (fX12_qGoesOn_162 q_FU v M2) fun x21 M2 => if q_w x21 = 0 then ((fX12_qSums_48 (fX12_qSums_15 n2) x M2)) else ((fX12_qSums_49 (fX12_qSums_15 n2) x 1 M2))) Q := by
      intro M2 h2
      obtain ⟨M3, k1, k2⟩ := C_162 (v := v) (by omega) (by omega) hT pm q_FU R M2 hpm (by unfold q_FU; omega) h2
      rw [k1, b_some, show q_w 1 = 1 from rfl, if_neg (by decide)]
      exact go_A h e3 (by omega) (by omega) (C_w k2 (by omega))
    obtain ⟨M2, t1, t2, t3⟩ := C_takeS g2 zc_b.2.2.1
    rcases hc with ⟨c, hv3⟩ | ⟨c, hv4⟩
    · rw [if_pos c] at t1
      rw [t1, b_some, show q_w 1 = 1 from rfl, if_neg (by decide)]
      unfold fX12_qGoesOn_140 fX12_qGoesOn_161
      obtain ⟨t4, t5⟩ := t2 c
      rw [ld_t t4.1 zc_b.2.2.1 c (t5 p j rfl), Option.bind_some, if_pos rfl]
      rw [e1] at t4
      have := fin M2 t4
      rw [hv3] at this
      exact this
    · have n42 : ¬ u_isS b N 42 (.inl (p, j)) = true := isS_u c (by decide)
      rw [if_neg n42] at t1
      rw [t1, b_some, show q_w 0 = 0 from rfl, if_pos rfl]
      obtain ⟨M3, s1, s2, s3⟩ := C_takeS (t3 n42).1 zc_b.2.2.2.2.2.2.1
      rw [if_pos c] at s1
      rw [s1, b_some, show q_w 1 = 1 from rfl, if_neg (by decide)]
      unfold fX12_qGoesOn_140 fX12_qGoesOn_161
      obtain ⟨t4, t5⟩ := s2 c
      rw [ld_t t4.1 zc_b.2.2.2.2.2.2.1 c (t5 p j rfl), Option.bind_some, show q_w 47 = 47 from rfl, show q_w 42 = 42 from rfl, if_neg (by decide)]
      rw [e1] at t4
      have := fin M3 t4
      rw [hv4] at this
      exact this
theorem B_add {b : Nat → Int} {N w base : Nat} {M0 : q_Mem} {x δ : Int} {Q : Int → q_Mem → Prop} {σ : t_S} {pm T R : List Int} {o : Int} {v : Int} (hy : h_Y w base M0 δ) (hv : u_add b N σ = v) (hv0 : v ≠ 0) (hpm : ∀ u ∈ pm, 1 ≤ u ∧ u ≤ 4) (hT : ¬ T.head? = some 3 ∧ ¬ T.head? = some 4 ∧ ¬ T.head? = some 1 ∧ ¬ T.head? = some 2) (h : h_A b N w base M0 x δ Q (u_st b N σ) (v :: T) o (pm.reverse ++ R)) : h_B b N w base M0 x δ Q σ (pm ++ T) o R := by
  have hy' := hy
  obtain ⟨hw0, hw2, hb, hd⟩ := hy
  have hc : (u_isS b N 43 σ = true ∧ v = 1) ∨ (u_isS b N 45 σ = true ∧ v = 2) := by
    unfold u_add at hv
    by_cases c : u_isS b N 43 σ = true
    · rw [if_pos c] at hv; exact Or.inl ⟨c, hv.symm⟩
    · rw [if_neg c] at hv
      by_cases c' : u_isS b N 45 σ = true
      · rw [if_pos c'] at hv; exact Or.inr ⟨c', hv.symm⟩
      · rw [if_neg c'] at hv; exact absurd hv.symm hv0
  have hok : u_ok σ = true := by
    rcases hc with ⟨c, _⟩ | ⟨c, _⟩ <;> exact ok_isS c
  refine ⟨fun hf => (by rw [hok] at hf; cases hf), ?_⟩
  rintro p j rfl n1 n2 M hn1 hn2 hC
  have hpN := C_pN hC
  rw [List.length_append] at hpN
  have hno : ∀ cc : Int, cc ≠ 43 → cc ≠ 45 → ¬ u_isS b N cc (.inl (p, j)) = true := by
    intro cc h1 h2
    rcases hc with ⟨c, _⟩ | ⟨c, _⟩
    · exact isS_u c (fun e => h1 e.symm)
    · exact isS_u c (fun e => h2 e.symm)
  cases n1 with
  | zero => omega
  | succ n =>
    unfold r_B
    have hat : t_at b N p ≠ -1 := by
      rcases hc with ⟨c, _⟩ | ⟨c, _⟩ <;> exact isS_nz c
    obtain ⟨M1, g1, g2⟩ := B_122 (n := n) hy' hC (fun g => absurd g (hno 41 (by decide) (by decide)))
    rw [g1]
    unfold fX12_qGoesOn_122
    obtain ⟨p', j', e1, e2, e3⟩ := st_x (j := j) hpN.2.1 hat
    rw [e1] at h
    have fin : ∀ M2, z_C b N w base M0 (.inl (p', j')) (pm ++ T) o (δ + 1) R M2 → q_P (q_bd (fX12_qGoesOn_247 q_FU v M2) fun x21 M2 => if q_w x21 = 0 then ((fX12_qSums_48 (fX12_qSums_15 n2) x M2)) else ((fX12_qSums_49 (fX12_qSums_15 n2) x 1 M2))) Q := by
      intro M2 h2
      obtain ⟨M3, k1, k2⟩ := C_247 (v := v) (by omega) (by omega) hT pm q_FU R M2 hpm (by unfold q_FU; omega) h2
      rw [k1, b_some, show q_w 1 = 1 from rfl, if_neg (by decide)]
      exact go_A h e3 (by omega) (by omega) (C_w k2 (by omega))
    have n42 := hno 42 (by decide) (by decide)
    have n47 := hno 47 (by decide) (by decide)
    obtain ⟨M2, t1, t2, t3⟩ := C_takeS g2 zc_b.2.2.1
    rw [if_neg n42] at t1
    rw [t1, b_some, show q_w 0 = 0 from rfl, if_pos rfl]
    obtain ⟨M3, s1, s2, s3⟩ := C_takeS (t3 n42).1 zc_b.2.2.2.2.2.2.1
    rw [if_neg n47] at s1
    rw [s1, b_some, show q_w 0 = 0 from rfl, if_pos rfl]
    obtain ⟨M4, u1, u2, u3⟩ := C_takeS (s3 n47).1 zc_b.2.2.2.1
    rcases hc with ⟨c, hv3⟩ | ⟨c, hv4⟩
    · rw [if_pos c] at u1
      rw [u1, b_some, show q_w 1 = 1 from rfl, if_neg (by decide)]
      unfold fX12_qGoesOn_225 fX12_qGoesOn_246
      obtain ⟨t4, t5⟩ := u2 c
      rw [ld_t t4.1 zc_b.2.2.2.1 c (t5 p j rfl), Option.bind_some, if_pos rfl]
      rw [e1] at t4
      have := fin M4 t4
      rw [hv3] at this
      exact this
    · have n43 : ¬ u_isS b N 43 (.inl (p, j)) = true := isS_u c (by decide)
      rw [if_neg n43] at u1
      rw [u1, b_some, show q_w 0 = 0 from rfl, if_pos rfl]
      obtain ⟨M5, v1, v2, v3⟩ := C_takeS (u3 n43).1 zc_b.2.2.2.2.2.1
      rw [if_pos c] at v1
      rw [v1, b_some, show q_w 1 = 1 from rfl, if_neg (by decide)]
      unfold fX12_qGoesOn_225 fX12_qGoesOn_246
      obtain ⟨t4, t5⟩ := v2 c
      rw [ld_t t4.1 zc_b.2.2.2.2.2.1 c (t5 p j rfl), Option.bind_some, show q_w 45 = 45 from rfl, show q_w 43 = 43 from rfl, if_neg (by decide)]
      rw [e1] at t4
      have := fin M5 t4
      rw [hv4] at this
      exact this
/-- none of the four signs -/
theorem B_4 {b : Nat → Int} {N w base : Nat} {M0 : q_Mem} {δ : Int} {p : Nat} {j : Bool} {T R : List Int} {o : Int} {M : q_Mem} (hm : u_mul b N (.inl (p, j)) = 0) (ha : u_add b N (.inl (p, j)) = 0) (hC : z_C b N w base M0 (.inl (p, j)) T o δ R M) : ∃ M', fX12_qGoesOn_122 M = (q_bd (fX12_qBracket M') fun x25 M5 => if q_w x25 = q_w 21 then ((fX12_qGoesOn_326 M5)) else (q_bd (fX12_qBracket M5) fun x26 M6 => if q_w x26 = q_w 22 then ((fX12_qGoesOn_326 M6)) else (q_bd (fX12_qBracket M6) fun x27 M7 => if q_w x27 = q_w (-1) then (some (0, M7)) else (if q_w (M7.2 94 5) = 0 then (q_bd (fX12_fail 1 (M7.2 94 2) M7) fun _ M8 => some (0, M8)) else (some (0, M7)))))) ∧ z_C b N w base M0 (.inl (p, j)) T o δ R M' ∧ z_P b N p j M' := by
  obtain ⟨n42, n47⟩ := mul_0 hm
  obtain ⟨n43, n45⟩ := add_0 ha
  unfold fX12_qGoesOn_122
  obtain ⟨M2, t1, t2, t3⟩ := C_takeS hC zc_b.2.2.1
  rw [if_neg n42] at t1
  rw [t1, b_some, show q_w 0 = 0 from rfl, if_pos rfl]
  obtain ⟨M3, s1, s2, s3⟩ := C_takeS (t3 n42).1 zc_b.2.2.2.2.2.2.1
  rw [if_neg n47] at s1
  rw [s1, b_some, show q_w 0 = 0 from rfl, if_pos rfl]
  obtain ⟨M4, u1, u2, u3⟩ := C_takeS (s3 n47).1 zc_b.2.2.2.1
  rw [if_neg n43] at u1
  rw [u1, b_some, show q_w 0 = 0 from rfl, if_pos rfl]
  obtain ⟨M5, v1, v2, v3⟩ := C_takeS (u3 n43).1 zc_b.2.2.2.2.2.1
  rw [if_neg n45] at v1
  rw [v1, b_some, show q_w 0 = 0 from rfl, if_pos rfl]
  exact ⟨M5, rfl, (v3 n45).1, (v3 n45).2⟩
theorem B_end {b : Nat → Int} {N w base : Nat} {M0 : q_Mem} {x δ : Int} {Q : Int → q_Mem → Prop} {p : Nat} {j : Bool} {pend T R : List Int} {o : Int} (hy : h_Y w base M0 δ) (hm : u_mul b N (.inl (p, j)) = 0) (ha : u_add b N (.inl (p, j)) = 0) (hpe : ∀ u ∈ pend, 1 ≤ u ∧ u ≤ 4) (hT : T.length = base) (hE : ∀ M, z_C b N w base M0 (.inl (p, j)) T o δ (pend.reverse ++ R) M → q_P (fX12_qSums_78 x M) Q) : h_B b N w base M0 x δ Q (.inl (p, j)) (pend ++ T) o R := by
  have hy' := hy
  obtain ⟨hw0, hw2, hb, hd⟩ := hy
  refine ⟨fun hf => (by cases hf), ?_⟩
  rintro p' j' e n1 n2 M hn1 hn2 hC
  cases e
  have hpN := C_pN hC
  rw [List.length_append] at hpN
  have hbr := br_0 hT pend hpe
  cases n1 with
  | zero => omega
  | succ n =>
    unfold r_B
    obtain ⟨M1, g1, g2⟩ := B_122 (n := n) hy' hC (fun _ => by rw [hbr]; omega)
    obtain ⟨M2, k1, k2, k3⟩ := B_4 hm ha g2
    rw [g1, k1, C_br k2 (by omega) (by omega), b_some, C_br k2 (by omega) (by omega), b_some, C_br k2 (by omega) (by omega), b_some, hbr, show q_w (-1) = -1 from rfl, show q_w 21 = 21 from rfl, show q_w 22 = 22 from rfl, if_neg (by decide), if_neg (by decide), if_pos rfl, b_some, show q_w 0 = 0 from rfl, if_pos rfl]
    unfold fX12_qSums_48 fX12_qSums_49
    cases n2 with
    | zero => omega
    | succ n2 =>
      rw [fX12_qSums_15, show q_w 0 = 0 from rfl, if_pos rfl]
      obtain ⟨M3, q1, q2⟩ := C_s53 (x := x) (by omega) hT pend q_FU R M2 (by unfold q_FU; omega) k2
      rw [q1]
      exact hE M3 q2
theorem B_bad {b : Nat → Int} {N w base : Nat} {M0 : q_Mem} {x δ : Int} {Q : Int → q_Mem → Prop} {p : Nat} {j : Bool} {pend T R : List Int} {o v : Int} (hy : h_Y w base M0 δ) (hm : u_mul b N (.inl (p, j)) = 0) (ha : u_add b N (.inl (p, j)) = 0) (hpe : ∀ u ∈ pend, 1 ≤ u ∧ u ≤ 4) (hb' : base ≤ T.length) (hv : 20 ≤ v ∧ v ≤ 24) (h1 : v = 20 ∨ v = 23 ∨ v = 24 → ¬ u_isS b N 41 (.inl (p, j)) = true) (h2 : v = 21 ∨ v = 22 → ¬ u_isS b N 44 (.inl (p, j)) = true) (hF : h_F b N M0 x Q (.inr (1, (p : Int)))) : h_B b N w base M0 x δ Q (.inl (p, j)) (pend ++ v :: T) o R := by
  have hy' := hy
  obtain ⟨hw0, hw2, hb, hd⟩ := hy
  refine ⟨fun hf => (by cases hf), ?_⟩
  rintro p' j' e n1 n2 M hn1 hn2 hC
  cases e
  have hpN := C_pN hC
  have hbr := br_1 hv hb' pend hpe
  cases n1 with
  | zero => omega
  | succ n =>
    unfold r_B
    obtain ⟨M1, g1, g2⟩ := B_122 (n := n) hy' hC (fun g => by rw [hbr]; exact fun e => h1 e g)
    obtain ⟨M2, k1, k2, k3⟩ := B_4 hm ha g2
    have b326 : (v = 21 ∨ v = 22) → q_P (q_bd (fX12_qGoesOn_326 M2) fun x21 M2 => if q_w x21 = 0 then ((fX12_qSums_48 (fX12_qSums_15 n2) x M2)) else ((fX12_qSums_49 (fX12_qSums_15 n2) x 1 M2))) Q := by
      intro hv2
      unfold fX12_qGoesOn_326
      obtain ⟨M3, s1, s2, s3⟩ := C_askS k2 zc_b.2.2.2.2.1
      have hf := C_F rfl (by omega) (s3 (h2 hv2))
      rw [s1, b_some, if_neg (F_bad hf), b_some, show q_w 0 = 0 from rfl, if_pos rfl]
      exact fin_F hF hf (by omega) (by omega)
    rw [g1, k1, C_br k2 (by omega) (by omega), b_some, hbr, n_w (a := v) (by omega) (by omega), show q_w 21 = 21 from rfl]
    by_cases c21 : v = 21
    · rw [if_pos c21]
      exact b326 (Or.inl c21)
    rw [if_neg c21, C_br k2 (by omega) (by omega), b_some, hbr, n_w (a := v) (by omega) (by omega), show q_w 22 = 22 from rfl]
    by_cases c22 : v = 22
    · rw [if_pos c22]
      exact b326 (Or.inr c22)
    rw [if_neg c22, C_br k2 (by omega) (by omega), b_some, hbr, n_w (a := v) (by omega) (by omega), show q_w (-1) = -1 from rfl, if_neg (by omega), show M2.2 94 5 = 0 from k2.2.1.1, show q_w 0 = 0 from rfl, if_pos rfl, show M2.2 94 2 = (p : Int) from k3.2.2.1]
    obtain ⟨M3, s1, s2⟩ := C_fail (k := 1) (pl := (p : Int)) k2 (by omega)
    rw [s1, b_some, b_some, show q_w 0 = 0 from rfl, if_pos rfl]
    exact fin_F hF (C_F rfl (by omega) s2) (by omega) (by omega)
theorem B_comma {b : Nat → Int} {N w base : Nat} {M0 : q_Mem} {x δ : Int} {Q : Int → q_Mem → Prop} {p : Nat} {j : Bool} {pend T R : List Int} {o v : Int} (hy : h_Y w base M0 δ) (c : u_isS b N 44 (.inl (p, j)) = true) (hpe : ∀ u ∈ pend, 1 ≤ u ∧ u ≤ 4) (hb' : base ≤ T.length) (hv : v = 21 ∨ v = 22) (h : h_A b N w base M0 x δ Q (u_st b N (.inl (p, j))) ((v + 2) :: T) o (pend.reverse ++ R)) : h_B b N w base M0 x δ Q (.inl (p, j)) (pend ++ v :: T) o R := by
  have hy' := hy
  obtain ⟨hw0, hw2, hb, hd⟩ := hy
  refine ⟨fun hf => (by cases hf), ?_⟩
  rintro p' j' e n1 n2 M hn1 hn2 hC
  cases e
  have hpN := C_pN hC
  rw [List.length_append, List.length_cons] at hpN
  have hbr := br_1 (v := v) (by omega) hb' pend hpe
  have hat : t_at b N p ≠ -1 := isS_nz c
  have hm : u_mul b N (.inl (p, j)) = 0 := by unfold u_mul; rw [if_neg (isS_u c (by decide)), if_neg (isS_u c (by decide))]
  have ha : u_add b N (.inl (p, j)) = 0 := by unfold u_add; rw [if_neg (isS_u c (by decide)), if_neg (isS_u c (by decide))]
  obtain ⟨p', j', e1, e2, e3⟩ := st_x (j := j) hpN.2.1 hat
  rw [e1] at h
  cases n1 with
  | zero => omega
  | succ n =>
    unfold r_B
    obtain ⟨M1, g1, g2⟩ := B_122 (n := n) hy' hC (fun g => absurd g (isS_u c (by decide)))
    obtain ⟨M2, k1, k2, k3⟩ := B_4 hm ha g2
    have b326 : q_P (q_bd (fX12_qGoesOn_326 M2) fun x21 M2 => if q_w x21 = 0 then ((fX12_qSums_48 (fX12_qSums_15 n2) x M2)) else ((fX12_qSums_49 (fX12_qSums_15 n2) x 1 M2))) Q := by
      unfold fX12_qGoesOn_326
      obtain ⟨M3, s1, s2, s3⟩ := C_askS k2 zc_b.2.2.2.2.1
      have s4 := s2 c
      rw [e1] at s4
      rw [s1, b_some, show M3.2 94 5 = 0 from s4.2.1.1, show q_w 0 = 0 from rfl, if_pos rfl]
      unfold fX12_qDropsToBracket
      obtain ⟨M4, d1, d2⟩ := C_dtb (by omega) (by omega) hb' pend q_FU R M3 hpe (by unfold q_FU; omega) s4
      have hl : M4.2 94 93 - 1 = (T.length : Int) := by rw [d2.2.2.1.1, List.length_cons]; omega
      rw [d1, b_some, q_le, C_top d2 (by omega), Option.bind_some, hl, b_sto (by omega) (by omega) (by omega), Option.bind_some, b_some, show q_w 1 = 1 from rfl, if_neg (by decide), Int.toNat_natCast]
      refine go_A h e3 (by omega) (by omega) ?_
      obtain ⟨h1, h2, ⟨h3, h4, h5, h6, h6'⟩, ⟨h7, h8, h8'⟩, h10, h11⟩ := d2
      refine ⟨ot_fr h1 (up_ne (by omega)) (fun k => up_ne (by omega)), O_fr h2 (fun k hk => up_ne (by omega)), ⟨by rw [up_ne (by omega), h3]; rfl, by rw [up_ne (by omega), h4], by rw [up_ne (by omega), h5], by rw [up_ne (by omega), h6], by rw [up_ne (by omega), h6']⟩, ⟨stk_pu h7.2 (by rw [up_rd, if_pos ⟨rfl, rfl⟩]) (fun i hi => up_ne (by omega)), stk_fr (fun i _ => up_ne (by omega)) h8, ?_⟩, ?_, fun a k g1 g2 g3 => by rw [up_ne (by omega), h11 a k g1 g2 g3]⟩
      · intro u hu
        rcases List.mem_cons.mp hu with e | e
        · omega
        · exact h8' u (List.mem_cons_of_mem _ e)
      · intro p0 j0 e0
        have := h10 p0 j0 e0
        rw [List.length_cons] at this ⊢
        omega
    rw [g1, k1, C_br k2 (by omega) (by omega), b_some, hbr, n_w (a := v) (by omega) (by omega), show q_w 21 = 21 from rfl]
    by_cases c21 : v = 21
    · rw [if_pos c21]
      exact b326
    rw [if_neg c21, C_br k2 (by omega) (by omega), b_some, hbr, n_w (a := v) (by omega) (by omega), show q_w 22 = 22 from rfl, if_pos (by omega)]
    exact b326
theorem B_close {b : Nat → Int} {N w base : Nat} {M0 : q_Mem} {x δ : Int} {Q : Int → q_Mem → Prop} {p : Nat} {j : Bool} {pend T R R' : List Int} {o v : Int} (hy : h_Y w base M0 δ) (c : u_isS b N 41 (.inl (p, j)) = true) (hpe : ∀ u ∈ pend, 1 ≤ u ∧ u ≤ 4) (hb' : base ≤ T.length) (hv : v = 20 ∨ v = 23 ∨ v = 24) (hR : R' = if v = 20 then pend.reverse ++ R else if v = 23 then 5 :: (pend.reverse ++ R) else 6 :: (pend.reverse ++ R)) (h : h_B b N w base M0 x δ Q (u_st b N (.inl (p, j))) (k_es base T (o - 1) R').1 (k_es base T (o - 1) R').2.1 (k_es base T (o - 1) R').2.2) : h_B b N w base M0 x δ Q (.inl (p, j)) (pend ++ v :: T) o R := by
  have hy' := hy
  obtain ⟨hw0, hw2, hb, hd⟩ := hy
  refine ⟨fun hf => (by cases hf), ?_⟩
  rintro p' j' e n1 n2 M hn1 hn2 hC
  cases e
  have hpN := C_pN hC
  rw [List.length_append, List.length_cons] at hpN
  have hbr := br_1 (v := v) (by omega) hb' pend hpe
  have hat : t_at b N p ≠ -1 := isS_nz c
  obtain ⟨p', j', e1, e2, e3⟩ := st_x (j := j) hpN.2.1 hat
  rw [e1] at h
  cases n1 with
  | zero => omega
  | succ n =>
    unfold r_B
    obtain ⟨M1, g1, g2, g3⟩ := C_look hC
    have b43 : q_P (q_bd (fX12_qGoesOn_43 (fX12_qGoesOn_0 n) M1) fun x21 M2 => if q_w x21 = 0 then ((fX12_qSums_48 (fX12_qSums_15 n2) x M2)) else ((fX12_qSums_49 (fX12_qSums_15 n2) x 1 M2))) Q := by
      unfold fX12_qGoesOn_43
      have hadv := C_adv g2 g3 c (z := M1.2 94 2 + 1) (by rw [g3.2.2.1])
      rw [e1] at hadv
      rw [q_le]
      unfold fX12_qDropsToBracket
      obtain ⟨M4, d1, d2⟩ := C_dtb (by omega) (by omega) hb' pend q_FU R _ hpe (by unfold q_FU; omega) hadv
      have hl : M4.2 94 93 - 1 = (T.length : Int) := by rw [d2.2.2.1.1, List.length_cons]; omega
      have hv4 : M4.2 163 T.length = v := d2.2.2.2.1.1.1
      have e94 : (q_up M4 94 93 (M4.2 94 93 - 1)).2 94 94 - 1 = o - 1 := by rw [up_ne (by omega), d2.2.2.1.2.1]
      have d3 := C_94o (z := (q_up M4 94 93 (M4.2 94 93 - 1)).2 94 94 - 1) (C_93 d2 hl) e94
      rw [d1, b_some, q_le, q_le]
      have hld : q_ld (q_up (q_up M4 94 93 (M4.2 94 93 - 1)) 94 94 ((q_up M4 94 93 (M4.2 94 93 - 1)).2 94 94 - 1)) 163 1700 ((q_up (q_up M4 94 93 (M4.2 94 93 - 1)) 94 94 ((q_up M4 94 93 (M4.2 94 93 - 1)).2 94 94 - 1)).2 94 93) = some v := by
        rw [up_ne (b := 94) (j := 93) (by omega), up_rd (b := 94) (j := 93), if_pos ⟨rfl, rfl⟩, ld_n hl (by omega) (by omega), up_ne (by omega), up_ne (by omega), hv4]
      rw [hld, Option.bind_some, Option.bind_some]
      generalize q_up (q_up M4 94 93 (M4.2 94 93 - 1)) 94 94 ((q_up M4 94 93 (M4.2 94 93 - 1)).2 94 94 - 1) = M5 at d3
      have k115 : ∀ (R2 : List Int) (M6 : q_Mem), R2 = R' → z_C b N w base M0 (.inl (p', j')) T (o - 1) (δ + 1) R2 M6 → q_P (q_bd (fX12_qGoesOn_115 (fX12_qGoesOn_0 n) M6) fun x21 M2 => if q_w x21 = 0 then ((fX12_qSums_48 (fX12_qSums_15 n2) x M2)) else ((fX12_qSums_49 (fX12_qSums_15 n2) x 1 M2))) Q := by
        intro R2 M6 hR2 h6
        unfold fX12_qGoesOn_115 fX12_qEndsPart
        obtain ⟨M7, f1, f2⟩ := C_ends (p := p') (j := j') (d := δ + 1) (by omega) (by omega) T q_FU (o - 1) R2 M6 (by unfold q_FU; omega) h6
        rw [f1, b_some]
        rw [hR2] at f2
        exact h.2 p' j' rfl n n2 M7 (by omega) (by omega) (C_w f2 (by omega))
      have hlr : (pend.reverse ++ R).length = pend.length + R.length := by rw [List.length_append, List.length_reverse]
      rw [n_w (a := v) (by omega) (by omega), show q_w 20 = 20 from rfl, show q_w 23 = 23 from rfl]
      by_cases c20 : v = 20
      · rw [if_pos c20]
        rw [if_pos c20] at hR
        exact k115 _ M5 hR.symm (C_w d3 (by omega))
      rw [if_neg c20]
      rw [if_neg c20] at hR
      by_cases c23 : v = 23
      · rw [if_pos c23]
        rw [if_pos c23] at hR
        unfold fX12_qGoesOn_112
        obtain ⟨M6, q1, q2⟩ := C_code (x := 5) d3 (by omega)
        rw [q1, b_some]
        exact k115 _ M6 hR.symm (C_w q2 (by omega))
      · rw [if_neg c23]
        rw [if_neg c23] at hR
        unfold fX12_qGoesOn_112
        obtain ⟨M6, q1, q2⟩ := C_code (x := 6) d3 (by omega)
        rw [q1, b_some]
        exact k115 _ M6 hR.symm (C_w q2 (by omega))
    rw [fX12_qGoesOn_0, show M.2 94 5 = 0 from hC.2.1.1, show q_w 0 = 0 from rfl, if_pos rfl, g1, b_some, (at_S zc_b.2.1).mpr c, if_pos rfl, C_br g2 (by omega) (by omega), b_some, C_br g2 (by omega) (by omega), b_some, C_br g2 (by omega) (by omega), b_some, hbr, n_w (a := v) (by omega) (by omega), show q_w 20 = 20 from rfl, show q_w 23 = 23 from rfl, show q_w 24 = 24 from rfl]
    rcases hv with hv | hv | hv
    · rw [if_pos hv]
      exact b43
    · rw [if_neg (by omega), if_pos hv]
      exact b43
    · rw [if_neg (by omega), if_neg (by omega), if_pos hv]
      exact b43
