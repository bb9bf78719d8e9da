/-! texts: the other side reads a TEST -/
def K_2 (b : Nat → Int) (N w : Nat) (M0 : q_Mem) (Q : Int → q_Mem → Prop) (k : Nat) : Prop := ∀ (o : Nat) (σ : t_S) (T R : List Int), u_in N σ → h_D o 2 k σ → (∀ u ∈ T, 10 ≤ u ∧ u < 60) → t_B b N w M0 Q (s_G b N w k 2 o (σ, R)).1 (k_ns T (o : Int) (s_G b N w k 2 o (σ, R)).2).1 (k_ns T (o : Int) (s_G b N w k 2 o (σ, R)).2).2.1 (k_ns T (o : Int) (s_G b N w k 2 o (σ, R)).2).2.2 → t_A b N w M0 Q σ T (o : Int) R
def K_1 (b : Nat → Int) (N w : Nat) (M0 : q_Mem) (Q : Int → q_Mem → Prop) (k : Nat) : Prop := ∀ (o : Nat) (σ : t_S) (T R : List Int), u_in N σ → h_D o 1 k σ → (∀ u ∈ T, 10 ≤ u ∧ u < 60) → (∀ u, T.head? = some u → u ≠ 10 ∧ u ≠ 12) → (∀ pm R', (∀ u ∈ pm, u = 10) → pm.reverse ++ R' = (s_G b N w k 1 o (σ, R)).2 → u_and b N (s_G b N w k 1 o (σ, R)).1 = 0 → t_B b N w M0 Q (s_G b N w k 1 o (σ, R)).1 (pm ++ T) (o : Int) R') → t_A b N w M0 Q σ T (o : Int) R
def K_0 (b : Nat → Int) (N w : Nat) (M0 : q_Mem) (Q : Int → q_Mem → Prop) (k : Nat) : Prop := ∀ (o : Nat) (σ : t_S) (T R : List Int), u_in N σ → h_D o 0 k σ → (∀ u ∈ T, 10 ≤ u ∧ u < 60) → (∀ u, T.head? = some u → u ≠ 10 ∧ u ≠ 11 ∧ u ≠ 12) → (∀ pm R', (∀ u ∈ pm, u = 10 ∨ u = 11) → pm.reverse ++ R' = (s_G b N w k 0 o (σ, R)).2 → u_and b N (s_G b N w k 0 o (σ, R)).1 = 0 → u_or b N (s_G b N w k 0 o (σ, R)).1 = 0 → t_B b N w M0 Q (s_G b N w k 0 o (σ, R)).1 (pm ++ T) (o : Int) R') → t_A b N w M0 Q σ T (o : Int) R
theorem ns_no {T R : List Int} {o : Int} (h : ∀ u, T.head? = some u → u ≠ 12) : k_ns T o R = (T, o, R) := by
  cases T with
  | nil => rfl
  | cons v T =>
    have := h v rfl
    rw [k_ns, if_neg this]
theorem end_W {b : Nat → Int} {N : Nat} {σ : t_S} {c : Int} (h : ∀ p j, σ = .inl (p, j) → N ≤ p) : ¬ u_isW b N c σ = true := by
  intro g
  rcases σ with ⟨p, j⟩ | ⟨k, pl⟩
  · have h1 := at_lt (isW_nz g)
    have h2 := h p j rfl
    omega
  · cases g
theorem lp_1 {b : Nat → Int} {N w : Nat} {M0 : q_Mem} {Q : Int → q_Mem → Prop} {k o : Nat} {T : List Int} (hw0 : r_words M0.2) (hw2 : w ≤ 2) (hN : N ≤ 1600) (hT : (∀ u ∈ T, 10 ≤ u ∧ u < 60)) (hh : ∀ u, T.head? = some u → u ≠ 10 ∧ u ≠ 12) (h2 : K_2 b N w M0 Q k) : ∀ (n : Nat) (r : t_R), u_in N r.1 → h_D o 2 k r.1 → (∀ p j, r.1 = .inl (p, j) → 1600 ≤ p + n) → (∀ pm R', (∀ u ∈ pm, u = 10) → pm.reverse ++ R' = (s_lp (u_and b N) (u_st b N) (s_G b N w k 2 o) n r).2 → u_and b N (s_lp (u_and b N) (u_st b N) (s_G b N w k 2 o) n r).1 = 0 → t_B b N w M0 Q (s_lp (u_and b N) (u_st b N) (s_G b N w k 2 o) n r).1 (pm ++ T) (o : Int) R') → ∀ pm R', (∀ u ∈ pm, u = 10) → pm.reverse ++ R' = r.2 → t_B b N w M0 Q r.1 (pm ++ T) (o : Int) R' := by
  intro n
  induction n with
  | zero =>
    intro r hin hD hp hK pm R' hpm hR
    refine hK pm R' hpm hR ?_
    have he : ∀ p j, r.1 = .inl (p, j) → N ≤ p := fun p j e => by have := hp p j e; omega
    show u_and b N r.1 = 0
    unfold u_and
    rw [if_neg (end_W he)]
  | succ n ih =>
    intro r hin hD hp hK pm R' hpm hR
    by_cases c' : u_isW b N 20 r.1 = true
    · have hu : u_and b N r.1 = 10 := by unfold u_and; rw [if_pos c']
      rw [s_lp, if_neg (by rw [hu]; decide), hu] at hK
      refine tB_and hw0 c' hpm (fun e => (hh _ e).1 rfl) ?_
      rw [hR]
      have hst := le_st (b := b) hin
      have hq := le_G (b := b) (w := w) k 2 o (u_st b N r.1, r.2) (le_in hst)
      refine h2 o (u_st b N r.1) (10 :: T) r.2 (le_in hst) (D_st hD) (fun u hu => by
        rcases List.mem_cons.mp hu with e | e
        · omega
        · exact hT u e) ?_
      rw [ns_no (fun u hu => by rw [List.head?_cons] at hu; cases hu; decide)]
      refine ih ((s_G b N w k 2 o (u_st b N r.1, r.2)).1, 10 :: (s_G b N w k 2 o (u_st b N r.1, r.2)).2) (le_in hq) (D_G (t2 := 0) (D_st hD)) ?_ hK [10] _ (fun u hu => List.mem_singleton.mp hu) rfl
      intro p j e
      obtain ⟨_, p1, j1, e1, q1⟩ := hq p j e
      rcases hr : r.1 with ⟨p0, j0⟩ | ⟨k0, pl0⟩
      · have h1 := hp p0 j0 hr
        rw [hr] at c' e1
        have h3 := (np_c (b := b) (hin p0 j0 hr)).2.2 (isW_nz c')
        cases e1
        omega
      · rw [hr] at e1; cases e1
    · have hu : u_and b N r.1 = 0 := by unfold u_and; rw [if_neg c']
      rw [s_lp, if_pos hu] at hK
      exact hK pm R' hpm hR hu
theorem K_1of {b : Nat → Int} {N w : Nat} {M0 : q_Mem} {Q : Int → q_Mem → Prop} {k : Nat} (hw0 : r_words M0.2) (hw2 : w ≤ 2) (hN : N ≤ 1600) (h2 : K_2 b N w M0 Q k) : K_1 b N w M0 Q (k + 1) := by
  intro o σ T R hin hD hT hh hK
  have hD2 : h_D o 2 k σ := D_s hD (by omega) (by omega)
  refine h2 o σ T R hin hD2 hT ?_
  rw [ns_no (fun u hu => (hh u hu).2)]
  rw [sG_1] at hK
  exact lp_1 hw0 hw2 hN hT hh h2 1600 _ (le_in (le_G k 2 o (σ, R) hin)) (D_G (t2 := 0) hD2) (fun p j e => by omega) hK [] _ (fun u hu => absurd hu List.not_mem_nil) rfl
theorem lp_0 {b : Nat → Int} {N w : Nat} {M0 : q_Mem} {Q : Int → q_Mem → Prop} {k o : Nat} {T : List Int} (hw0 : r_words M0.2) (hw2 : w ≤ 2) (hN : N ≤ 1600) (hT : (∀ u ∈ T, 10 ≤ u ∧ u < 60)) (hh : ∀ u, T.head? = some u → u ≠ 10 ∧ u ≠ 11 ∧ u ≠ 12) (h1' : K_1 b N w M0 Q k) : ∀ (n : Nat) (r : t_R), u_in N r.1 → h_D o 1 k r.1 → (∀ p j, r.1 = .inl (p, j) → 1600 ≤ p + n) → (∀ pm R', (∀ u ∈ pm, u = 10 ∨ u = 11) → pm.reverse ++ R' = (s_lp (u_or b N) (u_st b N) (s_G b N w k 1 o) n r).2 → u_and b N (s_lp (u_or b N) (u_st b N) (s_G b N w k 1 o) n r).1 = 0 → u_or b N (s_lp (u_or b N) (u_st b N) (s_G b N w k 1 o) n r).1 = 0 → t_B b N w M0 Q (s_lp (u_or b N) (u_st b N) (s_G b N w k 1 o) n r).1 (pm ++ T) (o : Int) R') → ∀ pm R', (∀ u ∈ pm, u = 10 ∨ u = 11) → pm.reverse ++ R' = r.2 → u_and b N r.1 = 0 → t_B b N w M0 Q r.1 (pm ++ T) (o : Int) R' := by
  intro n
  induction n with
  | zero =>
    intro r hin hD hp hK pm R' hpm hR ha
    refine hK pm R' hpm hR ha ?_
    have he : ∀ p j, r.1 = .inl (p, j) → N ≤ p := fun p j e => by have := hp p j e; omega
    show u_or b N r.1 = 0
    unfold u_or
    rw [if_neg (end_W he)]
  | succ n ih =>
    intro r hin hD hp hK pm R' hpm hR ha
    by_cases c' : u_isW b N 19 r.1 = true
    · have hu : u_or b N r.1 = 11 := by unfold u_or; rw [if_pos c']
      rw [s_lp, if_neg (by rw [hu]; decide), hu] at hK
      refine tB_or hw0 c' hpm ⟨fun e => (hh _ e).1 rfl, fun e => (hh _ e).2.1 rfl⟩ ?_
      rw [hR]
      have hst := le_st (b := b) hin
      have hq := le_G (b := b) (w := w) k 1 o (u_st b N r.1, r.2) (le_in hst)
      refine h1' o (u_st b N r.1) (11 :: T) r.2 (le_in hst) (D_st hD) (fun u hu => by
        rcases List.mem_cons.mp hu with e | e
        · omega
        · exact hT u e) (fun u hu => by rw [List.head?_cons] at hu; cases hu; decide) ?_
      intro pm2 R2 hpm2 hR2 ha2
      have := ih ((s_G b N w k 1 o (u_st b N r.1, r.2)).1, 11 :: (s_G b N w k 1 o (u_st b N r.1, r.2)).2) (le_in hq) (D_G (t2 := 0) (D_st hD)) ?_ hK (pm2 ++ [11]) R2 ?_ ?_ ha2
      · rw [List.append_assoc, List.singleton_append] at this
        exact this
      · intro p j e
        obtain ⟨_, p1, j1, e1, q1⟩ := hq p j e
        rcases hr : r.1 with ⟨p0, j0⟩ | ⟨k0, pl0⟩
        · have h1 := hp p0 j0 hr
          rw [hr] at c' e1
          have h3 := (np_c (b := b) (hin p0 j0 hr)).2.2 (isW_nz c')
          cases e1
          omega
        · rw [hr] at e1; cases e1
      · intro u hu
        rcases List.mem_append.mp hu with g | g
        · exact Or.inl (hpm2 u g)
        · exact Or.inr (List.mem_singleton.mp g)
      · rw [List.reverse_append, List.reverse_singleton, List.singleton_append, List.cons_append, hR2]
    · have hu : u_or b N r.1 = 0 := by unfold u_or; rw [if_neg c']
      rw [s_lp, if_pos hu] at hK
      exact hK pm R' hpm hR ha hu
theorem K_0of {b : Nat → Int} {N w : Nat} {M0 : q_Mem} {Q : Int → q_Mem → Prop} {k : Nat} (hw0 : r_words M0.2) (hw2 : w ≤ 2) (hN : N ≤ 1600) (h1 : K_1 b N w M0 Q k) : K_0 b N w M0 Q (k + 1) := by
  intro o σ T R hin hD hT hh hK
  have hD1 : h_D o 1 k σ := D_s hD (by omega) (by omega)
  refine h1 o σ T R hin hD1 hT (fun u hu => ⟨(hh u hu).1, (hh u hu).2.2⟩) ?_
  intro pm R' hpm hR ha
  rw [sG_0] at hK
  exact lp_0 hw0 hw2 hN hT hh h1 1600 _ (le_in (le_G k 1 o (σ, R) hin)) (D_G (t2 := 0) hD1) (fun p j e => by omega) hK pm R' (fun u hu => Or.inl (hpm u hu)) hR ha
theorem K_2of {b : Nat → Int} {N w : Nat} {M0 : q_Mem} {Q : Int → q_Mem → Prop} {k : Nat} (hw0 : r_words M0.2) (hw2 : w ≤ 2) (h0 : K_0 b N w M0 Q k) (h2 : K_2 b N w M0 Q k) : K_2 b N w M0 Q (k + 1) := by
  intro o σ T R hin hD hT h
  by_cases hok : u_ok σ = true
  · have ho := (hD.2.2 hok).1
    rw [sG_2] at h
    by_cases c1 : u_isW b N 21 σ = true
    · rw [if_pos (show u_isW b N 21 ((σ, R) : t_R).1 = true from c1)] at h
      refine tA_not hw0 c1 ho ?_
      have g1 := le_en (b := b) (o := o) hin
      refine h2 (o + 1) (u_en b N o σ) (12 :: T) R (le_in g1) (D_en hD hok) (fun u hu => by
        rcases List.mem_cons.mp hu with e | e
        · omega
        · exact hT u e) ?_
      rw [k_ns, if_pos rfl, show ((o + 1 : Nat) : Int) - 1 = (o : Int) from by omega]
      exact h
    rw [if_neg (show ¬ u_isW b N 21 ((σ, R) : t_R).1 = true from c1)] at h
    by_cases c2 : u_isS b N 91 σ = true
    · rw [if_pos (show u_isS b N 91 ((σ, R) : t_R).1 = true from c2)] at h
      refine tA_sq c2 ho ?_
      have g1 := le_en (b := b) (o := o) hin
      refine h0 (o + 1) (u_en b N o σ) (25 :: T) R (le_in g1) (D_en hD hok) (fun u hu => by
        rcases List.mem_cons.mp hu with e | e
        · omega
        · exact hT u e) (fun u hu => by rw [List.head?_cons] at hu; cases hu; decide) ?_
      change t_B b N w M0 Q (u_Z b N 93 (s_G b N w k 0 (o + 1) (u_en b N o σ, R)).1) (k_ns T (o : Int) (s_G b N w k 0 (o + 1) (u_en b N o σ, R)).2).1 (k_ns T (o : Int) (s_G b N w k 0 (o + 1) (u_en b N o σ, R)).2).2.1 (k_ns T (o : Int) (s_G b N w k 0 (o + 1) (u_en b N o σ, R)).2).2.2 at h
      generalize s_G b N w k 0 (o + 1) (u_en b N o σ, R) = q at h
      intro pend R' hpe hR ha hoq
      rcases hq : q.1 with ⟨p, j⟩ | ⟨k', pl⟩
      · rw [hq] at h ha hoq
        unfold u_Z at h
        by_cases c : u_isS b N 93 (.inl (p, j)) = true
        · rw [if_pos c] at h
          refine tB_close c hpe ?_
          rw [show ((o + 1 : Nat) : Int) - 1 = (o : Int) from by omega, hR]
          exact h
        · rw [if_neg c] at h
          exact tB_bad hw0 ha hoq c (h.1 rfl)
      · rw [hq] at h
        exact tB_flt rfl (h.1 rfl)
    rw [if_neg (show ¬ u_isS b N 91 ((σ, R) : t_R).1 = true from c2)] at h
    exact tA_fact hw0 hw2 hok c1 c2 hT hin (D_s hD (by omega) (by omega)) h
  · have hf : u_ok σ = false := Bool.eq_false_iff.mpr hok
    have e := s_keep (b := b) (N := N) (w := w) (k + 1) 2 o (σ, R) hf
    refine tA_flt hf ?_
    have := h.1
    rw [e] at this
    exact this hf
theorem K_all {b : Nat → Int} {N w : Nat} {M0 : q_Mem} {Q : Int → q_Mem → Prop} (hw0 : r_words M0.2) (hw2 : w ≤ 2) (hN : N ≤ 1600) : ∀ k, K_2 b N w M0 Q k ∧ K_1 b N w M0 Q k ∧ K_0 b N w M0 Q k := by
  intro k
  induction k with
  | zero => exact ⟨fun o σ T R _ hD => absurd hD.1 (by omega), fun o σ T R _ hD => absurd hD.1 (by omega), fun o σ T R _ hD => absurd hD.1 (by omega)⟩
  | succ k ih => exact ⟨K_2of hw0 hw2 ih.2.2 ih.1, K_1of hw0 hw2 hN ih.1, K_0of hw0 hw2 hN ih.2.1⟩
theorem c_test {b : Nat → Int} {N w : Nat} {M0 : q_Mem} {p : Nat} {j : Bool} {R : List Int} {o : Nat} {M : q_Mem} (hw0 : r_words M0.2) (hw2 : w ≤ 2) (k : Nat) (hD : h_D o 0 k (.inl (p, j))) (hC : z_C b N w 0 M0 (.inl (p, j)) [] (o : Int) 0 R M) : q_P (fX12_qTest M) (fun _ M' => z_E b N w 0 M0 (s_G b N w k 0 o (.inl (p, j), R)) [] (o : Int) 0 2 M') := by
  have hpN := C_pN hC
  unfold fX12_qTest
  refine ((K_all hw0 hw2 hpN.2.2 k).2.2 o (.inl (p, j)) [] R (fun p' j' e => by cases e; exact hpN.2.1) hD (fun u hu => absurd hu List.not_mem_nil) (fun u hu => by cases hu) ?_).2 p j rfl q_FU M (by unfold q_FU; omega) hC
  intro pend R' hpe hR ha ho
  rcases hq : (s_G b N w k 0 o (.inl (p, j), R)).1 with ⟨p', j'⟩ | ⟨k', pl⟩
  · rw [hq] at ha ho
    refine tB_end hw0 ha ho hpe ?_
    intro M1 h2
    refine ⟨fun _ => ?_, fun g => ?_⟩
    · rw [hR] at h2
      rw [hq]
      exact h2
    · rw [hq] at g; cases g
  · refine tB_flt rfl ?_
    intro M1 hz
    refine ⟨fun g => ?_, fun _ => ?_⟩
    · rw [hq] at g; cases g
    · rw [hq]
      exact hz
