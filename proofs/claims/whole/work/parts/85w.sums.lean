/-! texts: the other side reads a SUM -/
def u_in (N : Nat) (σ : t_S) : Prop := ∀ p j, σ = .inl (p, j) → p ≤ N
def u_le (N : Nat) (σ σ' : t_S) : Prop := ∀ p' j', σ' = .inl (p', j') → p' ≤ N ∧ ∃ p j, σ = .inl (p, j) ∧ p ≤ p'
theorem le_in {N : Nat} {σ τ : t_S} (h : u_le N σ τ) : u_in N τ := fun p j e => (h p j e).1
theorem le_r {N : Nat} {σ : t_S} (h : u_in N σ) : u_le N σ σ := fun p j e => ⟨h p j e, p, j, e, Nat.le_refl _⟩
theorem le_t {N : Nat} {σ τ υ : t_S} (h : u_le N σ τ) (g : u_le N τ υ) : u_le N σ υ := by
  intro p j e
  obtain ⟨g1, p1, j1, e1, g2⟩ := g p j e
  obtain ⟨h1, p2, j2, e2, h2⟩ := h p1 j1 e1
  exact ⟨g1, p2, j2, e2, by omega⟩
theorem le_st {b : Nat → Int} {N : Nat} {σ : t_S} (h : u_in N σ) : u_le N σ (u_st b N σ) := by
  intro p' j' e
  rcases σ with ⟨p, j⟩ | ⟨k, pl⟩
  · cases e
    have := np_c (b := b) (h p j rfl)
    exact ⟨this.2.1, p, j, rfl, this.1⟩
  · cases e
theorem le_fl {N : Nat} {k pl : Int} {σ : t_S} : u_le N σ (u_fl k pl σ) := by
  intro p' j' e
  rcases σ with ⟨p, j⟩ | ⟨k, pl⟩ <;> cases e
theorem le_Z {b : Nat → Int} {N : Nat} {c : Int} {σ : t_S} (h : u_in N σ) : u_le N σ (u_Z b N c σ) := by
  unfold u_Z
  split
  · exact le_st h
  · exact le_fl
theorem le_en {b : Nat → Int} {N o : Nat} {σ : t_S} (h : u_in N σ) : u_le N σ (u_en b N o σ) := by
  unfold u_en
  split
  · exact le_st h
  · exact le_fl
theorem le_N {b : Nat → Int} {N : Nat} {lo hi : Int} {σ : t_S} (h : u_in N σ) : u_le N σ (u_N b N lo hi σ).2 := by
  intro p' j' e1
  rcases σ with ⟨p, j⟩ | ⟨k, pl⟩
  · rw [u_N] at e1
    by_cases c1 : t_kind b N p j = 2
    · rw [if_pos c1] at e1
      by_cases c2 : 4 < t_end b N p - p
      · rw [if_pos c2] at e1; cases e1
      · rw [if_neg c2] at e1
        by_cases c3 : t_val b N p < lo ∨ hi < t_val b N p
        · rw [if_pos c3] at e1; cases e1
        · rw [if_neg c3] at e1
          exact le_st h p' j' e1
    · rw [if_neg c1] at e1; cases e1
  · cases e1
theorem le_lp {b : Nat → Int} {N : Nat} {f : t_S → Int} {G : t_R → t_R} (hG : ∀ r, u_in N r.1 → u_le N r.1 (G r).1) : ∀ (n : Nat) (r : t_R), u_in N r.1 → u_le N r.1 (s_lp f (u_st b N) G n r).1 := by
  intro n
  induction n with
  | zero => intro r h; exact le_r h
  | succ n ih =>
    intro r h
    rw [s_lp]
    split
    · exact le_r h
    · have h1 := le_st (b := b) h
      have h2 := hG (u_st b N r.1, r.2) (le_in h1)
      exact le_t h1 (le_t h2 (ih _ (le_in h2)))
theorem le_G {b : Nat → Int} {N w : Nat} : ∀ (k t o : Nat) (r : t_R), u_in N r.1 → u_le N r.1 (s_G b N w k t o r).1 := by
  intro k
  induction k with
  | zero => intro t o r h; exact le_r h
  | succ k ih =>
    intro t o r h
    match t with
    | 0 => exact le_t (ih 1 o r h) (le_lp (ih 1 o) _ _ (le_in (ih 1 o r h)))
    | 1 => exact le_t (ih 2 o r h) (le_lp (ih 2 o) _ _ (le_in (ih 2 o r h)))
    | 3 => exact le_t (ih 4 o r h) (le_lp (ih 4 o) _ _ (le_in (ih 4 o r h)))
    | 4 => exact le_t (ih 5 o r h) (le_lp (ih 5 o) _ _ (le_in (ih 5 o r h)))
    | 2 =>
      rw [sG_2]
      split
      · exact le_t (le_en h) (ih 2 (o + 1) (u_en b N o r.1, r.2) (le_in (le_en h)))
      split
      · have h1 := ih 0 (o + 1) (u_en b N o r.1, r.2) (le_in (le_en h))
        exact le_t (le_en h) (le_t h1 (le_Z (le_in h1)))
      split
      · exact le_st h
      have h1 := ih 3 o r h
      split
      · exact le_t h1 le_fl
      · have h2 := le_st (b := b) (le_in h1)
        exact le_t h1 (le_t h2 (ih 3 o (u_st b N (s_G b N w k 3 o r).1, (s_G b N w k 3 o r).2) (le_in h2)))
    | 5 =>
      rw [sG_5]
      split
      · exact le_N h
      split
      · have h1 := ih 3 (o + 1) (u_en b N o r.1, r.2) (le_in (le_en h))
        exact le_t (le_en h) (le_t h1 (le_Z (le_in h1)))
      split
      · exact ih 6 o r h
      split
      · exact ih 6 o r h
      split
      · exact le_t (le_en h) (ih 5 (o + 1) (u_en b N o r.1, r.2) (le_in (le_en h)))
      split
      · exact le_t (le_en h) (ih 5 (o + 1) (u_en b N o r.1, r.2) (le_in (le_en h)))
      split
      · exact le_fl
      · exact le_st h
    | 6 =>
      rw [sG_6]
      have h0 := le_st (b := b) h
      split
      · have h1 := le_en (b := b) (o := o) (le_in h0)
        have h2 := ih 3 (o + 1) (u_en b N o (u_st b N r.1), r.2) (le_in h1)
        have h3 := le_Z (b := b) (c := 44) (le_in h2)
        have h4 := ih 3 (o + 1) (u_rz b N 44 (s_G b N w k 3 (o + 1) (u_en b N o (u_st b N r.1), r.2))) (le_in h3)
        exact le_t h0 (le_t h1 (le_t h2 (le_t h3 (le_t h4 (le_Z (le_in h4))))))
      · exact le_t h0 le_fl
    | n + 7 => exact le_r h
theorem es_no {base : Nat} {T R : List Int} {o : Int} (h : ∀ u, T.head? = some u → u < 60) : k_es base T o R = (T, o, R) := by
  cases T with
  | nil => rfl
  | cons v T =>
    have := h v rfl
    rw [k_es, if_neg (by omega)]
theorem A_flt {b : Nat → Int} {N w base : Nat} {M0 : q_Mem} {x δ : Int} {Q : Int → q_Mem → Prop} {σ : t_S} {T R : List Int} {o : Int} (hf : u_ok σ = false) (h : h_F b N M0 x Q σ) : h_A b N w base M0 x δ Q σ T o R := ⟨fun _ => h, fun p j e => (by rw [e] at hf; cases hf)⟩
theorem B_flt {b : Nat → Int} {N w base : Nat} {M0 : q_Mem} {x δ : Int} {Q : Int → q_Mem → Prop} {σ : t_S} {T R : List Int} {o : Int} (hf : u_ok σ = false) (h : h_F b N M0 x Q σ) : h_B b N w base M0 x δ Q σ T o R := ⟨fun _ => h, fun p j e => (by rw [e] at hf; cases hf)⟩
def L_5 (b : Nat → Int) (N w base : Nat) (M0 : q_Mem) (x δ : Int) (Q : Int → q_Mem → Prop) (k : Nat) : Prop := ∀ (o : Nat) (σ : t_S) (T R : List Int), u_in N σ → h_D o 5 k σ → base ≤ T.length → h_B b N w base M0 x δ Q (s_G b N w k 5 o (σ, R)).1 (k_es base T (o : Int) (s_G b N w k 5 o (σ, R)).2).1 (k_es base T (o : Int) (s_G b N w k 5 o (σ, R)).2).2.1 (k_es base T (o : Int) (s_G b N w k 5 o (σ, R)).2).2.2 → h_A b N w base M0 x δ Q σ T (o : Int) R
def L_4 (b : Nat → Int) (N w base : Nat) (M0 : q_Mem) (x δ : Int) (Q : Int → q_Mem → Prop) (k : Nat) : Prop := ∀ (o : Nat) (σ : t_S) (T R : List Int), u_in N σ → h_D o 4 k σ → base ≤ T.length → (∀ u, T.head? = some u → u ≠ 3 ∧ u ≠ 4 ∧ u < 60) → (∀ pm R', (∀ u ∈ pm, u = 3 ∨ u = 4) → pm.reverse ++ R' = (s_G b N w k 4 o (σ, R)).2 → u_mul b N (s_G b N w k 4 o (σ, R)).1 = 0 → h_B b N w base M0 x δ Q (s_G b N w k 4 o (σ, R)).1 (pm ++ T) (o : Int) R') → h_A b N w base M0 x δ Q σ T (o : Int) R
def L_3 (b : Nat → Int) (N w base : Nat) (M0 : q_Mem) (x δ : Int) (Q : Int → q_Mem → Prop) (k : Nat) : Prop := ∀ (o : Nat) (σ : t_S) (T R : List Int), u_in N σ → h_D o 3 k σ → base ≤ T.length → (∀ u, T.head? = some u → 5 ≤ u ∧ u < 60) → (∀ pm R', (∀ u ∈ pm, 1 ≤ u ∧ u ≤ 4) → pm.reverse ++ R' = (s_G b N w k 3 o (σ, R)).2 → u_mul b N (s_G b N w k 3 o (σ, R)).1 = 0 → u_add b N (s_G b N w k 3 o (σ, R)).1 = 0 → h_B b N w base M0 x δ Q (s_G b N w k 3 o (σ, R)).1 (pm ++ T) (o : Int) R') → h_A b N w base M0 x δ Q σ T (o : Int) R
theorem end_S {b : Nat → Int} {N : Nat} {σ : t_S} {c : Int} (h : ∀ p j, σ = .inl (p, j) → N ≤ p) : ¬ u_isS b N c σ = true := by
  intro g
  rcases σ with ⟨p, j⟩ | ⟨k, pl⟩
  · have h1 := at_lt (isS_nz g)
    have h2 := h p j rfl
    omega
  · cases g
theorem lp_4 {b : Nat → Int} {N w base : Nat} {M0 : q_Mem} {x δ : Int} {Q : Int → q_Mem → Prop} {k o : Nat} {T : List Int} (hy : h_Y w base M0 δ) (hN : N ≤ 1600) (hb : base ≤ T.length) (hT : ∀ u, T.head? = some u → u ≠ 3 ∧ u ≠ 4 ∧ u < 60) (h5 : L_5 b N w base M0 x δ Q k) : ∀ (n : Nat) (r : t_R), u_in N r.1 → h_D o 5 k r.1 → (∀ p j, r.1 = .inl (p, j) → 1600 ≤ p + n) → (∀ pm R', (∀ u ∈ pm, u = 3 ∨ u = 4) → pm.reverse ++ R' = (s_lp (u_mul b N) (u_st b N) (s_G b N w k 5 o) n r).2 → u_mul b N (s_lp (u_mul b N) (u_st b N) (s_G b N w k 5 o) n r).1 = 0 → h_B b N w base M0 x δ Q (s_lp (u_mul b N) (u_st b N) (s_G b N w k 5 o) n r).1 (pm ++ T) (o : Int) R') → ∀ pm R', (∀ u ∈ pm, u = 3 ∨ u = 4) → pm.reverse ++ R' = r.2 → h_B b N w base M0 x δ Q r.1 (pm ++ T) (o : Int) R' := by
  intro n
  induction n with
  | zero =>
    intro r hin hD hp hK pm R' hpm hR
    refine hK pm R' hpm hR ?_
    have he : ∀ p j, r.1 = .inl (p, j) → N ≤ p := fun p j e => by have := hp p j e; omega
    show u_mul b N r.1 = 0
    unfold u_mul
    rw [if_neg (end_S he), if_neg (end_S he)]
  | succ n ih =>
    intro r hin hD hp hK pm R' hpm hR
    by_cases c : u_mul b N r.1 = 0
    · rw [s_lp, if_pos c] at hK
      exact hK pm R' hpm hR c
    · rw [s_lp, if_neg c] at hK
      have hv : u_mul b N r.1 < 60 ∧ (u_mul b N r.1 = 3 ∨ u_mul b N r.1 = 4) := by
        revert c
        unfold u_mul
        split
        · intro _; omega
        · split
          · intro _; omega
          · intro c; exact absurd rfl c
      have hnz : ∀ p j, r.1 = .inl (p, j) → t_at b N p ≠ -1 := by
        intro p j e
        have : u_nz b N r.1 := by
          revert c
          unfold u_mul
          split
          · intro _; exact isS_nz (by assumption)
          · split
            · intro _; exact isS_nz (by assumption)
            · intro c; exact absurd rfl c
        rw [e] at this
        exact this
      refine B_mul hy rfl c hpm ⟨fun e => (hT _ e).1 rfl, fun e => (hT _ e).2.1 rfl⟩ ?_
      rw [hR]
      have hst := le_st (b := b) hin
      refine h5 o (u_st b N r.1) (u_mul b N r.1 :: T) r.2 (le_in hst) (D_st hD) (by rw [List.length_cons]; omega) ?_
      have hq := le_G (b := b) (w := w) k 5 o (u_st b N r.1, r.2) (le_in hst)
      rw [es_no (fun u hu => by rw [List.head?_cons] at hu; cases hu; exact hv.1)]
      refine ih ((s_G b N w k 5 o (u_st b N r.1, r.2)).1, u_mul b N r.1 :: (s_G b N w k 5 o (u_st b N r.1, r.2)).2) (le_in hq) (D_G (t2 := 0) (D_st hD)) ?_ hK [u_mul b N r.1] _ ?_ rfl
      · intro p j e
        obtain ⟨_, p1, j1, e1, q1⟩ := hq p j e
        rcases hr : r.1 with ⟨p0, j0⟩ | ⟨k0, pl0⟩
        · have h1 := hp p0 j0 hr
          have h2 := hnz p0 j0 hr
          have h3 := (np_c (b := b) (hin p0 j0 hr)).2.2 h2
          rw [hr] at e1
          cases e1
          omega
        · rw [hr] at e1; cases e1
      · intro u hu
        rw [List.mem_singleton] at hu
        rw [hu]
        exact hv.2
theorem L_4of {b : Nat → Int} {N w base : Nat} {M0 : q_Mem} {x δ : Int} {Q : Int → q_Mem → Prop} {k : Nat} (hy : h_Y w base M0 δ) (hN : N ≤ 1600) (h5 : L_5 b N w base M0 x δ Q k) : L_4 b N w base M0 x δ Q (k + 1) := by
  intro o σ T R hin hD hb hT hK
  have hD5 : h_D o 5 k σ := D_s hD (by omega) (by omega)
  refine h5 o σ T R hin hD5 hb ?_
  rw [es_no (fun u hu => (hT u hu).2.2)]
  rw [sG_4] at hK
  exact lp_4 hy hN hb hT h5 1600 _ (le_in (le_G k 5 o (σ, R) hin)) (D_G (t2 := 0) hD5) (fun p j e => by omega) hK [] _ (fun u hu => absurd hu List.not_mem_nil) rfl
theorem lp_3 {b : Nat → Int} {N w base : Nat} {M0 : q_Mem} {x δ : Int} {Q : Int → q_Mem → Prop} {k o : Nat} {T : List Int} (hy : h_Y w base M0 δ) (hN : N ≤ 1600) (hb : base ≤ T.length) (hT : ∀ u, T.head? = some u → 5 ≤ u ∧ u < 60) (h4 : L_4 b N w base M0 x δ Q k) : ∀ (n : Nat) (r : t_R), u_in N r.1 → h_D o 4 k r.1 → (∀ p j, r.1 = .inl (p, j) → 1600 ≤ p + n) → (∀ pm R', (∀ u ∈ pm, 1 ≤ u ∧ u ≤ 4) → pm.reverse ++ R' = (s_lp (u_add b N) (u_st b N) (s_G b N w k 4 o) n r).2 → u_mul b N (s_lp (u_add b N) (u_st b N) (s_G b N w k 4 o) n r).1 = 0 → u_add b N (s_lp (u_add b N) (u_st b N) (s_G b N w k 4 o) n r).1 = 0 → h_B b N w base M0 x δ Q (s_lp (u_add b N) (u_st b N) (s_G b N w k 4 o) n r).1 (pm ++ T) (o : Int) R') → ∀ pm R', (∀ u ∈ pm, 1 ≤ u ∧ u ≤ 4) → pm.reverse ++ R' = r.2 → u_mul b N r.1 = 0 → h_B b N w base M0 x δ Q r.1 (pm ++ T) (o : Int) R' := by
  intro n
  induction n with
  | zero =>
    intro r hin hD hp hK pm R' hpm hR hm
    refine hK pm R' hpm hR hm ?_
    have he : ∀ p j, r.1 = .inl (p, j) → N ≤ p := fun p j e => by have := hp p j e; omega
    show u_add b N r.1 = 0
    unfold u_add
    rw [if_neg (end_S he), if_neg (end_S he)]
  | succ n ih =>
    intro r hin hD hp hK pm R' hpm hR hm
    by_cases c : u_add b N r.1 = 0
    · rw [s_lp, if_pos c] at hK
      exact hK pm R' hpm hR hm c
    · rw [s_lp, if_neg c] at hK
      have hv : u_add b N r.1 < 60 ∧ (u_add b N r.1 = 1 ∨ u_add b N r.1 = 2) := by
        revert c
        unfold u_add
        split
        · intro _; omega
        · split
          · intro _; omega
          · intro c; exact absurd rfl c
      have hnz : ∀ p j, r.1 = .inl (p, j) → t_at b N p ≠ -1 := by
        intro p j e
        have : u_nz b N r.1 := by
          revert c
          unfold u_add
          split
          · intro _; exact isS_nz (by assumption)
          · split
            · intro _; exact isS_nz (by assumption)
            · intro c; exact absurd rfl c
        rw [e] at this
        exact this
      refine B_add hy rfl c hpm ⟨fun e => by have := hT _ e; omega, fun e => by have := hT _ e; omega, fun e => by have := hT _ e; omega, fun e => by have := hT _ e; omega⟩ ?_
      rw [hR]
      have hst := le_st (b := b) hin
      have hq := le_G (b := b) (w := w) k 4 o (u_st b N r.1, r.2) (le_in hst)
      refine h4 o (u_st b N r.1) (u_add b N r.1 :: T) r.2 (le_in hst) (D_st hD) (by rw [List.length_cons]; omega) (fun u hu => by rw [List.head?_cons] at hu; cases hu; omega) ?_
      intro pm2 R2 hpm2 hR2 hm2
      have := ih ((s_G b N w k 4 o (u_st b N r.1, r.2)).1, u_add b N r.1 :: (s_G b N w k 4 o (u_st b N r.1, r.2)).2) (le_in hq) (D_G (t2 := 0) (D_st hD)) ?_ hK (pm2 ++ [u_add b N r.1]) R2 ?_ ?_ hm2
      · rw [List.append_assoc, List.singleton_append] at this
        exact this
      · intro p j e
        obtain ⟨_, p1, j1, e1, q1⟩ := hq p j e
        rcases hr : r.1 with ⟨p0, j0⟩ | ⟨k0, pl0⟩
        · have h1 := hp p0 j0 hr
          have h2 := hnz p0 j0 hr
          have h3 := (np_c (b := b) (hin p0 j0 hr)).2.2 h2
          rw [hr] at e1
          cases e1
          omega
        · rw [hr] at e1; cases e1
      · intro u hu
        rcases List.mem_append.mp hu with g | g
        · have := hpm2 u g
          omega
        · rw [List.mem_singleton] at g
          omega
      · rw [List.reverse_append, List.reverse_singleton, List.singleton_append, List.cons_append, hR2]
theorem L_3of {b : Nat → Int} {N w base : Nat} {M0 : q_Mem} {x δ : Int} {Q : Int → q_Mem → Prop} {k : Nat} (hy : h_Y w base M0 δ) (hN : N ≤ 1600) (h4 : L_4 b N w base M0 x δ Q k) : L_3 b N w base M0 x δ Q (k + 1) := by
  intro o σ T R hin hD hb hT hK
  have hD4 : h_D o 4 k σ := D_s hD (by omega) (by omega)
  refine h4 o σ T R hin hD4 hb (fun u hu => by have := hT u hu; omega) ?_
  intro pm R' hpm hR hm
  rw [sG_3] at hK
  exact lp_3 hy hN hb hT h4 1600 _ (le_in (le_G k 4 o (σ, R) hin)) (D_G (t2 := 0) hD4) (fun p j e => by omega) hK pm R' (fun u hu => by have := hpm u hu; omega) hR hm
theorem L_close {b : Nat → Int} {N w base : Nat} {M0 : q_Mem} {x δ : Int} {Q : Int → q_Mem → Prop} {q : t_R} {T : List Int} {o v : Int} {Rv : List Int} (hy : h_Y w base M0 δ) (hb : base ≤ T.length) (hv : v = 20 ∨ v = 23 ∨ v = 24) (hRv : Rv = if v = 20 then q.2 else if v = 23 then 5 :: q.2 else 6 :: q.2) (h : h_B b N w base M0 x δ Q (u_Z b N 41 q.1) (k_es base T o Rv).1 (k_es base T o Rv).2.1 (k_es base T o Rv).2.2) : ∀ pend R', (∀ u ∈ pend, 1 ≤ u ∧ u ≤ 4) → pend.reverse ++ R' = q.2 → u_mul b N q.1 = 0 → u_add b N q.1 = 0 → h_B b N w base M0 x δ Q q.1 (pend ++ v :: T) (o + 1) R' := by
  intro pend R' hpe hR hm ha
  rcases hq : q.1 with ⟨p, j⟩ | ⟨k, pl⟩
  · rw [hq] at h hm ha
    unfold u_Z at h
    by_cases c : u_isS b N 41 (.inl (p, j)) = true
    · rw [if_pos c] at h
      refine B_close hy c hpe hb hv (R' := Rv) (by rw [hRv, hR]) ?_
      rw [show o + 1 - 1 = o from by omega]
      exact h
    · rw [if_neg c] at h
      exact B_bad hy hm ha hpe hb (by omega) (fun _ => c) (fun e => by omega) (h.1 rfl)
  · rw [hq] at h
    exact B_flt rfl (h.1 rfl)
theorem L_comma {b : Nat → Int} {N w base : Nat} {M0 : q_Mem} {x δ : Int} {Q : Int → q_Mem → Prop} {q : t_R} {T : List Int} {o v : Int} (hy : h_Y w base M0 δ) (hb : base ≤ T.length) (hv : v = 21 ∨ v = 22) (h : h_A b N w base M0 x δ Q (u_Z b N 44 q.1) ((v + 2) :: T) o q.2) : ∀ pend R', (∀ u ∈ pend, 1 ≤ u ∧ u ≤ 4) → pend.reverse ++ R' = q.2 → u_mul b N q.1 = 0 → u_add b N q.1 = 0 → h_B b N w base M0 x δ Q q.1 (pend ++ v :: T) o R' := by
  intro pend R' hpe hR hm ha
  rcases hq : q.1 with ⟨p, j⟩ | ⟨k, pl⟩
  · rw [hq] at h hm ha
    unfold u_Z at h
    by_cases c : u_isS b N 44 (.inl (p, j)) = true
    · rw [if_pos c] at h
      refine B_comma hy c hpe hb hv ?_
      rw [hR]
      exact h
    · rw [if_neg c] at h
      exact B_bad hy hm ha hpe hb (by omega) (fun e => by omega) (fun _ => c) (h.1 rfl)
  · rw [hq] at h
    exact B_flt rfl (h.1 rfl)
theorem L_min {b : Nat → Int} {N w base : Nat} {M0 : q_Mem} {x δ : Int} {Q : Int → q_Mem → Prop} {k : Nat} {σ : t_S} {T R : List Int} {o : Nat} {cw v cc : Int} (hy : h_Y w base M0 δ) (h3 : L_3 b N w base M0 x δ Q k) (hcv : (cw = 23 ∧ v = 21 ∧ cc = 5) ∨ (cw = 24 ∧ v = 22 ∧ cc = 6)) (c : u_isW b N cw σ = true) (hin : u_in N σ) (hD : h_D o 5 (k + 1 + 1) σ) (hb : base ≤ T.length) (h : h_B b N w base M0 x δ Q (s_G b N w (k + 1) 6 o (σ, R)).1 (k_es base T (o : Int) (cc :: (s_G b N w (k + 1) 6 o (σ, R)).2)).1 (k_es base T (o : Int) (cc :: (s_G b N w (k + 1) 6 o (σ, R)).2)).2.1 (k_es base T (o : Int) (cc :: (s_G b N w (k + 1) 6 o (σ, R)).2)).2.2) : h_A b N w base M0 x δ Q σ T (o : Int) R := by
  refine A_min hy (cw := cw) (v := v) (by omega) c (hD.2.2 (ok_isW c)).1 ?_
  have h0 := le_st (b := b) hin
  have hD0 : h_D o 5 (k + 1 + 1) (u_st b N σ) := D_st hD
  have hok : u_ok (u_st b N σ) = true := by rw [ok_st]; exact ok_isW c
  rw [sG_6] at h
  show h_A b N w base M0 x δ Q (if u_isS b N 40 (u_st b N σ) = true then u_en b N o (u_st b N σ) else u_fl 1 (u_p (u_st b N σ)) (u_st b N σ)) (v :: T) ((o : Int) + 1) R
  have h' : h_B b N w base M0 x δ Q (if u_isS b N 40 (u_st b N σ) = true then u_rz b N 41 (s_G b N w k 3 (o + 1) (u_rz b N 44 (s_G b N w k 3 (o + 1) (u_en b N o (u_st b N σ), R)))) else (u_fl 1 (u_p (u_st b N σ)) (u_st b N σ), [])).1 (k_es base T (o : Int) (cc :: (if u_isS b N 40 (u_st b N σ) = true then u_rz b N 41 (s_G b N w k 3 (o + 1) (u_rz b N 44 (s_G b N w k 3 (o + 1) (u_en b N o (u_st b N σ), R)))) else (u_fl 1 (u_p (u_st b N σ)) (u_st b N σ), [])).2)).1 (k_es base T (o : Int) (cc :: (if u_isS b N 40 (u_st b N σ) = true then u_rz b N 41 (s_G b N w k 3 (o + 1) (u_rz b N 44 (s_G b N w k 3 (o + 1) (u_en b N o (u_st b N σ), R)))) else (u_fl 1 (u_p (u_st b N σ)) (u_st b N σ), [])).2)).2.1 (k_es base T (o : Int) (cc :: (if u_isS b N 40 (u_st b N σ) = true then u_rz b N 41 (s_G b N w k 3 (o + 1) (u_rz b N 44 (s_G b N w k 3 (o + 1) (u_en b N o (u_st b N σ), R)))) else (u_fl 1 (u_p (u_st b N σ)) (u_st b N σ), [])).2)).2.2 := h
  clear h
  have hin0 := le_in h0
  generalize u_st b N σ = τ at h' hD0 hok hin0
  by_cases c40 : u_isS b N 40 τ = true
  · rw [if_pos c40] at h' ⊢
    have hD1 : h_D (o + 1) 3 k (u_en b N o τ) := by
      obtain ⟨d1, d2, d3⟩ := hD0
      have d4 := d3 hok
      refine ⟨by omega, by omega, fun g => ?_⟩
      have := (ok_en g).2
      omega
    have g1 := le_en (b := b) (o := o) hin0
    have g2 := le_G (b := b) (w := w) k 3 (o + 1) (u_en b N o τ, R) (le_in g1)
    have hvT : ∀ u, (v :: T).head? = some u → 5 ≤ u ∧ u < 60 := fun u hu => by rw [List.head?_cons] at hu; cases hu; omega
    have hvT2 : ∀ u, ((v + 2) :: T).head? = some u → 5 ≤ u ∧ u < 60 := fun u hu => by rw [List.head?_cons] at hu; cases hu; omega
    refine h3 (o + 1) (u_en b N o τ) (v :: T) R (le_in g1) hD1 (by rw [List.length_cons]; omega) hvT ?_
    refine L_comma hy hb (by omega) ?_
    have hD2 : h_D (o + 1) 3 k (u_Z b N 44 (s_G b N w k 3 (o + 1) (u_en b N o τ, R)).1) := D_Z (D_G (t2 := 0) hD1)
    refine h3 (o + 1) (u_Z b N 44 (s_G b N w k 3 (o + 1) (u_en b N o τ, R)).1) ((v + 2) :: T) (s_G b N w k 3 (o + 1) (u_en b N o τ, R)).2 (le_in (le_Z (le_in g2))) hD2 (by rw [List.length_cons]; omega) hvT2 ?_
    refine L_close hy hb (by omega) (Rv := cc :: (s_G b N w k 3 (o + 1) (u_rz b N 44 (s_G b N w k 3 (o + 1) (u_en b N o τ, R)))).2) ?_ h'
    rcases hcv with ⟨_, e1, e2⟩ | ⟨_, e1, e2⟩
    · rw [e1, e2]; rfl
    · rw [e1, e2]; rfl
  · rw [if_neg c40] at h' ⊢
    exact A_flt ok_fl (h'.1 ok_fl)
theorem L_5of {b : Nat → Int} {N w base : Nat} {M0 : q_Mem} {x δ : Int} {Q : Int → q_Mem → Prop} {k : Nat} (hy : h_Y w base M0 δ) (h3 : L_3 b N w base M0 x δ Q (k + 1)) (h3' : L_3 b N w base M0 x δ Q k) (h5 : L_5 b N w base M0 x δ Q (k + 1)) : L_5 b N w base M0 x δ Q (k + 1 + 1) := by
  intro o σ T R hin hD hb h
  by_cases hok : u_ok σ = true
  · have ho := (hD.2.2 hok).1
    rw [sG_5] at h
    change h_B b N w base M0 x δ Q (if u_isN b N σ = true then ((u_N b N 0 9999 σ).2, (1000 + (u_N b N 0 9999 σ).1) :: R) else if u_isS b N 40 σ = true then u_rz b N 41 (s_G b N w (k + 1) 3 (o + 1) (u_en b N o σ, R)) else if u_isW b N 23 σ = true then u_pu 5 (s_G b N w (k + 1) 6 o (σ, R)) else if u_isW b N 24 σ = true then u_pu 6 (s_G b N w (k + 1) 6 o (σ, R)) else if w = 2 ∧ u_isW b N 11 σ = true then u_pu 60 (s_G b N w (k + 1) 5 (o + 1) (u_en b N o σ, R)) else if w = 2 ∧ u_isW b N 2 σ = true then u_pu 61 (s_G b N w (k + 1) 5 (o + 1) (u_en b N o σ, R)) else if u_vl b N w σ = 0 then (u_fl 1 (u_p σ) σ, []) else (u_st b N σ, u_vl b N w σ :: R) : t_R).1 (k_es base T (o : Int) (if u_isN b N σ = true then ((u_N b N 0 9999 σ).2, (1000 + (u_N b N 0 9999 σ).1) :: R) else if u_isS b N 40 σ = true then u_rz b N 41 (s_G b N w (k + 1) 3 (o + 1) (u_en b N o σ, R)) else if u_isW b N 23 σ = true then u_pu 5 (s_G b N w (k + 1) 6 o (σ, R)) else if u_isW b N 24 σ = true then u_pu 6 (s_G b N w (k + 1) 6 o (σ, R)) else if w = 2 ∧ u_isW b N 11 σ = true then u_pu 60 (s_G b N w (k + 1) 5 (o + 1) (u_en b N o σ, R)) else if w = 2 ∧ u_isW b N 2 σ = true then u_pu 61 (s_G b N w (k + 1) 5 (o + 1) (u_en b N o σ, R)) else if u_vl b N w σ = 0 then (u_fl 1 (u_p σ) σ, []) else (u_st b N σ, u_vl b N w σ :: R) : t_R).2).1 _ _ at h
    by_cases c1 : u_isN b N σ = true
    · rw [if_pos c1] at h
      have hv : u_vl b N w σ = 0 := by
        have hW : ∀ c, u_isW b N c σ = false := fun c => Bool.eq_false_iff.mpr (isN_WS c1 c).1
        unfold u_vl
        simp only [hW]
        rfl
      exact A_rest hy (isN_WS c1 _).2 (isN_WS c1 _).1 (isN_WS c1 _).1 (fun g => (isN_WS c1 _).1 g.2) (fun g => (isN_WS c1 _).1 g.2) (by rw [if_pos hv]) h hok
    rw [if_neg c1] at h
    by_cases c2 : u_isS b N 40 σ = true
    · rw [if_pos c2] at h
      refine A_open hy c2 ho ?_
      have g1 := le_en (b := b) (o := o) hin
      refine h3 (o + 1) (u_en b N o σ) (20 :: T) R (le_in g1) (D_en hD hok) (by rw [List.length_cons]; omega) (fun u hu => by rw [List.head?_cons] at hu; cases hu; omega) ?_
      exact L_close hy hb (Or.inl rfl) (Rv := (s_G b N w (k + 1) 3 (o + 1) (u_en b N o σ, R)).2) (by rw [if_pos rfl]) h
    rw [if_neg c2] at h
    by_cases c3 : u_isW b N 23 σ = true
    · rw [if_pos c3] at h
      exact L_min hy h3' (Or.inl ⟨rfl, rfl, rfl⟩) c3 hin hD hb h
    rw [if_neg c3] at h
    by_cases c4 : u_isW b N 24 σ = true
    · rw [if_pos c4] at h
      exact L_min hy h3' (Or.inr ⟨rfl, rfl, rfl⟩) c4 hin hD hb h
    rw [if_neg c4] at h
    have of : ∀ cw v : Int, w = 2 → (cw = 11 ∧ v = 60) ∨ (cw = 2 ∧ v = 61) → u_isW b N cw σ = true → h_B b N w base M0 x δ Q (s_G b N w (k + 1) 5 (o + 1) (u_en b N o σ, R)).1 (k_es base T (o : Int) (v :: (s_G b N w (k + 1) 5 (o + 1) (u_en b N o σ, R)).2)).1 (k_es base T (o : Int) (v :: (s_G b N w (k + 1) 5 (o + 1) (u_en b N o σ, R)).2)).2.1 (k_es base T (o : Int) (v :: (s_G b N w (k + 1) 5 (o + 1) (u_en b N o σ, R)).2)).2.2 → h_A b N w base M0 x δ Q σ T (o : Int) R := by
      intro cw v hw hcv c hh
      refine A_of hy hw hcv c ho ?_
      have g1 := le_en (b := b) (o := o) hin
      refine h5 (o + 1) (u_en b N o σ) (v :: T) R (le_in g1) (D_en hD hok) (by rw [List.length_cons]; omega) ?_
      rw [k_es, if_pos ⟨hb, by omega⟩, show ((o + 1 : Nat) : Int) - 1 = (o : Int) from by omega]
      exact hh
    by_cases c5 : w = 2 ∧ u_isW b N 11 σ = true
    · rw [if_pos c5] at h
      exact of 11 60 c5.1 (Or.inl ⟨rfl, rfl⟩) c5.2 h
    rw [if_neg c5] at h
    by_cases c6 : w = 2 ∧ u_isW b N 2 σ = true
    · rw [if_pos c6] at h
      exact of 2 61 c6.1 (Or.inr ⟨rfl, rfl⟩) c6.2 h
    rw [if_neg c6] at h
    by_cases c7 : u_vl b N w σ = 0
    · rw [if_pos c7] at h
      have e : (u_N b N 0 9999 σ).2 = u_fl 1 (u_p σ) σ := by
        rcases σ with ⟨p, j⟩ | ⟨k, pl⟩
        · rw [u_N, if_neg (fun g => c1 (decide_eq_true g))]
          rfl
        · rfl
      refine A_rest hy c2 c3 c4 c5 c6 (by rw [if_pos c7]) ?_ hok
      show h_B b N w base M0 x δ Q (u_N b N 0 9999 σ).2 _ _ _
      rw [e]
      exact B_flt ok_fl (h.1 ok_fl)
    · rw [if_neg c7] at h
      exact A_rest hy c2 c3 c4 c5 c6 (by rw [if_neg c7]) h hok
  · have hf : u_ok σ = false := Bool.eq_false_iff.mpr hok
    have e := s_keep (b := b) (N := N) (w := w) (k + 1 + 1) 5 o (σ, R) hf
    refine A_flt hf ?_
    have := h.1
    rw [e] at this
    exact this hf
theorem L_all {b : Nat → Int} {N w base : Nat} {M0 : q_Mem} {x δ : Int} {Q : Int → q_Mem → Prop} (hy : h_Y w base M0 δ) (hN : N ≤ 1600) : ∀ k, L_5 b N w base M0 x δ Q k ∧ L_5 b N w base M0 x δ Q (k + 1) ∧ L_4 b N w base M0 x δ Q k ∧ L_4 b N w base M0 x δ Q (k + 1) ∧ L_3 b N w base M0 x δ Q k ∧ L_3 b N w base M0 x δ Q (k + 1) := by
  have z5 : L_5 b N w base M0 x δ Q 0 := fun o σ T R _ hD => absurd hD.1 (by omega)
  have z51 : L_5 b N w base M0 x δ Q 1 := fun o σ T R _ hD => absurd hD.1 (by omega)
  have z4 : L_4 b N w base M0 x δ Q 0 := fun o σ T R _ hD => absurd hD.1 (by omega)
  have z3 : L_3 b N w base M0 x δ Q 0 := fun o σ T R _ hD => absurd hD.1 (by omega)
  intro k
  induction k with
  | zero => exact ⟨z5, z51, z4, L_4of hy hN z5, z3, L_3of hy hN z4⟩
  | succ k ih =>
    obtain ⟨i1, i2, i3, i4, i5, i6⟩ := ih
    exact ⟨i2, L_5of hy i6 i5 i2, i4, L_4of hy hN i2, i6, L_3of hy hN i4⟩
theorem C_95 {b : Nat → Int} {N w base base' : Nat} {M0 : q_Mem} {σ : t_S} {T R : List Int} {o d : Int} {M : q_Mem} {z : Int} (h : z_C b N w base M0 σ T o d R M) (hz : z = (base' : Int)) : z_C b N w base' M0 σ T o d R (q_up M 94 95 z) := by
  obtain ⟨h1, h2, ⟨h3, h4, h5, h6, h6'⟩, ⟨h7, h8, h8'⟩, h10, h11⟩ := h
  exact ⟨ot_fr h1 (by rw [up_ne (by omega)]) (fun k => by rw [up_ne (by omega)]), O_fr h2 (fun k hk => by rw [up_ne (by omega)]), ⟨by rw [up_ne (by omega), h3], by rw [up_ne (by omega), h4], by rw [up_rd, if_pos ⟨rfl, rfl⟩, hz], by rw [up_ne (by omega), h6], by rw [up_ne (by omega), h6']⟩, ⟨stk_fr (fun i _ => by rw [up_ne (by omega)]) h7, stk_fr (fun i _ => by rw [up_ne (by omega)]) h8, h8'⟩, h10, fun a k g1 g2 g3 => by rw [up_ne (by omega), h11 a k g1 g2 g3]⟩
theorem F_95 {b : Nat → Int} {N : Nat} {M0 M : q_Mem} {e z : Int} {σ : t_S} (h : z_F b N M0 e σ M) : z_F b N M0 e σ (q_up M 94 95 z) := by
  obtain ⟨h0, h1, h2, h3, h4⟩ := h
  exact ⟨h0, ot_fr h1 (up_ne (by omega)) (fun k => up_ne (by omega)), O_fr h2 (fun k hk => up_ne (by omega)), by rw [up_ne (by omega)]; exact h3, fun a k g1 g2 g3 => by rw [up_ne (by omega), h4 a k g1 g2 g3]⟩
/-- what the other side's SUM comes to -/
def z_E (b : Nat → Int) (N w base : Nat) (M0 : q_Mem) (q : t_R) (T : List Int) (o d e : Int) (M : q_Mem) : Prop := (u_ok q.1 = true → z_C b N w base M0 q.1 T o d q.2 M) ∧ (u_ok q.1 = false → z_F b N M0 e q.1 M)
theorem c_sums {b : Nat → Int} {N w base : Nat} {M0 : q_Mem} {p : Nat} {j : Bool} {T R : List Int} {o : Nat} {δ : Int} {M : q_Mem} (hw0 : r_words M0.2) (hw2 : w ≤ 2) (hδ : 0 ≤ δ) (k : Nat) (hD : h_D o 3 k (.inl (p, j))) (hT : ∀ u, T.head? = some u → 5 ≤ u ∧ u < 60) (hC : z_C b N w base M0 (.inl (p, j)) T (o : Int) δ R M) : q_P (fX12_qSums M) (fun _ M' => z_E b N w base M0 (s_G b N w k 3 o (.inl (p, j), R)) T (o : Int) δ 1 M') := by
  have hpN := C_pN hC
  unfold fX12_qSums
  rw [q_le, q_le, hC.2.2.1.2.2.1]
  have h1 := C_95 (base' := T.length) (z := M.2 94 93) hC hC.2.2.1.1
  have hy : h_Y w T.length M0 δ := ⟨hw0, hw2, by omega, hδ⟩
  refine go_A (b := b) (N := N) (w := w) (base := T.length) (M0 := M0) (δ := δ) (p := p) (j := j) (T := T) (o := (o : Int)) (R := R) (n2 := q_FU) ?_ hpN.2.1 hpN.2.2 (by unfold q_FU; omega) h1
  refine (L_all hy hpN.2.2 k).2.2.2.2.1 o (.inl (p, j)) T R (fun p' j' e => by cases e; exact hpN.2.1) hD (Nat.le_refl _) hT ?_
  intro pend R' hpe hR hm ha
  have hF : ∀ σ : t_S, u_ok σ = false → σ = (s_G b N w k 3 o (.inl (p, j), R)).1 → h_F b N M0 (base : Int) (fun _ M' => z_E b N w base M0 (s_G b N w k 3 o (.inl (p, j), R)) T (o : Int) δ 1 M') σ := by
    intro σ hf he M1 hz
    unfold fX12_qSums_78
    rw [q_le]
    refine w_some.mpr ⟨fun g => ?_, fun _ => ?_⟩
    · rw [← he, hf] at g; cases g
    · rw [← he]
      exact F_95 hz
  rcases hq : (s_G b N w k 3 o (.inl (p, j), R)).1 with ⟨p', j'⟩ | ⟨k', pl⟩
  · rw [hq] at hm ha
    refine B_end hy hm ha hpe rfl ?_
    intro M1 h2
    unfold fX12_qSums_78
    rw [q_le]
    refine w_some.mpr ⟨fun _ => ?_, fun g => ?_⟩
    · rw [hR] at h2
      show z_C b N w base M0 (s_G b N w k 3 o (.inl (p, j), R)).1 T (o : Int) δ (s_G b N w k 3 o (.inl (p, j), R)).2 _
      rw [hq]
      exact C_95 h2 rfl
    · rw [hq] at g; cases g
  · exact B_flt rfl (hF _ rfl hq.symm)
