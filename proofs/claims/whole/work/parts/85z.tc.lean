/-! texts: what was read is well typed -/
theorem tc_app {w : Nat} : ∀ (vs us : List Int) (τ : List Bool), q_tc w (vs ++ us) τ = (q_tc w vs τ).bind (q_tc w us) := by
  intro vs
  induction vs with
  | nil => intro us τ; rfl
  | cons v vs ih =>
    intro us τ
    rw [List.cons_append, q_tc, q_tc]
    cases q_tc1 w v τ with
    | none => rfl
    | some τ' =>
      rw [Option.bind_some, Option.bind_some]
      by_cases c : τ'.length ≤ 60
      · rw [if_pos c, if_pos c]; exact ih us τ'
      · rw [if_neg c, if_neg c]; rfl
theorem tc_sn {w : Nat} {R : List Int} {v : Int} {τ τ' : List Bool} (h : q_tc w R.reverse [] = some τ) (h1 : q_tc1 w v τ = some τ') (h2 : τ'.length ≤ 60) : q_tc w (v :: R).reverse [] = some τ' := by
  rw [List.reverse_cons, tc_app, h, Option.bind_some, q_tc, h1, Option.bind_some, if_pos h2]
  rfl
def s_ty (t : Nat) (τ : List Bool) : List Bool := if t ≤ 2 then true :: τ else if t ≤ 5 then false :: τ else false :: false :: τ
theorem tc_lp {b : Nat → Int} {N w o t k B : Nat} {a : Bool} {f : t_S → Int} {G : t_R → t_R} (hok : ∀ r, u_ok (G r).1 = true → u_ok r.1 = true) (hD : ∀ r, h_D o t k r.1 → h_D o t k (G r).1) (hG : ∀ σ R τ, h_D o t k σ → u_ok (G (σ, R)).1 = true → q_tc w R.reverse [] = some τ → τ.length + B ≤ 60 → q_tc w (G (σ, R)).2.reverse [] = some (a :: τ)) (hop : ∀ σ τ, f σ ≠ 0 → q_tc1 w (f σ) (a :: a :: τ) = some (a :: τ)) : ∀ (n : Nat) (r : t_R) (τ : List Bool), h_D o t k r.1 → u_ok (s_lp f (u_st b N) G n r).1 = true → q_tc w r.2.reverse [] = some (a :: τ) → τ.length + 1 + B ≤ 60 → q_tc w (s_lp f (u_st b N) G n r).2.reverse [] = some (a :: τ) := by
  intro n
  induction n with
  | zero => intro r τ _ _ h _; exact h
  | succ n ih =>
    intro r τ hd h1 h hB
    rw [s_lp] at h1 ⊢
    by_cases c : f r.1 = 0
    · rw [if_pos c]; exact h
    · rw [if_neg c] at h1 ⊢
      have h2 := ok_lp (fun _ => ok_st) hok n _ h1
      have h3 := hG (u_st b N r.1) r.2 (a :: τ) (D_st hd) h2 h (by rw [List.length_cons]; omega)
      exact ih _ τ (hD _ (D_st hd)) h1 (tc_sn h3 (hop _ _ c) (by rw [List.length_cons]; omega)) hB
theorem vl_m {b : Nat → Int} {N w : Nat} {σ : t_S} (hw2 : w ≤ 2) (h : u_vl b N w σ ≠ 0) : 40 ≤ u_vl b N w σ ∧ u_vl b N w σ ≤ 47 ∧ q_may w (u_vl b N w σ - 40) = true := by
  have hm : w = 0 ∨ w = 1 ∨ w = 2 := by omega
  have k0 : q_may w (40 - 40) = true ∧ q_may w (41 - 40) = true ∧ q_may w (43 - 40) = true := by rcases hm with rfl | rfl | rfl <;> decide
  have key : ∀ k v : Int, v = 40 + k → 0 ≤ k → k ≤ 7 → u_may w k v ≠ 0 → 40 ≤ u_may w k v ∧ u_may w k v ≤ 47 ∧ q_may w (u_may w k v - 40) = true := by
    intro k v hv h1 h2 h3
    unfold u_may at h3 ⊢
    by_cases c : q_may w k = true
    · rw [if_pos c, hv, show 40 + k - 40 = k from by omega]
      exact ⟨by omega, by omega, c⟩
    · rw [if_neg c] at h3
      exact absurd rfl h3
  revert h
  unfold u_vl
  by_cases c1 : u_isW b N 7 σ = true
  · rw [if_pos c1]; intro _; exact ⟨by decide, by decide, k0.1⟩
  rw [if_neg c1]
  by_cases c2 : u_isW b N 8 σ = true
  · rw [if_pos c2]; intro _; exact ⟨by decide, by decide, k0.2.1⟩
  rw [if_neg c2]
  by_cases c3 : u_isW b N 3 σ = true
  · rw [if_pos c3]; exact key 2 42 (by decide) (by decide) (by decide)
  rw [if_neg c3]
  by_cases c4 : u_isW b N 16 σ = true
  · rw [if_pos c4]; intro _; exact ⟨by decide, by decide, k0.2.2⟩
  rw [if_neg c4]
  by_cases c5 : u_isW b N 15 σ = true
  · rw [if_pos c5]; exact key 4 44 (by decide) (by decide) (by decide)
  rw [if_neg c5]
  by_cases c6 : u_isW b N 4 σ = true
  · rw [if_pos c6]; exact key 5 45 (by decide) (by decide) (by decide)
  rw [if_neg c6]
  by_cases c7 : u_isW b N 17 σ = true
  · rw [if_pos c7]; exact key 6 46 (by decide) (by decide) (by decide)
  rw [if_neg c7]
  by_cases c8 : u_isW b N 18 σ = true
  · rw [if_pos c8]; exact key 7 47 (by decide) (by decide) (by decide)
  rw [if_neg c8]
  intro h
  exact absurd rfl h
theorem tc_v {w : Nat} {v : Int} {τ : List Bool} (h : 40 ≤ v ∧ v ≤ 47 ∧ q_may w (v - 40) = true) : q_tc1 w v τ = some (false :: τ) := by
  unfold q_tc1
  rw [if_neg (by omega), if_pos h]
theorem tc_n {w : Nat} {v : Int} {τ : List Bool} (h : 0 ≤ v ∧ v ≤ 9999) : q_tc1 w (1000 + v) τ = some (false :: τ) := by
  unfold q_tc1
  rw [if_pos (by omega)]
theorem N_hi {b : Nat → Int} {N : Nat} {σ : t_S} {lo hi : Int} (h : u_ok (u_N b N lo hi σ).2 = true) : lo ≤ (u_N b N lo hi σ).1 ∧ (u_N b N lo hi σ).1 ≤ hi := by
  rcases σ with ⟨p, j⟩ | ⟨k', pl⟩
  · rw [u_N] at h ⊢
    by_cases c1 : t_kind b N p j = 2
    · rw [if_pos c1] at h ⊢
      by_cases c2 : 4 < t_end b N p - p
      · rw [if_pos c2] at h; cases h
      · rw [if_neg c2] at h ⊢
        by_cases c3 : t_val b N p < lo ∨ hi < t_val b N p
        · rw [if_pos c3] at h; cases h
        · rw [if_neg c3]
          show lo ≤ t_val b N p ∧ t_val b N p ≤ hi
          omega
    · rw [if_neg c1] at h; cases h
  · cases h
theorem tc_G {b : Nat → Int} {N w : Nat} (hw2 : w ≤ 2) : ∀ (k t o : Nat) (σ : t_S) (R : List Int) (τ : List Bool), t ≤ 6 → h_D o t k σ → u_ok (s_G b N w k t o (σ, R)).1 = true → q_tc w R.reverse [] = some τ → τ.length + 3 * (7 - o) + (7 - min t 5) ≤ 60 → q_tc w (s_G b N w k t o (σ, R)).2.reverse [] = some (s_ty t τ) := by
  intro k
  induction k with
  | zero => intro t o σ R τ _ hD; exact absurd hD.1 (by omega)
  | succ k ih =>
    intro t o σ R τ ht hD hok h hB
    have hokσ := ok_G _ _ _ _ hok
    have ho := (hD.2.2 hokσ).1
    match t, ht with
    | 0, _ =>
      rw [sG_0] at hok ⊢
      have hD1 : h_D o 1 k σ := D_s hD (by omega) (by omega)
      have h1 := ok_lp (fun _ => ok_st) (ok_G k 1 o) 1600 _ hok
      refine tc_lp (B := 3 * (7 - o) + 6) (a := true) (ok_G k 1 o) (fun r hr => D_G (t2 := 0) hr) (fun σ R τ hd g1 g2 g3 => ih 1 o σ R τ (by omega) hd g1 g2 (by omega)) ?_ 1600 _ τ (D_G (t2 := 0) hD1) hok (ih 1 o σ R τ (by omega) hD1 h1 h (by omega)) (by omega)
      intro σ τ hf
      have : u_or b N σ = 11 := by
        revert hf; unfold u_or; split
        · intro _; rfl
        · intro g; exact absurd rfl g
      rw [this]; rfl
    | 1, _ =>
      rw [sG_1] at hok ⊢
      have hD1 : h_D o 2 k σ := D_s hD (by omega) (by omega)
      have h1 := ok_lp (fun _ => ok_st) (ok_G k 2 o) 1600 _ hok
      refine tc_lp (B := 3 * (7 - o) + 5) (a := true) (ok_G k 2 o) (fun r hr => D_G (t2 := 0) hr) (fun σ R τ hd g1 g2 g3 => ih 2 o σ R τ (by omega) hd g1 g2 (by omega)) ?_ 1600 _ τ (D_G (t2 := 0) hD1) hok (ih 2 o σ R τ (by omega) hD1 h1 h (by omega)) (by omega)
      intro σ τ hf
      have : u_and b N σ = 10 := by
        revert hf; unfold u_and; split
        · intro _; rfl
        · intro g; exact absurd rfl g
      rw [this]; rfl
    | 3, _ =>
      rw [sG_3] at hok ⊢
      have hD1 : h_D o 4 k σ := D_s hD (by omega) (by omega)
      have h1 := ok_lp (fun _ => ok_st) (ok_G k 4 o) 1600 _ hok
      refine tc_lp (B := 3 * (7 - o) + 3) (a := false) (ok_G k 4 o) (fun r hr => D_G (t2 := 0) hr) (fun σ R τ hd g1 g2 g3 => ih 4 o σ R τ (by omega) hd g1 g2 (by omega)) ?_ 1600 _ τ (D_G (t2 := 0) hD1) hok (ih 4 o σ R τ (by omega) hD1 h1 h (by omega)) (by omega)
      intro σ τ hf
      have : u_add b N σ = 1 ∨ u_add b N σ = 2 := by
        revert hf; unfold u_add; split
        · intro _; exact Or.inl rfl
        · split
          · intro _; exact Or.inr rfl
          · intro g; exact absurd rfl g
      rcases this with e | e <;> rw [e] <;> rfl
    | 4, _ =>
      rw [sG_4] at hok ⊢
      have hD1 : h_D o 5 k σ := D_s hD (by omega) (by omega)
      have h1 := ok_lp (fun _ => ok_st) (ok_G k 5 o) 1600 _ hok
      refine tc_lp (B := 3 * (7 - o) + 2) (a := false) (ok_G k 5 o) (fun r hr => D_G (t2 := 0) hr) (fun σ R τ hd g1 g2 g3 => ih 5 o σ R τ (by omega) hd g1 g2 (by omega)) ?_ 1600 _ τ (D_G (t2 := 0) hD1) hok (ih 5 o σ R τ (by omega) hD1 h1 h (by omega)) (by omega)
      intro σ τ hf
      have : u_mul b N σ = 3 ∨ u_mul b N σ = 4 := by
        revert hf; unfold u_mul; split
        · intro _; exact Or.inl rfl
        · split
          · intro _; exact Or.inr rfl
          · intro g; exact absurd rfl g
      rcases this with e | e <;> rw [e] <;> rfl
    | 2, _ =>
      rw [sG_2] at hok ⊢
      change u_ok (if u_isW b N 21 σ = true then _ else _ : t_R).1 = true at hok
      show q_tc w (if u_isW b N 21 σ = true then _ else _ : t_R).2.reverse [] = _
      by_cases c1 : u_isW b N 21 σ = true
      · rw [if_pos c1] at hok ⊢
        have h1 := ih 2 (o + 1) (u_en b N o σ) R τ (by omega) (D_en hD hokσ) hok h (by omega)
        exact tc_sn h1 (by rfl) (by show (true :: τ).length ≤ 60; rw [List.length_cons]; omega)
      rw [if_neg c1] at hok ⊢
      by_cases c2 : u_isS b N 91 σ = true
      · rw [if_pos (show u_isS b N 91 ((σ, R) : t_R).1 = true from c2)] at hok ⊢
        exact ih 0 (o + 1) (u_en b N o σ) R τ (by omega) (D_en hD hokσ) (ok_Z hok).1 h (by have := (ok_en (ok_G _ _ _ _ (ok_Z hok).1)).2; omega)
      rw [if_neg (show ¬ u_isS b N 91 ((σ, R) : t_R).1 = true from c2)] at hok ⊢
      by_cases c3 : u_isW b N 22 σ = true
      · rw [if_pos (show u_isW b N 22 ((σ, R) : t_R).1 = true from c3)]
        exact tc_sn h (by rfl) (by show (true :: τ).length ≤ 60; rw [List.length_cons]; omega)
      rw [if_neg (show ¬ u_isW b N 22 ((σ, R) : t_R).1 = true from c3)] at hok ⊢
      have hD3 : h_D o 3 k σ := D_s hD (by omega) (by omega)
      by_cases c4 : u_cmp b N (s_G b N w k 3 o (σ, R)).1 = 0
      · rw [if_pos c4, ok_fl] at hok; cases hok
      rw [if_neg c4] at hok ⊢
      have h2 := ok_G _ _ _ _ (show u_ok (s_G b N w k 3 o (u_st b N (s_G b N w k 3 o (σ, R)).1, (s_G b N w k 3 o (σ, R)).2)).1 = true from hok)
      rw [ok_st] at h2
      have h3 := ih 3 o σ R τ (by omega) hD3 h2 h (by omega)
      have h4 := ih 3 o _ _ (false :: τ) (by omega) (D_st (D_G (t2 := 0) hD3)) hok h3 (by rw [List.length_cons]; omega)
      refine tc_sn h4 ?_ (by show (true :: τ).length ≤ 60; rw [List.length_cons]; omega)
      have : u_cmp b N (s_G b N w k 3 o (σ, R)).1 = 7 ∨ u_cmp b N (s_G b N w k 3 o (σ, R)).1 = 8 ∨ u_cmp b N (s_G b N w k 3 o (σ, R)).1 = 9 := by
        revert c4; unfold u_cmp; split
        · intro _; exact Or.inl rfl
        · split
          · intro _; exact Or.inr (Or.inl rfl)
          · split
            · intro _; exact Or.inr (Or.inr rfl)
            · intro g; exact absurd rfl g
      rcases this with e | e | e <;> rw [e] <;> rfl
    | 5, _ =>
      rw [sG_5] at hok ⊢
      change u_ok (if u_isN b N σ = true then _ else _ : t_R).1 = true at hok
      show q_tc w (if u_isN b N σ = true then _ else _ : t_R).2.reverse [] = _
      by_cases c1 : u_isN b N σ = true
      · rw [if_pos c1] at hok ⊢
        exact tc_sn h (tc_n (N_hi hok)) (by show (false :: τ).length ≤ 60; rw [List.length_cons]; omega)
      rw [if_neg c1] at hok ⊢
      by_cases c2 : u_isS b N 40 σ = true
      · rw [if_pos (show u_isS b N 40 ((σ, R) : t_R).1 = true from c2)] at hok ⊢
        exact ih 3 (o + 1) (u_en b N o σ) R τ (by omega) (D_en hD hokσ) (ok_Z hok).1 h (by omega)
      rw [if_neg (show ¬ u_isS b N 40 ((σ, R) : t_R).1 = true from c2)] at hok ⊢
      by_cases c3 : u_isW b N 23 σ = true
      · rw [if_pos (show u_isW b N 23 ((σ, R) : t_R).1 = true from c3)] at hok ⊢
        have h1 := ih 6 o σ R τ (by omega) (D_s hD (by omega) (by omega)) hok h (by omega)
        exact tc_sn h1 (by rfl) (by show (false :: τ).length ≤ 60; rw [List.length_cons]; omega)
      rw [if_neg (show ¬ u_isW b N 23 ((σ, R) : t_R).1 = true from c3)] at hok ⊢
      by_cases c4 : u_isW b N 24 σ = true
      · rw [if_pos (show u_isW b N 24 ((σ, R) : t_R).1 = true from c4)] at hok ⊢
        have h1 := ih 6 o σ R τ (by omega) (D_s hD (by omega) (by omega)) hok h (by omega)
        exact tc_sn h1 (by rfl) (by show (false :: τ).length ≤ 60; rw [List.length_cons]; omega)
      rw [if_neg (show ¬ u_isW b N 24 ((σ, R) : t_R).1 = true from c4)] at hok ⊢
      by_cases c5 : w = 2 ∧ u_isW b N 11 σ = true
      · rw [if_pos (show w = 2 ∧ u_isW b N 11 ((σ, R) : t_R).1 = true from c5)] at hok ⊢
        have h1 := ih 5 (o + 1) (u_en b N o σ) R τ (by omega) (D_en hD hokσ) hok h (by omega)
        refine tc_sn h1 ?_ (by show (false :: τ).length ≤ 60; rw [List.length_cons]; omega)
        rw [c5.1]; rfl
      rw [if_neg (show ¬ (w = 2 ∧ u_isW b N 11 ((σ, R) : t_R).1 = true) from c5)] at hok ⊢
      by_cases c6 : w = 2 ∧ u_isW b N 2 σ = true
      · rw [if_pos (show w = 2 ∧ u_isW b N 2 ((σ, R) : t_R).1 = true from c6)] at hok ⊢
        have h1 := ih 5 (o + 1) (u_en b N o σ) R τ (by omega) (D_en hD hokσ) hok h (by omega)
        refine tc_sn h1 ?_ (by show (false :: τ).length ≤ 60; rw [List.length_cons]; omega)
        rw [c6.1]; rfl
      rw [if_neg (show ¬ (w = 2 ∧ u_isW b N 2 ((σ, R) : t_R).1 = true) from c6)] at hok ⊢
      by_cases c7 : u_vl b N w σ = 0
      · rw [if_pos (show u_vl b N w ((σ, R) : t_R).1 = 0 from c7), ok_fl] at hok; cases hok
      rw [if_neg (show ¬ u_vl b N w ((σ, R) : t_R).1 = 0 from c7)]
      exact tc_sn h (tc_v (vl_m hw2 c7)) (by show (false :: τ).length ≤ 60; rw [List.length_cons]; omega)
    | 6, _ =>
      rw [sG_6] at hok ⊢
      change u_ok (if u_isS b N 40 (u_st b N σ) = true then _ else _ : t_R).1 = true at hok
      show q_tc w (if u_isS b N 40 (u_st b N σ) = true then _ else _ : t_R).2.reverse [] = _
      by_cases c1 : u_isS b N 40 (u_st b N σ) = true
      · rw [if_pos c1] at hok ⊢
        have h1 := (ok_Z (show u_ok (u_Z b N 41 (s_G b N w k 3 (o + 1) (u_rz b N 44 (s_G b N w k 3 (o + 1) (u_en b N o (u_st b N σ), R)))).1) = true from hok)).1
        have h2 := ok_G _ _ _ _ h1
        have h3 := (ok_Z (show u_ok (u_Z b N 44 (s_G b N w k 3 (o + 1) (u_en b N o (u_st b N σ), R)).1) = true from h2)).1
        have h4 := (ok_en (ok_G _ _ _ _ h3)).2
        have hD1 : h_D (o + 1) 3 k (u_en b N o (u_st b N σ)) := D_en (D_st hD) (by rw [ok_st]; exact hokσ)
        have h5 := ih 3 (o + 1) (u_en b N o (u_st b N σ)) R τ (by omega) hD1 h3 h (by omega)
        exact ih 3 (o + 1) (u_Z b N 44 (s_G b N w k 3 (o + 1) (u_en b N o (u_st b N σ), R)).1) _ (false :: τ) (by omega) (D_Z (D_G (t2 := 0) hD1)) h1 h5 (by rw [List.length_cons]; omega)
      · rw [if_neg c1, ok_fl] at hok; cases hok
    | n + 7, ht => omega
