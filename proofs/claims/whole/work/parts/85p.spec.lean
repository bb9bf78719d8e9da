/-! texts: a TEST or a SUM, as both sides must read it -/
def z_stk (f : Nat → Int) : List Int → Prop
  | [] => True
  | v :: T => f T.length = v ∧ z_stk f T
theorem stk_fr {f g : Nat → Int} : ∀ {T : List Int}, (∀ i, i < T.length → g i = f i) → z_stk f T → z_stk g T := by
  intro T
  induction T with
  | nil => intro _ _; trivial
  | cons v T ih =>
    intro h hs
    exact ⟨by rw [h T.length (by simp)]; exact hs.1, ih (fun i hi => h i (by simp; omega)) hs.2⟩
theorem stk_pu {f g : Nat → Int} {T : List Int} {v : Int} (h : z_stk f T) (h1 : g T.length = v) (h2 : ∀ i, i < T.length → g i = f i) : z_stk g (v :: T) := ⟨h1, stk_fr h2 h⟩
def u_or (b : Nat → Int) (N : Nat) (σ : t_S) : Int := if u_isW b N 19 σ = true then 11 else 0
def u_and (b : Nat → Int) (N : Nat) (σ : t_S) : Int := if u_isW b N 20 σ = true then 10 else 0
def u_cmp (b : Nat → Int) (N : Nat) (σ : t_S) : Int := if u_isS b N 60 σ = true then 7 else if u_isS b N 62 σ = true then 8 else if u_isS b N 61 σ = true then 9 else 0
def u_add (b : Nat → Int) (N : Nat) (σ : t_S) : Int := if u_isS b N 43 σ = true then 1 else if u_isS b N 45 σ = true then 2 else 0
def u_mul (b : Nat → Int) (N : Nat) (σ : t_S) : Int := if u_isS b N 42 σ = true then 3 else if u_isS b N 47 σ = true then 4 else 0
def u_isN (b : Nat → Int) (N : Nat) : t_S → Bool
  | .inl (p, j) => decide (t_kind b N p j = 2)
  | .inr _ => false
def u_may (w : Nat) (k v : Int) : Int := if q_may w k = true then v else 0
def u_vl (b : Nat → Int) (N w : Nat) (σ : t_S) : Int := if u_isW b N 7 σ = true then 40 else if u_isW b N 8 σ = true then 41 else if u_isW b N 3 σ = true then u_may w 2 42 else if u_isW b N 16 σ = true then 43 else if u_isW b N 15 σ = true then u_may w 4 44 else if u_isW b N 4 σ = true then u_may w 5 45 else if u_isW b N 17 σ = true then u_may w 6 46 else if u_isW b N 18 σ = true then u_may w 7 47 else 0
def u_en (b : Nat → Int) (N o : Nat) (σ : t_S) : t_S := if o < 6 then u_st b N σ else u_fl 4 (u_p σ) σ
abbrev t_R : Type := t_S × List Int
def s_lp (f : t_S → Int) (st : t_S → t_S) (G : t_R → t_R) : Nat → t_R → t_R
  | 0, r => r
  | n + 1, r => if f r.1 = 0 then r else s_lp f st G n ((G (st r.1, r.2)).1, f r.1 :: (G (st r.1, r.2)).2)
def u_pu (v : Int) (r : t_R) : t_R := (r.1, v :: r.2)
def u_rz (b : Nat → Int) (N : Nat) (c : Int) (r : t_R) : t_R := (u_Z b N c r.1, r.2)
def s_G (b : Nat → Int) (N w : Nat) : Nat → Nat → Nat → t_R → t_R
  | 0, _, _, r => r
  | k + 1, t, o, r => match t with
    | 0 => s_lp (u_or b N) (u_st b N) (s_G b N w k 1 o) 1600 (s_G b N w k 1 o r)
    | 1 => s_lp (u_and b N) (u_st b N) (s_G b N w k 2 o) 1600 (s_G b N w k 2 o r)
    | 2 => if u_isW b N 21 r.1 = true then u_pu 12 (s_G b N w k 2 (o + 1) (u_en b N o r.1, r.2))
      else if u_isS b N 91 r.1 = true then u_rz b N 93 (s_G b N w k 0 (o + 1) (u_en b N o r.1, r.2))
      else if u_isW b N 22 r.1 = true then (u_st b N r.1, 13 :: r.2)
      else if u_cmp b N (s_G b N w k 3 o r).1 = 0 then (u_fl 1 (u_p (s_G b N w k 3 o r).1) (s_G b N w k 3 o r).1, [])
      else u_pu (u_cmp b N (s_G b N w k 3 o r).1) (s_G b N w k 3 o (u_st b N (s_G b N w k 3 o r).1, (s_G b N w k 3 o r).2))
    | 3 => s_lp (u_add b N) (u_st b N) (s_G b N w k 4 o) 1600 (s_G b N w k 4 o r)
    | 4 => s_lp (u_mul b N) (u_st b N) (s_G b N w k 5 o) 1600 (s_G b N w k 5 o r)
    | 5 => if u_isN b N r.1 = true then ((u_N b N 0 9999 r.1).2, (1000 + (u_N b N 0 9999 r.1).1) :: r.2)
      else if u_isS b N 40 r.1 = true then u_rz b N 41 (s_G b N w k 3 (o + 1) (u_en b N o r.1, r.2))
      else if u_isW b N 23 r.1 = true then u_pu 5 (s_G b N w k 6 o r)
      else if u_isW b N 24 r.1 = true then u_pu 6 (s_G b N w k 6 o r)
      else if w = 2 ∧ u_isW b N 11 r.1 = true then u_pu 60 (s_G b N w k 5 (o + 1) (u_en b N o r.1, r.2))
      else if w = 2 ∧ u_isW b N 2 r.1 = true then u_pu 61 (s_G b N w k 5 (o + 1) (u_en b N o r.1, r.2))
      else if u_vl b N w r.1 = 0 then (u_fl 1 (u_p r.1) r.1, [])
      else (u_st b N r.1, u_vl b N w r.1 :: r.2)
    | 6 => if u_isS b N 40 (u_st b N r.1) = true then u_rz b N 41 (s_G b N w k 3 (o + 1) (u_rz b N 44 (s_G b N w k 3 (o + 1) (u_en b N o (u_st b N r.1), r.2))))
      else (u_fl 1 (u_p (u_st b N r.1)) (u_st b N r.1), [])
    | _ => r
theorem sG_0 {b : Nat → Int} {N w k o : Nat} {r : t_R} : s_G b N w (k + 1) 0 o r = s_lp (u_or b N) (u_st b N) (s_G b N w k 1 o) 1600 (s_G b N w k 1 o r) := rfl
theorem sG_1 {b : Nat → Int} {N w k o : Nat} {r : t_R} : s_G b N w (k + 1) 1 o r = s_lp (u_and b N) (u_st b N) (s_G b N w k 2 o) 1600 (s_G b N w k 2 o r) := rfl
theorem sG_2 {b : Nat → Int} {N w k o : Nat} {r : t_R} : s_G b N w (k + 1) 2 o r = if u_isW b N 21 r.1 = true then u_pu 12 (s_G b N w k 2 (o + 1) (u_en b N o r.1, r.2))
      else if u_isS b N 91 r.1 = true then u_rz b N 93 (s_G b N w k 0 (o + 1) (u_en b N o r.1, r.2))
      else if u_isW b N 22 r.1 = true then (u_st b N r.1, 13 :: r.2)
      else if u_cmp b N (s_G b N w k 3 o r).1 = 0 then (u_fl 1 (u_p (s_G b N w k 3 o r).1) (s_G b N w k 3 o r).1, [])
      else u_pu (u_cmp b N (s_G b N w k 3 o r).1) (s_G b N w k 3 o (u_st b N (s_G b N w k 3 o r).1, (s_G b N w k 3 o r).2)) := rfl
theorem sG_3 {b : Nat → Int} {N w k o : Nat} {r : t_R} : s_G b N w (k + 1) 3 o r = s_lp (u_add b N) (u_st b N) (s_G b N w k 4 o) 1600 (s_G b N w k 4 o r) := rfl
theorem sG_4 {b : Nat → Int} {N w k o : Nat} {r : t_R} : s_G b N w (k + 1) 4 o r = s_lp (u_mul b N) (u_st b N) (s_G b N w k 5 o) 1600 (s_G b N w k 5 o r) := rfl
theorem sG_5 {b : Nat → Int} {N w k o : Nat} {r : t_R} : s_G b N w (k + 1) 5 o r = if u_isN b N r.1 = true then ((u_N b N 0 9999 r.1).2, (1000 + (u_N b N 0 9999 r.1).1) :: r.2)
      else if u_isS b N 40 r.1 = true then u_rz b N 41 (s_G b N w k 3 (o + 1) (u_en b N o r.1, r.2))
      else if u_isW b N 23 r.1 = true then u_pu 5 (s_G b N w k 6 o r)
      else if u_isW b N 24 r.1 = true then u_pu 6 (s_G b N w k 6 o r)
      else if w = 2 ∧ u_isW b N 11 r.1 = true then u_pu 60 (s_G b N w k 5 (o + 1) (u_en b N o r.1, r.2))
      else if w = 2 ∧ u_isW b N 2 r.1 = true then u_pu 61 (s_G b N w k 5 (o + 1) (u_en b N o r.1, r.2))
      else if u_vl b N w r.1 = 0 then (u_fl 1 (u_p r.1) r.1, [])
      else (u_st b N r.1, u_vl b N w r.1 :: r.2) := rfl
theorem sG_6 {b : Nat → Int} {N w k o : Nat} {r : t_R} : s_G b N w (k + 1) 6 o r = if u_isS b N 40 (u_st b N r.1) = true then u_rz b N 41 (s_G b N w k 3 (o + 1) (u_rz b N 44 (s_G b N w k 3 (o + 1) (u_en b N o (u_st b N r.1), r.2))))
      else (u_fl 1 (u_p (u_st b N r.1)) (u_st b N r.1), []) := rfl
/-! a fault stays -/
theorem ok_st {b : Nat → Int} {N : Nat} {σ : t_S} : u_ok (u_st b N σ) = u_ok σ := by
  rcases σ with ⟨p, j⟩ | ⟨k, pl⟩ <;> rfl
theorem ok_fl {k pl : Int} {σ : t_S} : u_ok (u_fl k pl σ) = false := by
  rcases σ with ⟨p, j⟩ | ⟨k, pl⟩ <;> rfl
theorem ok_en {b : Nat → Int} {N o : Nat} {σ : t_S} (h : u_ok (u_en b N o σ) = true) : u_ok σ = true ∧ o < 6 := by
  unfold u_en at h
  by_cases c : o < 6
  · rw [if_pos c, ok_st] at h
    exact ⟨h, c⟩
  · rw [if_neg c, ok_fl] at h
    cases h
theorem ok_Z {b : Nat → Int} {N : Nat} {c : Int} {σ : t_S} (h : u_ok (u_Z b N c σ) = true) : u_ok σ = true ∧ u_isS b N c σ = true := by
  unfold u_Z at h
  by_cases c' : u_isS b N c σ = true
  · rw [if_pos c', ok_st] at h
    exact ⟨h, c'⟩
  · rw [if_neg c', ok_fl] at h
    cases h
theorem ok_N {b : Nat → Int} {N : Nat} {lo hi : Int} {σ : t_S} (h : u_ok (u_N b N lo hi σ).2 = true) : u_ok σ = true := by
  rcases σ with ⟨p, j⟩ | ⟨k, pl⟩
  · rfl
  · exact h
theorem ok_isW {b : Nat → Int} {N : Nat} {w : Int} {σ : t_S} (h : u_isW b N w σ = true) : u_ok σ = true := by
  rcases σ with ⟨p, j⟩ | ⟨k, pl⟩
  · rfl
  · cases h
theorem ok_isS {b : Nat → Int} {N : Nat} {w : Int} {σ : t_S} (h : u_isS b N w σ = true) : u_ok σ = true := by
  rcases σ with ⟨p, j⟩ | ⟨k, pl⟩
  · rfl
  · cases h
theorem ok_lp {f : t_S → Int} {st : t_S → t_S} {G : t_R → t_R} (hs : ∀ σ, u_ok (st σ) = u_ok σ) (hG : ∀ r, u_ok (G r).1 = true → u_ok r.1 = true) : ∀ (n : Nat) (r : t_R), u_ok (s_lp f st G n r).1 = true → u_ok r.1 = true := by
  intro n
  induction n with
  | zero => intro r h; exact h
  | succ n ih =>
    intro r h
    rw [s_lp] at h
    by_cases c : f r.1 = 0
    · rw [if_pos c] at h; exact h
    · rw [if_neg c] at h
      have h1 := ih _ h
      have h2 := hG _ h1
      rw [← hs]
      exact h2
theorem ok_G {b : Nat → Int} {N w : Nat} : ∀ (k t o : Nat) (r : t_R), u_ok (s_G b N w k t o r).1 = true → u_ok r.1 = true := by
  intro k
  induction k with
  | zero => intro t o r h; exact h
  | succ k ih =>
    intro t o r h
    match t with
    | 0 => exact ih _ _ _ (ok_lp (fun _ => ok_st) (ih 1 o) _ _ h)
    | 1 => exact ih _ _ _ (ok_lp (fun _ => ok_st) (ih 2 o) _ _ h)
    | 3 => exact ih _ _ _ (ok_lp (fun _ => ok_st) (ih 4 o) _ _ h)
    | 4 => exact ih _ _ _ (ok_lp (fun _ => ok_st) (ih 5 o) _ _ h)
    | 2 =>
      rw [sG_2] at h
      by_cases c1 : u_isW b N 21 r.1 = true
      · exact ok_isW c1
      rw [if_neg c1] at h
      by_cases c2 : u_isS b N 91 r.1 = true
      · exact ok_isS c2
      rw [if_neg c2] at h
      by_cases c3 : u_isW b N 22 r.1 = true
      · exact ok_isW c3
      rw [if_neg c3] at h
      by_cases c4 : u_cmp b N (s_G b N w k 3 o r).1 = 0
      · rw [if_pos c4, ok_fl] at h; cases h
      rw [if_neg c4] at h
      have h1 := ih _ _ _ (show u_ok (s_G b N w k 3 o (u_st b N (s_G b N w k 3 o r).1, (s_G b N w k 3 o r).2)).1 = true from h)
      rw [ok_st] at h1
      exact ih _ _ _ h1
    | 5 =>
      rw [sG_5] at h
      by_cases c1 : u_isN b N r.1 = true
      · rw [if_pos c1] at h; exact ok_N h
      rw [if_neg c1] at h
      by_cases c2 : u_isS b N 40 r.1 = true
      · exact ok_isS c2
      rw [if_neg c2] at h
      by_cases c3 : u_isW b N 23 r.1 = true
      · exact ok_isW c3
      rw [if_neg c3] at h
      by_cases c4 : u_isW b N 24 r.1 = true
      · exact ok_isW c4
      rw [if_neg c4] at h
      by_cases c5 : w = 2 ∧ u_isW b N 11 r.1 = true
      · exact ok_isW c5.2
      rw [if_neg c5] at h
      by_cases c6 : w = 2 ∧ u_isW b N 2 r.1 = true
      · exact ok_isW c6.2
      rw [if_neg c6] at h
      by_cases c7 : u_vl b N w r.1 = 0
      · rw [if_pos c7, ok_fl] at h; cases h
      rw [if_neg c7] at h
      rw [ok_st] at h
      exact h
    | 6 =>
      rw [sG_6] at h
      by_cases c1 : u_isS b N 40 (u_st b N r.1) = true
      · rw [← ok_st (b := b) (N := N)]
        exact ok_isS c1
      rw [if_neg c1, ok_fl] at h
      cases h
    | n + 7 => exact h
/-! a token goes by -/
theorem at_lt {b : Nat → Int} {N p : Nat} (h : t_at b N p ≠ -1) : p < N := by
  unfold t_at at h
  by_cases c : p < N
  · exact c
  · rw [if_neg c] at h
    exact absurd rfl h
theorem run_1 {f : Int → Bool} {b : Nat → Int} {n p : Nat} (h : f (b p) = true) (hn : 0 < n) : p + 1 ≤ t_run f b n p := by
  cases n with
  | zero => omega
  | succ n =>
    rw [t_run, if_pos h]
    exact (run_b f b n (p + 1)).1
theorem np_c {b : Nat → Int} {N p : Nat} (hp : p ≤ N) : p ≤ t_np b N p ∧ t_np b N p ≤ N ∧ (t_at b N p ≠ -1 → p + 1 ≤ t_np b N p) := by
  have he := te_b (b := b) hp
  have hr := run_b t_bl b (N - t_end b N p) (t_end b N p)
  refine ⟨by unfold t_np t_sk; omega, by unfold t_np t_sk; omega, ?_⟩
  intro h
  have hl := at_lt h
  have h1 : p + 1 ≤ t_end b N p := by
    unfold t_end t_we t_de
    by_cases c1 : t_lt (t_at b N p) = true
    · rw [if_pos c1]
      rw [at_in hl] at c1
      exact run_1 c1 (by omega)
    · rw [if_neg c1]
      by_cases c2 : t_dg (t_at b N p) = true
      · rw [if_pos c2]
        rw [at_in hl] at c2
        exact run_1 c2 (by omega)
      · rw [if_neg c2, if_neg h]
        exact Nat.le_refl _
  unfold t_np t_sk
  omega
def u_nz (b : Nat → Int) (N : Nat) : t_S → Prop
  | .inl (p, _) => t_at b N p ≠ -1
  | .inr _ => True
theorem isW_nz {b : Nat → Int} {N : Nat} {w : Int} {σ : t_S} (h : u_isW b N w σ = true) : u_nz b N σ := by
  rcases σ with ⟨p, j⟩ | ⟨k, pl⟩
  · have h1 := (kd_1.mp (of_decide_eq_true (Bool.and_eq_true_iff.mp h).1)).1
    intro h2
    rw [h2] at h1
    exact absurd h1 (by decide)
  · trivial
theorem isS_nz {b : Nat → Int} {N : Nat} {w : Int} {σ : t_S} (h : u_isS b N w σ = true) : u_nz b N σ := by
  rcases σ with ⟨p, j⟩ | ⟨k, pl⟩
  · exact (kd_3.mp (of_decide_eq_true (Bool.and_eq_true_iff.mp h).1)).2.2
  · trivial
theorem isN_nz {b : Nat → Int} {N : Nat} {σ : t_S} (h : u_isN b N σ = true) : u_nz b N σ := by
  rcases σ with ⟨p, j⟩ | ⟨k, pl⟩
  · have h1 := (kd_2.mp (of_decide_eq_true h)).2.1
    intro h2
    rw [h2] at h1
    exact absurd h1 (by decide)
  · trivial
theorem lp_keep {f : t_S → Int} {st : t_S → t_S} {G : t_R → t_R} {n : Nat} {r : t_R} (h : f r.1 = 0) : s_lp f st G n r = r := by
  cases n with
  | zero => rfl
  | succ n => rw [s_lp, if_pos h]
theorem s_keep {b : Nat → Int} {N w : Nat} : ∀ (k t o : Nat) (r : t_R), u_ok r.1 = false → (s_G b N w k t o r).1 = r.1 := by
  have h1 : ∀ σ : t_S, u_ok σ = false → u_or b N σ = 0 ∧ u_and b N σ = 0 ∧ u_cmp b N σ = 0 ∧ u_add b N σ = 0 ∧ u_mul b N σ = 0 ∧ u_vl b N w σ = 0 ∧ u_isN b N σ = false ∧ (∀ c, u_isW b N c σ = false) ∧ (∀ c, u_isS b N c σ = false) ∧ (∀ c pl, u_fl c pl σ = σ) ∧ u_st b N σ = σ := by
    intro σ h
    rcases σ with ⟨p, j⟩ | ⟨k', pl⟩
    · cases h
    · exact ⟨rfl, rfl, rfl, rfl, rfl, rfl, rfl, fun _ => rfl, fun _ => rfl, fun _ _ => rfl, rfl⟩
  intro k
  induction k with
  | zero => intro t o r _; rfl
  | succ k ih =>
    intro t o r h
    obtain ⟨a1, a2, a3, a4, a5, a6, a7, a8, a9, a10, a11⟩ := h1 r.1 h
    match t with
    | 0 =>
      have e := ih 1 o r h
      rw [sG_0, lp_keep (by rw [e]; exact a1), e]
    | 1 =>
      have e := ih 2 o r h
      rw [sG_1, lp_keep (by rw [e]; exact a2), e]
    | 3 =>
      have e := ih 4 o r h
      rw [sG_3, lp_keep (by rw [e]; exact a4), e]
    | 4 =>
      have e := ih 5 o r h
      rw [sG_4, lp_keep (by rw [e]; exact a5), e]
    | 2 =>
      have e := ih 3 o r h
      rw [sG_2, if_neg (by rw [a8]; decide), if_neg (by rw [a9]; decide), if_neg (by rw [a8]; decide), if_pos (by rw [e]; exact a3), e]
      exact a10 _ _
    | 5 =>
      rw [sG_5, if_neg (by rw [a7]; decide), if_neg (by rw [a9]; decide), if_neg (by rw [a8]; decide), if_neg (by rw [a8]; decide), if_neg (by rw [a8]; simp), if_neg (by rw [a8]; simp), if_pos a6]
      exact a10 _ _
    | 6 =>
      rw [sG_6, if_neg (by rw [a11, a9]; decide), a11]
      exact a10 _ _
    | n + 7 => rfl
