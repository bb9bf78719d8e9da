theorem tc1_cases {w : Nat} {v : Int} {τ τ' : List Bool} (h : q_tc1 w v τ = some τ') :
    (1000 ≤ v ∧ v ≤ 10999 ∧ τ' = false :: τ) ∨ (40 ≤ v ∧ v ≤ 47 ∧ q_may w (v - 40) = true ∧ τ' = false :: τ) ∨ ((v = 60 ∨ v = 61) ∧ w = 2 ∧ ∃ ρ, τ = false :: ρ ∧ τ' = false :: ρ) ∨ (v = 13 ∧ τ' = true :: τ) ∨ (v = 12 ∧ ∃ ρ, τ = true :: ρ ∧ τ' = true :: ρ) ∨ (1 ≤ v ∧ v ≤ 6 ∧ ∃ ρ, τ = false :: false :: ρ ∧ τ' = false :: ρ) ∨ (7 ≤ v ∧ v ≤ 9 ∧ ∃ ρ, τ = false :: false :: ρ ∧ τ' = true :: ρ) ∨ (10 ≤ v ∧ v ≤ 11 ∧ ∃ ρ, τ = true :: true :: ρ ∧ τ' = true :: ρ) := by
  unfold q_tc1 at h
  by_cases c1 : 1000 ≤ v ∧ v ≤ 10999
  · rw [if_pos c1] at h
    cases h
    exact Or.inl ⟨c1.1, c1.2, rfl⟩
  rw [if_neg c1] at h
  by_cases c2 : 40 ≤ v ∧ v ≤ 47 ∧ q_may w (v - 40) = true
  · rw [if_pos c2] at h
    cases h
    exact Or.inr (Or.inl ⟨c2.1, c2.2.1, c2.2.2, rfl⟩)
  rw [if_neg c2] at h
  by_cases c3 : (v = 60 ∨ v = 61) ∧ w = 2
  · rw [if_pos c3] at h
    match τ, h with
    | false :: ρ, h =>
      cases h
      exact Or.inr (Or.inr (Or.inl ⟨c3.1, c3.2, ρ, rfl, rfl⟩))
  rw [if_neg c3] at h
  by_cases c4 : v = 13
  · rw [if_pos c4] at h
    cases h
    exact Or.inr (Or.inr (Or.inr (Or.inl ⟨c4, rfl⟩)))
  rw [if_neg c4] at h
  by_cases c5 : v = 12
  · rw [if_pos c5] at h
    match τ, h with
    | true :: ρ, h =>
      cases h
      exact Or.inr (Or.inr (Or.inr (Or.inr (Or.inl ⟨c5, ρ, rfl, rfl⟩))))
  rw [if_neg c5] at h
  by_cases c6 : 1 ≤ v ∧ v ≤ 6
  · rw [if_pos c6] at h
    match τ, h with
    | false :: false :: ρ, h =>
      cases h
      exact Or.inr (Or.inr (Or.inr (Or.inr (Or.inr (Or.inl ⟨c6.1, c6.2, ρ, rfl, rfl⟩)))))
  rw [if_neg c6] at h
  by_cases c7 : 7 ≤ v ∧ v ≤ 9
  · rw [if_pos c7] at h
    match τ, h with
    | false :: false :: ρ, h =>
      cases h
      exact Or.inr (Or.inr (Or.inr (Or.inr (Or.inr (Or.inr (Or.inl ⟨c7.1, c7.2, ρ, rfl, rfl⟩))))))
  rw [if_neg c7] at h
  by_cases c8 : 10 ≤ v ∧ v ≤ 11
  · rw [if_pos c8] at h
    match τ, h with
    | true :: true :: ρ, h =>
      cases h
      exact Or.inr (Or.inr (Or.inr (Or.inr (Or.inr (Or.inr (Or.inr ⟨c8.1, c8.2, ρ, rfl, rfl⟩))))))
  rw [if_neg c8] at h
  cases h
def s_vt : List Bool → List Int → Prop
  | [], [] => True
  | b :: τ, x :: st => (-1000000 ≤ x ∧ x ≤ 1000000) ∧ (b = true → x = 0 ∨ x = 1) ∧ s_vt τ st
  | _, _ => False
theorem vt_len {τ : List Bool} : ∀ {st : List Int}, s_vt τ st → st.length = τ.length := by
  induction τ with
  | nil =>
    intro st h
    match st, h with
    | [], _ => rfl
  | cons b τ ih =>
    intro st h
    match st, h with
    | x :: st, h => simp [ih h.2.2]
theorem vt_1 {b : Bool} {τ : List Bool} {st : List Int} (h : s_vt (b :: τ) st) : ∃ x r, st = x :: r ∧ (-1000000 ≤ x ∧ x ≤ 1000000) ∧ (b = true → x = 0 ∨ x = 1) ∧ s_vt τ r := by
  match st, h with
  | x :: r, h => exact ⟨x, r, rfl, h⟩
theorem clip_b (v : Int) : -1000000 ≤ s_clip v ∧ s_clip v ≤ 1000000 := by
  unfold s_clip
  by_cases h : 1000000 < v
  · rw [if_pos h]; omega
  · rw [if_neg h]
    by_cases h2 : v < -1000000
    · rw [if_pos h2]; omega
    · rw [if_neg h2]; omega
theorem clip_id {v : Int} (h1 : -1000000 ≤ v) (h2 : v ≤ 1000000) : s_clip v = v := by
  unfold s_clip
  rw [if_neg (by omega), if_neg (by omega)]
theorem flo_b {a b : Int} (h1 : -1000000 ≤ a) (h2 : a ≤ 1000000) : -1000000 ≤ s_flo a b ∧ s_flo a b ≤ 1000000 := by
  unfold s_flo
  by_cases h : b = 0
  · rw [if_pos h]; omega
  rw [if_neg h]
  have hb := n_tdb a b
  by_cases c : a.tmod b ≠ 0 ∧ ((a < 0) ≠ (b < 0))
  · rw [if_pos c]
    have hn : b.natAbs ≠ 1 := by
      intro hb1
      apply c.1
      apply Int.natAbs_eq_zero.mp
      rw [Int.natAbs_tmod, hb1, Nat.mod_one]
    have hd : (a.tdiv b).natAbs = a.natAbs / b.natAbs := Int.natAbs_tdiv a b
    have h2' : a.natAbs / b.natAbs ≤ a.natAbs / 2 := Nat.div_le_div_left (by omega) (by decide)
    omega
  · rw [if_neg c]
    omega
theorem bin_1 {a b : Int} : s_bin 1 a b = s_clip (a + b) := by unfold s_bin; rw [if_pos rfl]
theorem bin_2 {a b : Int} : s_bin 2 a b = s_clip (a - b) := by unfold s_bin; rw [if_neg (by decide), if_pos rfl]
theorem bin_3 {a b : Int} : s_bin 3 a b = s_clip (a * b) := by unfold s_bin; rw [if_neg (by decide), if_neg (by decide), if_pos rfl]
theorem bin_4 {a b : Int} : s_bin 4 a b = s_flo a b := by unfold s_bin; rw [if_neg (by decide), if_neg (by decide), if_neg (by decide), if_pos rfl]
theorem bin_5 {a b : Int} : s_bin 5 a b = if a < b then a else b := by unfold s_bin; rw [if_neg (by decide), if_neg (by decide), if_neg (by decide), if_neg (by decide), if_pos rfl]
theorem bin_6 {a b : Int} : s_bin 6 a b = if b < a then a else b := by unfold s_bin; rw [if_neg (by decide), if_neg (by decide), if_neg (by decide), if_neg (by decide), if_neg (by decide), if_pos rfl]
theorem bin_b {v a b : Int} (hv : 1 ≤ v ∧ v ≤ 6) (ha : -1000000 ≤ a ∧ a ≤ 1000000) (hb : -1000000 ≤ b ∧ b ≤ 1000000) : -1000000 ≤ s_bin v a b ∧ s_bin v a b ≤ 1000000 := by
  have hc : v = 1 ∨ v = 2 ∨ v = 3 ∨ v = 4 ∨ v = 5 ∨ v = 6 := by omega
  rcases hc with rfl | rfl | rfl | rfl | rfl | rfl
  · rw [bin_1]; exact clip_b _
  · rw [bin_2]; exact clip_b _
  · rw [bin_3]; exact clip_b _
  · rw [bin_4]; exact flo_b ha.1 ha.2
  · rw [bin_5]
    by_cases c : a < b
    · rw [if_pos c]; exact ha
    · rw [if_neg c]; exact hb
  · rw [bin_6]
    by_cases c : b < a
    · rw [if_pos c]; exact ha
    · rw [if_neg c]; exact hb
theorem ite01 (c : Prop) [Decidable c] : (if c then (1 : Int) else 0) = 0 ∨ (if c then (1 : Int) else 0) = 1 := by
  by_cases h : c
  · rw [if_pos h]; exact Or.inr rfl
  · rw [if_neg h]; exact Or.inl rfl
theorem bin_t {v a b : Int} (hv : 7 ≤ v ∧ v ≤ 9) : s_bin v a b = 0 ∨ s_bin v a b = 1 := by
  have hc : v = 7 ∨ v = 8 ∨ v = 9 := by omega
  rcases hc with rfl | rfl | rfl
  · exact ite01 (a < b)
  · exact ite01 (b < a)
  · exact ite01 (a = b)
theorem bin_l {v a b : Int} (hv : 10 ≤ v ∧ v ≤ 11) (ha : a = 0 ∨ a = 1) (hb : b = 0 ∨ b = 1) : s_bin v a b = 0 ∨ s_bin v a b = 1 := by
  have hc : v = 10 ∨ v = 11 := by omega
  rcases hc with rfl | rfl
  · show a * b = 0 ∨ a * b = 1
    rcases ha with rfl | rfl <;> rcases hb with rfl | rfl <;> decide
  · exact ite01 (0 < a + b)
theorem ev1_num {env : Int → Int} {ofs : Int → Int → Int} {v : Int} {st : List Int} (h : 1000 ≤ v) : s_ev1 env ofs v st = (v - 1000) :: st := by
  unfold s_ev1
  rw [if_pos h]
theorem ev1_of {env : Int → Int} {ofs : Int → Int → Int} {v : Int} {a : Int} {st : List Int} (h : v = 60 ∨ v = 61) : s_ev1 env ofs v (a :: st) = s_clip (ofs (v - 60) a) :: st := by
  unfold s_ev1
  rw [if_neg (by omega), if_pos (by omega)]
theorem ev1_part {env : Int → Int} {ofs : Int → Int → Int} {v : Int} {st : List Int} (h : 40 ≤ v ∧ v ≤ 47) : s_ev1 env ofs v st = s_clip (env (v - 40)) :: st := by
  unfold s_ev1
  rw [if_neg (by omega), if_neg (by omega), if_pos (by omega)]
theorem ev1_bin {env : Int → Int} {ofs : Int → Int → Int} {v : Int} {a b : Int} {st : List Int} (h : 1 ≤ v ∧ v ≤ 11) : s_ev1 env ofs v (b :: a :: st) = s_bin v a b :: st := by
  unfold s_ev1
  rw [if_neg (by omega), if_neg (by omega), if_neg (by omega), if_neg (by omega), if_neg (by omega)]
theorem vt_step {w : Nat} {v : Int} {τ τ' : List Bool} {st : List Int} {env : Int → Int} {ofs : Int → Int → Int} (h : q_tc1 w v τ = some τ') (hv : s_vt τ st) : s_vt τ' (s_ev1 env ofs v st) := by
  rcases tc1_cases h with ⟨h1, h2, rfl⟩ | ⟨h1, h2, h3, rfl⟩ | ⟨h1, h2, ρ, rfl, rfl⟩ | ⟨rfl, rfl⟩ | ⟨rfl, ρ, rfl, rfl⟩ | ⟨h1, h2, ρ, rfl, rfl⟩ | ⟨h1, h2, ρ, rfl, rfl⟩ | ⟨h1, h2, ρ, rfl, rfl⟩
  · rw [ev1_num h1]
    exact ⟨by omega, (fun h => by cases h), hv⟩
  · rw [ev1_part ⟨h1, h2⟩]
    exact ⟨clip_b _, (fun h => by cases h), hv⟩
  · obtain ⟨x, r, rfl, hx, -, hr⟩ := vt_1 hv
    rw [ev1_of h1]
    exact ⟨clip_b _, (fun h => by cases h), hr⟩
  · exact ⟨by decide, fun _ => Or.inr rfl, hv⟩
  · obtain ⟨x, r, rfl, hx, hb, hr⟩ := vt_1 hv
    have := hb rfl
    exact ⟨by omega, fun _ => by omega, hr⟩
  · obtain ⟨x, r, rfl, hx, -, hr⟩ := vt_1 hv
    obtain ⟨y, r, rfl, hy, -, hr⟩ := vt_1 hr
    rw [ev1_bin (by omega)]
    exact ⟨bin_b ⟨h1, h2⟩ hy hx, (fun h => by cases h), hr⟩
  · obtain ⟨x, r, rfl, hx, -, hr⟩ := vt_1 hv
    obtain ⟨y, r, rfl, hy, -, hr⟩ := vt_1 hr
    rw [ev1_bin (by omega)]
    have := bin_t (v := v) (a := y) (b := x) ⟨h1, h2⟩
    exact ⟨by omega, fun _ => this, hr⟩
  · obtain ⟨x, r, rfl, hx, hx1, hr⟩ := vt_1 hv
    obtain ⟨y, r, rfl, hy, hy1, hr⟩ := vt_1 hr
    rw [ev1_bin (by omega)]
    have := bin_l (v := v) (a := y) (b := x) ⟨h1, h2⟩ (hy1 rfl) (hx1 rfl)
    exact ⟨by omega, fun _ => this, hr⟩
theorem ev1_cong {w : Nat} {v : Int} {τ τ' : List Bool} {st : List Int} {env env' : Int → Int} {ofs ofs' : Int → Int → Int} (h : q_tc1 w v τ = some τ') (he : ∀ k, 0 ≤ k → k ≤ 7 → q_may w k = true → env k = env' k) (ho : w = 2 → ∀ k a, 0 ≤ k → k ≤ 1 → -1000000 ≤ a → a ≤ 1000000 → ofs k a = ofs' k a) (hv : s_vt τ st) : s_ev1 env ofs v st = s_ev1 env' ofs' v st := by
  rcases tc1_cases h with ⟨h1, h2, rfl⟩ | ⟨h1, h2, h3, rfl⟩ | ⟨h1, h2, ρ, rfl, rfl⟩ | ⟨rfl, rfl⟩ | ⟨rfl, ρ, rfl, rfl⟩ | ⟨h1, h2, ρ, rfl, rfl⟩ | ⟨h1, h2, ρ, rfl, rfl⟩ | ⟨h1, h2, ρ, rfl, rfl⟩
  · rw [ev1_num h1, ev1_num h1]
  · rw [ev1_part ⟨h1, h2⟩, ev1_part ⟨h1, h2⟩, he _ (by omega) (by omega) h3]
  · obtain ⟨x, r, rfl, hx, -, hr⟩ := vt_1 hv
    rw [ev1_of h1, ev1_of h1, ho h2 _ _ (by omega) (by omega) hx.1 hx.2]
  · rfl
  · obtain ⟨x, r, rfl, hx, hb, hr⟩ := vt_1 hv
    rfl
  · obtain ⟨x, r, rfl, hx, -, hr⟩ := vt_1 hv
    obtain ⟨y, r, rfl, hy, -, hr⟩ := vt_1 hr
    rw [ev1_bin (by omega), ev1_bin (by omega)]
  · obtain ⟨x, r, rfl, hx, -, hr⟩ := vt_1 hv
    obtain ⟨y, r, rfl, hy, -, hr⟩ := vt_1 hr
    rw [ev1_bin (by omega), ev1_bin (by omega)]
  · obtain ⟨x, r, rfl, hx, hx1, hr⟩ := vt_1 hv
    obtain ⟨y, r, rfl, hy, hy1, hr⟩ := vt_1 hr
    rw [ev1_bin (by omega), ev1_bin (by omega)]
theorem tc_cons {w : Nat} {v : Int} {vs : List Int} {τ τ' : List Bool} (h : q_tc w (v :: vs) τ = some τ') : ∃ τ1, q_tc1 w v τ = some τ1 ∧ τ1.length ≤ 60 ∧ q_tc w vs τ1 = some τ' := by
  unfold q_tc at h
  cases h1 : q_tc1 w v τ with
  | none => rw [h1] at h; cases h
  | some τ1 =>
    rw [h1, Option.bind_some] at h
    by_cases c : τ1.length ≤ 60
    · rw [if_pos c] at h
      exact ⟨τ1, rfl, c, h⟩
    · rw [if_neg c] at h
      cases h
theorem ev_cong {w : Nat} {env env' : Int → Int} {ofs ofs' : Int → Int → Int} (he : ∀ k, 0 ≤ k → k ≤ 7 → q_may w k = true → env k = env' k) (ho : w = 2 → ∀ k a, 0 ≤ k → k ≤ 1 → -1000000 ≤ a → a ≤ 1000000 → ofs k a = ofs' k a) : ∀ (vs : List Int) (τ τ' : List Bool) (st : List Int), q_tc w vs τ = some τ' → s_vt τ st → s_ev env ofs vs st = s_ev env' ofs' vs st := by
  intro vs
  induction vs with
  | nil => intro τ τ' st _ _; rfl
  | cons v vs ih =>
    intro τ τ' st h hv
    obtain ⟨τ1, h1, -, h2⟩ := tc_cons h
    show s_ev env ofs vs (s_ev1 env ofs v st) = s_ev env' ofs' vs (s_ev1 env' ofs' v st)
    rw [← ev1_cong h1 he ho hv]
    exact ih τ1 τ' _ h2 (vt_step h1 hv)
theorem ev_vt {w : Nat} {env : Int → Int} {ofs : Int → Int → Int} : ∀ (vs : List Int) (τ τ' : List Bool) (st : List Int), q_tc w vs τ = some τ' → s_vt τ st → s_vt τ' (s_ev env ofs vs st) := by
  intro vs
  induction vs with
  | nil => intro τ τ' st h hv; cases h; exact hv
  | cons v vs ih =>
    intro τ τ' st h hv
    obtain ⟨τ1, h1, -, h2⟩ := tc_cons h
    exact ih τ1 τ' _ h2 (vt_step h1 hv)
/-- the reckoner's stack -/
def k_S (r : Nat) (M0 : q_Mem) (st : List Int) (M : q_Mem) : Prop := M.2 r 1 = (st.length : Int) ∧ (∀ i : Nat, i < st.length → M.2 (r + 1) i = st.getD (st.length - 1 - i) 0) ∧ ∀ a j, ¬ ((a = r ∧ j = 1) ∨ a = r + 1) → M.2 a j = M0.2 a j
theorem k_push {r : Nat} {M0 M : q_Mem} {st : List Int} {x : Int} (hr : q_fr r 0 = r + 1) (h : k_S r M0 st M) (hl : st.length < 64) : q_P (fX7_push r x M) (fun _ M' => k_S r M0 (x :: st) M') := by
  obtain ⟨h1, h2, h3⟩ := h
  unfold fX7_push
  rw [hr, h1, n_w (by omega) (by omega), n_w (by decide) (by decide), if_pos (by omega), b_sto (by omega) (by omega) (by decide), Option.bind_some, Int.toNat_natCast]
  refine w_some.mpr ⟨?_, ?_, ?_⟩
  · rw [up_rd, if_pos ⟨rfl, rfl⟩, up_ne (by omega), h1]
    simp
  · intro i hi
    rw [up_ne (by omega), up_rd]
    rw [List.length_cons] at hi ⊢
    by_cases c : i = st.length
    · rw [if_pos ⟨rfl, c⟩, show st.length + 1 - 1 - i = 0 from by omega, List.getD_cons_zero]
    · rw [if_neg (by omega), h2 i (by omega), show st.length + 1 - 1 - i = (st.length - 1 - i) + 1 from by omega, List.getD_cons_succ]
  · intro a j ha
    rw [up_ne (by omega), up_ne (by omega)]
    exact h3 a j ha
theorem k_pop {r : Nat} {M0 M : q_Mem} {st : List Int} {x : Int} (hr : q_fr r 0 = r + 1) (h : k_S r M0 (x :: st) M) (hl : st.length < 64) : q_P (fX7_pop r M) (fun v M' => v = x ∧ k_S r M0 st M') := by
  obtain ⟨h1, h2, h3⟩ := h
  simp only [List.length_cons] at h1 h2
  unfold fX7_pop
  rw [hr, h1, n_w (by omega) (by omega), if_neg (by omega)]
  simp only [q_let]
  have e : (q_up M r 1 (((st.length + 1 : Nat) : Int) - 1)).2 r 1 = (st.length : Int) := by
    rw [up_rd, if_pos ⟨rfl, rfl⟩]
    omega
  rw [e, b_ld (by omega) (by omega) (by decide), Option.bind_some, Int.toNat_natCast]
  refine w_some.mpr ⟨?_, ?_, ?_, ?_⟩
  · rw [up_ne (by omega), h2 st.length (by omega), show st.length + 1 - 1 - st.length = 0 from by omega, List.getD_cons_zero]
  · exact e
  · intro i hi
    rw [up_ne (by omega), h2 i (by omega), show st.length + 1 - 1 - i = (st.length - 1 - i) + 1 from by omega, List.getD_cons_succ]
  · intro a j ha
    rw [up_ne (by omega)]
    exact h3 a j ha
/-- what the reckoner has laid out -/
def k_env (r : Nat) (M : q_Mem) (k : Int) : Int := if k = 0 then M.2 r 3 else if k = 1 then M.2 r 4 else if k = 2 then M.2 r 5 else if k = 3 then M.2 r 6 else if k = 4 then M.2 r 7 else if k = 5 then M.2 r 8 else if k = 6 then M.2 r 2 else M.2 r 9
def k_ofs (r : Nat) (M : q_Mem) (k a : Int) : Int := if 0 ≤ a ∧ a < M.2 r 10 ∧ a < 6 then (if k = 0 then M.2 (r + 2) a.toNat else M.2 (r + 3) a.toNat) else 0
theorem o_two1 {M : q_Mem} : fX7_isOfTwo 43 M = some (1, M) ∧ fX7_isOfTwo 45 M = some (1, M) ∧ fX7_isOfTwo 42 M = some (1, M) ∧ fX7_isOfTwo 47 M = some (1, M) ∧ fX7_isOfTwo 23 M = some (1, M) ∧ fX7_isOfTwo 24 M = some (1, M) ∧ fX7_isOfTwo 60 M = some (1, M) ∧ fX7_isOfTwo 62 M = some (1, M) ∧ fX7_isOfTwo 61 M = some (1, M) ∧ fX7_isOfTwo 20 M = some (1, M) ∧ fX7_isOfTwo 19 M = some (1, M) := ⟨rfl, rfl, rfl, rfl, rfl, rfl, rfl, rfl, rfl, rfl, rfl⟩
theorem o_two0 {M : q_Mem} : fX7_isOfTwo 21 M = some (0, M) ∧ fX7_isOfTwo 22 M = some (0, M) ∧ fX7_isOfTwo 7 M = some (0, M) ∧ fX7_isOfTwo 8 M = some (0, M) ∧ fX7_isOfTwo 3 M = some (0, M) ∧ fX7_isOfTwo 16 M = some (0, M) ∧ fX7_isOfTwo 15 M = some (0, M) ∧ fX7_isOfTwo 4 M = some (0, M) ∧ fX7_isOfTwo 17 M = some (0, M) ∧ fX7_isOfTwo 18 M = some (0, M) ∧ fX7_isOfTwo 11 M = some (0, M) ∧ fX7_isOfTwo 2 M = some (0, M) := ⟨rfl, rfl, rfl, rfl, rfl, rfl, rfl, rfl, rfl, rfl, rfl, rfl⟩
theorem o_one {r : Nat} {M : q_Mem} : fX7_ofOne r 7 M = some (M.2 r 3, M) ∧ fX7_ofOne r 8 M = some (M.2 r 4, M) ∧ fX7_ofOne r 3 M = some (M.2 r 5, M) ∧ fX7_ofOne r 16 M = some (M.2 r 6, M) ∧ fX7_ofOne r 15 M = some (M.2 r 7, M) ∧ fX7_ofOne r 4 M = some (M.2 r 8, M) ∧ fX7_ofOne r 17 M = some (M.2 r 2, M) ∧ fX7_ofOne r 18 M = some (M.2 r 9, M) ∧ fX7_ofOne r 22 M = some (1, M) := ⟨rfl, rfl, rfl, rfl, rfl, rfl, rfl, rfl, rfl⟩
theorem f_lc {a b : Int} (h1 : -9223372036854775808 ≤ a) (h2 : a ≤ 9223372036854775807) (h3 : -9223372036854775808 ≤ b) (h4 : b ≤ 9223372036854775807) : (0 < q_w (q_lcmp a b) ↔ b < a) ∧ (q_w (q_lcmp a b) < 0 ↔ a < b) ∧ (q_w (q_lcmp a b) = 0 ↔ a = b) := by
  rw [n_lcmp h1 h2 h3 h4]
  by_cases c1 : b < a
  · rw [if_pos c1]
    refine ⟨⟨fun _ => c1, fun _ => by decide⟩, ⟨fun h => absurd h (by decide), fun h => by omega⟩, ⟨fun h => absurd h (by decide), fun h => by omega⟩⟩
  · rw [if_neg c1]
    by_cases c2 : a = b
    · rw [if_pos c2]
      refine ⟨⟨fun h => absurd h (by decide), fun h => by omega⟩, ⟨fun h => absurd h (by decide), fun h => by omega⟩, ⟨fun _ => c2, fun _ => by decide⟩⟩
    · rw [if_neg c2]
      refine ⟨⟨fun h => absurd h (by decide), fun h => by omega⟩, ⟨fun _ => by omega, fun _ => by decide⟩, ⟨fun h => absurd h (by decide), fun h => by omega⟩⟩
theorem f_within {x : Int} {M : q_Mem} (h1 : -9223372036854775808 ≤ x) (h2 : x ≤ 9223372036854775807) : fX7_within x M = some (s_clip x, M) := by
  unfold fX7_within s_clip
  have k1 := f_lc h1 h2 (b := 1000000) (by decide) (by decide)
  have k2 := f_lc h1 h2 (b := -1000000) (by decide) (by decide)
  by_cases c1 : 1000000 < x
  · rw [if_pos (k1.1.mpr c1), if_pos c1]
  · rw [if_neg (fun h => c1 (k1.1.mp h)), if_neg c1]
    by_cases c2 : x < -1000000
    · rw [if_pos (k2.2.1.mpr c2), if_pos c2]
    · rw [if_neg (fun h => c2 (k2.2.1.mp h)), if_neg c2]
theorem f_qClip {x : Int} {M : q_Mem} (h1 : -9223372036854775808 ≤ x) (h2 : x ≤ 9223372036854775807) : fX12_qClip x M = some (s_clip x, M) := f_within h1 h2
theorem f_mulb {a b : Int} (ha : -1000000 ≤ a ∧ a ≤ 1000000) (hb : -1000000 ≤ b ∧ b ≤ 1000000) : -1000000000000 ≤ a * b ∧ a * b ≤ 1000000000000 := by
  have h : (a * b).natAbs ≤ 1000000 * 1000000 := by
    rw [Int.natAbs_mul]
    exact Nat.mul_le_mul (by omega) (by omega)
  omega
theorem f_floor {a b : Int} {M : q_Mem} (ha : -1000000 ≤ a ∧ a ≤ 1000000) (hb : -1000000 ≤ b ∧ b ≤ 1000000) (h0 : b ≠ 0) : fJ9_floorDiv_7cf53 a b M = some (s_flo a b, M) := by
  unfold fJ9_floorDiv_7cf53 s_flo
  have hx := n_xor (a := a) (b := b) (by omega) (by omega) (by omega) (by omega)
  have hd := n_tdb a b
  rw [n_w (a := b) (by omega) (by omega), if_neg h0, if_neg h0, n_div (by omega) (by omega) (by omega) (by omega)]
  simp only [q_let]
  have hm : a.tdiv b * b + a.tmod b = a := Int.tdiv_mul_add_tmod a b
  have hmb := n_tmb a b
  rw [n_w (a := a.tdiv b * b) (by omega) (by omega), n_w (a := a) (by omega) (by omega)]
  by_cases c : (a < 0) ≠ (b < 0)
  · rw [if_pos (hx.mpr c)]
    by_cases c2 : a.tdiv b * b = a
    · rw [if_pos c2, if_neg]
      intro h
      exact h.1 (by omega)
    · rw [if_neg c2, if_pos ⟨by omega, c⟩]
  · rw [if_neg (fun h => c (hx.mp h)), if_neg (fun h => c h.2)]
theorem o_bin {v a b : Int} {M : q_Mem} (ha : -1000000 ≤ a ∧ a ≤ 1000000) (hb : -1000000 ≤ b ∧ b ≤ 1000000) (hv : 1 ≤ v ∧ v ≤ 9 ∨ (10 ≤ v ∧ v ≤ 11 ∧ (a = 0 ∨ a = 1) ∧ (b = 0 ∨ b = 1))) : fX7_ofTwo (q_enc v - 10000) a b M = some (s_bin v a b, M) := by
  have wa : q_w a = a := n_w (by omega) (by omega)
  have wb : q_w b = b := n_w (by omega) (by omega)
  have hm := f_mulb ha hb
  have hc : v = 1 ∨ v = 2 ∨ v = 3 ∨ v = 4 ∨ v = 5 ∨ v = 6 ∨ v = 7 ∨ v = 8 ∨ v = 9 ∨ v = 10 ∨ v = 11 := by omega
  rcases hc with rfl | rfl | rfl | rfl | rfl | rfl | rfl | rfl | rfl | rfl | rfl
  · have e : fX7_ofTwo (q_enc 1 - 10000) a b M = q_bd (fX7_within (q_w a + q_w b) M) fun x M2 => some (x, M2) := rfl
    rw [e, wa, wb, f_within (by omega) (by omega), bin_1]
    rfl
  · have e : fX7_ofTwo (q_enc 2 - 10000) a b M = q_bd (fX7_within (q_w a - q_w b) M) fun x M2 => some (x, M2) := rfl
    rw [e, wa, wb, f_within (by omega) (by omega), bin_2]
    rfl
  · have e : fX7_ofTwo (q_enc 3 - 10000) a b M = q_bd (fX7_within (q_w a * q_w b) M) fun x M2 => some (x, M2) := rfl
    rw [e, wa, wb, f_within (by omega) (by omega), bin_3]
    rfl
  · have e : fX7_ofTwo (q_enc 4 - 10000) a b M = if q_w b = 0 then (some (0, M)) else (q_bd (fJ9_floorDiv_7cf53 a b M) fun x24 M4 => some (x24, M4)) := rfl
    rw [e, wb, bin_4]
    by_cases c : b = 0
    · rw [if_pos c]
      unfold s_flo
      rw [if_pos c]
    · rw [if_neg c, f_floor ha hb c]
      rfl
  · have e : fX7_ofTwo (q_enc 5 - 10000) a b M = if q_w a < q_w b then (some (a, M)) else (some (b, M)) := rfl
    rw [e, wa, wb, bin_5]
    by_cases c : a < b
    · rw [if_pos c, if_pos c]
    · rw [if_neg c, if_neg c]
  · have e : fX7_ofTwo (q_enc 6 - 10000) a b M = if q_w b < q_w a then (some (a, M)) else (some (b, M)) := rfl
    rw [e, wa, wb, bin_6]
    by_cases c : b < a
    · rw [if_pos c, if_pos c]
    · rw [if_neg c, if_neg c]
  · have e : fX7_ofTwo (q_enc 7 - 10000) a b M = if q_w a < q_w b then (some (1, M)) else (some (0, M)) := rfl
    have e2 : s_bin 7 a b = if a < b then 1 else 0 := rfl
    rw [e, wa, wb, e2]
    by_cases c : a < b
    · rw [if_pos c, if_pos c]
    · rw [if_neg c, if_neg c]
  · have e : fX7_ofTwo (q_enc 8 - 10000) a b M = if q_w b < q_w a then (some (1, M)) else (some (0, M)) := rfl
    have e2 : s_bin 8 a b = if b < a then 1 else 0 := rfl
    rw [e, wa, wb, e2]
    by_cases c : b < a
    · rw [if_pos c, if_pos c]
    · rw [if_neg c, if_neg c]
  · have e : fX7_ofTwo (q_enc 9 - 10000) a b M = if q_w a = q_w b then (some (1, M)) else (some (0, M)) := rfl
    have e2 : s_bin 9 a b = if a = b then 1 else 0 := rfl
    rw [e, wa, wb, e2]
    by_cases c : a = b
    · rw [if_pos c, if_pos c]
    · rw [if_neg c, if_neg c]
  · have e : fX7_ofTwo (q_enc 10 - 10000) a b M = some (q_and a b, M) := rfl
    have e2 : s_bin 10 a b = a * b := rfl
    rw [e, e2]
    rcases hv with hv | ⟨-, -, hv1, hv2⟩
    · omega
    · rcases hv1 with rfl | rfl <;> rcases hv2 with rfl | rfl <;> rfl
  · have e : fX7_ofTwo (q_enc 11 - 10000) a b M = some (q_or a b, M) := rfl
    have e2 : s_bin 11 a b = if 0 < a + b then 1 else 0 := rfl
    rw [e, e2]
    rcases hv with hv | ⟨-, -, hv1, hv2⟩
    · omega
    · rcases hv1 with rfl | rfl <;> rcases hv2 with rfl | rfl <;> rfl
