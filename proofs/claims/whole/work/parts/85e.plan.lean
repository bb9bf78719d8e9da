/-! rounds: the other side -/
theorem r_n18 {t : Nat} {L A : q_G} {c s F : Nat} (hc : (c : Int) < A 123 4) (hs : (s : Int) < A 123 3) (hF : A 122 3 = (F : Int)) (hF2 : F ≤ 400) {K : Int → Int → q_Mem → Option (Int × q_Mem)} {Q : Int → q_Mem → Prop} (hK : ∀ M', q_J t M' L A → (∀ s' i, s' ≤ s → i ≤ F → M'.2 134 (402 * s' + i) = e_X A c s' i) → q_P (K (c : Int) ((s : Int) + 1) M') Q) : ∀ (n k : Nat) (M : q_Mem), q_J t M L A → (∀ s' i, (s' < s ∨ (s' = s ∧ k ≤ i)) → i ≤ F → M.2 134 (402 * s' + i) = e_X A c s' i) → k < n → k ≤ F + 1 → q_P (fX12_laysNexts_18 K n (c : Int) (s : Int) (e_X A c s (k : Int)) ((k : Int) - 1) M) Q := by
  intro n
  induction n with
  | zero => intro k M _ _ h; omega
  | succ n ih =>
    intro k M hJ g1 hn hk
    have w := j_wf hJ
    rw [fX12_laysNexts_18, n_w (by omega) (by omega)]
    cases k with
    | zero =>
      rw [if_pos (by omega)]
      exact hK M hJ (fun s' i h1 h2 => g1 s' i (by omega) h2)
    | succ k =>
      rw [if_neg (by omega), show ((k + 1 : Nat) : Int) - 1 = (k : Int) from by omega]
      refine w_call (N_P (r_buys hJ hc hs ⟨by omega, by omega⟩) (N_fX12_doesBuy S_refl)) ?_
      rintro r M1 ⟨⟨rfl, hJ1⟩, hf⟩
      rw [f_ite]
      have fin : q_P (fX12_laysNexts_37 K (fX12_laysNexts_18 K n) (c : Int) (s : Int) (e_X A c s (k : Int)) (k : Int) M1) Q := by
        unfold fX12_laysNexts_37
        rw [b_sto (by omega) (by omega) (by decide), Option.bind_some, show ((402 : Int) * (s : Int) + (k : Int)).toNat = 402 * s + k from by omega, show (k : Int) + -1 = (k : Int) - 1 from by omega]
        refine ih k _ (j_scr hJ1 rfl rfl rfl) ?_ (by omega) (by omega)
        intro s' i h1 h2
        rw [up_rd]
        by_cases ci : s' = s ∧ i = k
        · rw [if_pos ⟨rfl, by omega⟩, ci.1, ci.2]
        · rw [if_neg (by omega), hf 134 _ (by unfold q_fr12; omega)]
          exact g1 s' i (by omega) h2
      rw [X_st A c s k (by omega)] at fin
      by_cases cb : s_buys A c s (k : Int) = true
      · rw [if_pos cb] at fin ⊢
        exact fin
      · rw [if_neg cb] at fin ⊢
        exact fin
def e_N (A : q_G) (c S F : Nat) (M : q_Mem) : Prop := ∀ s i, s < S → i ≤ F → M.2 134 (402 * s + i) = e_X A c s i
theorem r_n2 {t : Nat} {L A : q_G} {c S F : Nat} (hc : (c : Int) < A 123 4) (hS : A 123 3 = (S : Int)) (hF : A 122 3 = (F : Int)) (hF2 : F ≤ 400) : ∀ (n k : Nat) (M : q_Mem), q_J t M L A → (∀ s' i, s' < k → i ≤ F → M.2 134 (402 * s' + i) = e_X A c s' i) → k ≤ S → S - k < n → q_P (fX12_laysNexts_2 n (c : Int) (k : Int) M) (fun _ M' => q_J t M' L A ∧ e_N A c S F M') := by
  intro n
  induction n with
  | zero => intro k M _ _ _ h; omega
  | succ n ih =>
    intro k M hJ g1 hk hn
    have w := j_wf hJ
    rw [fX12_laysNexts_2, r_sm hJ, b_some, hS, n_w (by omega) (by omega), n_w (a := (S : Int)) (by omega) (by omega)]
    by_cases ck : k < S
    · rw [if_pos (by omega), r_fm hJ, b_some, hF]
      have := r_n18 (t := t) (L := L) hc (s := k) (by omega) hF hF2 (K := fX12_laysNexts_2 n) (Q := fun _ M' => q_J t M' L A ∧ e_N A c S F M') (by
        intro M' hJ' g
        rw [show (k : Int) + 1 = ((k + 1 : Nat) : Int) from by omega]
        exact ih (k + 1) M' hJ' (fun s' i h1 h2 => g s' i (by omega) h2) (by omega) (by omega)) q_FU (F + 1) M hJ (fun s' i h1 h2 => g1 s' i (by omega) h2) (by unfold q_FU; omega) (by omega)
      rw [X_end A c k (F + 1) (by omega), show ((F + 1 : Nat) : Int) - 1 = (F : Int) from by omega] at this
      exact this
    · rw [if_neg (by omega)]
      exact w_some.mpr ⟨hJ, fun s i h1 h2 => g1 s i (by omega) h2⟩
theorem r_nexts {t : Nat} {M : q_Mem} {L A : q_G} (h : q_J t M L A) {c S F : Nat} (hc : (c : Int) < A 123 4) (hS : A 123 3 = (S : Int)) (hF : A 122 3 = (F : Int)) (hF2 : F ≤ 400) : q_P (fX12_laysNexts (c : Int) M) (fun _ M' => q_J t M' L A ∧ e_N A c S F M') := by
  have w := j_wf h
  exact r_n2 hc hS hF hF2 q_FU 0 M h (fun s' i h1 => by omega) (by omega) (by unfold q_FU; omega)
theorem r_apart {p P : Int} (hp : 0 ≤ p ∧ p ≤ 99) (hP : 0 ≤ P ∧ P ≤ 99) (M : q_Mem) : fX12_apart p P M = some (if 0 ≤ P - p then P - p else -(P - p), M) := by
  unfold fX12_apart
  rw [n_w (by omega) (by omega), n_w (by omega) (by omega)]
  by_cases cc : p < P
  · rw [if_pos cc, if_pos (by omega)]
  · rw [if_neg cc]
    by_cases c3 : 0 ≤ P - p
    · rw [if_pos c3, show p - P = P - p from by omega]
    · rw [if_neg c3, show p - P = -(P - p) from by omega]
theorem r_oe16 {t : Nat} {M : q_Mem} {L A : q_G} (h : q_J t M L A) {c S F : Nat} (hS : A 123 3 = (S : Int)) (hS2 : S ≤ 6) (hF : A 122 3 = (F : Int)) (hF2 : F ≤ 400) (hN : e_N A c S F M) {m : Nat} (hm6 : m ≤ 6) (h59 : M.2 94 59 = (m : Int)) : ∀ (l : List Nat) (n k : Nat) (p x : Int), k + l.length = m → l.length < n → (∀ j, j < l.length → M.2 135 (k + j) = ((l.getD j 0 : Nat) : Int)) → (∀ s ∈ l, s < S) → 0 ≤ p ∧ p ≤ 99 → 0 ≤ x ∧ x ≤ (F : Int) → fX12_orderEnds_16 n x p (k : Int) M = some (e_end (A 122 3) (e_pl A) (e_X A c) l p x, M) := by
  obtain ⟨-, -, -, -, -, ws, -⟩ := h.2.2.2.1
  intro l
  induction l with
  | nil =>
    intro n k p x hk hn _ _ _ _
    cases n with
    | zero => cases hn
    | succ n =>
      simp at hk
      rw [fX12_orderEnds_16, h59, n_w (by omega) (by omega), n_w (by omega) (by omega), if_neg (by omega), e_end]
  | cons s l ih =>
    intro n k p x hk hn h135 hl hp hx
    cases n with
    | zero => cases hn
    | succ n =>
      simp only [List.length_cons] at hk hn h135
      have hs := hl s List.mem_cons_self
      have hw := (ws s (by omega)).1
      have e0 := h135 0 (by omega)
      rw [Nat.add_zero] at e0
      have hpl := r_place (k_of h) (s := s) (by omega)
      have hft : e_ft (A 122 3) (e_pl A) (e_X A c) p x s = if A 122 3 < x + (if 0 ≤ A 125 (24 + 4 * s) - p then A 125 (24 + 4 * s) - p else -(A 125 (24 + 4 * s) - p)) then -1 else e_X A c s (x + (if 0 ≤ A 125 (24 + 4 * s) - p then A 125 (24 + 4 * s) - p else -(A 125 (24 + 4 * s) - p))) := rfl
      rw [fX12_orderEnds_16, h59, n_w (by omega) (by omega), n_w (by omega) (by omega), if_pos (by omega), b_ld (by omega) (by omega) (by decide), Option.bind_some, Int.toNat_natCast, e0, List.getD_cons_zero, hpl, b_some, r_apart hp hw, b_some, q_le, hpl, b_some, r_fm h, b_some, e_end]
      have hwb : 0 ≤ (if 0 ≤ A 125 (24 + 4 * s) - p then A 125 (24 + 4 * s) - p else -(A 125 (24 + 4 * s) - p)) ∧ (if 0 ≤ A 125 (24 + 4 * s) - p then A 125 (24 + 4 * s) - p else -(A 125 (24 + 4 * s) - p)) ≤ 99 := by
        by_cases c2 : 0 ≤ A 125 (24 + 4 * s) - p
        · rw [if_pos c2]; omega
        · rw [if_neg c2]; omega
      generalize (if 0 ≤ A 125 (24 + 4 * s) - p then A 125 (24 + 4 * s) - p else -(A 125 (24 + 4 * s) - p)) = w at hwb hft ⊢
      rw [n_w (by omega) (by omega), n_w (by omega) (by omega)]
      by_cases c1 : A 122 3 < x + w
      · rw [if_pos c1] at hft
        rw [if_pos c1, hft, if_pos rfl]
      · rw [if_neg c1] at hft
        obtain ⟨i, hi, hi2⟩ := nat_of' (x := x + w) (b := (F : Int)) ⟨by omega, by omega⟩
        rw [hi] at hft ⊢
        have hx2 := X_b A c s i (by omega)
        rw [if_neg (by omega), b_ld (by omega) (by omega) (by decide), Option.bind_some, show ((402 : Int) * (s : Int) + (i : Int)).toNat = 402 * s + i from by omega, hN s i hs (by omega), hft, n_w (by omega) (by omega), show q_w (-1) = -1 from rfl]
        by_cases c3 : e_X A c s (i : Int) = -1
        · rw [if_pos c3, if_pos c3]
        · rw [if_neg c3, if_neg c3, Option.bind_some, show (k : Int) + 1 = ((k + 1 : Nat) : Int) from by omega]
          refine ih n (k + 1) _ _ (by omega) (by omega) ?_ (fun s' hs' => hl s' (List.mem_cons_of_mem _ hs')) hw (by omega)
          intro j hj
          have := h135 (j + 1) (by omega)
          rw [List.getD_cons_succ] at this
          rw [show k + 1 + j = k + (j + 1) from by omega]
          exact this
theorem n7_b {f : Nat → Int} : ∀ a, e_n7 f a ≤ a ∧ (e_n7 f a ≠ 0 → ¬ f (e_n7 f a) < f (e_n7 f a - 1)) := by
  intro a
  induction a with
  | zero => exact ⟨Nat.le_refl _, fun h => absurd rfl h⟩
  | succ a ih =>
    rw [e_n7]
    by_cases c : f (a + 1) < f a
    · rw [if_pos c]
      exact ⟨by omega, ih.2⟩
    · rw [if_neg c]
      exact ⟨Nat.le_refl _, fun _ => c⟩
def e_sm (f : Nat → Int) (m : Nat) : Prop := ∀ k, k < m → 0 ≤ f k ∧ f k ≤ 5
theorem r_no7 {M : q_Mem} {m : Nat} (hm : m ≤ 6) (hf : e_sm (M.2 135) m) : ∀ (n k : Nat), k < m → k < n → fX12_isNextOrder_7 n ((k : Int) - 1) M = fX12_isNextOrder_34 ((e_n7 (M.2 135) k : Nat) - 1 : Int) M := by
  intro n
  induction n with
  | zero => intro k _ h; omega
  | succ n ih =>
    intro k hk hn
    rw [fX12_isNextOrder_7, n_w (by omega) (by omega)]
    cases k with
    | zero => rw [if_pos (by omega), e_n7]
    | succ k =>
      have h1 := hf k (by omega)
      have h2 := hf (k + 1) (by omega)
      rw [if_neg (by omega), show ((k + 1 : Nat) : Int) - 1 = (k : Int) from by omega, b_ld (by omega) (by omega) (by decide), Option.bind_some, b_ld (by omega) (by omega) (by decide), Option.bind_some, Int.toNat_natCast, show ((k : Int) + 1).toNat = k + 1 from by omega, n_w (by omega) (by omega), n_w (by omega) (by omega), e_n7]
      by_cases c : M.2 135 (k + 1) < M.2 135 k
      · rw [if_pos c, if_pos c, show (k : Int) + -1 = (k : Int) - 1 from by omega, ih k (by omega) (by omega)]
      · rw [if_neg c, if_neg c, show ((k + 1 : Nat) : Int) - 1 = (k : Int) from by omega]
theorem sw_rd {f : Nat → Int} {i j k : Nat} : e_sw f i j k = if k = j then f i else if k = i then f j else f k := rfl
theorem up_sw {M : q_Mem} {i j : Nat} : ∀ k, (q_up (q_up M 135 i (M.2 135 j)) 135 j (M.2 135 i)).2 135 k = e_sw (M.2 135) i j k := by
  intro k
  rw [up_rd, up_rd, sw_rd]
  by_cases c : k = j
  · rw [if_pos ⟨rfl, c⟩, if_pos c]
  · rw [if_neg (fun h => c h.2), if_neg c]
    by_cases c2 : k = i
    · rw [if_pos ⟨rfl, c2⟩, if_pos c2]
    · rw [if_neg (fun h => c2 h.2), if_neg c2]
theorem r_no107 {m : Nat} (hm : m ≤ 6) : ∀ (n v a b : Nat) (M : q_Mem), a ≤ 6 → b < m → b ≤ a + 2 * v → v < n → q_P (fX12_isNextOrder_107 n (a : Int) (b : Int) M) (fun r M' => r = 1 ∧ (∀ x y, x ≠ 135 → M'.2 x y = M.2 x y) ∧ ∀ k, M'.2 135 k = e_rev v (M.2 135) a b k) := by
  intro n
  induction n with
  | zero => intro v a b M _ _ _ h; omega
  | succ n ih =>
    intro v a b M ca hb hv hn
    rw [fX12_isNextOrder_107]
    rw [n_w (by omega) (by omega), n_w (by omega) (by omega)]
    by_cases c : a < b
    · cases v with
      | zero => omega
      | succ v =>
        rw [if_pos (by omega), b_ld (by omega) (by omega) (by decide), Option.bind_some, b_ld (by omega) (by omega) (by decide), Option.bind_some, b_sto (by omega) (by omega) (by decide), Option.bind_some, b_sto (by omega) (by omega) (by decide), Option.bind_some, Int.toNat_natCast, Int.toNat_natCast, show (a : Int) + 1 = ((a + 1 : Nat) : Int) from by omega, show (b : Int) + -1 = ((b - 1 : Nat) : Int) from by omega, e_rev, if_pos c]
        have hfun : (q_up (q_up M 135 a (M.2 135 b)) 135 b (M.2 135 a)).2 135 = e_sw (M.2 135) a b := funext up_sw
        have := ih v (a + 1) (b - 1) (q_up (q_up M 135 a (M.2 135 b)) 135 b (M.2 135 a)) (by omega) (by omega) (by omega) (by omega)
        rw [hfun] at this
        refine w_mono this ?_
        rintro r M' ⟨h1, h2, h3⟩
        exact ⟨h1, fun x y hx => by rw [h2 x y hx, up_ne (by omega), up_ne (by omega)], h3⟩
    · rw [if_neg (by omega)]
      refine w_some.mpr ⟨rfl, fun _ _ _ => rfl, ?_⟩
      intro k
      cases v with
      | zero => rfl
      | succ v => rw [e_rev, if_neg c]
theorem r_no47 {M : q_Mem} {m : Nat} (hm : m ≤ 6) (hf : e_sm (M.2 135) m) (h59 : M.2 94 59 = (m : Int)) {k : Nat} (hk : 1 ≤ k) (hkm : k < m) (hst : ¬ M.2 135 k < M.2 135 (k - 1)) : ∀ (n j : Nat), k ≤ j → j < m → j - k < n → q_P (fX12_isNextOrder_47 n ((k : Int) - 1) (j : Int) M) (fun r M' => r = 1 ∧ (∀ x y, x ≠ 135 → M'.2 x y = M.2 x y) ∧ ∀ i, M'.2 135 i = e_rev 6 (e_sw (M.2 135) (k - 1) (e_n47 (M.2 135) (M.2 135 (k - 1)) j)) k (m - 1) i) := by
  intro n
  induction n with
  | zero => intro j _ _ h; omega
  | succ n ih =>
    intro j hj hjm hn
    have f1 := hf j hjm
    have f2 := hf (k - 1) (by omega)
    obtain ⟨j', rfl⟩ : ∃ j', j = j' + 1 := ⟨j - 1, by omega⟩
    rw [fX12_isNextOrder_47, b_ld (by omega) (by omega) (by decide), Option.bind_some, b_ld (by omega) (by omega) (by decide), Option.bind_some, Int.toNat_natCast, show ((k : Int) - 1).toNat = k - 1 from by omega, n_w (by omega) (by omega), n_w (by omega) (by omega), e_n47]
    by_cases c : M.2 135 (j' + 1) < M.2 135 (k - 1)
    · rw [if_pos c, if_pos c, show ((j' + 1 : Nat) : Int) + -1 = (j' : Int) from by omega]
      refine ih j' ?_ (by omega) ?_
      · apply Classical.byContradiction
        intro hc
        have : k = j' + 1 := by omega
        rw [this] at hst
        rw [this] at c
        exact hst c
      · have : k ≠ j' + 1 := by
          intro h
          rw [h] at hst c
          exact hst c
        omega
    · rw [if_neg c, if_neg c, Option.bind_some, Option.bind_some, b_sto (by omega) (by omega) (by decide), Option.bind_some, b_sto (by omega) (by omega) (by decide), Option.bind_some, Int.toNat_natCast, show ((k : Int) - 1).toNat = k - 1 from by omega, q_le, q_le, up_ne (by omega), up_ne (by omega), h59, show (k : Int) - 1 + 1 = (k : Int) from by omega, show (m : Int) - 1 = ((m - 1 : Nat) : Int) from by omega]
      have hfun : (q_up (q_up M 135 (k - 1) (M.2 135 (j' + 1))) 135 (j' + 1) (M.2 135 (k - 1))).2 135 = e_sw (M.2 135) (k - 1) (j' + 1) := funext up_sw
      have := r_no107 (m := m) hm q_FU 6 k (m - 1) (q_up (q_up M 135 (k - 1) (M.2 135 (j' + 1))) 135 (j' + 1) (M.2 135 (k - 1))) (by omega) (by omega) (by omega) (by unfold q_FU; omega)
      rw [hfun] at this
      refine w_mono this ?_
      rintro r M' ⟨h1, h2, h3⟩
      exact ⟨h1, fun x y hx => by rw [h2 x y hx, up_ne (by omega), up_ne (by omega)], h3⟩
theorem n7_cg {f g : Nat → Int} : ∀ a, (∀ k, k ≤ a → f k = g k) → e_n7 f a = e_n7 g a := by
  intro a
  induction a with
  | zero => intro _; rfl
  | succ a ih => intro h; rw [e_n7, e_n7, h (a + 1) (by omega), h a (by omega), ih (fun k hk => h k (by omega))]
theorem n47_cg {f g : Nat → Int} {v : Int} : ∀ a, (∀ k, k ≤ a → f k = g k) → e_n47 f v a = e_n47 g v a := by
  intro a
  induction a with
  | zero => intro _; rfl
  | succ a ih => intro h; rw [e_n47, e_n47, h (a + 1) (by omega), ih (fun k hk => h k (by omega))]
theorem n47_le {f : Nat → Int} {v : Int} : ∀ a, e_n47 f v a ≤ a := by
  intro a
  induction a with
  | zero => exact Nat.le_refl _
  | succ a ih =>
    rw [e_n47]
    by_cases c : f (a + 1) < v
    · rw [if_pos c]; omega
    · rw [if_neg c]; omega
theorem sw_cg {f g : Nat → Int} {m i j : Nat} (hi : i < m) (hj : j < m) (h : ∀ k, k < m → f k = g k) : ∀ k, k < m → e_sw f i j k = e_sw g i j k := by
  intro k hk
  rw [sw_rd, sw_rd, h i hi, h j hj, h k hk]
theorem sw_sm {f : Nat → Int} {m i j : Nat} (hi : i < m) (hj : j < m) (h : e_sm f m) : e_sm (e_sw f i j) m := by
  intro k hk
  rw [sw_rd]
  by_cases c : k = j
  · rw [if_pos c]; exact h i hi
  · rw [if_neg c]
    by_cases c2 : k = i
    · rw [if_pos c2]; exact h j hj
    · rw [if_neg c2]; exact h k hk
theorem rev_cg {m : Nat} : ∀ (v a b : Nat) (f g : Nat → Int), b < m → (∀ k, k < m → f k = g k) → ∀ k, k < m → e_rev v f a b k = e_rev v g a b k := by
  intro v
  induction v with
  | zero => intro a b f g _ h k hk; exact h k hk
  | succ v ih =>
    intro a b f g hb h k hk
    rw [e_rev, e_rev]
    by_cases c : a < b
    · rw [if_pos c, if_pos c]
      exact ih (a + 1) (b - 1) _ _ (by omega) (sw_cg (by omega) hb h) k hk
    · rw [if_neg c, if_neg c]
      exact h k hk
theorem rev_sm {m : Nat} : ∀ (v a b : Nat) (f : Nat → Int), b < m → e_sm f m → e_sm (e_rev v f a b) m := by
  intro v
  induction v with
  | zero => intro a b f _ h; exact h
  | succ v ih =>
    intro a b f hb h
    rw [e_rev]
    by_cases c : a < b
    · rw [if_pos c]
      exact ih (a + 1) (b - 1) _ (by omega) (sw_sm (by omega) hb h)
    · rw [if_neg c]
      exact h
theorem r_nextL {M : q_Mem} {l : List Nat} (hm : l.length ≤ 6) (h59 : M.2 94 59 = (l.length : Int)) (h135 : ∀ j, j < l.length → M.2 135 j = ((l.getD j 0 : Nat) : Int)) (hl : ∀ j, j < l.length → l.getD j 0 ≤ 5) : q_P (fX12_isNextOrder M) (fun r M' => (∀ x y, x ≠ 135 → M'.2 x y = M.2 x y) ∧ (e_nl l = none → r = 0 ∧ ∀ j, M'.2 135 j = M.2 135 j) ∧ ∀ l', e_nl l = some l' → r = 1 ∧ l'.length = l.length ∧ ∀ j, j < l.length → M'.2 135 j = ((l'.getD j 0 : Nat) : Int)) := by
  have hsm : e_sm (M.2 135) l.length := fun k hk => by rw [h135 k hk]; have := hl k hk; omega
  have hfg : ∀ k, k < l.length → M.2 135 k = e_fl l k := fun k hk => h135 k hk
  unfold fX12_isNextOrder
  rw [q_le, h59]
  by_cases hm0 : l.length = 0
  · have e0 : e_nl l = none := by
      have : l = [] := List.length_eq_zero_iff.mp hm0
      rw [this]
      rfl
    rw [hm0, show q_FU = 99999 + 1 from rfl, fX12_isNextOrder_7, if_pos (by decide)]
    unfold fX12_isNextOrder_34
    rw [if_pos (by decide)]
    refine w_some.mpr ⟨fun _ _ _ => rfl, fun _ => ⟨rfl, fun _ => rfl⟩, fun l' h => ?_⟩
    rw [e0] at h
    cases h
  · have h7 := r_no7 (M := M) hm hsm q_FU (l.length - 1) (by omega) (by unfold q_FU; omega)
    rw [show ((l.length - 1 : Nat) : Int) - 1 = (l.length : Int) - 2 from by omega] at h7
    rw [h7]
    have ecg : e_n7 (M.2 135) (l.length - 1) = e_n7 (e_fl l) (l.length - 1) := n7_cg _ (fun k hk => hfg k (by omega))
    obtain ⟨b1, b2⟩ := n7_b (f := M.2 135) (l.length - 1)
    unfold fX12_isNextOrder_34
    have enl : e_nl l = (e_nx l.length (e_fl l)).map (fun g => (List.range l.length).map (fun k => (g k).toNat)) := rfl
    have enx : e_nx l.length (e_fl l) = if e_n7 (e_fl l) (l.length - 1) = 0 then none else some (e_rev 6 (e_sw (e_fl l) (e_n7 (e_fl l) (l.length - 1) - 1) (e_n47 (e_fl l) (e_fl l (e_n7 (e_fl l) (l.length - 1) - 1)) (l.length - 1))) (e_n7 (e_fl l) (l.length - 1)) (l.length - 1)) := rfl
    rw [← ecg] at enx
    generalize e_n7 (M.2 135) (l.length - 1) = k at b1 b2 enx ⊢
    rw [n_w (by omega) (by omega)]
    by_cases ck : k = 0
    · rw [if_pos ck] at enx
      rw [enx] at enl
      rw [if_pos (by omega)]
      refine w_some.mpr ⟨fun _ _ _ => rfl, fun _ => ⟨rfl, fun _ => rfl⟩, fun l' h => ?_⟩
      rw [enl] at h
      cases h
    · rw [if_neg ck] at enx
      rw [enx, Option.map_some] at enl
      rw [if_neg (by omega), q_le, h59, show (l.length : Int) - 1 = ((l.length - 1 : Nat) : Int) from by omega]
      have := r_no47 (M := M) hm hsm h59 (k := k) (by omega) (by omega) (b2 ck) q_FU (l.length - 1) (by omega) (by omega) (by unfold q_FU; omega)
      refine w_mono this ?_
      rintro r M' ⟨h1, h2, h3⟩
      refine ⟨h2, fun h => (by rw [enl] at h; cases h), fun l' h => ?_⟩
      rw [enl] at h
      cases h
      refine ⟨h1, by simp, ?_⟩
      intro j hj
      have ec : e_n47 (M.2 135) (M.2 135 (k - 1)) (l.length - 1) = e_n47 (e_fl l) (e_fl l (k - 1)) (l.length - 1) := by
        rw [hfg (k - 1) (by omega)]
        exact n47_cg _ (fun k hk => hfg k (by omega))
      have hle := n47_le (f := e_fl l) (v := e_fl l (k - 1)) (l.length - 1)
      rw [h3 j, ec, rev_cg (m := l.length) 6 k (l.length - 1) _ (e_sw (e_fl l) (k - 1) (e_n47 (e_fl l) (e_fl l (k - 1)) (l.length - 1))) (by omega) (sw_cg (by omega) (by omega) hfg) j hj]
      have hpos := rev_sm (m := l.length) 6 k (l.length - 1) (e_sw (e_fl l) (k - 1) (e_n47 (e_fl l) (e_fl l (k - 1)) (l.length - 1))) (by omega) (sw_sm (by omega) (by omega) (fun k hk => by rw [← hfg k hk]; exact hsm k hk)) j hj
      rw [List.getD_eq_getElem?_getD, List.getElem?_map, List.getElem?_range hj]
      show _ = (((e_rev 6 (e_sw (e_fl l) (k - 1) (e_n47 (e_fl l) (e_fl l (k - 1)) (l.length - 1))) k (l.length - 1) j).toNat : Nat) : Int)
      omega
