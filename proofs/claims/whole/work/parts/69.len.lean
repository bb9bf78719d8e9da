theorem val_vt {A : q_G} {w : Nat} {b : Bool} (h : q_tc w (s_codes A w) [] = some [b]) (c s m lg : Int) : (-1000000 ≤ s_val A w c s m lg ∧ s_val A w c s m lg ≤ 1000000) ∧ (b = true → s_val A w c s m lg = 0 ∨ s_val A w c s m lg = 1) := by
  have := ev_vt (env := s_env A c s m lg) (ofs := fun _ _ => 0) _ [] [b] [] h trivial
  obtain ⟨x, r, e, h1, h2, -⟩ := vt_1 this
  unfold s_val
  rw [e]
  exact ⟨h1, h2⟩
theorem len_b {t : Nat} {M : q_Mem} {L A : q_G} (h : q_J t M L A) {c : Nat} (hc : (c : Int) < A 123 4) (s m : Int) : 0 ≤ s_len A c s m ∧ s_len A c s m ≤ 999 := by
  obtain ⟨-, -, -, -, -, -, w6, -⟩ := h.2.2.2.1
  obtain ⟨v1, v2⟩ := w6 c hc
  unfold s_len
  by_cases h1 : A 128 2 = -1
  · rw [if_pos h1, show ((16 : Int) + 2 * (c : Int)).toNat = 16 + 2 * c from by omega]
    omega
  · rw [if_neg h1]
    simp only
    by_cases h2 : s_val A 0 c s m 0 < 0
    · rw [if_pos h2]; omega
    · rw [if_neg h2]
      by_cases h3 : 999 < s_val A 0 c s m 0
      · rw [if_pos h3]; omega
      · rw [if_neg h3]; omega
theorem shad_b {t : Nat} {M : q_Mem} {L A : q_G} (h : q_J t M L A) {c : Nat} (hc : (c : Int) < A 123 4) (s m : Int) : 0 ≤ s_shadow A c s m ∧ s_shadow A c s m ≤ 999 := by
  unfold s_shadow
  cases s_cloud A m with
  | true => rw [if_pos rfl]; exact ⟨by decide, by decide⟩
  | false => exact len_b h hc s m
theorem val0_lg {A : q_G} {b : Bool} (h : q_tc 0 (s_codes A 0) [] = some [b]) (c s m lg lg' : Int) : s_val A 0 c s m lg = s_val A 0 c s m lg' := by
  unfold s_val
  rw [ev_cong (w := 0) (env := s_env A c s m lg) (env' := s_env A c s m lg') (ofs := fun _ _ => 0) (ofs' := fun _ _ => 0) ?_ (fun h => by cases h) _ [] [b] [] h trivial]
  intro k h0 h7 hm
  have hk : k = 0 ∨ k = 1 ∨ k = 2 ∨ k = 3 := by
    unfold q_may at hm
    have := of_decide_eq_true hm
    omega
  rcases hk with rfl | rfl | rfl | rfl <;> rfl
theorem r_shadow {t : Nat} {M : q_Mem} {L A : q_G} (h : q_J t M L A) {c s : Nat} {m : Int} (hc : (c : Int) < A 123 4) (hs : (s : Int) < A 123 3) (hm : 0 ≤ m ∧ m ≤ 400) : q_P (fX12_shadowOf (c : Int) (s : Int) m M) (fun r M' => r = s_shadow A c s m ∧ q_J t M' L A) := by
  have hwf := h.2.2.2.1
  obtain ⟨-, -, ⟨w1, w2⟩, ⟨w3, w4⟩, -, w5, w6, -⟩ := hwf
  have hcd := h.2.2.1.2.2.2.2.2.2.2.2.2.2.2.2.1
  unfold fX12_shadowOf s_shadow
  rw [r_cloud h (by unfold q_R; omega), b_some, f_ite]
  cases hcl : s_cloud A m with
  | true =>
    rw [if_pos rfl, if_pos rfl]
    exact w_some.mpr ⟨rfl, h⟩
  | false =>
    rw [if_neg (by decide), if_neg (by decide), b_ld (by decide) (by decide) (by decide), Option.bind_some, show (2 : Int).toNat = 2 from rfl, h.2.1 128 2 rfl]
    have hcd0 := hcd
    rcases hcd with ⟨h1, h2⟩ | ⟨g1, g2, g3, g4, g5, g6, g7⟩
    · have e : s_len A c s m = A 126 (16 + 2 * c) := by
        unfold s_len
        rw [if_pos h1, show ((16 : Int) + 2 * (c : Int)).toNat = 16 + 2 * c from by omega]
      have h1' : A 128 2 = -1 := h1
      rw [h1', if_pos rfl, b_ld (by omega) (by omega) (by decide), Option.bind_some, show ((16 : Int) + 2 * (c : Int)).toNat = 16 + 2 * c from by omega, h.2.1 126 _ (decide_eq_true (by omega)), e]
      exact w_some.mpr ⟨rfl, h⟩
    · have hne : A 128 2 ≠ -1 := by
        have g1' : 0 ≤ A 128 2 := g1
        omega
      have hlt : A 128 2 ≤ 1600 := by
        have g1' : 0 ≤ A 128 2 := g1
        have g2' : A 129 2 ≤ 1600 := g2
        have g3' : L (t + 11) 1 = A 129 2 - A 128 2 := g3
        omega
      have g1' : 0 ≤ A 128 2 := g1
      rw [n_w (a := A 128 2) (by omega) (by omega), show q_w (-1) = -1 from rfl, if_neg hne]
      simp only [q_let]
      have hJ : q_J t (q_up (q_up M 94 50 (s : Int)) 94 51 m) L A := j_scr (j_scr h rfl rfl rfl) rfl rfl rfl
      refine w_call (r_tell hJ (w := 0) (c := c) (s := s) (m := m) (lg := 0) (by decide) hc hs hm rfl rfl (fun h => by cases h) hcd0 hne) ?_
      rintro v M' ⟨rfl, hJ'⟩
      obtain ⟨b1, -⟩ := val_vt g7 c s m 0
      have k1 := f_lc (a := s_val A 0 c s m 0) (b := 0) (by omega) (by omega) (by decide) (by decide)
      have k2 := f_lc (a := s_val A 0 c s m 0) (b := 999) (by omega) (by omega) (by decide) (by decide)
      have e : s_len A c s m = if s_val A 0 c s m 0 < 0 then 0 else if 999 < s_val A 0 c s m 0 then 999 else s_val A 0 c s m 0 := by
        unfold s_len
        rw [if_neg hne]
      rw [e]
      by_cases c1 : s_val A 0 c s m 0 < 0
      · rw [if_pos (k1.2.1.mpr c1), if_pos c1]
        exact w_some.mpr ⟨rfl, hJ'⟩
      · rw [if_neg (fun h => c1 (k1.2.1.mp h)), if_neg c1]
        by_cases c2 : 999 < s_val A 0 c s m 0
        · rw [if_pos (k2.1.mpr c2), if_pos c2]
          exact w_some.mpr ⟨rfl, hJ'⟩
        · rw [if_neg (fun h => c2 (k2.1.mp h)), if_neg c2]
          exact w_some.mpr ⟨rfl, hJ'⟩
theorem r_buys {t : Nat} {M : q_Mem} {L A : q_G} (h : q_J t M L A) {c s : Nat} {m : Int} (hc : (c : Int) < A 123 4) (hs : (s : Int) < A 123 3) (hm : 0 ≤ m ∧ m ≤ A 122 3) : q_P (fX12_doesBuy (c : Int) (s : Int) m M) (fun r M' => r = (if s_buys A c s m = true then 1 else 0) ∧ q_J t M' L A) := by
  have hwf := h.2.2.2.1
  obtain ⟨-, w0, ⟨w1, w2⟩, ⟨w3, w4⟩, -, w5, w6, -⟩ := hwf
  obtain ⟨-, -, u3, u4⟩ := w5 s hs
  have hcd := h.2.2.1.2.2.2.2.2.2.2.2.2.2.2.2.2
  have e27 : ((27 : Int) + 4 * (s : Int)).toNat = 27 + 4 * s := by omega
  have e26 : ((26 : Int) + 4 * (s : Int)).toNat = 26 + 4 * s := by omega
  have hlb := len_b h hc s m
  unfold fX12_doesBuy fX12_shutOf fX12_fairMinutes s_buys
  rw [b_ld (by omega) (by omega) (by decide), Option.bind_some, b_some, e27, h.2.1 125 _ (decide_eq_true (by omega)), n_w (by omega) (by omega), n_w (by omega) (by omega)]
  by_cases c1 : m < A 125 (27 + 4 * s)
  · rw [if_pos c1, b_ld (by decide) (by decide) (by decide), Option.bind_some, b_some, show (3 : Int).toNat = 3 from rfl, h.2.1 122 3 rfl, n_w (by omega) (by omega), if_neg (by omega), r_cloud h (by unfold q_R; omega), b_some, f_ite, decide_eq_true c1]
    cases hcl : s_cloud A m with
    | true =>
      rw [if_pos rfl]
      exact w_some.mpr ⟨rfl, h⟩
    | false =>
      rw [if_neg (by decide)]
      refine w_call (r_shadow h hc hs ⟨hm.1, by omega⟩) ?_
      rintro v M' ⟨rfl, hJ⟩
      have esh : s_shadow A c s m = s_len A c s m := by
        unfold s_shadow
        rw [hcl]
        rfl
      rw [esh]
      unfold fX12_priceOf s_pay
      rw [b_ld (by omega) (by omega) (by decide), Option.bind_some, b_some, e26, hJ.2.1 125 _ (decide_eq_true (by omega)), n_w (by omega) (by omega), n_w (by omega) (by omega)]
      by_cases c2 : s_len A c s m < A 125 (26 + 4 * s)
      · rw [if_pos c2, decide_eq_false (by omega)]
        exact w_some.mpr ⟨rfl, hJ⟩
      · rw [if_neg c2, decide_eq_true (by omega : A 125 (26 + 4 * s) ≤ s_len A c s m), b_ld (by decide) (by decide) (by decide), Option.bind_some, show (3 : Int).toNat = 3 from rfl, hJ.2.1 128 3 rfl]
        have hcd0 := hcd
        rcases hcd with ⟨h1, h2⟩ | ⟨g1, g2, g3, g4, g5, g6, g7⟩
        · have h1' : A 128 3 = -1 := h1
          rw [h1', if_pos rfl]
          exact w_some.mpr ⟨rfl, hJ⟩
        · have g1' : 0 ≤ A 128 3 := g1
          have g2' : A 129 3 ≤ 1600 := g2
          have g3' : L (t + 13) 1 = A 129 3 - A 128 3 := g3
          have hne : A 128 3 ≠ -1 := by omega
          rw [n_w (a := A 128 3) (by omega) (by omega), show q_w (-1) = -1 from rfl, if_neg hne, decide_eq_false hne]
          simp only [q_let]
          have hJ2 : q_J t (q_up (q_up (q_up M' 94 50 (s : Int)) 94 51 m) 94 52 (s_len A c s m)) L A := j_scr (j_scr (j_scr hJ rfl rfl rfl) rfl rfl rfl) rfl rfl rfl
          refine w_call (r_tell hJ2 (w := 1) (c := c) (s := s) (m := m) (lg := s_len A c s m) (by decide) hc hs ⟨hm.1, by omega⟩ rfl rfl (fun _ => ⟨rfl, hlb⟩) hcd0 hne) ?_
          rintro v M'' ⟨rfl, hJ'⟩
          obtain ⟨b1, -⟩ := val_vt g7 c s m (s_len A c s m)
          have k1 := f_lc (a := s_val A 1 c s m (s_len A c s m)) (b := 1) (by omega) (by omega) (by decide) (by decide)
          by_cases c3 : s_val A 1 c s m (s_len A c s m) = 1
          · rw [if_pos (k1.2.2.mpr c3), decide_eq_false (fun h => h c3)]
            exact w_some.mpr ⟨rfl, hJ'⟩
          · rw [if_neg (fun h => c3 (k1.2.2.mp h)), decide_eq_true c3]
            exact w_some.mpr ⟨rfl, hJ'⟩
  · rw [if_neg c1, decide_eq_false c1]
    exact w_some.mpr ⟨rfl, h⟩
theorem l_t {t i k : Nat} (h : t = 57 ∨ t = 72) (hi : i ≤ 14) : l_obs (t : Int) (t + i) k = true := by
  have hi' : i = 0 ∨ i = 1 ∨ i = 2 ∨ i = 3 ∨ i = 4 ∨ i = 5 ∨ i = 6 ∨ i = 7 ∨ i = 8 ∨ i = 9 ∨ i = 10 ∨ i = 11 ∨ i = 12 ∨ i = 13 ∨ i = 14 := by omega
  rcases h with rfl | rfl <;> rcases hi' with rfl | rfl | rfl | rfl | rfl | rfl | rfl | rfl | rfl | rfl | rfl | rfl | rfl | rfl | rfl <;> rfl
theorem j_t {t : Nat} {M : q_Mem} {L A : q_G} (h : q_J t M L A) : (t = 57 ∨ t = 72) ∧ L 0 11 = (t : Int) ∧ M.2 87 0 = (t : Int) ∧ M.2 0 11 = (t : Int) ∧ ∀ i k, i ≤ 14 → M.2 (t + i) k = L (t + i) k := by
  obtain ⟨f1, f2, f3, -⟩ := h.2.2.1
  have ht : t = 57 ∨ t = 72 := by
    rcases f1 with h | h
    · exact Or.inl h.1
    · exact Or.inr h.1
  refine ⟨ht, f2, ?_, ?_, ?_⟩
  · rw [h.1 87 0 rfl, f3]
  · rw [h.1 0 11 rfl, f2]
  · intro i k hi
    exact h.1 (t + i) k (by rw [f2]; exact l_t ht hi)
theorem fr_t {t : Nat} (h : t = 57 ∨ t = 72) : q_fr t 2 = t + 1 ∧ q_fr t 3 = t + 2 ∧ q_fr t 4 = t + 3 ∧ q_fr t 5 = t + 4 ∧ q_fr t 6 = t + 5 ∧ q_fr t 8 = t + 6 ∧ q_fr t 9 = t + 7 ∧ q_fr t 10 = t + 8 ∧ q_fr t 12 = t + 9 ∧ q_fr t 13 = t + 10 ∧ q_fr t 14 = t + 11 ∧ q_fr t 15 = t + 13 ∧ q_fr (t + 11) 0 = t + 12 ∧ q_fr (t + 13) 0 = t + 14 := by
  rcases h with rfl | rfl
  · decide
  · decide
theorem fq2 {t : Nat} (h : t = 57 ∨ t = 72) : q_fr t 2 = t + 1 := (fr_t h).1
theorem fq3 {t : Nat} (h : t = 57 ∨ t = 72) : q_fr t 3 = t + 2 := (fr_t h).2.1
theorem fq4 {t : Nat} (h : t = 57 ∨ t = 72) : q_fr t 4 = t + 3 := (fr_t h).2.2.1
theorem fq5 {t : Nat} (h : t = 57 ∨ t = 72) : q_fr t 5 = t + 4 := (fr_t h).2.2.2.1
theorem fq6 {t : Nat} (h : t = 57 ∨ t = 72) : q_fr t 6 = t + 5 := (fr_t h).2.2.2.2.1
theorem fq8 {t : Nat} (h : t = 57 ∨ t = 72) : q_fr t 8 = t + 6 := (fr_t h).2.2.2.2.2.1
theorem fq9 {t : Nat} (h : t = 57 ∨ t = 72) : q_fr t 9 = t + 7 := (fr_t h).2.2.2.2.2.2.1
theorem fq10 {t : Nat} (h : t = 57 ∨ t = 72) : q_fr t 10 = t + 8 := (fr_t h).2.2.2.2.2.2.2.1
theorem fq12 {t : Nat} (h : t = 57 ∨ t = 72) : q_fr t 12 = t + 9 := (fr_t h).2.2.2.2.2.2.2.2.1
theorem fq13 {t : Nat} (h : t = 57 ∨ t = 72) : q_fr t 13 = t + 10 := (fr_t h).2.2.2.2.2.2.2.2.2.1
theorem fq14 {t : Nat} (h : t = 57 ∨ t = 72) : q_fr t 14 = t + 11 := (fr_t h).2.2.2.2.2.2.2.2.2.2.1
theorem fq15 {t : Nat} (h : t = 57 ∨ t = 72) : q_fr t 15 = t + 13 := (fr_t h).2.2.2.2.2.2.2.2.2.2.2.1
theorem fqa {t : Nat} (h : t = 57 ∨ t = 72) : q_fr (t + 11) 0 = t + 12 := (fr_t h).2.2.2.2.2.2.2.2.2.2.2.2.1
theorem fqb {t : Nat} (h : t = 57 ∨ t = 72) : q_fr (t + 13) 0 = t + 14 := (fr_t h).2.2.2.2.2.2.2.2.2.2.2.2.2
