theorem c_cloudy {t : Nat} {M : q_Mem} {L A : q_G} (h : q_J t M L A) {m : Nat} (hm : m ≤ 400) : fX5_isCloudy (m : Int) M = some (if s_cloud A m = true then 1 else 0, M) := by
  unfold fX5_isCloudy
  have hd := h.2.2.2.2.1.2.2.2.2.2 m hm
  rw [n_w (by omega) (by omega), n_w (by decide) (by decide), if_neg (by omega), if_neg (by omega), b_ld (by omega) (by omega) (by decide), Option.bind_some, Int.toNat_natCast, h.1 89 m rfl, hd]
  cases s_cloud A m with
  | true => rw [if_pos rfl, if_pos (by decide)]
  | false => rw [if_neg (by decide), if_neg (by decide)]
theorem j_cell {t : Nat} {M : q_Mem} {L A : q_G} (h : q_J t M L A) {c s m : Nat} {v : Int} (hc : (c : Int) < A 123 4) (hs : (s : Int) < A 123 3) (hm : (m : Int) ≤ A 122 3) (hv : v = s_cell A c s m) : q_J t (q_up M 88 ((c * 6 + s) * 401 + m) v) L A := by
  obtain ⟨i1, i2, i3, i4, i5, i6, i7⟩ := h
  have w0 := i4.2.1
  have w1 := i4.2.2.1
  refine ⟨?_, ?_, i3, i4, i5, ?_, i7⟩
  · intro b j hb
    rw [up_ne]
    · exact i1 b j hb
    · rintro ⟨rfl, -⟩
      cases hb
  · intro b j hb
    rw [up_ne]
    · exact i2 b j hb
    · rintro ⟨rfl, -⟩
      cases hb
  · intro c' s' m' h1 h2 h3
    rw [up_rd]
    by_cases e : (c' * 6 + s') * 401 + m' = (c * 6 + s) * 401 + m
    · have e1 : c' = c ∧ s' = s ∧ m' = m := by omega
      obtain ⟨rfl, rfl, rfl⟩ := e1
      rw [if_pos ⟨rfl, rfl⟩]
      exact Or.inr hv
    · rw [if_neg (fun h => e h.2)]
      exact i6 c' s' m' h1 h2 h3
theorem cell_b {t : Nat} {M : q_Mem} {L A : q_G} (h : q_J t M L A) {c : Nat} (hc : (c : Int) < A 123 4) (s m : Int) : 0 ≤ s_cell A c s m ∧ s_cell A c s m ≤ 1999 ∧ s_cell A c s m / 2 = s_len A c s m ∧ s_cell A c s m % 2 = if s_pay A c s m = true then 1 else 0 := by
  have := len_b h hc s m
  unfold s_cell
  cases s_pay A c s m with
  | true => rw [if_pos rfl]; omega
  | false => rw [if_neg (by decide)]; omega
theorem k90 : q_fr 90 0 = 90 + 1 ∧ q_fr 90 11 = 90 + 2 ∧ q_fr 90 12 = 90 + 3 := by decide
theorem fqw {t w : Nat} (ht : t = 57 ∨ t = 72) (hw : w < 2) : q_fr (t + 11 + 2 * w) 0 = t + 11 + 2 * w + 1 := by
  have hw' : w = 0 ∨ w = 1 := by omega
  rcases hw' with rfl | rfl
  · exact fqa ht
  · exact fqb ht
theorem c_run {t : Nat} {M : q_Mem} {L A : q_G} (h : q_J t M L A) {w c s : Nat} {m lg : Int} (hw : w < 2) (hc : (c : Int) < A 123 4) (hs : (s : Int) < A 123 3) (hm : 0 ≤ m ∧ m ≤ 400) (h3 : M.2 90 3 = A 126 (16 + 2 * c)) (h4 : M.2 90 4 = A 126 (17 + 2 * c)) (h5 : M.2 90 5 = A 125 (25 + 4 * s)) (h6 : M.2 90 6 = m) (h7 : w = 1 → M.2 90 7 = lg ∧ 0 ≤ lg ∧ lg ≤ 999) (h8 : M.2 90 8 = A 125 (26 + 4 * s)) (hcd : r_code (L (t + 11 + 2 * w) 1) (L (t + 12 + 2 * w)) A w) (hne : L (t + 11 + 2 * w) 1 ≠ 0) : q_P (fX7_run 90 (t + 11 + 2 * w) M) (fun v M' => v = s_val A w c s m lg ∧ q_J t M' L A ∧ ∀ k, k ≠ 1 → M'.2 90 k = M.2 90 k) := by
  obtain ⟨ht, -, -, -, hL⟩ := j_t h
  obtain ⟨-, -, ⟨w1, w2⟩, ⟨w3, w4⟩, -, w5, w6, -⟩ := h.2.2.2.1
  obtain ⟨v1, v2⟩ := w6 c hc
  obtain ⟨-, u2, u3, -⟩ := w5 s hs
  rcases hcd with ⟨hcd1, hcd2⟩ | ⟨g1, g2, g3, g4, g5, g6, g7⟩
  · exact absurd hcd2 hne
  obtain ⟨l1, l2⟩ := s_codesL g1
  have e16 : ((16 : Int) + 2 * (c : Int)).toNat = 16 + 2 * c := by omega
  have e17 : ((17 : Int) + 2 * (c : Int)).toNat = 17 + 2 * c := by omega
  have e25 : ((25 : Int) + 4 * (s : Int)).toNat = 25 + 4 * s := by omega
  have e26 : ((26 : Int) + 4 * (s : Int)).toNat = 26 + 4 * s := by omega
  have henv : ∀ k, 0 ≤ k → k ≤ 7 → q_may w k = true → k_env 90 M k = s_env A c s m lg k ∧ -1000000 ≤ k_env 90 M k ∧ k_env 90 M k ≤ 1000000 := by
    intro k h0 hk hmay
    have hw' : w = 0 ∨ w = 1 := by omega
    have hk' : k = 0 ∨ k = 1 ∨ k = 2 ∨ k = 3 ∨ k = 4 ∨ k = 5 ∨ k = 6 ∨ k = 7 := by omega
    rcases hk' with rfl | rfl | rfl | rfl | rfl | rfl | rfl | rfl
    · have e : k_env 90 M 0 = M.2 90 3 := rfl
      have e' : s_env A c s m lg 0 = A 126 ((16 : Int) + 2 * (c : Int)).toNat := rfl
      rw [e, e', h3, e16]
      omega
    · have e : k_env 90 M 1 = M.2 90 4 := rfl
      have e' : s_env A c s m lg 1 = A 126 ((17 : Int) + 2 * (c : Int)).toNat := rfl
      rw [e, e', h4, e17]
      omega
    · have e : k_env 90 M 2 = M.2 90 5 := rfl
      have e' : s_env A c s m lg 2 = A 125 ((25 : Int) + 4 * (s : Int)).toNat := rfl
      rw [e, e', h5, e25]
      omega
    · have e : k_env 90 M 3 = M.2 90 6 := rfl
      have e' : s_env A c s m lg 3 = m := rfl
      rw [e, e', h6]
      omega
    · rcases hw' with rfl | rfl
      · cases hmay
      · obtain ⟨y1, y2, y3⟩ := h7 rfl
        have e : k_env 90 M 4 = M.2 90 7 := rfl
        have e' : s_env A c s m lg 4 = lg := rfl
        rw [e, e', y1]
        omega
    · have e : k_env 90 M 5 = M.2 90 8 := rfl
      have e' : s_env A c s m lg 5 = A 125 ((26 : Int) + 4 * (s : Int)).toNat := rfl
      rw [e, e', h8, e26]
      omega
    · rcases hw' with rfl | rfl <;> cases hmay
    · rcases hw' with rfl | rfl <;> cases hmay
  have := k_run (r := 90) (r1 := t + 11 + 2 * w) k90.1 k90.2.1 k90.2.2 (fqw ht hw) (by omega) (by omega) (by omega) (w := w) (cs := s_codes A w) (M0 := M) (by rw [show t + 11 + 2 * w = t + (11 + 2 * w) from by omega, hL _ _ (by omega), show t + (11 + 2 * w) = t + 11 + 2 * w from by omega, g3]; omega) (fun j hj => by rw [show t + 11 + 2 * w + 1 = t + (12 + 2 * w) from by omega, hL _ _ (by omega), show t + (12 + 2 * w) = t + 12 + 2 * w from by omega, g6 j (by omega), l2 j hj]) (by omega) (fun k h0 h7 hm => (henv k h0 h7 hm).2) (fun h => by omega) g7
  refine w_mono this ?_
  rintro v M' ⟨rfl, hf⟩
  refine ⟨?_, j_frame h ?_, fun k hk => hf 90 k (by omega)⟩
  · unfold s_val
    rw [ev_cong (w := w) (env := k_env 90 M) (env' := s_env A c s m lg) (ofs := k_ofs 90 M) (ofs' := fun _ _ => 0) (fun k h0 h7 hm => (henv k h0 h7 hm).1) (fun h => by omega) _ [] _ [] g7 trivial]
  · intro a k ha
    apply hf
    rintro (⟨rfl, rfl⟩ | rfl)
    · rcases ha with ha | ha | ha
      · cases ha
      · cases ha
      · omega
    · rcases ha with ha | ha | ha
      · cases ha
      · cases ha
      · omega
theorem c_274 {t : Nat} {M : q_Mem} {L A : q_G} (h : q_J t M L A) {c s m : Nat} {a b : Int} (hc : (c : Int) < A 123 4) (hs : (s : Int) < A 123 3) (hm : (m : Int) ≤ A 122 3) (hv : a + b = s_cell A c s m) {p : Int} (hp : p = ((((c : Int) * 6) + (s : Int)) * 401) + (m : Int)) : q_P (fX5_cellAt_274 p b a p M) (fun r M' => r = s_cell A c s m ∧ q_J t M' L A) := by
  have w0 := h.2.2.2.1.2.1
  have w1 := h.2.2.2.1.2.2.1
  have w3 := h.2.2.2.1.2.2.2.1
  have hpn : p.toNat = (c * 6 + s) * 401 + m := by omega
  unfold fX5_cellAt_274
  rw [b_sto (by omega) (by omega) (by decide), Option.bind_some, b_ld (by omega) (by omega) (by decide), Option.bind_some, up_rd, if_pos ⟨rfl, rfl⟩, hpn]
  exact w_some.mpr ⟨hv, j_cell h hc hs hm hv⟩
theorem c_cell {t : Nat} {M : q_Mem} {L A : q_G} (h : q_J t M L A) {c s m : Nat} (hc : (c : Int) < A 123 4) (hs : (s : Int) < A 123 3) (hm : (m : Int) ≤ A 122 3) : q_P (fX5_cellAt (c : Int) (s : Int) (m : Int) M) (fun r M' => r = s_cell A c s m ∧ q_J t M' L A) := by
  obtain ⟨ht, -, hT, -, hL⟩ := j_t h
  obtain ⟨-, w0, ⟨w1, w2⟩, ⟨w3, w4⟩, -, w5, w6, -⟩ := h.2.2.2.1
  obtain ⟨v1, v2⟩ := w6 c hc
  obtain ⟨-, u2, u3, -⟩ := w5 s hs
  obtain ⟨-, -, -, -, -, -, -, -, -, rs, rc, -, rk0, rk1⟩ := h.2.2.1
  obtain ⟨rc1, rc2, -⟩ := rc c hc
  obtain ⟨-, rs2, rs3, -, -⟩ := rs s hs
  have hlb := len_b h hc s m
  have hcb := cell_b h hc s m
  unfold fX5_cellAt
  simp only [q_let]
  have hp0 : (0 : Int) ≤ ((((c : Int) * 6) + (s : Int)) * 401) + (m : Int) := by omega
  have hp1 : ((((c : Int) * 6) + (s : Int)) * 401) + (m : Int) < 19248 := by omega
  have hpn : (((((c : Int) * 6) + (s : Int)) * 401) + (m : Int)).toNat = (c * 6 + s) * 401 + m := by omega
  generalize hp : ((((c : Int) * 6) + (s : Int)) * 401) + (m : Int) = p at hp0 hp1 hpn ⊢
  rw [n_w (a := p) (by omega) (by omega), if_neg (by omega), n_w (by decide) (by decide), if_pos (by omega), b_ld hp0 hp1 (by decide), Option.bind_some, hpn]
  rcases h.2.2.2.2.2.1 c s m hc hs hm with e | e
  · rw [e, if_pos rfl, hT, Int.toNat_natCast, fq9 ht]
    have ec : ∀ (M' : q_Mem), (∀ a k, a ≠ 90 → M'.2 a k = M.2 a k) → (∀ i k, i ≤ 14 → M'.2 (t + i) k = L (t + i) k) := fun M' hM i k hi => by
      rw [hM _ _ (by omega)]
      exact hL i k hi
    rw [b_ld (by omega) (by omega) (by decide), Option.bind_some, Int.toNat_natCast, hL 7 c (by decide), rc1]
    have hM1 : ∀ a k, a ≠ 90 → (q_up M 90 3 (A 126 (16 + 2 * c))).2 a k = M.2 a k := fun a k ha => up_ne (by omega)
    rw [show (q_up M 90 3 (A 126 (16 + 2 * c))).2 87 0 = M.2 87 0 from rfl, hT, Int.toNat_natCast, fq10 ht]
    rw [b_ld (by omega) (by omega) (by decide), Option.bind_some, Int.toNat_natCast, ec _ hM1 8 c (by decide), rc2]
    have hM2 : ∀ a k, a ≠ 90 → (q_up (q_up M 90 3 (A 126 (16 + 2 * c))) 90 4 (A 126 (17 + 2 * c))).2 a k = M.2 a k := fun a k ha => by rw [up_ne (by omega), hM1 a k ha]
    rw [hM2 87 0 (by decide), hT, Int.toNat_natCast, fq4 ht]
    rw [b_ld (by omega) (by omega) (by decide), Option.bind_some, Int.toNat_natCast, ec _ hM2 3 s (by decide), rs2]
    have hM4 : ∀ a k, a ≠ 90 → (q_up (q_up (q_up (q_up M 90 3 (A 126 (16 + 2 * c))) 90 4 (A 126 (17 + 2 * c))) 90 5 (A 125 (25 + 4 * s))) 90 6 (m : Int)).2 a k = M.2 a k := fun a k ha => by rw [up_ne (by omega), up_ne (by omega), hM2 a k ha]
    rw [hM4 87 0 (by decide), hT, Int.toNat_natCast, fq5 ht]
    rw [b_ld (by omega) (by omega) (by decide), Option.bind_some, Int.toNat_natCast, ec _ hM4 4 s (by decide), rs3]
    have hJ5 : q_J t (q_up (q_up (q_up (q_up (q_up M 90 3 (A 126 (16 + 2 * c))) 90 4 (A 126 (17 + 2 * c))) 90 5 (A 125 (25 + 4 * s))) 90 6 (m : Int)) 90 8 (A 125 (26 + 4 * s))) L A := j_scr (j_scr (j_scr (j_scr (j_scr h rfl rfl rfl) rfl rfl rfl) rfl rfl rfl) rfl rfl rfl) rfl rfl rfl
    have z3 : (q_up (q_up (q_up (q_up (q_up M 90 3 (A 126 (16 + 2 * c))) 90 4 (A 126 (17 + 2 * c))) 90 5 (A 125 (25 + 4 * s))) 90 6 (m : Int)) 90 8 (A 125 (26 + 4 * s))).2 90 3 = A 126 (16 + 2 * c) := rfl
    have z4 : (q_up (q_up (q_up (q_up (q_up M 90 3 (A 126 (16 + 2 * c))) 90 4 (A 126 (17 + 2 * c))) 90 5 (A 125 (25 + 4 * s))) 90 6 (m : Int)) 90 8 (A 125 (26 + 4 * s))).2 90 4 = A 126 (17 + 2 * c) := rfl
    have z5 : (q_up (q_up (q_up (q_up (q_up M 90 3 (A 126 (16 + 2 * c))) 90 4 (A 126 (17 + 2 * c))) 90 5 (A 125 (25 + 4 * s))) 90 6 (m : Int)) 90 8 (A 125 (26 + 4 * s))).2 90 5 = A 125 (25 + 4 * s) := rfl
    have z6 : (q_up (q_up (q_up (q_up (q_up M 90 3 (A 126 (16 + 2 * c))) 90 4 (A 126 (17 + 2 * c))) 90 5 (A 125 (25 + 4 * s))) 90 6 (m : Int)) 90 8 (A 125 (26 + 4 * s))).2 90 6 = (m : Int) := rfl
    have z8 : (q_up (q_up (q_up (q_up (q_up M 90 3 (A 126 (16 + 2 * c))) 90 4 (A 126 (17 + 2 * c))) 90 5 (A 125 (25 + 4 * s))) 90 6 (m : Int)) 90 8 (A 125 (26 + 4 * s))).2 90 8 = A 125 (26 + 4 * s) := rfl
    generalize q_up (q_up (q_up (q_up (q_up M 90 3 (A 126 (16 + 2 * c))) 90 4 (A 126 (17 + 2 * c))) 90 5 (A 125 (25 + 4 * s))) 90 6 (m : Int)) 90 8 (A 125 (26 + 4 * s)) = M5 at hJ5 z3 z4 z5 z6 z8 ⊢
    obtain ⟨-, -, hT5, -, hL5⟩ := j_t hJ5
    rw [hT5, Int.toNat_natCast, fq14 ht, hL5 11 1 (by decide), fq9 ht]
    have key : ∀ (s0 : Int) (M6 : q_Mem), q_J t M6 L A → (∀ k, k ≠ 1 → M6.2 90 k = M5.2 90 k) → q_R s0 → (if s0 < 0 then 0 else if 999 < s0 then 999 else s0) = s_len A c s m → q_P (fX5_cellAt_161 (s : Int) p s0 M6) (fun r M' => r = s_cell A c s m ∧ q_J t M' L A) := by
      intro s0 M6 hJ6 h90 hs0 hlen
      unfold q_R at hs0
      unfold fX5_cellAt_161
      have ex : q_max 0 (q_min 999 s0) = s_len A c s m := by
        rw [n_min (by decide) (by decide) (by omega) (by omega), ← hlen]
        by_cases c1 : s0 < 0
        · rw [if_pos (by omega), if_pos c1, n_max (by decide) (by decide) (by omega) (by omega), if_neg (by omega)]
        · rw [if_neg c1]
          by_cases c2 : 999 < s0
          · rw [if_neg (by omega), if_pos c2, n_max (by decide) (by decide) (by omega) (by omega), if_pos (by omega)]
          · rw [if_neg c2]
            by_cases c3 : s0 < 999
            · rw [if_pos c3, n_max (by decide) (by decide) (by omega) (by omega)]
              by_cases c4 : 0 < s0
              · rw [if_pos c4]
              · rw [if_neg c4]; omega
            · rw [if_neg c3, n_max (by decide) (by decide) (by omega) (by omega), if_pos (by omega)]
              omega
      simp only [q_let]
      rw [ex]
      have hJ7 : q_J t (q_up M6 90 7 (s_len A c s m)) L A := j_scr hJ6 rfl rfl rfl
      have y3 : (q_up M6 90 7 (s_len A c s m)).2 90 3 = A 126 (16 + 2 * c) := by rw [up_ne (by omega), h90 3 (by decide), z3]
      have y4 : (q_up M6 90 7 (s_len A c s m)).2 90 4 = A 126 (17 + 2 * c) := by rw [up_ne (by omega), h90 4 (by decide), z4]
      have y5 : (q_up M6 90 7 (s_len A c s m)).2 90 5 = A 125 (25 + 4 * s) := by rw [up_ne (by omega), h90 5 (by decide), z5]
      have y6 : (q_up M6 90 7 (s_len A c s m)).2 90 6 = (m : Int) := by rw [up_ne (by omega), h90 6 (by decide), z6]
      have y8 : (q_up M6 90 7 (s_len A c s m)).2 90 8 = A 125 (26 + 4 * s) := by rw [up_ne (by omega), h90 8 (by decide), z8]
      have y7 : (q_up M6 90 7 (s_len A c s m)).2 90 7 = s_len A c s m := rfl
      generalize q_up M6 90 7 (s_len A c s m) = M7 at hJ7 y3 y4 y5 y6 y7 y8 ⊢
      obtain ⟨-, -, hT7, -, hL7⟩ := j_t hJ7
      rw [hT7, Int.toNat_natCast, fq5 ht, b_ld (by omega) (by omega) (by decide), Option.bind_some, Int.toNat_natCast, hL7 4 s (by decide), rs3, n_w (by omega) (by omega), n_w (by omega) (by omega)]
      have e26 : ((26 : Int) + 4 * (s : Int)).toNat = 26 + 4 * s := by omega
      unfold fX5_cellAt_205 fX5_cellAt_246 fX5_cellAt_247 fX5_cellAt_273
      by_cases c1 : s_len A c s m < A 125 (26 + 4 * s)
      · rw [if_pos c1, if_pos (by decide), if_pos (by decide)]
        refine c_274 hJ7 hc hs hm ?_ hp.symm
        unfold s_cell s_pay
        rw [e26, decide_eq_false (by omega : ¬ A 125 (26 + 4 * s) ≤ s_len A c s m)]
        rfl
      · rw [if_neg c1, if_neg (by decide)]
        simp only [q_let]
        rw [hT7, Int.toNat_natCast, fq15 ht, hL7 13 1 (by decide)]
        have hpay : s_pay A c s m = (decide (A 128 3 = -1) || decide (s_val A 1 c s m (s_len A c s m) ≠ 1)) := by
          unfold s_pay
          rw [e26, decide_eq_true (by omega : A 125 (26 + 4 * s) ≤ s_len A c s m), Bool.true_and]
        have rk1' := rk1
        rcases rk1 with ⟨g1, g2⟩ | ⟨g1, g2, g3, g4, g5, g6, g7⟩
        · rw [g2, if_neg (by decide), if_neg (by decide), if_pos (by decide)]
          refine c_274 hJ7 hc hs hm ?_ hp.symm
          unfold s_cell
          have g1' : A 128 3 = -1 := g1
          rw [hpay, decide_eq_true g1', Bool.true_or, if_pos rfl]
        · have g1' : 0 ≤ A 128 3 := g1
          rw [n_w (by omega) (by omega), if_pos (by omega)]
          refine w_call (c_run hJ7 (w := 1) (c := c) (s := s) (m := (m : Int)) (lg := s_len A c s m) (by decide) hc hs (by omega) y3 y4 y5 y6 (fun _ => ⟨y7, hlb⟩) y8 rk1' (by show L (t + 13) 1 ≠ 0; omega)) ?_
          rintro v M8 ⟨rfl, hJ8, -⟩
          obtain ⟨b1, b2⟩ := val_vt g7 c s m (s_len A c s m)
          have b3 := b2 rfl
          rw [n_w (a := s_val A 1 c s m (s_len A c s m)) (by omega) (by omega)]
          by_cases c2 : s_val A 1 c s m (s_len A c s m) = 0
          · rw [if_pos c2, if_neg (by decide), if_pos (by decide)]
            refine c_274 hJ8 hc hs hm ?_ hp.symm
            unfold s_cell
            rw [hpay, decide_eq_true (show s_val A 1 c s m (s_len A c s m) ≠ 1 by omega), Bool.or_true, if_pos rfl]
          · rw [if_neg c2, if_neg (by decide), if_neg (by decide)]
            refine c_274 hJ8 hc hs hm ?_ hp.symm
            unfold s_cell
            rw [hpay, decide_eq_false (show ¬ s_val A 1 c s m (s_len A c s m) ≠ 1 by omega), decide_eq_false (show ¬ A 128 3 = -1 by omega)]
            rfl
    have rk0' := rk0
    rcases rk0 with ⟨g1, g2⟩ | ⟨g1, g2, g3, g4, g5, g6, g7⟩
    · rw [g2, if_pos (by decide), b_ld (by omega) (by omega) (by decide), Option.bind_some, Int.toNat_natCast, hL5 7 c (by decide), rc1]
      refine key _ M5 hJ5 (fun k _ => rfl) (by unfold q_R; omega) ?_
      unfold s_len
      have g1' : A 128 2 = -1 := g1
      rw [if_pos g1', if_neg (by omega), if_neg (by omega), show ((16 : Int) + 2 * (c : Int)).toNat = 16 + 2 * c from by omega]
    · have g1' : 0 ≤ A 128 2 := g1
      rw [n_w (by omega) (by omega), if_neg (by omega)]
      refine w_call (c_run hJ5 (w := 0) (c := c) (s := s) (m := (m : Int)) (lg := 0) (by decide) hc hs (by omega) z3 z4 z5 z6 (fun h => by cases h) z8 rk0' (by show L (t + 11) 1 ≠ 0; omega)) ?_
      rintro v M6 ⟨rfl, hJ6, h90⟩
      obtain ⟨b1, -⟩ := val_vt g7 c s m 0
      refine key _ M6 hJ6 h90 (by unfold q_R; omega) ?_
      unfold s_len
      rw [if_neg (show ¬ A 128 2 = -1 by omega)]
  · rw [e, n_w (a := s_cell A c s m) (by omega) (by omega), if_neg (show ¬ s_cell A c s m = q_w (-1) by rw [show q_w (-1) = -1 from rfl]; omega)]
    simp only [Option.bind_some]
    exact w_some.mpr ⟨rfl, h⟩
