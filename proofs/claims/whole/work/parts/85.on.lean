/-! on -/
def s_imP (A : q_G) : Bool := decide (256 * A 95 0 + A 95 1 ≤ A 122 3) && (decide (A 95 2 ≤ 99) && decide (A 95 3 < 2 ^ (A 123 3).toNat))
def s_imQ (A : q_G) (k : Nat) : Bool := decide (256 * A 95 (5 + 2 * k) + A 95 (6 + 2 * k) ≤ A 122 3)
def s_im (A : q_G) (N : Nat) : Bool := decide (A 94 47 = 1) && (decide (6 ≤ N) && (decide ((N : Int) = 6 + 2 * A 95 4) && (decide (A 95 (N - 1) = s_cks (A 95) (N - 1) 0 167) && (decide (A 95 4 + A 123 5 ≤ 16) && ((List.range (A 95 4).toNat).all (s_imQ A) && s_imP A)))))
theorem im_iff {A : q_G} {N : Nat} : s_im A N = true ↔ A 94 47 = 1 ∧ 6 ≤ N ∧ (N : Int) = 6 + 2 * A 95 4 ∧ A 95 (N - 1) = s_cks (A 95) (N - 1) 0 167 ∧ A 95 4 + A 123 5 ≤ 16 ∧ (List.range (A 95 4).toNat).all (s_imQ A) = true ∧ 256 * A 95 0 + A 95 1 ≤ A 122 3 ∧ A 95 2 ≤ 99 ∧ A 95 3 < 2 ^ (A 123 3).toNat := by
  unfold s_im s_imP
  simp only [Bool.and_eq_true, decide_eq_true_eq]
theorem p_two6 {C : Int} (h : 0 ≤ C ∧ C ≤ 6) : q_shl 1 C = 2 ^ C.toNat ∧ (2 : Int) ^ C.toNat ≤ 64 ∧ (0 : Int) < 2 ^ C.toNat := by
  obtain ⟨n, rfl⟩ := Int.eq_ofNat_of_zero_le h.1
  have hn : n = 0 ∨ n = 1 ∨ n = 2 ∨ n = 3 ∨ n = 4 ∨ n = 5 ∨ n = 6 := by omega
  rcases hn with rfl | rfl | rfl | rfl | rfl | rfl | rfl <;> decide
theorem c_im81 {t : Nat} {M : q_Mem} {L A : q_G} (h : q_J t M L A) {N D : Nat} (hN : N ≤ 1600) (hND : N = 6 + 2 * D) (h1 : M.2 1 1 = (N : Int)) (h2 : ∀ k, M.2 2 k = A 95 k) (hf : ∀ k, 0 ≤ A 95 k ∧ A 95 k ≤ 255) : ∀ (n k : Nat), k ≤ D → D - k < n → fX11_isImage_81 n (D : Int) (k : Int) M = some (if ((((List.range D).drop k).all (s_imQ A)) && s_imP A) = true then 1 else 0, M) := by
  have w := j_wf h
  have jf := j_f h
  obtain ⟨p1, p2, p3⟩ := p_two6 w.2.1
  intro n
  induction n with
  | zero => intro k _ h; omega
  | succ n ih =>
    intro k hk hn
    rw [fX11_isImage_81, n_w (by omega) (by omega), n_w (by omega) (by omega)]
    by_cases c : k < D
    · have g1 := hf (5 + 2 * k)
      have g2 := hf (5 + 2 * k + 1)
      rw [if_pos (by omega), show (5 : Int) + 2 * (k : Int) = ((5 + 2 * k : Nat) : Int) from by omega, c_two1 hN h1 h2 hf (by omega), b_some, q_le, j_told h, jf.1, n_w (by omega) (by omega), n_w (by omega) (by omega), rng_drop c, List.all_cons]
      have e6 : 5 + 2 * k + 1 = 6 + 2 * k := by omega
      rw [e6] at g2 ⊢
      unfold s_imQ
      by_cases c1 : 256 * A 95 (5 + 2 * k) + A 95 (6 + 2 * k) ≤ A 122 3
      · rw [if_neg (by omega), decide_eq_true c1, Bool.true_and, show (k : Int) + 1 = ((k + 1 : Nat) : Int) from by omega, ih (k + 1) (by omega) (by omega)]
        rfl
      · rw [if_pos (by omega), decide_eq_false c1]
        rfl
    · have g0 := hf 0
      have g1 := hf 1
      have g2 := hf 2
      have g3 := hf 3
      rw [if_neg (by omega), List.drop_eq_nil_of_le (by simp; omega), List.all_nil, Bool.true_and]
      unfold s_imP
      have e0 := c_two1 (k := 0) hN h1 h2 hf (by omega)
      have e2 := c_at1 (k := 2) hN h1 h2 (by omega)
      have e3 := c_at1 (k := 3) hN h1 h2 (by omega)
      rw [show ((0 : Nat) : Int) = 0 from rfl] at e0
      rw [show ((2 : Nat) : Int) = 2 from rfl] at e2
      rw [show ((3 : Nat) : Int) = 3 from rfl] at e3
      rw [e0, b_some, q_le, j_told h, jf.1, show 0 + 1 = 1 from rfl, n_w (by omega) (by omega), n_w (by omega) (by omega)]
      by_cases c1 : 256 * A 95 0 + A 95 1 ≤ A 122 3
      · rw [if_neg (by omega), decide_eq_true c1, Bool.true_and, e2, b_some, show q_w 99 = 99 from rfl, n_w (by omega) (by omega)]
        by_cases c2 : A 95 2 ≤ 99
        · rw [if_neg (by omega), decide_eq_true c2, Bool.true_and, e3, b_some, q_le, j_told h, jf.2.1, p1, n_w (by omega) (by omega), n_w (by omega) (by omega)]
          by_cases c3 : A 95 3 < 2 ^ (A 123 3).toNat
          · rw [if_pos c3, decide_eq_true c3]
            rfl
          · rw [if_neg c3, decide_eq_false c3]
            rfl
        · rw [if_pos (by omega), decide_eq_false c2]
          rfl
      · rw [if_pos (by omega), decide_eq_false c1]
        rfl
theorem c_img {t : Nat} {M : q_Mem} {L A : q_G} (h : q_J t M L A) (hfair : A 94 47 = 1) {N : Nat} (hN : N ≤ 1600) (h1 : M.2 1 1 = (N : Int)) (h2 : ∀ k, M.2 2 k = A 95 k) (hf : ∀ k, 0 ≤ A 95 k ∧ A 95 k ≤ 255) : fX11_isImage M = some (if s_im A N = true then 1 else 0, M) := by
  have w := j_wf h
  have jf := j_f h
  have g4 := hf 4
  unfold fX11_isImage
  have e4 : fX10_at 1 4 M = some (if 4 < N then A 95 4 else -1, M) := by
    rw [f_at (by unfold q_R; omega) (by unfold q_R; omega) (by rfl) 1600 (by rfl) (by decide)]
    by_cases c : 4 < N
    · rw [if_pos (by omega), if_pos c, h2]; rfl
    · rw [if_neg (by omega), if_neg c]
  rw [e4, b_some]
  by_cases c0 : 4 < N
  · rw [if_pos c0, n_w (a := A 95 4) (by omega) (by omega), show q_w (-1) = -1 from rfl, if_neg (by omega)]
    unfold fX1_imageLength
    rw [b_some, h1, n_w (a := (N : Int)) (by omega) (by omega), n_w (by omega) (by omega)]
    by_cases c1 : (N : Int) = 6 + 2 * A 95 4
    · rw [if_pos (by omega), q_le, j_told h, jf.2.2.2.1, show q_w 16 = 16 from rfl, n_w (by omega) (by omega)]
      by_cases c2 : A 95 4 + A 123 5 ≤ 16
      · obtain ⟨D, hD, hD2⟩ := nat_of' (x := A 95 4) (b := 16) ⟨by omega, by omega⟩
        have ea := c_at1 (k := N - 1) hN h1 h2 (by omega)
        have eb := c_chk (r0 := 1) (cap := 1600) (by rfl) (by rfl) (by decide) (M := M) (len := N) (N := N - 1) h1 (by omega) hN (fun j hj => by show 0 ≤ M.2 2 j ∧ M.2 2 j ≤ 255; rw [h2]; exact hf j) q_FU 0 167 (by omega) (by unfold q_FU; omega) (by decide)
        have ecg : s_cks (M.2 (1 + 1)) (N - 1 - 0) 0 167 = s_cks (A 95) (N - 1) 0 167 := chk_cg (N - 1) 0 167 (fun j _ _ => h2 j)
        rw [ecg] at eb
        have hcb := chk_b (A 95) (N - 1) 0 167 (by decide)
        have gn := hf (N - 1)
        rw [if_neg (by omega), show (N : Int) - 1 = ((N - 1 : Nat) : Int) from by omega, ea, b_some, h1, show (N : Int) - 1 = ((N - 1 : Nat) : Int) from by omega]
        unfold fX10_check
        rw [show fX10_check_6 1 q_FU ((N - 1 : Nat) : Int) 167 0 M = fX10_check_6 1 q_FU ((N - 1 : Nat) : Int) 167 ((0 : Nat) : Int) M from rfl, eb, b_some, n_w (by omega) (by omega), n_w (by omega) (by omega)]
        by_cases c3 : A 95 (N - 1) = s_cks (A 95) (N - 1) 0 167
        · have := c_im81 h hN (D := D) (by omega) h1 h2 hf q_FU 0 (by omega) (by unfold q_FU; omega)
          rw [if_pos c3, hD]
          rw [show ((0 : Nat) : Int) = 0 from rfl, List.drop_zero] at this
          rw [this]
          unfold s_im
          rw [decide_eq_true hfair, decide_eq_true (by omega : 6 ≤ N), decide_eq_true c1, decide_eq_true c3, decide_eq_true c2, hD, Int.toNat_natCast]
          rfl
        · rw [if_neg c3, if_neg (fun hh => c3 (im_iff.mp hh).2.2.2.1)]
      · rw [if_pos (by omega), if_neg (fun hh => c2 (im_iff.mp hh).2.2.2.2.1)]
    · rw [if_neg (by omega), if_neg (fun hh => c1 (im_iff.mp hh).2.2.1)]
  · rw [if_neg c0, if_pos rfl, if_neg (fun hh => by have := (im_iff.mp hh).2.1; omega)]
theorem r_im123 {t : Nat} {M : q_Mem} {L A : q_G} (h : q_K t M L A) {D : Nat} (hD : A 95 4 = (D : Int)) (hD2 : D ≤ 16) (h2 : ∀ k, M.2 95 k = A 95 k) (hf : ∀ k, 0 ≤ A 95 k ∧ A 95 k ≤ 255) : ∀ (n k : Nat), k ≤ D → D - k < n → fX12_isImage_123 n (k : Int) M = some (if ((List.range D).drop k).all (s_imQ A) = true then 1 else 0, M) := by
  have w := y_j_wf h
  intro n
  induction n with
  | zero => intro k _ h; omega
  | succ n ih =>
    intro k hk hn
    rw [fX12_isImage_123, b_ld (by decide) (by decide) (by decide), Option.bind_some, show (4 : Int).toNat = 4 from rfl, h2, hD, n_w (by omega) (by omega), n_w (by omega) (by omega)]
    by_cases c : k < D
    · have g1 := hf (5 + 2 * k)
      have g2 := hf (6 + 2 * k)
      rw [if_pos (by omega), b_ld (by omega) (by omega) (by decide), Option.bind_some, b_ld (by omega) (by omega) (by decide), Option.bind_some, show ((5 : Int) + 2 * (k : Int)).toNat = 5 + 2 * k from by omega, show ((6 : Int) + 2 * (k : Int)).toNat = 6 + 2 * k from by omega, h2, h2, y_r_fm h, b_some, n_w (by omega) (by omega), n_w (by omega) (by omega), rng_drop c, List.all_cons]
      unfold s_imQ
      by_cases c1 : 256 * A 95 (5 + 2 * k) + A 95 (6 + 2 * k) ≤ A 122 3
      · rw [if_neg (by omega), decide_eq_true c1, Bool.true_and, show (k : Int) + 1 = ((k + 1 : Nat) : Int) from by omega, ih (k + 1) (by omega) (by omega)]
        rfl
      · rw [if_pos (by omega), decide_eq_false c1]
        rfl
    · rw [if_neg (by omega), List.drop_eq_nil_of_le (by simp; omega)]
      rfl
theorem r_img {t : Nat} {M : q_Mem} {L A : q_G} (h : q_K t M L A) {N : Nat} (hN : N ≤ 1600) (h2 : ∀ k, M.2 95 k = A 95 k) (hf : ∀ k, 0 ≤ A 95 k ∧ A 95 k ≤ 255) : fX12_isImage (N : Int) M = some (if s_im A N = true then 1 else 0, M) := by
  have w := y_j_wf h
  have wf := y_j_fair h
  obtain ⟨p1, p2, p3⟩ := p_two6 w.2.1
  have g0 := hf 0
  have g1 := hf 1
  have g2 := hf 2
  have g3 := hf 3
  have g4 := hf 4
  unfold fX12_isImage
  rw [h.2.1 94 47 rfl]
  rcases wf with ⟨f1, -⟩ | ⟨f1, -⟩
  · rw [f1, if_pos (by decide), if_neg (fun hh => by have := (im_iff.mp hh).1; omega)]
  rw [f1, if_neg (by decide), n_w (a := (N : Int)) (by omega) (by omega), show q_w 6 = 6 from rfl]
  by_cases c0 : 6 ≤ N
  · rw [if_neg (by omega), b_ld (by decide) (by decide) (by decide), Option.bind_some, show (4 : Int).toNat = 4 from rfl, h2, n_w (by omega) (by omega)]
    by_cases c1 : (N : Int) = 6 + 2 * A 95 4
    · have eb := r_chk (r0 := 95) (cap := 1600) (by decide) (M := M) (N := N - 1) (by omega) (fun j hj => by rw [h2]; exact hf j) q_FU 0 167 (by omega) (by unfold q_FU; omega) (by decide)
      have ecg : s_cks (M.2 95) (N - 1 - 0) 0 167 = s_cks (A 95) (N - 1) 0 167 := chk_cg (N - 1) 0 167 (fun j _ _ => h2 j)
      rw [ecg] at eb
      have hcb := chk_b (A 95) (N - 1) 0 167 (by decide)
      have gn := hf (N - 1)
      rw [if_pos c1, b_ld (by omega) (by omega) (by decide), Option.bind_some, show (N : Int) - 1 = ((N - 1 : Nat) : Int) from by omega, Int.toNat_natCast, h2]
      unfold fX12_checked
      rw [show fX12_checked_6 95 1600 q_FU ((N - 1 : Nat) : Int) 167 0 M = fX12_checked_6 95 1600 q_FU ((N - 1 : Nat) : Int) 167 ((0 : Nat) : Int) M from rfl, eb, b_some, n_w (by omega) (by omega), n_w (by omega) (by omega)]
      by_cases c3 : A 95 (N - 1) = s_cks (A 95) (N - 1) 0 167
      · rw [if_pos c3, b_ld (by decide) (by decide) (by decide), Option.bind_some, b_ld (by decide) (by decide) (by decide), Option.bind_some, show (0 : Int).toNat = 0 from rfl, show (1 : Int).toNat = 1 from rfl, h2, h2, y_r_fm h, b_some, n_w (by omega) (by omega), n_w (by omega) (by omega)]
        by_cases c4 : 256 * A 95 0 + A 95 1 ≤ A 122 3
        · rw [if_neg (by omega), b_ld (by decide) (by decide) (by decide), Option.bind_some, show (2 : Int).toNat = 2 from rfl, h2, show q_w 99 = 99 from rfl, n_w (by omega) (by omega)]
          by_cases c5 : A 95 2 ≤ 99
          · rw [if_neg (by omega), b_ld (by decide) (by decide) (by decide), Option.bind_some, show (3 : Int).toNat = 3 from rfl, h2, y_r_sm h, b_some, p1, n_w (by omega) (by omega), n_w (by omega) (by omega)]
            by_cases c6 : A 95 3 < 2 ^ (A 123 3).toNat
            · rw [if_pos c6, b_ld (by decide) (by decide) (by decide), Option.bind_some, show (4 : Int).toNat = 4 from rfl, h2, b_ld (by decide) (by decide) (by decide), Option.bind_some, show (5 : Int).toNat = 5 from rfl, h.2.1 123 5 rfl, show q_w 16 = 16 from rfl, n_w (by omega) (by omega)]
              by_cases c2 : A 95 4 + A 123 5 ≤ 16
              · obtain ⟨D, hD, hD2⟩ := nat_of' (x := A 95 4) (b := 16) ⟨by omega, by omega⟩
                have := r_im123 h hD (by omega) h2 hf q_FU 0 (by omega) (by unfold q_FU; omega)
                rw [show ((0 : Nat) : Int) = 0 from rfl, List.drop_zero] at this
                rw [if_neg (by omega), this]
                unfold s_im s_imP
                rw [decide_eq_true f1, decide_eq_true c0, decide_eq_true c1, decide_eq_true c3, decide_eq_true c2, decide_eq_true c4, decide_eq_true c5, decide_eq_true c6, hD, Int.toNat_natCast]
                simp only [Bool.true_and, Bool.and_true]
              · rw [if_pos (by omega), if_neg (fun hh => c2 (im_iff.mp hh).2.2.2.2.1)]
            · rw [if_neg c6, if_neg (fun hh => c6 (im_iff.mp hh).2.2.2.2.2.2.2.2)]
          · rw [if_pos (by omega), if_neg (fun hh => c5 (im_iff.mp hh).2.2.2.2.2.2.2.1)]
        · rw [if_pos (by omega), if_neg (fun hh => c4 (im_iff.mp hh).2.2.2.2.2.2.1)]
      · rw [if_neg c3, if_neg (fun hh => c3 (im_iff.mp hh).2.2.2.1)]
    · rw [if_neg c1, if_neg (fun hh => c1 (im_iff.mp hh).2.2.1)]
  · rw [if_pos (by omega), if_neg (fun hh => c0 (im_iff.mp hh).2.1)]
theorem c_read43 {M0 : q_Mem} {f : Nat → Int} {N D : Nat} (hN : N ≤ 1600) (hND : N = 6 + 2 * D) (hD2 : D ≤ 16) (h1 : M0.2 1 1 = (N : Int)) (h2 : ∀ k, M0.2 2 k = f k) (hf : ∀ k, 0 ≤ f k ∧ f k ≤ 255) (hD : M0.2 10 3 = (D : Int)) : ∀ (n k : Nat) (M : q_Mem), k ≤ D → D - k < n → (∀ a j, a ≠ 11 → M.2 a j = M0.2 a j) → (∀ j, j < k → M.2 11 j = 256 * f (5 + 2 * j) + f (6 + 2 * j)) → q_P (fX1_read_43 1 n (k : Int) M) (fun _ M' => (∀ a j, a ≠ 11 → ¬ (a = 10 ∧ (j = 5 ∨ j = 10 ∨ j = 11)) → M'.2 a j = M0.2 a j) ∧ (∀ j, j < D → M'.2 11 j = 256 * f (5 + 2 * j) + f (6 + 2 * j)) ∧ M'.2 10 5 = 0 ∧ M'.2 10 10 = 0 ∧ M'.2 10 11 = 0) := by
  intro n
  induction n with
  | zero => intro k M _ h; omega
  | succ n ih =>
    intro k M hk hn g1 g2
    rw [fX1_read_43, g1 10 3 (by decide), hD, n_w (by omega) (by omega), n_w (by omega) (by omega)]
    by_cases c : k < D
    · rw [if_pos (by omega), show (5 : Int) + 2 * (k : Int) = ((5 + 2 * k : Nat) : Int) from by omega, c_two1 hN (by rw [g1 1 1 (by decide), h1]) (fun k => by rw [g1 2 k (by decide), h2]) hf (by omega), b_some, b_sto (by omega) (by omega) (by decide), Option.bind_some, Int.toNat_natCast, show (k : Int) + 1 = ((k + 1 : Nat) : Int) from by omega, show 5 + 2 * k + 1 = 6 + 2 * k from by omega]
      refine ih (k + 1) _ (by omega) (by omega) ?_ ?_
      · intro a j ha
        rw [up_ne (by omega)]
        exact g1 a j ha
      · intro j hj
        rw [up_rd]
        by_cases cj : j = k
        · rw [if_pos ⟨rfl, cj⟩, cj]
        · rw [if_neg (by omega)]
          exact g2 j (by omega)
    · rw [if_neg (by omega)]
      unfold fX1_forget
      rw [q_le, q_le, q_le, b_some]
      refine w_some.mpr ⟨?_, ?_, ?_, ?_, ?_⟩
      · intro a j ha hb
        rw [up_ne (by omega), up_ne (by omega), up_ne (by omega)]
        exact g1 a j ha
      · intro j hj
        rw [up_ne (by omega), up_ne (by omega), up_ne (by omega)]
        exact g2 j (by omega)
      · rw [up_ne (by omega), up_ne (by omega), up_rd, if_pos ⟨rfl, rfl⟩]
      · rw [up_rd, if_pos ⟨rfl, rfl⟩]
      · rw [up_ne (by omega), up_rd, if_pos ⟨rfl, rfl⟩]
theorem c_readM {M : q_Mem} {f : Nat → Int} {N D : Nat} (hN : N ≤ 1600) (hND : N = 6 + 2 * D) (hD2 : D ≤ 16) (h1 : M.2 1 1 = (N : Int)) (h2 : ∀ k, M.2 2 k = f k) (hf : ∀ k, 0 ≤ f k ∧ f k ≤ 255) (hD : f 4 = (D : Int)) : q_P (fX1_read 1 M) (fun _ M' => (∀ a j, a ≠ 11 → ¬ (a = 10 ∧ (j < 4 ∨ j = 5 ∨ j = 10 ∨ j = 11)) → M'.2 a j = M.2 a j) ∧ (∀ j, j < D → M'.2 11 j = 256 * f (5 + 2 * j) + f (6 + 2 * j)) ∧ M'.2 10 5 = 0 ∧ M'.2 10 10 = 0 ∧ M'.2 10 11 = 0 ∧ M'.2 10 0 = 256 * f 0 + f 1 ∧ M'.2 10 1 = f 2 ∧ M'.2 10 2 = f 3 ∧ M'.2 10 3 = (D : Int)) := by
  have g4 := hf 4
  unfold fX1_read
  have e0 := c_two1 (M := M) (k := 0) hN h1 h2 hf (by omega)
  rw [show ((0 : Nat) : Int) = 0 from rfl] at e0
  rw [e0, b_some, q_le, show 0 + 1 = 1 from rfl]
  have e2 := c_at1 (M := q_up M 10 0 (256 * f 0 + f 1)) (f := f) (k := 2) hN (by rw [up_ne (by omega), h1]) (fun k => by rw [up_ne (by omega), h2]) (by omega)
  rw [show ((2 : Nat) : Int) = 2 from rfl] at e2
  rw [e2, b_some, q_le]
  have e3 := c_at1 (M := q_up (q_up M 10 0 (256 * f 0 + f 1)) 10 1 (f 2)) (f := f) (k := 3) hN (by rw [up_ne (by omega), up_ne (by omega), h1]) (fun k => by rw [up_ne (by omega), up_ne (by omega), h2]) (by omega)
  rw [show ((3 : Nat) : Int) = 3 from rfl] at e3
  rw [e3, b_some, q_le]
  have e4 := c_at1 (M := q_up (q_up (q_up M 10 0 (256 * f 0 + f 1)) 10 1 (f 2)) 10 2 (f 3)) (f := f) (k := 4) hN (by rw [up_ne (by omega), up_ne (by omega), up_ne (by omega), h1]) (fun k => by rw [up_ne (by omega), up_ne (by omega), up_ne (by omega), h2]) (by omega)
  rw [show ((4 : Nat) : Int) = 4 from rfl] at e4
  rw [e4, b_some, q_le, hD, show q_min 16 (D : Int) = (D : Int) from by rw [n_min (by decide) (by decide) (by omega) (by omega)]; by_cases c : (D : Int) < 16; rw [if_pos c]; rw [if_neg c]; omega]
  have r := c_read43 (M0 := q_up (q_up (q_up (q_up M 10 0 (256 * f 0 + f 1)) 10 1 (f 2)) 10 2 (f 3)) 10 3 (D : Int)) (f := f) hN hND hD2 (by rw [up_ne (by omega), up_ne (by omega), up_ne (by omega), up_ne (by omega), h1]) (fun k => by rw [up_ne (by omega), up_ne (by omega), up_ne (by omega), up_ne (by omega), h2]) hf (by rw [up_rd, if_pos ⟨rfl, rfl⟩]) q_FU 0 _ (by omega) (by unfold q_FU; omega) (fun _ _ _ => rfl) (fun j hj => by omega)
  refine w_mono r ?_
  rintro _ M' ⟨x1, x2, x3, x4, x5⟩
  refine ⟨?_, x2, x3, x4, x5, ?_, ?_, ?_, ?_⟩
  · intro a j ha hb
    rw [x1 a j ha (by omega), up_ne (by omega), up_ne (by omega), up_ne (by omega), up_ne (by omega)]
  · rw [x1 10 0 (by decide) (by decide), up_ne (by omega), up_ne (by omega), up_ne (by omega), up_rd, if_pos ⟨rfl, rfl⟩]
  · rw [x1 10 1 (by decide) (by decide), up_ne (by omega), up_ne (by omega), up_rd, if_pos ⟨rfl, rfl⟩]
  · rw [x1 10 2 (by decide) (by decide), up_ne (by omega), up_rd, if_pos ⟨rfl, rfl⟩]
  · rw [x1 10 3 (by decide) (by decide), up_rd, if_pos ⟨rfl, rfl⟩]
theorem r_on82 {M0 : q_Mem} {f : Nat → Int} {D : Nat} (hD2 : D ≤ 16) (h2 : ∀ k, M0.2 95 k = f k) (hD : M0.2 131 3 = (D : Int)) : ∀ (n k : Nat) (M : q_Mem), k ≤ D → D - k < n → (∀ a j, ¬ (a = 131 ∧ 4 ≤ j ∧ j < 20) → M.2 a j = M0.2 a j) → (∀ j, j < k → M.2 131 (4 + j) = 256 * f (5 + 2 * j) + f (6 + 2 * j)) → q_P (fX12_on_82 n (k : Int) M) (fun r M' => r = 1 ∧ (∀ a j, ¬ (a = 131 ∧ 4 ≤ j ∧ j ≤ 20) → ¬ (a = 94 ∧ j = 65) → M'.2 a j = M0.2 a j) ∧ (∀ j, j < D → M'.2 131 (4 + j) = 256 * f (5 + 2 * j) + f (6 + 2 * j)) ∧ M'.2 131 20 = 0 ∧ M'.2 94 65 = 0) := by
  intro n
  induction n with
  | zero => intro k M _ h; omega
  | succ n ih =>
    intro k M hk hn g1 g2
    rw [fX12_on_82, b_ld (by decide) (by decide) (by decide), Option.bind_some, show (3 : Int).toNat = 3 from rfl, g1 131 3 (by omega), hD, n_w (by omega) (by omega), n_w (by omega) (by omega)]
    by_cases c : k < D
    · rw [if_pos (by omega), b_ld (by omega) (by omega) (by decide), Option.bind_some, b_ld (by omega) (by omega) (by decide), Option.bind_some, show ((5 : Int) + 2 * (k : Int)).toNat = 5 + 2 * k from by omega, show ((6 : Int) + 2 * (k : Int)).toNat = 6 + 2 * k from by omega, g1 95 _ (by omega), g1 95 _ (by omega), h2, h2, b_sto (by omega) (by omega) (by decide), Option.bind_some, show ((4 : Int) + (k : Int)).toNat = 4 + k from by omega, show (k : Int) + 1 = ((k + 1 : Nat) : Int) from by omega]
      refine ih (k + 1) _ (by omega) (by omega) ?_ ?_
      · intro a j ha
        rw [up_ne (by omega)]
        exact g1 a j ha
      · intro j hj
        rw [up_rd]
        by_cases cj : j = k
        · rw [if_pos ⟨rfl, by omega⟩, cj]
        · rw [if_neg (by omega)]
          exact g2 j (by omega)
    · rw [if_neg (by omega), b_sto (by decide) (by decide) (by decide), Option.bind_some, show (20 : Int).toNat = 20 from rfl, q_le]
      refine w_some.mpr ⟨rfl, ?_, ?_, ?_, ?_⟩
      · intro a j ha hb
        rw [up_ne (by omega), up_ne (by omega)]
        exact g1 a j (by omega)
      · intro j hj
        rw [up_ne (by omega), up_ne (by omega)]
        exact g2 j (by omega)
      · rw [up_ne (by omega), up_rd, if_pos ⟨rfl, rfl⟩]
      · rw [up_rd, if_pos ⟨rfl, rfl⟩]
theorem r_on55 {M : q_Mem} {f : Nat → Int} (n : Nat) (h2 : ∀ k, M.2 95 k = f k) : fX12_on_55 (n + 4) 1 M = fX12_on_82 q_FU 0 (q_up (q_up (q_up M 131 1 (f 2)) 131 2 (f 3)) 131 3 (f 4)) := by
  rw [fX12_on_55, if_pos (by decide), b_ld (by decide) (by decide) (by decide), Option.bind_some, b_sto (by decide) (by decide) (by decide), Option.bind_some, show ((1 : Int) + 1).toNat = 2 from rfl, show (1 : Int).toNat = 1 from rfl, h2, fX12_on_55, if_pos (by decide), b_ld (by decide) (by decide) (by decide), Option.bind_some, b_sto (by decide) (by decide) (by decide), Option.bind_some, show ((1 : Int) + 1 + 1).toNat = 3 from rfl, show ((1 : Int) + 1).toNat = 2 from rfl, up_ne (by omega), h2, fX12_on_55, if_pos (by decide), b_ld (by decide) (by decide) (by decide), Option.bind_some, b_sto (by decide) (by decide) (by decide), Option.bind_some, show ((1 : Int) + 1 + 1 + 1).toNat = 4 from rfl, show ((1 : Int) + 1 + 1).toNat = 3 from rfl, up_ne (by omega), up_ne (by omega), h2, fX12_on_55, if_neg (by decide)]
theorem st_on {M : q_Mem} (hS : q_St M) : q_Step M (fX11_on M) (fun M1 => fX12_on M1) := by
  obtain ⟨t, L, A, hI⟩ := id hS
  have w := j_wf hI.1
  have wf := j_fair hI.1
  have jf := j_f hI.1
  have jcl := j_cl hI.1
  obtain ⟨ht, -, hT, hT0, hL⟩ := j_t hI.1
  obtain ⟨N, hN, n1, n2, n3, n4, n5, n6⟩ := j_tape hI
  by_cases c : s_im A N = true
  · obtain ⟨d1, d2, d3, d4, d5, d6, d7, d8, d9⟩ := im_iff.mp c
    obtain ⟨D, hD, hD2⟩ := nat_of' (x := A 95 4) (b := 16) ⟨(n6 4).1, by omega⟩
    rw [hD, Int.toNat_natCast] at d6
    have hq : ∀ k, k < D → 256 * A 95 (5 + 2 * k) + A 95 (6 + 2 * k) ≤ A 122 3 := by
      intro k hk
      have := List.all_eq_true.mp d6 k (List.mem_range.mpr hk)
      unfold s_imQ at this
      exact of_decide_eq_true this
    obtain ⟨i1, i2, i3, i4⟩ := i_self hI
    have rg := i_rg hI
    obtain ⟨_, Ma, ea, a1, a2, a3, a4, a5, a6, a7, a8, a9⟩ := c_readM (M := M) (f := A 95) (N := N) (D := D) hN (by omega) (by omega) n2 n4 n6 hD
    have ac : ∀ a j, a ≠ 10 → a ≠ 11 → Ma.2 a j = M.2 a j := fun a j ha hb => a1 a j hb (by omega)
    have ct : ∀ i k, i ≤ 14 → Ma.2 (t + i) k = M.2 (t + i) k := fun i k hi => ac _ k (by omega) (by omega)
    have ct0 : Ma.2 t 11 = A 123 5 := by rw [ac t 11 (by omega) (by omega)]; exact jf.2.2.2.1
    have hv : ∀ k, k < D → 0 ≤ 256 * A 95 (5 + 2 * k) + A 95 (6 + 2 * k) ∧ 256 * A 95 (5 + 2 * k) + A 95 (6 + 2 * k) ≤ 400 := by
      intro k hk
      have h1 := hq k hk
      have h2 := n6 (5 + 2 * k)
      have h3 := n6 (6 + 2 * k)
      omega
    obtain ⟨_, Md, em, hm1, hm2⟩ := c_marks (M := Ma) ht (by rw [ac 87 0 (by decide) (by decide)]; exact hT) (by rw [ct0]; exact w.2.2.2) (fun k hk => by rw [ct0] at hk; rw [ct 9 k (by decide), ct 10 k (by decide), (jcl k hk).1.1, (jcl k hk).1.2]; exact (jcl k hk).2) (by rw [a9]; omega) (fun k hk => by rw [a9] at hk; rw [a2 k (by omega)]; exact hv k (by omega))
    have eM1 : fX11_on M = some (1, q_up Md 1 1 0) := by
      unfold fX11_on
      rw [q_le, j_told hI.1, jf.1, n_w (by omega) (by omega), if_pos (by omega), c_img hI.1 d1 hN n2 n4 n6, b_some, f_ite, if_pos c]
      unfold fX11_on_22
      rw [if_neg (by decide), ea, b_some, em, b_some]
      unfold fX11_on_58
      rw [q_le, if_pos (Or.inr rfl)]
    have c1 : ∀ a j, ¬ ((a = 1 ∧ j = 1) ∨ a = 10 ∨ a = 11 ∨ a = 89) → (q_up Md 1 1 0).2 a j = M.2 a j := fun a j ha => by rw [up_ne (by omega), hm1 a j (by omega), ac a j (by omega) (by omega)]
    have c10 : ∀ j, (q_up Md 1 1 0).2 10 j = Ma.2 10 j := fun j => by rw [up_ne (by omega), hm1 10 j (by decide)]
    have c11 : ∀ j, (q_up Md 1 1 0).2 11 j = Ma.2 11 j := fun j => by rw [up_ne (by omega), hm1 11 j (by decide)]
    have c89 : ∀ m : Nat, m ≤ 400 → (q_up Md 1 1 0).2 89 m = if s_mk Ma t m = true then 1 else 0 := fun m hm => by rw [up_ne (by omega), hm2 m hm]
    have c111 : (q_up Md 1 1 0).2 1 1 = 0 := by rw [up_rd, if_pos ⟨rfl, rfl⟩]
    generalize q_up Md 1 1 0 = M1 at eM1 c1 c10 c11 c89 c111
    have hK := k_tp (k_lt (k_of hI.1) (fun a k ha => c1 a k (by omega)) : q_K t M1 L A) 0
    have er := r_img hK hN (fun k => by rw [up_ne (by omega), c1 95 k (by omega), n5]; rfl) n6
    rw [show s_im (u_2 A 94 1 0) N = s_im A N from rfl, if_pos c] at er
    have h94 : M1.2 94 1 = (N : Int) := by rw [c1 94 1 (by omega), n3]
    have b95 : ∀ k, (q_up M1 94 1 0).2 95 k = A 95 k := fun k => by rw [up_ne (by omega), c1 95 k (by omega), n5]
    obtain ⟨B, hB⟩ : ∃ B, B = q_up (q_up (q_up (q_up (q_up M1 94 1 0) 131 0 (256 * A 95 0 + A 95 1)) 131 1 (A 95 2)) 131 2 (A 95 3)) 131 3 (A 95 4) := ⟨_, rfl⟩
    have hBo : ∀ a j, ¬ ((a = 94 ∧ j = 1) ∨ (a = 131 ∧ j < 4)) → B.2 a j = M1.2 a j := fun a j ha => by rw [hB, up_ne (by omega), up_ne (by omega), up_ne (by omega), up_ne (by omega), up_ne (by omega)]
    have hB0 : B.2 131 0 = 256 * A 95 0 + A 95 1 := by rw [hB, up_ne (by omega), up_ne (by omega), up_ne (by omega), up_rd, if_pos ⟨rfl, rfl⟩]
    have hB1 : B.2 131 1 = A 95 2 := by rw [hB, up_ne (by omega), up_ne (by omega), up_rd, if_pos ⟨rfl, rfl⟩]
    have hB2 : B.2 131 2 = A 95 3 := by rw [hB, up_ne (by omega), up_rd, if_pos ⟨rfl, rfl⟩]
    have hB3 : B.2 131 3 = (D : Int) := by rw [hB, up_rd, if_pos ⟨rfl, rfl⟩, hD]
    have hB94 : B.2 94 1 = 0 := by rw [hB, up_ne (by omega), up_ne (by omega), up_ne (by omega), up_ne (by omega), up_rd, if_pos ⟨rfl, rfl⟩]
    have er2 : fX12_on M1 = fX12_on_82 q_FU ((0 : Nat) : Int) B := by
      unfold fX12_on
      rw [q_le, q_le, h94, er, b_some, if_neg (by decide), b_ld (by decide) (by decide) (by decide), Option.bind_some, b_ld (by decide) (by decide) (by decide), Option.bind_some, show (0 : Int).toNat = 0 from rfl, show (1 : Int).toNat = 1 from rfl, b95, b95, b_sto (by decide) (by decide) (by decide), Option.bind_some, show (0 : Int).toNat = 0 from rfl, show q_FU = 99996 + 4 from rfl, r_on55 (f := A 95) 99996 (fun k => by rw [up_ne (by omega), b95]), hB]
      rfl
    obtain ⟨r2, M2, e2, hr2, b1, b2, b3, b4⟩ := r_on82 (M0 := B) (f := A 95) (D := D) (by omega) (fun k => by rw [hBo 95 k (by omega), c1 95 k (by omega), n5]) hB3 q_FU 0 B (by omega) (by unfold q_FU; omega) (fun _ _ _ => rfl) (fun j hj => by omega)
    refine ⟨1, M1, r2, M2, eM1, ?_, by rw [hr2], ?_⟩
    · show fX12_on M1 = _
      rw [er2, e2]
    · have o2 : ∀ a j, ¬ (a = 131 ∧ j ≤ 20) → ¬ (a = 94 ∧ (j = 65 ∨ j = 1)) → M2.2 a j = M1.2 a j := fun a j ha hb => by rw [b1 a j (by omega) (by omega), hBo a j (by omega)]
      obtain ⟨M', hM'⟩ : ∃ M', M' = q_up (q_up M2 1 1 (N : Int)) 94 1 (N : Int) := ⟨_, rfl⟩
      have hMo : ∀ a j, ¬ ((a = 1 ∧ j = 1) ∨ (a = 94 ∧ j = 1)) → M'.2 a j = M2.2 a j := fun a j ha => by rw [hM', up_ne (by omega), up_ne (by omega)]
      have hM1' : M'.2 1 1 = (N : Int) := by rw [hM', up_ne (by omega), up_rd, if_pos ⟨rfl, rfl⟩]
      have hM94 : M'.2 94 1 = (N : Int) := by rw [hM', up_rd, if_pos ⟨rfl, rfl⟩]
      have h0 : M'.2 131 0 = 256 * A 95 0 + A 95 1 := by rw [hMo 131 0 (by omega), b1 131 0 (by omega) (by omega), hB0]
      have h1 : M'.2 131 1 = A 95 2 := by rw [hMo 131 1 (by omega), b1 131 1 (by omega) (by omega), hB1]
      have h2 : M'.2 131 2 = A 95 3 := by rw [hMo 131 2 (by omega), b1 131 2 (by omega) (by omega), hB2]
      have h3 : M'.2 131 3 = (D : Int) := by rw [hMo 131 3 (by omega), b1 131 3 (by omega) (by omega), hB3]
      have h4 : ∀ k, k < D → M'.2 131 (4 + k) = 256 * A 95 (5 + 2 * k) + A 95 (6 + 2 * k) := fun k hk => by rw [hMo 131 _ (by omega), b2 k hk]
      have h20 : M'.2 131 20 = 0 := by rw [hMo 131 20 (by omega), b3]
      have h65 : M'.2 94 65 = 0 := by rw [hMo 94 65 (by omega), b4]
      have m10 : ∀ j, M'.2 10 j = Ma.2 10 j := fun j => by rw [hMo 10 j (by omega), o2 10 j (by omega) (by omega), c10]
      have m11 : ∀ j, M'.2 11 j = Ma.2 11 j := fun j => by rw [hMo 11 j (by omega), o2 11 j (by omega) (by omega), c11]
      have mo : ∀ a j, ¬ v_dc a j → M'.2 a j = M.2 a j := by
        intro a j ha
        unfold v_dc at ha
        by_cases x1 : a = 1 ∧ j = 1
        · rw [x1.1, x1.2, hM1', n2]
        by_cases x2 : a = 94 ∧ j = 1
        · rw [x2.1, x2.2, hM94, n3]
        rw [hMo a j (by omega), o2 a j (by omega) (by omega), c1 a j (by omega)]
      have e122 : M'.2 122 3 = A 122 3 := by rw [mo 122 3 (by unfold v_dc; omega), hI.1.2.1 122 3 rfl]
      have e1233 : M'.2 123 3 = A 123 3 := by rw [mo 123 3 (by unfold v_dc; omega), hI.1.2.1 123 3 rfl]
      have e1235 : M'.2 123 5 = A 123 5 := by rw [mo 123 5 (by unfold v_dc; omega), hI.1.2.1 123 5 rfl]
      have q0 := n6 0
      have q1 := n6 1
      have q2 := n6 2
      have q3 := n6 3
      have hSt : q_St M' := by
        refine u_dc hI mo ?_ ?_ ?_ ?_ ?_ ?_ ?_ ?_
        · rw [m10, a6, h0]
        · rw [m10, a7, h1]
        · rw [m10, a8, h2]
        · rw [m10, a9, h3]
        · intro m hm
          rw [hMo 89 m (by omega), o2 89 m (by omega) (by omega), c89 m hm, mk_cloud (M2 := M')]
          · rw [ct0, e1235]
          · intro k hk
            rw [ct0] at hk
            rw [ct 9 k (by decide), ct 10 k (by decide), (jcl k hk).1.1, (jcl k hk).1.2, mo 127 _ (by unfold v_dc; omega), mo 127 _ (by unfold v_dc; omega), hI.1.2.1 127 _ (decide_eq_true (by omega)), hI.1.2.1 127 _ (decide_eq_true (by omega))]
            exact ⟨rfl, rfl⟩
          · rw [a9, h3]
          · intro k hk
            rw [h3] at hk
            rw [a2 k (by omega), h4 k (by omega)]
        · rw [m10, a1 10 12 (by decide) (by decide), hMo 94 67 (by omega), o2 94 67 (by omega) (by omega), c1 94 67 (by omega)]
          exact i2
        · rw [m10, a3, h20]
        · refine ring_clear (by rw [hMo 94 66 (by omega), o2 94 66 (by omega) (by omega), c1 94 66 (by omega)]; exact rg.2.2.1) h65 (by rw [m10, a4]; decide) (by rw [m10, a5]) ⟨⟨?_, ?_, ?_, ?_, ?_, ?_⟩, ?_, ?_⟩
          · rw [h0, e122]; omega
          · rw [h1]; omega
          · rw [h2, e1233]; omega
          · rw [h3, e1235]; omega
          · intro k hk
            rw [h3] at hk
            rw [h4 k (by omega)]
            exact hv k (by omega)
          · rw [h20]
            unfold q_pc6
            omega
          · intro k hk
            rw [h3] at hk
            rw [m11, a2 k (by omega), h4 k (by omega)]
          · intro k hk
            rw [h20] at hk
            omega
      obtain ⟨t', L', A', hI'⟩ := hSt
      have e2' : ∀ k, M2.2 2 k = A 95 k := fun k => by rw [o2 2 k (by omega) (by omega), c1 2 k (by omega), n4]
      have e95' : ∀ k, M2.2 95 k = A 95 k := fun k => by rw [o2 95 k (by omega) (by omega), c1 95 k (by omega), n5]
      have e94' : M2.2 94 1 = 0 := by rw [b1 94 1 (by omega) (by omega), hB94]
      refine u_tape hI' (fun a j ha => (hMo a j (by omega)).symm) ?_ (fun k => by rw [e2', e95']) (by rw [e94']; decide) (fun k => by rw [e95']; exact n6 k)
      rw [e94', o2 1 1 (by omega) (by omega), c111]
  · have e0 : fX11_on M = some (0, q_up (q_up M 56 5 (M.2 56 5 + 1)) 1 1 0) := by
      have e21 : fX11_on_21 M = some (0, q_up (q_up M 56 5 (M.2 56 5 + 1)) 1 1 0) := by
        unfold fX11_on_21 fX11_on_22
        rw [if_pos (by decide), f_refuse (by decide) (by decide), b_some]
        unfold fX11_on_58
        rw [q_le, if_pos (Or.inl rfl)]
        rfl
      unfold fX11_on
      rw [q_le, j_told hI.1, jf.1, n_w (by omega) (by omega)]
      rcases wf with ⟨f1, f2, -⟩ | ⟨f1, f2⟩
      · rw [if_neg (by omega), e21]
      · rw [if_pos (by omega), c_img hI.1 f1 hN n2 n4 n6, b_some, f_ite, if_neg c, e21]
    have hM1 : ∀ a j, ¬ ((a = 1 ∧ j = 1) ∨ (a = 56 ∧ j = 5)) → (q_up (q_up M 56 5 (M.2 56 5 + 1)) 1 1 0).2 a j = M.2 a j := fun a j ha => by rw [up_ne (by omega), up_ne (by omega)]
    have hK := k_tp (k_lt (k_of hI.1) (fun a k ha => hM1 a k (by omega)) : q_K t (q_up (q_up M 56 5 (M.2 56 5 + 1)) 1 1 0) L A) 0
    have er := r_img hK hN (fun k => by rw [up_ne (by omega), hM1 95 k (by omega), n5]; rfl) n6
    rw [show s_im (u_2 A 94 1 0) N = s_im A N from rfl, if_neg c] at er
    refine ⟨0, _, 0, q_up (q_up (q_up (q_up M 56 5 (M.2 56 5 + 1)) 1 1 0) 94 1 0) 96 5 (M.2 96 5 + 1), e0, ?_, rfl, ?_⟩
    · show fX12_on _ = _
      unfold fX12_on
      rw [q_le, q_le, hM1 94 1 (by omega), n3, er, b_some, if_pos (by decide), f_refused (by decide) (by decide), show (5 : Int).toNat = 5 from rfl, up_ne (by omega), hM1 96 5 (by omega)]
    · refine u_tref hS 5 ?_
      intro a j
      rw [up_rd, up_rd, up_rd, up_rd]
      by_cases x1 : a = 96 ∧ j = 5
      · rw [if_pos x1, if_pos x1]
      rw [if_neg x1, if_neg x1]
      by_cases x2 : a = 94 ∧ j = 1
      · rw [if_pos x2, if_pos x2]
      rw [if_neg x2, if_neg x2]
      by_cases x3 : a = 1 ∧ j = 1
      · rw [if_pos x3, if_neg (by omega), if_pos x3]
      · rw [if_neg x3, if_neg x3]
