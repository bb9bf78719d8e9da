theorem j_frame {t : Nat} {M M' : q_Mem} {L A : q_G} (h : q_J t M L A) (hk : ∀ a k, (l_obs (L 0 11) a k = true ∨ a_core a k = true ∨ a = 88) → M'.2 a k = M.2 a k) : q_J t M' L A := by
  obtain ⟨i1, i2, i3, i4, i5, i6, i7⟩ := h
  refine ⟨fun a k ha => by rw [hk a k (Or.inl ha)]; exact i1 a k ha, fun a k ha => by rw [hk a k (Or.inr (Or.inl ha))]; exact i2 a k ha, i3, i4, i5, ?_, i7⟩
  rw [show M'.2 88 = M.2 88 from funext (fun k => hk 88 k (Or.inr (Or.inr rfl)))]
  exact i6
theorem rng_drop {N k : Nat} (h : k < N) : (List.range N).drop k = k :: (List.range N).drop (k + 1) := by
  rw [List.drop_eq_getElem_cons (by simpa using h)]
  simp
theorem r_cl54 {t : Nat} {M : q_Mem} {L A : q_G} (h : q_J t M L A) {m : Int} (hm : q_R m) : ∀ (n k : Nat), (k : Int) ≤ A 131 3 → (A 131 3).toNat - k < n → fX12_isCloud_54 n m (k : Int) M = some (if ((List.range (A 131 3).toNat).drop k).any (fun k => decide (A 131 (4 + k) = m)) = true then 1 else 0, M) := by
  have hd := h.2.2.2.2.2.2
  have hw := h.2.2.2.1
  have hcl : 0 ≤ A 123 5 := hw.2.2.2.2.1.1
  obtain ⟨-, -, -, ⟨d3, d4⟩, d5, -⟩ := hd
  unfold q_R at hm
  intro n
  induction n with
  | zero => intro k _ h; omega
  | succ n ih =>
    intro k hk hn
    rw [fX12_isCloud_54, b_ld (by decide) (by decide) (by decide), Option.bind_some, show (3 : Int).toNat = 3 from rfl, h.2.1 131 3 rfl, n_w (by omega) (by omega), n_w (by omega) (by omega)]
    by_cases c : (k : Int) < A 131 3
    · have hdk := d5 k c
      rw [if_pos c, b_ld (by omega) (by omega) (by decide), Option.bind_some, show ((4 : Int) + (k : Int)).toNat = 4 + k from by omega, h.2.1 131 _ rfl, n_w (by omega) (by omega), n_w (by omega) (by omega), rng_drop (by omega), List.any_cons]
      by_cases c2 : A 131 (4 + k) = m
      · rw [if_pos c2]
        simp [c2]
      · rw [if_neg c2]
        have := ih (k + 1) (by omega) (by omega)
        rw [show ((k + 1 : Nat) : Int) = (k : Int) + 1 from by omega] at this
        rw [this]
        simp [c2]
    · rw [if_neg c, List.drop_eq_nil_of_le (by simp; omega)]
      rfl
theorem r_cl2 {t : Nat} {M : q_Mem} {L A : q_G} (h : q_J t M L A) {m : Int} (hm : q_R m) : ∀ (n k : Nat), (k : Int) ≤ A 123 5 → (A 123 5).toNat - k < n → fX12_isCloud_2 n m (k : Int) M = some (if (((List.range (A 123 5).toNat).drop k).any (fun k => decide (A 127 (16 + 2 * k) ≤ m) && decide (m ≤ A 127 (17 + 2 * k))) || (List.range (A 131 3).toNat).any (fun k => decide (A 131 (4 + k) = m))) = true then 1 else 0, M) := by
  have hw := h.2.2.2.1
  obtain ⟨-, -, -, -, ⟨w1, w2⟩, -, -, w3, -⟩ := hw
  have hm' := hm
  unfold q_R at hm'
  intro n
  induction n with
  | zero => intro k _ h; omega
  | succ n ih =>
    intro k hk hn
    rw [fX12_isCloud_2, b_ld (by decide) (by decide) (by decide), Option.bind_some, show (5 : Int).toNat = 5 from rfl, h.2.1 123 5 rfl, n_w (by omega) (by omega), n_w (by omega) (by omega)]
    by_cases c : (k : Int) < A 123 5
    · obtain ⟨x1, x2, x3⟩ := w3 k c
      rw [if_pos c, b_ld (by omega) (by omega) (by decide), Option.bind_some, b_ld (by omega) (by omega) (by decide), Option.bind_some, show ((16 : Int) + 2 * (k : Int)).toNat = 16 + 2 * k from by omega, show ((17 : Int) + 2 * (k : Int)).toNat = 17 + 2 * k from by omega, h.2.1 127 _ (decide_eq_true (by omega)), h.2.1 127 _ (decide_eq_true (by omega)), n_w (a := A 127 (16 + 2 * k)) (by omega) (by omega), n_w (a := A 127 (17 + 2 * k)) (by omega) (by omega), f_isInW hm (by omega) (by omega) (by omega) (by omega), b_some, f_ite, rng_drop (by omega), List.any_cons]
      by_cases c2 : A 127 (16 + 2 * k) ≤ m ∧ m ≤ A 127 (17 + 2 * k)
      · rw [if_pos c2]
        simp [c2.1, c2.2]
      · rw [if_neg c2]
        have := ih (k + 1) (by omega) (by omega)
        rw [show ((k + 1 : Nat) : Int) = (k : Int) + 1 from by omega] at this
        rw [this]
        have e : (decide (A 127 (16 + 2 * k) ≤ m) && decide (m ≤ A 127 (17 + 2 * k))) = false := by
          rw [Bool.and_eq_false_iff, decide_eq_false_iff_not, decide_eq_false_iff_not]
          omega
        rw [e, Bool.false_or]
    · rw [if_neg c, List.drop_eq_nil_of_le (by simp; omega)]
      have := r_cl54 h hm q_FU 0 (by have := h.2.2.2.2.2.2.2.2.2.1; omega) (by have := h.2.2.2.2.2.2.2.2.2.1; unfold q_FU; omega)
      rw [show ((0 : Nat) : Int) = 0 from rfl] at this
      rw [this, List.drop_zero]
      rfl
theorem r_cloud {t : Nat} {M : q_Mem} {L A : q_G} (h : q_J t M L A) {m : Int} (hm : q_R m) : fX12_isCloud m M = some (if s_cloud A m = true then 1 else 0, M) := by
  unfold fX12_isCloud s_cloud
  have hw := h.2.2.2.1
  obtain ⟨-, -, -, -, ⟨w1, w2⟩, -⟩ := hw
  have := r_cl2 h hm q_FU 0 (by omega) (by unfold q_FU; omega)
  rw [show ((0 : Nat) : Int) = 0 from rfl, List.drop_zero] at this
  exact this
theorem r_part {t : Nat} {M0 : q_Mem} {L A : q_G} (h : q_J t M0 L A) {w c s : Nat} {m lg : Int} (hw : w < 2) (hc : (c : Int) < A 123 4) (hs : (s : Int) < A 123 3) (hm : 0 ≤ m ∧ m ≤ 400) (h50 : M0.2 94 50 = (s : Int)) (h51 : M0.2 94 51 = m) (h52 : w = 1 → M0.2 94 52 = lg ∧ 0 ≤ lg ∧ lg ≤ 999) : ∀ M st, p_S M0 st M → ∀ k, 0 ≤ k → k ≤ 7 → q_may w k = true → fX12_qPartOf k (c : Int) M = some (s_env A c s m lg k, M) ∧ -1000000 ≤ s_env A c s m lg k ∧ s_env A c s m lg k ≤ 1000000 := by
  intro M st hS k hk0 hk7 hmay
  have hwf := h.2.2.2.1
  obtain ⟨-, -, ⟨w1, w2⟩, ⟨w3, w4⟩, -, w5, w6, -⟩ := hwf
  obtain ⟨v1, v2⟩ := w6 c hc
  obtain ⟨-, u2, u3, -⟩ := w5 s hs
  have hA : ∀ a j, a_core a j = true → ¬ ((a = 94 ∧ j = 97) ∨ a = 164) → M.2 a j = A a j := fun a j h1 h2 => by rw [hS.2.2 a j h2]; exact h.2.1 a j h1
  have hk : k = 0 ∨ k = 1 ∨ k = 2 ∨ k = 3 ∨ k = 4 ∨ k = 5 ∨ k = 6 ∨ k = 7 := by omega
  have hw' : w = 0 ∨ w = 1 := by omega
  have e16 : ((16 : Int) + 2 * (c : Int)).toNat = 16 + 2 * c := by omega
  have e17 : ((17 : Int) + 2 * (c : Int)).toNat = 17 + 2 * c := by omega
  have e25 : ((25 : Int) + 4 * (s : Int)).toNat = 25 + 4 * s := by omega
  have e26 : ((26 : Int) + 4 * (s : Int)).toNat = 26 + 4 * s := by omega
  rcases hk with rfl | rfl | rfl | rfl | rfl | rfl | rfl | rfl
  · have e : s_env A c s m lg 0 = A 126 (16 + 2 * c) := by unfold s_env; rw [if_pos rfl, e16]
    rw [e]
    refine ⟨?_, by omega, by omega⟩
    unfold fX12_qPartOf
    rw [if_pos (by decide), b_ld (by omega) (by omega) (by decide), Option.bind_some, e16, hA 126 _ (decide_eq_true (by omega)) (by omega), n_w (by omega) (by omega)]
  · have e : s_env A c s m lg 1 = A 126 (17 + 2 * c) := by unfold s_env; rw [if_neg (by decide), if_pos rfl, e17]
    rw [e]
    refine ⟨?_, by omega, by omega⟩
    unfold fX12_qPartOf
    rw [if_neg (by decide), if_pos (by decide), b_ld (by omega) (by omega) (by decide), Option.bind_some, e17, hA 126 _ (decide_eq_true (by omega)) (by omega), n_w (by omega) (by omega)]
  · have e : s_env A c s m lg 2 = A 125 (25 + 4 * s) := by unfold s_env; rw [if_neg (by decide), if_neg (by decide), if_pos rfl, e25]
    rw [e]
    refine ⟨?_, by omega, by omega⟩
    unfold fX12_qPartOf fX12_turnOf
    rw [if_neg (by decide), if_neg (by decide), if_pos (by decide), hS.2.2 94 50 (by omega), h50, b_ld (by omega) (by omega) (by decide), Option.bind_some, e25, hA 125 _ (decide_eq_true (by omega)) (by omega), b_some, n_w (by omega) (by omega)]
  · have e : s_env A c s m lg 3 = m := rfl
    rw [e]
    refine ⟨?_, by omega, by omega⟩
    unfold fX12_qPartOf
    rw [if_neg (by decide), if_neg (by decide), if_neg (by decide), if_pos (by decide), hS.2.2 94 51 (by omega), h51, n_w (by omega) (by omega)]
  · rcases hw' with rfl | rfl
    · cases hmay
    · obtain ⟨g1, g2, g3⟩ := h52 rfl
      have e : s_env A c s m lg 4 = lg := rfl
      rw [e]
      refine ⟨?_, by omega, by omega⟩
      unfold fX12_qPartOf
      rw [if_neg (by decide), if_neg (by decide), if_neg (by decide), if_neg (by decide), if_pos (by decide), hS.2.2 94 52 (by omega), g1, n_w (by omega) (by omega)]
  · have e : s_env A c s m lg 5 = A 125 (26 + 4 * s) := by unfold s_env; rw [if_neg (by decide), if_neg (by decide), if_neg (by decide), if_neg (by decide), if_neg (by decide), if_pos rfl, e26]
    rw [e]
    refine ⟨?_, by omega, by omega⟩
    unfold fX12_qPartOf fX12_priceOf
    rw [if_neg (by decide), if_neg (by decide), if_neg (by decide), if_neg (by decide), if_neg (by decide), if_pos (by decide), hS.2.2 94 50 (by omega), h50, b_ld (by omega) (by omega) (by decide), Option.bind_some, e26, hA 125 _ (decide_eq_true (by omega)) (by omega), b_some, n_w (by omega) (by omega)]
  · rcases hw' with rfl | rfl <;> cases hmay
  · rcases hw' with rfl | rfl <;> cases hmay
theorem s_codesL {A : q_G} {w : Nat} (h1 : 0 ≤ A 128 (2 + w)) : (s_codes A w).length = (A 129 (2 + w) - A 128 (2 + w)).toNat ∧ ∀ j, j < (s_codes A w).length → (s_codes A w).getD j 0 = A 130 (1600 + (A 128 (2 + w)).toNat + j) := by
  unfold s_codes
  refine ⟨by simp, ?_⟩
  intro j hj
  simp only [List.length_map, List.length_range] at hj
  rw [List.getD_eq_getElem?_getD, List.getElem?_map, List.getElem?_range hj]
  rfl
theorem r_tell {t : Nat} {M : q_Mem} {L A : q_G} (h : q_J t M L A) {w c s : Nat} {m lg : Int} (hw : w < 2) (hc : (c : Int) < A 123 4) (hs : (s : Int) < A 123 3) (hm : 0 ≤ m ∧ m ≤ 400) (h50 : M.2 94 50 = (s : Int)) (h51 : M.2 94 51 = m) (h52 : w = 1 → M.2 94 52 = lg ∧ 0 ≤ lg ∧ lg ≤ 999) {z : Int} {f : Nat → Int} (hcd : r_code z f A w) (hne : A 128 (2 + w) ≠ -1) : q_P (fX12_codesTell (w : Int) (c : Int) M) (fun v M' => v = s_val A w c s m lg ∧ q_J t M' L A) := by
  rcases hcd with hcd | ⟨g1, g2, g3, g4, g5, g6, g7⟩
  · exact absurd hcd.1 hne
  obtain ⟨l1, l2⟩ := s_codesL g1
  unfold fX12_codesTell
  simp only [q_let]
  have hJ : q_J t (q_up (q_up M 94 48 (w : Int)) 94 97 0) L A := j_scr (j_scr h rfl rfl rfl) rfl rfl rfl
  rw [b_ld (by omega) (by omega) (by decide), Option.bind_some, show ((2 : Int) + (w : Int)).toNat = 2 + w from by omega, hJ.2.1 128 (2 + w) (decide_eq_true (by omega))]
  have hS : p_S (q_up (q_up M 94 48 (w : Int)) 94 97 0) [] (q_up (q_up M 94 48 (w : Int)) 94 97 0) := ⟨rfl, (fun i hi => by cases hi), fun _ _ _ => rfl⟩
  have := p_tell19 hw (x2 := (c : Int)) (M0 := q_up (q_up M 94 48 (w : Int)) 94 97 0) (cs := s_codes A w) (env := s_env A c s m lg) (ofs := fun _ _ => 0) (f := (A 128 (2 + w)).toNat) (by omega) (by rw [hJ.2.1 129 (2 + w) (decide_eq_true (by omega))]; omega) (fun j hj => by rw [hJ.2.1 130 _ (decide_eq_true (by omega))]; exact (l2 j hj).symm) (r_part hJ hw hc hs hm h50 h51 h52) q_FU 0 _ [] [] (by omega) (by unfold q_FU; omega) hS trivial (by decide) g7
  rw [show (((A 128 (2 + w)).toNat + 0 : Nat) : Int) = A 128 (2 + w) from by omega, List.drop_zero] at this
  refine w_mono this ?_
  rintro r M' ⟨rfl, hf⟩
  refine ⟨rfl, j_frame hJ ?_⟩
  intro a k ha
  apply hf
  rintro (⟨rfl, rfl⟩ | rfl)
  · rcases ha with ha | ha | ha
    · cases ha
    · cases ha
    · omega
  · rcases ha with ha | ha | ha
    · cases ha
    · cases ha
    · omega
