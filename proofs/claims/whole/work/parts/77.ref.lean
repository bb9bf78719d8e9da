/-! the other side alone, with what the told fair and the day were -/
def q_K (t : Nat) (M : q_Mem) (L A : q_G) : Prop := True ∧ (∀ a k, a_core a k = true → M.2 a k = A a k) ∧ r_fair t L A ∧ r_wf A ∧ r_day L A ∧ True ∧ r_dv A (A 131)
theorem k_of {t : Nat} {M : q_Mem} {L A : q_G} (h : q_J t M L A) : q_K t M L A := ⟨trivial, h.2.1, h.2.2.1, h.2.2.2.1, h.2.2.2.2.1, trivial, h.2.2.2.2.2.2⟩
theorem k_mv {t : Nat} {M M' : q_Mem} {L A : q_G} (h : q_K t M L A) (hk : ∀ a k, a_core a k = true → M'.2 a k = M.2 a k) : q_K t M' L A := ⟨trivial, fun a k ha => by rw [hk a k ha]; exact h.2.1 a k ha, h.2.2.1, h.2.2.2.1, h.2.2.2.2.1, trivial, h.2.2.2.2.2.2⟩
theorem k_scr {t : Nat} {M : q_Mem} {L A : q_G} (h : q_K t M L A) {a k : Nat} {v : Int} (_ : l_obs (L 0 11) a k = false) (h2 : a_core a k = false) (_ : (a == 88) = false) : q_K t (q_up M a k v) L A := k_mv h (fun b j hb => up_ne (by rintro ⟨rfl, rfl⟩; rw [h2] at hb; cases hb))
theorem k_frame {t : Nat} {M M' : q_Mem} {L A : q_G} (h : q_K t M L A) (hk : ∀ a k, (l_obs (L 0 11) a k = true ∨ a_core a k = true ∨ a = 88) → M'.2 a k = M.2 a k) : q_K t M' L A := k_mv h (fun a k ha => hk a k (Or.inr (Or.inl ha)))
theorem y_r_cl54 {t : Nat} {M : q_Mem} {L A : q_G} (h : q_K t M L A) {m : Int} (hm : q_R m) : ∀ (n k : Nat), (k : Int) ≤ A 131 3 → (A 131 3).toNat - k < n → fX12_isCloud_54 n m (k : Int) M = some (if ((List.range (A 131 3).toNat).drop k).any (fun k => decide (A 131 (4 + k) = m)) = true then 1 else 0, M) := by
  have hd := h.2.2.2.2.2.2
  have hw := h.2.2.2.1
  have hcl : 0 ≤ A 123 5 := hw.2.2.2.2.1.1
  obtain ⟨-, -, -, ⟨d3, d4⟩, d5, -⟩ := hd
  unfold q_R at hm
  intro n
  induction n with
  | zero => intro k _ h; omega
  | succ n ih =>
    intro k hk hn
    rw [fX12_isCloud_54, b_ld (by decide) (by decide) (by decide), Option.bind_some, show (3 : Int).toNat = 3 from rfl, h.2.1 131 3 rfl, n_w (by omega) (by omega), n_w (by omega) (by omega)]
    by_cases c : (k : Int) < A 131 3
    · have hdk := d5 k c
      rw [if_pos c, b_ld (by omega) (by omega) (by decide), Option.bind_some, show ((4 : Int) + (k : Int)).toNat = 4 + k from by omega, h.2.1 131 _ rfl, n_w (by omega) (by omega), n_w (by omega) (by omega), rng_drop (by omega), List.any_cons]
      by_cases c2 : A 131 (4 + k) = m
      · rw [if_pos c2]
        simp [c2]
      · rw [if_neg c2]
        have := ih (k + 1) (by omega) (by omega)
        rw [show ((k + 1 : Nat) : Int) = (k : Int) + 1 from by omega] at this
        rw [this]
        simp [c2]
    · rw [if_neg c, List.drop_eq_nil_of_le (by simp; omega)]
      rfl
theorem y_r_cl2 {t : Nat} {M : q_Mem} {L A : q_G} (h : q_K t M L A) {m : Int} (hm : q_R m) : ∀ (n k : Nat), (k : Int) ≤ A 123 5 → (A 123 5).toNat - k < n → fX12_isCloud_2 n m (k : Int) M = some (if (((List.range (A 123 5).toNat).drop k).any (fun k => decide (A 127 (16 + 2 * k) ≤ m) && decide (m ≤ A 127 (17 + 2 * k))) || (List.range (A 131 3).toNat).any (fun k => decide (A 131 (4 + k) = m))) = true then 1 else 0, M) := by
  have hw := h.2.2.2.1
  obtain ⟨-, -, -, -, ⟨w1, w2⟩, -, -, w3, -⟩ := hw
  have hm' := hm
  unfold q_R at hm'
  intro n
  induction n with
  | zero => intro k _ h; omega
  | succ n ih =>
    intro k hk hn
    rw [fX12_isCloud_2, b_ld (by decide) (by decide) (by decide), Option.bind_some, show (5 : Int).toNat = 5 from rfl, h.2.1 123 5 rfl, n_w (by omega) (by omega), n_w (by omega) (by omega)]
    by_cases c : (k : Int) < A 123 5
    · obtain ⟨x1, x2, x3⟩ := w3 k c
      rw [if_pos c, b_ld (by omega) (by omega) (by decide), Option.bind_some, b_ld (by omega) (by omega) (by decide), Option.bind_some, show ((16 : Int) + 2 * (k : Int)).toNat = 16 + 2 * k from by omega, show ((17 : Int) + 2 * (k : Int)).toNat = 17 + 2 * k from by omega, h.2.1 127 _ (decide_eq_true (by omega)), h.2.1 127 _ (decide_eq_true (by omega)), n_w (a := A 127 (16 + 2 * k)) (by omega) (by omega), n_w (a := A 127 (17 + 2 * k)) (by omega) (by omega), f_isInW hm (by omega) (by omega) (by omega) (by omega), b_some, f_ite, rng_drop (by omega), List.any_cons]
      by_cases c2 : A 127 (16 + 2 * k) ≤ m ∧ m ≤ A 127 (17 + 2 * k)
      · rw [if_pos c2]
        simp [c2.1, c2.2]
      · rw [if_neg c2]
        have := ih (k + 1) (by omega) (by omega)
        rw [show ((k + 1 : Nat) : Int) = (k : Int) + 1 from by omega] at this
        rw [this]
        have e : (decide (A 127 (16 + 2 * k) ≤ m) && decide (m ≤ A 127 (17 + 2 * k))) = false := by
          rw [Bool.and_eq_false_iff, decide_eq_false_iff_not, decide_eq_false_iff_not]
          omega
        rw [e, Bool.false_or]
    · rw [if_neg c, List.drop_eq_nil_of_le (by simp; omega)]
      have := y_r_cl54 h hm q_FU 0 (by have := h.2.2.2.2.2.2.2.2.2.1; omega) (by have := h.2.2.2.2.2.2.2.2.2.1; unfold q_FU; omega)
      rw [show ((0 : Nat) : Int) = 0 from rfl] at this
      rw [this, List.drop_zero]
      rfl
theorem y_r_cloud {t : Nat} {M : q_Mem} {L A : q_G} (h : q_K t M L A) {m : Int} (hm : q_R m) : fX12_isCloud m M = some (if s_cloud A m = true then 1 else 0, M) := by
  unfold fX12_isCloud s_cloud
  have hw := h.2.2.2.1
  obtain ⟨-, -, -, -, ⟨w1, w2⟩, -⟩ := hw
  have := y_r_cl2 h hm q_FU 0 (by omega) (by unfold q_FU; omega)
  rw [show ((0 : Nat) : Int) = 0 from rfl, List.drop_zero] at this
  exact this
theorem y_r_part {t : Nat} {M0 : q_Mem} {L A : q_G} (h : q_K t M0 L A) {w c s : Nat} {m lg : Int} (hw : w < 2) (hc : (c : Int) < A 123 4) (hs : (s : Int) < A 123 3) (hm : 0 ≤ m ∧ m ≤ 400) (h50 : M0.2 94 50 = (s : Int)) (h51 : M0.2 94 51 = m) (h52 : w = 1 → M0.2 94 52 = lg ∧ 0 ≤ lg ∧ lg ≤ 999) : ∀ M st, p_S M0 st M → ∀ k, 0 ≤ k → k ≤ 7 → q_may w k = true → fX12_qPartOf k (c : Int) M = some (s_env A c s m lg k, M) ∧ -1000000 ≤ s_env A c s m lg k ∧ s_env A c s m lg k ≤ 1000000 := by
  intro M st hS k hk0 hk7 hmay
  have hwf := h.2.2.2.1
  obtain ⟨-, -, ⟨w1, w2⟩, ⟨w3, w4⟩, -, w5, w6, -⟩ := hwf
  obtain ⟨v1, v2⟩ := w6 c hc
  obtain ⟨-, u2, u3, -⟩ := w5 s hs
  have hA : ∀ a j, a_core a j = true → ¬ ((a = 94 ∧ j = 97) ∨ a = 164) → M.2 a j = A a j := fun a j h1 h2 => by rw [hS.2.2 a j h2]; exact h.2.1 a j h1
  have hk : k = 0 ∨ k = 1 ∨ k = 2 ∨ k = 3 ∨ k = 4 ∨ k = 5 ∨ k = 6 ∨ k = 7 := by omega
  have hw' : w = 0 ∨ w = 1 := by omega
  have e16 : ((16 : Int) + 2 * (c : Int)).toNat = 16 + 2 * c := by omega
  have e17 : ((17 : Int) + 2 * (c : Int)).toNat = 17 + 2 * c := by omega
  have e25 : ((25 : Int) + 4 * (s : Int)).toNat = 25 + 4 * s := by omega
  have e26 : ((26 : Int) + 4 * (s : Int)).toNat = 26 + 4 * s := by omega
  rcases hk with rfl | rfl | rfl | rfl | rfl | rfl | rfl | rfl
  · have e : s_env A c s m lg 0 = A 126 (16 + 2 * c) := by unfold s_env; rw [if_pos rfl, e16]
    rw [e]
    refine ⟨?_, by omega, by omega⟩
    unfold fX12_qPartOf
    rw [if_pos (by decide), b_ld (by omega) (by omega) (by decide), Option.bind_some, e16, hA 126 _ (decide_eq_true (by omega)) (by omega), n_w (by omega) (by omega)]
  · have e : s_env A c s m lg 1 = A 126 (17 + 2 * c) := by unfold s_env; rw [if_neg (by decide), if_pos rfl, e17]
    rw [e]
    refine ⟨?_, by omega, by omega⟩
    unfold fX12_qPartOf
    rw [if_neg (by decide), if_pos (by decide), b_ld (by omega) (by omega) (by decide), Option.bind_some, e17, hA 126 _ (decide_eq_true (by omega)) (by omega), n_w (by omega) (by omega)]
  · have e : s_env A c s m lg 2 = A 125 (25 + 4 * s) := by unfold s_env; rw [if_neg (by decide), if_neg (by decide), if_pos rfl, e25]
    rw [e]
    refine ⟨?_, by omega, by omega⟩
    unfold fX12_qPartOf fX12_turnOf
    rw [if_neg (by decide), if_neg (by decide), if_pos (by decide), hS.2.2 94 50 (by omega), h50, b_ld (by omega) (by omega) (by decide), Option.bind_some, e25, hA 125 _ (decide_eq_true (by omega)) (by omega), b_some, n_w (by omega) (by omega)]
  · have e : s_env A c s m lg 3 = m := rfl
    rw [e]
    refine ⟨?_, by omega, by omega⟩
    unfold fX12_qPartOf
    rw [if_neg (by decide), if_neg (by decide), if_neg (by decide), if_pos (by decide), hS.2.2 94 51 (by omega), h51, n_w (by omega) (by omega)]
  · rcases hw' with rfl | rfl
    · cases hmay
    · obtain ⟨g1, g2, g3⟩ := h52 rfl
      have e : s_env A c s m lg 4 = lg := rfl
      rw [e]
      refine ⟨?_, by omega, by omega⟩
      unfold fX12_qPartOf
      rw [if_neg (by decide), if_neg (by decide), if_neg (by decide), if_neg (by decide), if_pos (by decide), hS.2.2 94 52 (by omega), g1, n_w (by omega) (by omega)]
  · have e : s_env A c s m lg 5 = A 125 (26 + 4 * s) := by unfold s_env; rw [if_neg (by decide), if_neg (by decide), if_neg (by decide), if_neg (by decide), if_neg (by decide), if_pos rfl, e26]
    rw [e]
    refine ⟨?_, by omega, by omega⟩
    unfold fX12_qPartOf fX12_priceOf
    rw [if_neg (by decide), if_neg (by decide), if_neg (by decide), if_neg (by decide), if_neg (by decide), if_pos (by decide), hS.2.2 94 50 (by omega), h50, b_ld (by omega) (by omega) (by decide), Option.bind_some, e26, hA 125 _ (decide_eq_true (by omega)) (by omega), b_some, n_w (by omega) (by omega)]
  · rcases hw' with rfl | rfl <;> cases hmay
  · rcases hw' with rfl | rfl <;> cases hmay
theorem y_r_tell {t : Nat} {M : q_Mem} {L A : q_G} (h : q_K t M L A) {w c s : Nat} {m lg : Int} (hw : w < 2) (hc : (c : Int) < A 123 4) (hs : (s : Int) < A 123 3) (hm : 0 ≤ m ∧ m ≤ 400) (h50 : M.2 94 50 = (s : Int)) (h51 : M.2 94 51 = m) (h52 : w = 1 → M.2 94 52 = lg ∧ 0 ≤ lg ∧ lg ≤ 999) {z : Int} {f : Nat → Int} (hcd : r_code z f A w) (hne : A 128 (2 + w) ≠ -1) : q_P (fX12_codesTell (w : Int) (c : Int) M) (fun v M' => v = s_val A w c s m lg ∧ q_K t M' L A) := by
  rcases hcd with hcd | ⟨g1, g2, g3, g4, g5, g6, g7⟩
  · exact absurd hcd.1 hne
  obtain ⟨l1, l2⟩ := s_codesL g1
  unfold fX12_codesTell
  simp only [q_let]
  have hJ : q_K t (q_up (q_up M 94 48 (w : Int)) 94 97 0) L A := k_scr (k_scr h rfl rfl rfl) rfl rfl rfl
  rw [b_ld (by omega) (by omega) (by decide), Option.bind_some, show ((2 : Int) + (w : Int)).toNat = 2 + w from by omega, hJ.2.1 128 (2 + w) (decide_eq_true (by omega))]
  have hS : p_S (q_up (q_up M 94 48 (w : Int)) 94 97 0) [] (q_up (q_up M 94 48 (w : Int)) 94 97 0) := ⟨rfl, (fun i hi => by cases hi), fun _ _ _ => rfl⟩
  have := p_tell19 hw (x2 := (c : Int)) (M0 := q_up (q_up M 94 48 (w : Int)) 94 97 0) (cs := s_codes A w) (env := s_env A c s m lg) (ofs := fun _ _ => 0) (f := (A 128 (2 + w)).toNat) (by omega) (by rw [hJ.2.1 129 (2 + w) (decide_eq_true (by omega))]; omega) (fun j hj => by rw [hJ.2.1 130 _ (decide_eq_true (by omega))]; exact (l2 j hj).symm) (y_r_part hJ hw hc hs hm h50 h51 h52) q_FU 0 _ [] [] (by omega) (by unfold q_FU; omega) hS trivial (by decide) g7
  rw [show (((A 128 (2 + w)).toNat + 0 : Nat) : Int) = A 128 (2 + w) from by omega, List.drop_zero] at this
  refine w_mono this ?_
  rintro r M' ⟨rfl, hf⟩
  refine ⟨rfl, k_frame hJ ?_⟩
  intro a k ha
  apply hf
  rintro (⟨rfl, rfl⟩ | rfl)
  · rcases ha with ha | ha | ha
    · cases ha
    · cases ha
    · omega
  · rcases ha with ha | ha | ha
    · cases ha
    · cases ha
    · omega
theorem y_len_b {t : Nat} {M : q_Mem} {L A : q_G} (h : q_K t M L A) {c : Nat} (hc : (c : Int) < A 123 4) (s m : Int) : 0 ≤ s_len A c s m ∧ s_len A c s m ≤ 999 := by
  obtain ⟨-, -, -, -, -, -, w6, -⟩ := h.2.2.2.1
  obtain ⟨v1, v2⟩ := w6 c hc
  unfold s_len
  by_cases h1 : A 128 2 = -1
  · rw [if_pos h1, show ((16 : Int) + 2 * (c : Int)).toNat = 16 + 2 * c from by omega]
    omega
  · rw [if_neg h1]
    simp only
    by_cases h2 : s_val A 0 c s m 0 < 0
    · rw [if_pos h2]; omega
    · rw [if_neg h2]
      by_cases h3 : 999 < s_val A 0 c s m 0
      · rw [if_pos h3]; omega
      · rw [if_neg h3]; omega
theorem y_r_shadow {t : Nat} {M : q_Mem} {L A : q_G} (h : q_K t M L A) {c s : Nat} {m : Int} (hc : (c : Int) < A 123 4) (hs : (s : Int) < A 123 3) (hm : 0 ≤ m ∧ m ≤ 400) : q_P (fX12_shadowOf (c : Int) (s : Int) m M) (fun r M' => r = s_shadow A c s m ∧ q_K t M' L A) := by
  have hwf := h.2.2.2.1
  obtain ⟨-, -, ⟨w1, w2⟩, ⟨w3, w4⟩, -, w5, w6, -⟩ := hwf
  have hcd := h.2.2.1.2.2.2.2.2.2.2.2.2.2.2.2.1
  unfold fX12_shadowOf s_shadow
  rw [y_r_cloud h (by unfold q_R; omega), b_some, f_ite]
  cases hcl : s_cloud A m with
  | true =>
    rw [if_pos rfl, if_pos rfl]
    exact w_some.mpr ⟨rfl, h⟩
  | false =>
    rw [if_neg (by decide), if_neg (by decide), b_ld (by decide) (by decide) (by decide), Option.bind_some, show (2 : Int).toNat = 2 from rfl, h.2.1 128 2 rfl]
    have hcd0 := hcd
    rcases hcd with ⟨h1, h2⟩ | ⟨g1, g2, g3, g4, g5, g6, g7⟩
    · have e : s_len A c s m = A 126 (16 + 2 * c) := by
        unfold s_len
        rw [if_pos h1, show ((16 : Int) + 2 * (c : Int)).toNat = 16 + 2 * c from by omega]
      have h1' : A 128 2 = -1 := h1
      rw [h1', if_pos rfl, b_ld (by omega) (by omega) (by decide), Option.bind_some, show ((16 : Int) + 2 * (c : Int)).toNat = 16 + 2 * c from by omega, h.2.1 126 _ (decide_eq_true (by omega)), e]
      exact w_some.mpr ⟨rfl, h⟩
    · have hne : A 128 2 ≠ -1 := by
        have g1' : 0 ≤ A 128 2 := g1
        omega
      have hlt : A 128 2 ≤ 1600 := by
        have g1' : 0 ≤ A 128 2 := g1
        have g2' : A 129 2 ≤ 1600 := g2
        have g3' : L (t + 11) 1 = A 129 2 - A 128 2 := g3
        omega
      have g1' : 0 ≤ A 128 2 := g1
      rw [n_w (a := A 128 2) (by omega) (by omega), show q_w (-1) = -1 from rfl, if_neg hne]
      simp only [q_let]
      have hJ : q_K t (q_up (q_up M 94 50 (s : Int)) 94 51 m) L A := k_scr (k_scr h rfl rfl rfl) rfl rfl rfl
      refine w_call (y_r_tell hJ (w := 0) (c := c) (s := s) (m := m) (lg := 0) (by decide) hc hs hm rfl rfl (fun h => by cases h) hcd0 hne) ?_
      rintro v M' ⟨rfl, hJ'⟩
      obtain ⟨b1, -⟩ := val_vt g7 c s m 0
      have k1 := f_lc (a := s_val A 0 c s m 0) (b := 0) (by omega) (by omega) (by decide) (by decide)
      have k2 := f_lc (a := s_val A 0 c s m 0) (b := 999) (by omega) (by omega) (by decide) (by decide)
      have e : s_len A c s m = if s_val A 0 c s m 0 < 0 then 0 else if 999 < s_val A 0 c s m 0 then 999 else s_val A 0 c s m 0 := by
        unfold s_len
        rw [if_neg hne]
      rw [e]
      by_cases c1 : s_val A 0 c s m 0 < 0
      · rw [if_pos (k1.2.1.mpr c1), if_pos c1]
        exact w_some.mpr ⟨rfl, hJ'⟩
      · rw [if_neg (fun h => c1 (k1.2.1.mp h)), if_neg c1]
        by_cases c2 : 999 < s_val A 0 c s m 0
        · rw [if_pos (k2.1.mpr c2), if_pos c2]
          exact w_some.mpr ⟨rfl, hJ'⟩
        · rw [if_neg (fun h => c2 (k2.1.mp h)), if_neg c2]
          exact w_some.mpr ⟨rfl, hJ'⟩
theorem y_r_buys {t : Nat} {M : q_Mem} {L A : q_G} (h : q_K t M L A) {c s : Nat} {m : Int} (hc : (c : Int) < A 123 4) (hs : (s : Int) < A 123 3) (hm : 0 ≤ m ∧ m ≤ A 122 3) : q_P (fX12_doesBuy (c : Int) (s : Int) m M) (fun r M' => r = (if s_buys A c s m = true then 1 else 0) ∧ q_K t M' L A) := by
  have hwf := h.2.2.2.1
  obtain ⟨-, w0, ⟨w1, w2⟩, ⟨w3, w4⟩, -, w5, w6, -⟩ := hwf
  obtain ⟨-, -, u3, u4⟩ := w5 s hs
  have hcd := h.2.2.1.2.2.2.2.2.2.2.2.2.2.2.2.2
  have e27 : ((27 : Int) + 4 * (s : Int)).toNat = 27 + 4 * s := by omega
  have e26 : ((26 : Int) + 4 * (s : Int)).toNat = 26 + 4 * s := by omega
  have hlb := y_len_b h hc s m
  unfold fX12_doesBuy fX12_shutOf fX12_fairMinutes s_buys
  rw [b_ld (by omega) (by omega) (by decide), Option.bind_some, b_some, e27, h.2.1 125 _ (decide_eq_true (by omega)), n_w (by omega) (by omega), n_w (by omega) (by omega)]
  by_cases c1 : m < A 125 (27 + 4 * s)
  · rw [if_pos c1, b_ld (by decide) (by decide) (by decide), Option.bind_some, b_some, show (3 : Int).toNat = 3 from rfl, h.2.1 122 3 rfl, n_w (by omega) (by omega), if_neg (by omega), y_r_cloud h (by unfold q_R; omega), b_some, f_ite, decide_eq_true c1]
    cases hcl : s_cloud A m with
    | true =>
      rw [if_pos rfl]
      exact w_some.mpr ⟨rfl, h⟩
    | false =>
      rw [if_neg (by decide)]
      refine w_call (y_r_shadow h hc hs ⟨hm.1, by omega⟩) ?_
      rintro v M' ⟨rfl, hJ⟩
      have esh : s_shadow A c s m = s_len A c s m := by
        unfold s_shadow
        rw [hcl]
        rfl
      rw [esh]
      unfold fX12_priceOf s_pay
      rw [b_ld (by omega) (by omega) (by decide), Option.bind_some, b_some, e26, hJ.2.1 125 _ (decide_eq_true (by omega)), n_w (by omega) (by omega), n_w (by omega) (by omega)]
      by_cases c2 : s_len A c s m < A 125 (26 + 4 * s)
      · rw [if_pos c2, decide_eq_false (by omega)]
        exact w_some.mpr ⟨rfl, hJ⟩
      · rw [if_neg c2, decide_eq_true (by omega : A 125 (26 + 4 * s) ≤ s_len A c s m), b_ld (by decide) (by decide) (by decide), Option.bind_some, show (3 : Int).toNat = 3 from rfl, hJ.2.1 128 3 rfl]
        have hcd0 := hcd
        rcases hcd with ⟨h1, h2⟩ | ⟨g1, g2, g3, g4, g5, g6, g7⟩
        · have h1' : A 128 3 = -1 := h1
          rw [h1', if_pos rfl]
          exact w_some.mpr ⟨rfl, hJ⟩
        · have g1' : 0 ≤ A 128 3 := g1
          have g2' : A 129 3 ≤ 1600 := g2
          have g3' : L (t + 13) 1 = A 129 3 - A 128 3 := g3
          have hne : A 128 3 ≠ -1 := by omega
          rw [n_w (a := A 128 3) (by omega) (by omega), show q_w (-1) = -1 from rfl, if_neg hne, decide_eq_false hne]
          simp only [q_let]
          have hJ2 : q_K t (q_up (q_up (q_up M' 94 50 (s : Int)) 94 51 m) 94 52 (s_len A c s m)) L A := k_scr (k_scr (k_scr hJ rfl rfl rfl) rfl rfl rfl) rfl rfl rfl
          refine w_call (y_r_tell hJ2 (w := 1) (c := c) (s := s) (m := m) (lg := s_len A c s m) (by decide) hc hs ⟨hm.1, by omega⟩ rfl rfl (fun _ => ⟨rfl, hlb⟩) hcd0 hne) ?_
          rintro v M'' ⟨rfl, hJ'⟩
          obtain ⟨b1, -⟩ := val_vt g7 c s m (s_len A c s m)
          have k1 := f_lc (a := s_val A 1 c s m (s_len A c s m)) (b := 1) (by omega) (by omega) (by decide) (by decide)
          by_cases c3 : s_val A 1 c s m (s_len A c s m) = 1
          · rw [if_pos (k1.2.2.mpr c3), decide_eq_false (fun h => h c3)]
            exact w_some.mpr ⟨rfl, hJ'⟩
          · rw [if_neg (fun h => c3 (k1.2.2.mp h)), decide_eq_true c3]
            exact w_some.mpr ⟨rfl, hJ'⟩
  · rw [if_neg c1, decide_eq_false c1]
    exact w_some.mpr ⟨rfl, h⟩
theorem y_j_wf {t : Nat} {M : q_Mem} {L A : q_G} (h : q_K t M L A) : (0 ≤ A 122 3 ∧ A 122 3 ≤ 400) ∧ (0 ≤ A 123 3 ∧ A 123 3 ≤ 6) ∧ (0 ≤ A 123 4 ∧ A 123 4 ≤ 8) ∧ (0 ≤ A 123 5 ∧ A 123 5 ≤ 8) := by
  obtain ⟨w0, w1, w2, w3, w4, -⟩ := h.2.2.2.1
  rcases w0 with ⟨-, w0, -⟩ | ⟨-, w0⟩ <;> omega
theorem y_j_fair {t : Nat} {M : q_Mem} {L A : q_G} (h : q_K t M L A) : (A 94 47 = 0 ∧ A 122 3 = 0 ∧ A 123 3 = 0 ∧ A 123 4 = 0 ∧ A 123 5 = 0) ∨ (A 94 47 = 1 ∧ 10 ≤ A 122 3) := h.2.2.2.1.1
theorem y_j_db {t : Nat} {M : q_Mem} {L A : q_G} (h : q_K t M L A) : (0 ≤ A 131 0 ∧ A 131 0 ≤ A 122 3) ∧ (0 ≤ A 131 1 ∧ A 131 1 ≤ 99) ∧ (0 ≤ A 131 2 ∧ A 131 2 < 64) ∧ (0 ≤ A 131 3 ∧ A 123 5 + A 131 3 ≤ 16) ∧ (0 ≤ A 131 20 ∧ A 131 20 ≤ 6) := by
  obtain ⟨d1, d2, d3, d4, d5, d6⟩ := h.2.2.2.2.2.2
  obtain ⟨-, w2, -⟩ := y_j_wf h
  have h6 : (2 : Int) ^ (A 123 3).toNat ≤ 64 := by
    have : (A 123 3).toNat ≤ 6 := by omega
    have h2 : 2 ^ (A 123 3).toNat ≤ 2 ^ 6 := Nat.pow_le_pow_right (by decide) this
    have h3 : ((2 ^ (A 123 3).toNat : Nat) : Int) ≤ ((2 ^ 6 : Nat) : Int) := Int.ofNat_le.mpr h2
    rw [Int.natCast_pow] at h3
    exact h3
  have h7 : q_pc6 (A 131 2) ≤ 6 := by
    unfold q_pc6
    have := List.countP_le_length (p := fun i => (A 131 2).toNat.testBit i) (l := List.range 6)
    rw [List.length_range] at this
    omega
  exact ⟨d1, d2, ⟨d3.1, by omega⟩, d4, by omega⟩
theorem y_r_ld131 {t : Nat} {M : q_Mem} {L A : q_G} (h : q_K t M L A) {k : Int} (h0 : 0 ≤ k) (h1 : k < 141) : q_ld M 131 141 k = some (A 131 k.toNat) := by
  rw [b_ld h0 (by omega) (by decide), h.2.1 131 _ rfl]
theorem y_r_fm {t : Nat} {M : q_Mem} {L A : q_G} (h : q_K t M L A) : fX12_fairMinutes M = some (A 122 3, M) := by
  unfold fX12_fairMinutes
  rw [b_ld (by decide) (by decide) (by decide), Option.bind_some, show (3 : Int).toNat = 3 from rfl, h.2.1 122 3 rfl]
theorem y_r_sm {t : Nat} {M : q_Mem} {L A : q_G} (h : q_K t M L A) : fX12_stallMany M = some (A 123 3, M) := by
  unfold fX12_stallMany
  rw [b_ld (by decide) (by decide) (by decide), Option.bind_some, show (3 : Int).toNat = 3 from rfl, h.2.1 123 3 rfl]
theorem y_r_cm {t : Nat} {M : q_Mem} {L A : q_G} (h : q_K t M L A) : fX12_coinMany M = some (A 123 4, M) := by
  unfold fX12_coinMany
  rw [b_ld (by decide) (by decide) (by decide), Option.bind_some, show (4 : Int).toNat = 4 from rfl, h.2.1 123 4 rfl]
theorem y_r_isCoin {t : Nat} {M : q_Mem} {L A : q_G} (h : q_K t M L A) {x : Int} (hx : q_R x) : fX12_isCoin x M = some (if 0 ≤ x ∧ x < A 123 4 then 1 else 0, M) := by
  have w := y_j_wf h
  unfold fX12_isCoin
  rw [y_r_cm h, b_some, n_w (a := A 123 4 - 1) (by omega) (by omega), f_isInW hx (by decide) (by decide) (by omega) (by omega), b_some, f_01]
  by_cases c : 0 ≤ x ∧ x < A 123 4
  · rw [if_pos c, if_pos (by omega)]
  · rw [if_neg c, if_neg (by omega)]
theorem y_r_isStall {t : Nat} {M : q_Mem} {L A : q_G} (h : q_K t M L A) {x : Int} (hx : q_R x) : fX12_isStall (q_w x) M = some (if 0 ≤ x ∧ x < A 123 3 then 1 else 0, M) := by
  have w := y_j_wf h
  unfold fX12_isStall
  rw [y_r_sm h, b_some, n_w (a := A 123 3 - 1) (by omega) (by omega), f_isInW hx (by decide) (by decide) (by omega) (by omega), b_some, f_01]
  by_cases c : 0 ≤ x ∧ x < A 123 3
  · rw [if_pos c, if_pos (by omega)]
  · rw [if_neg c, if_neg (by omega)]
theorem y_r_isMinute {t : Nat} {M : q_Mem} {L A : q_G} (h : q_K t M L A) {x : Int} (hx : q_R x) : fX12_isMinute x M = some (if A 94 47 = 1 ∧ 0 ≤ x ∧ x ≤ A 122 3 then 1 else 0, M) := by
  have w := y_j_wf h
  have wf := y_j_fair h
  unfold fX12_isMinute
  rw [h.2.1 94 47 rfl]
  by_cases c : A 94 47 = 1
  · rw [c, if_neg (by decide), y_r_fm h, b_some, n_w (a := A 122 3) (by omega) (by omega), f_isInW hx (by decide) (by decide) (by omega) (by omega), b_some, f_ite]
    by_cases c2 : 0 ≤ x ∧ x ≤ A 122 3
    · rw [if_pos c2, if_pos ⟨rfl, c2⟩]
    · rw [if_neg c2, if_neg (fun h => c2 h.2)]
  · have : A 94 47 = 0 := by omega
    rw [this, if_pos (by decide), if_neg (fun h => absurd h.1 (by decide))]
theorem y_r_bought {t : Nat} {M : q_Mem} {L A : q_G} (h : q_K t M L A) {x : Int} : fX12_isBought x M = some (if q_w (q_and (q_shr (A 131 2) x) 1) = 1 then 1 else 0, M) := by
  unfold fX12_isBought
  rw [y_r_ld131 h (by decide) (by decide), Option.bind_some, show (2 : Int).toNat = 2 from rfl, show q_w 1 = 1 from rfl]
  by_cases c : q_w (q_and (q_shr (A 131 2) x) 1) = 1
  · rw [if_pos c, if_pos c]
  · rw [if_neg c, if_neg c]
