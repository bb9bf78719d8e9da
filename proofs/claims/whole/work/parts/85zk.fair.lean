/-! fair -/
theorem sk_q {α : Type} {f : Nat → Int} {φ : α → Int} : ∀ {S : List α}, z_stk f (S.map φ) → ∀ {i : Nat} {s : α}, S.reverse[i]? = some s → f i = φ s := by
  intro S
  induction S with
  | nil => intro _ i s h; rw [List.reverse_nil] at h; simp at h
  | cons v S ih =>
    intro h i s hs
    rw [List.map_cons] at h
    rw [List.reverse_cons] at hs
    by_cases c : i < S.length
    · rw [List.getElem?_append_left (by rw [List.length_reverse]; exact c)] at hs
      exact ih h.2 hs
    · rw [List.getElem?_append_right (by rw [List.length_reverse]; omega), List.length_reverse] at hs
      have hi : i - S.length = 0 := by
        cases hd : i - S.length with
        | zero => rfl
        | succ n => rw [hd] at hs; simp at hs
      rw [hi] at hs
      simp at hs
      have h1 := h.1
      rw [List.length_map] at h1
      rw [show i = S.length from by omega, h1, hs]
theorem sk_ex {α : Type} {S : List α} {i : Nat} (h : i < S.length) : ∃ s, S.reverse[i]? = some s ∧ s ∈ S := by
  have h1 : i < S.reverse.length := by rw [List.length_reverse]; exact h
  refine ⟨S.reverse[i], List.getElem?_eq_getElem h1, List.mem_reverse.mp (List.getElem_mem h1)⟩
theorem aco_w {a k : Nat} (h : (97 ≤ a ∧ a ≤ 121) ∨ (140 ≤ a ∧ a ≤ 161)) : a_core a k = true := by
  have : a = 97 ∨ a = 98 ∨ a = 99 ∨ a = 100 ∨ a = 101 ∨ a = 102 ∨ a = 103 ∨ a = 104 ∨ a = 105 ∨ a = 106 ∨ a = 107 ∨ a = 108 ∨ a = 109 ∨ a = 110 ∨ a = 111 ∨ a = 112 ∨ a = 113 ∨ a = 114 ∨ a = 115 ∨ a = 116 ∨ a = 117 ∨ a = 118 ∨ a = 119 ∨ a = 120 ∨ a = 121 ∨ a = 140 ∨ a = 141 ∨ a = 142 ∨ a = 143 ∨ a = 144 ∨ a = 145 ∨ a = 146 ∨ a = 147 ∨ a = 148 ∨ a = 149 ∨ a = 150 ∨ a = 151 ∨ a = 152 ∨ a = 153 ∨ a = 154 ∨ a = 155 ∨ a = 156 ∨ a = 157 ∨ a = 158 ∨ a = 159 ∨ a = 160 ∨ a = 161 := by omega
  rcases this with rfl | rfl | rfl | rfl | rfl | rfl | rfl | rfl | rfl | rfl | rfl | rfl | rfl | rfl | rfl | rfl | rfl | rfl | rfl | rfl | rfl | rfl | rfl | rfl | rfl | rfl | rfl | rfl | rfl | rfl | rfl | rfl | rfl | rfl | rfl | rfl | rfl | rfl | rfl | rfl | rfl | rfl | rfl | rfl | rfl | rfl | rfl <;> rfl
theorem ws_I {t : Nat} {M : q_Mem} {L A : q_G} (h : q_I t M L A) : r_words M.2 := by
  intro e he j hj
  rw [h.1.2.1 _ _ (aco_w (a_wc e he))]
  exact h.2.2 e he j hj
/-- a code of both sides -/
theorem rc_of {a i cd : Nat} {R : List Int} {ty : Bool} {Ml Mo : q_Mem} {A : q_G} (hk : zc_k a R Ml) (ho : zo_k cd i R Mo) (hR : R.length ≤ 1600) (hcd : cd ≤ 1600) (ht : R = [] ∨ q_tc i R.reverse [] = some [ty]) (hty : ty = (i == 1)) (h8 : A 128 (2 + i) = Mo.2 128 i) (h9 : A 129 (2 + i) = Mo.2 129 i) (h0 : ∀ k, k < cd → A 130 (1600 + k) = Mo.2 130 k) : r_code (Ml.2 a 1) (Ml.2 (a + 1)) A i := by
  unfold r_code
  rcases ho with ⟨e, o1⟩ | ⟨e, f, o1, o2, o3, o4⟩
  · refine Or.inl ⟨by rw [h8, o1], ?_⟩
    rw [hk.1, e]
    rfl
  · have hl : 1 ≤ R.length := by
      cases R with
      | nil => exact absurd rfl e
      | cons v R => rw [List.length_cons]; omega
    have hs : Ml.2 a 1 = (R.length : Int) := hk.1
    have hst : ∀ j, j < R.length → Ml.2 (a + 1) j = q_enc (R.reverse.getD j 0) := by
      intro j hj
      have := stk_rev hk.2 j (by rw [List.length_map]; exact hj)
      rw [this, ← List.map_reverse, List.getD_eq_getElem?_getD, List.getElem?_map, List.getD_eq_getElem?_getD, List.getElem?_eq_getElem (by rw [List.length_reverse]; exact hj)]
      rfl
    have hA : ∀ j, j < R.length → A 130 (1600 + f + j) = R.reverse.getD j 0 := by
      intro j hj
      rw [show 1600 + f + j = 1600 + (f + j) from by omega, h0 _ (by omega), o4 j hj]
    have ef : (A 128 (2 + i)).toNat = f := by rw [h8, o1, Int.toNat_natCast]
    refine Or.inr ⟨by rw [h8, o1]; omega, by rw [h9, o2]; omega, by rw [hs, h8, h9, o1, o2]; omega, by rw [hs]; omega, by rw [hs]; omega, ?_, ?_⟩
    · intro j hj
      rw [hs] at hj
      rw [ef, hst j (by omega), hA j (by omega)]
    · have e2 : s_codes A i = R.reverse := by
        unfold s_codes
        rw [h9, o2, h8, o1, Int.toNat_natCast, show (((f + R.length : Nat) : Int) - (f : Int)).toNat = R.length from by omega]
        refine List.ext_getElem? fun k => ?_
        by_cases c : k < R.length
        · rw [List.getElem?_map, List.getElem?_range c, Option.map_some, hA k c, List.getD_eq_getElem?_getD, List.getElem?_eq_getElem (by rw [List.length_reverse]; exact c)]
          rfl
        · rw [List.getElem?_eq_none (by rw [List.length_map, List.length_range]; omega), List.getElem?_eq_none (by rw [List.length_reverse]; omega)]
      rw [e2]
      rcases ht with g | g
      · exact absurd g e
      · rw [g, hty]
/-- the class's new fair, the other side's, and all else as it was -/
theorem fair_St {t r N : Nat} {b : Nat → Int} {M Ml Mo M' : q_Mem} {L A : q_G} {F : t_Fr} (hI : q_I t M L A) (hr : (t = 57 ∧ r = 72) ∨ (t = 72 ∧ r = 57)) (hw : w_F F) (hcd : F.2.2.2.2.1.length + F.2.2.2.2.2.length ≤ 1600)
    (hc : zc_F r F Ml) (ho : zo_F F Mo)
    (hl : ∀ a k, r ≤ a → a ≤ r + 14 → M'.2 a k = Ml.2 a k)
    (o47 : M'.2 94 47 = 1) (o65 : M'.2 94 65 = 0) (o62 : M'.2 94 62 = 0) (o131 : ∀ k, k < 141 → M'.2 131 k = 0)
    (o12 : ∀ k, k < 3 → M'.2 122 (3 + k) = Mo.2 122 k ∧ M'.2 123 (3 + k) = Mo.2 123 k) (o8 : ∀ k, k < 2 → M'.2 128 (2 + k) = Mo.2 128 k ∧ M'.2 129 (2 + k) = Mo.2 129 k)
    (o4 : ∀ k, k < 16 → M'.2 124 (16 + k) = Mo.2 124 k ∧ M'.2 126 (16 + k) = Mo.2 126 k ∧ M'.2 127 (16 + k) = Mo.2 127 k) (o5 : ∀ k, k < 24 → M'.2 125 (24 + k) = Mo.2 125 k) (o0 : ∀ k, k < F.2.2.2.2.1.length + F.2.2.2.2.2.length → M'.2 130 (1600 + k) = Mo.2 130 k)
    (c11 : M'.2 0 11 = (r : Int)) (c12 : M'.2 0 12 = (t : Int)) (c87 : M'.2 87 0 = (r : Int)) (c10 : ∀ k, k < 4 ∨ k = 5 ∨ k = 10 ∨ k = 11 → M'.2 10 k = 0) (c36 : M'.2 36 0 = 0) (c88 : ∀ k, k < 19248 → M'.2 88 k = -1) (c89 : ∀ m : Nat, m ≤ 400 → M'.2 89 m = if (List.range (Ml.2 r 11).toNat).any (fun k => decide (Ml.2 (r + 9) k ≤ (m : Int)) && decide ((m : Int) ≤ Ml.2 (r + 10) k)) = true then 1 else 0)
    (c1 : M'.2 1 1 = 0) (c94 : M'.2 94 1 = 0) (cf : M'.2 0 14 = M'.2 94 7 ∧ M'.2 0 15 = M'.2 94 8)
    (hk : ∀ a k, a = 2 ∨ a = 95 ∨ a = 56 ∨ a = 96 ∨ a = 3 ∨ a = 4 ∨ a = 165 ∨ (a = 94 ∧ (k = 101 ∨ k = 67 ∨ k = 66)) ∨ (a = 10 ∧ k = 12) ∨ (97 ≤ a ∧ a ≤ 121) ∨ (140 ≤ a ∧ a ≤ 161) → M'.2 a k = M.2 a k) : q_St M' := by
  obtain ⟨hJ, hR, hW⟩ := hI
  obtain ⟨f1, f2, f3, f4, f5, f6⟩ := hc
  obtain ⟨g1, g2, g3, g4, g5, g6, g7⟩ := ho
  obtain ⟨w1, w2, w3, w4, w5, w6, w7, w8, w9, w10⟩ := hw
  have eL : ∀ a k, l_obs (L 0 11) a k = true → M.2 a k = L a k := hJ.1
  have eA : ∀ a k, a_core a k = true → M.2 a k = A a k := hJ.2.1
  -- counts
  have m3 : M'.2 122 3 = F.1.1 := by rw [(o12 0 (by omega)).1]; exact g1.1
  have m4 : M'.2 122 4 = F.1.2.1 := by rw [(o12 1 (by omega)).1]; exact g1.2.1
  have m5 : M'.2 122 5 = F.1.2.2 := by rw [(o12 2 (by omega)).1]; exact g1.2.2
  have n3 : M'.2 123 3 = (F.2.1.length : Int) := by rw [(o12 0 (by omega)).2]; exact g2.1
  have n4 : M'.2 123 4 = (F.2.2.1.length : Int) := by rw [(o12 1 (by omega)).2]; exact g3.1
  have n5 : M'.2 123 5 = (F.2.2.2.1.length : Int) := by rw [(o12 2 (by omega)).2]; exact g4.1
  have hS : ∀ s : Nat, (s : Int) < M'.2 123 3 → ∃ x ∈ F.2.1, Ml.2 (r + 1) s = q_n32 x.1 ∧ M'.2 124 (16 + s) = q_n27 x.1.reverse ∧ Ml.2 (r + 2) s = x.2.1 ∧ M'.2 125 (24 + 4 * s) = x.2.1 ∧ Ml.2 (r + 3) s = x.2.2.1 ∧ M'.2 125 (25 + 4 * s) = x.2.2.1 ∧ Ml.2 (r + 4) s = x.2.2.2.1 ∧ M'.2 125 (26 + 4 * s) = x.2.2.2.1 ∧ Ml.2 (r + 5) s = x.2.2.2.2 ∧ M'.2 125 (27 + 4 * s) = x.2.2.2.2 := by
    intro s hs
    rw [n3] at hs
    obtain ⟨x, hx, hm⟩ := sk_ex (S := F.2.1) (i := s) (by omega)
    have w6' := w1.1
    have e1 : M'.2 125 (24 + 4 * s) = Mo.2 125 (4 * s) := o5 (4 * s) (by omega)
    have e2 : M'.2 125 (25 + 4 * s) = Mo.2 125 (4 * s + 1) := by rw [show 25 + 4 * s = 24 + (4 * s + 1) from by omega]; exact o5 _ (by omega)
    have e3 : M'.2 125 (26 + 4 * s) = Mo.2 125 (4 * s + 2) := by rw [show 26 + 4 * s = 24 + (4 * s + 2) from by omega]; exact o5 _ (by omega)
    have e4 : M'.2 125 (27 + 4 * s) = Mo.2 125 (4 * s + 3) := by rw [show 27 + 4 * s = 24 + (4 * s + 3) from by omega]; exact o5 _ (by omega)
    exact ⟨x, hm, sk_q f2.2.1 hx, by rw [(o4 s (by omega)).1]; exact sk_q g2.2.1 hx, sk_q f2.2.2.1 hx, by rw [e1]; exact sk_q g2.2.2.1 hx, sk_q f2.2.2.2.1 hx, by rw [e2]; exact sk_q g2.2.2.2.1 hx, sk_q f2.2.2.2.2.1 hx, by rw [e3]; exact sk_q g2.2.2.2.2.1 hx, sk_q f2.2.2.2.2.2 hx, by rw [e4]; exact sk_q g2.2.2.2.2.2 hx⟩
  have hC : ∀ s : Nat, (s : Int) < M'.2 123 4 → ∃ x ∈ F.2.2.1, Ml.2 (r + 6) s = q_n32 x.1 ∧ M'.2 124 (24 + s) = q_n27 x.1.reverse ∧ Ml.2 (r + 7) s = x.2.1 ∧ M'.2 126 (16 + 2 * s) = x.2.1 ∧ Ml.2 (r + 8) s = x.2.2 ∧ M'.2 126 (17 + 2 * s) = x.2.2 := by
    intro s hs
    rw [n4] at hs
    obtain ⟨x, hx, hm⟩ := sk_ex (S := F.2.2.1) (i := s) (by omega)
    have w6' := w1.2.1
    have e1 : M'.2 126 (16 + 2 * s) = Mo.2 126 (2 * s) := (o4 (2 * s) (by omega)).2.1
    have e2 : M'.2 126 (17 + 2 * s) = Mo.2 126 (2 * s + 1) := by rw [show 17 + 2 * s = 16 + (2 * s + 1) from by omega]; exact (o4 _ (by omega)).2.1
    have e3 : M'.2 124 (24 + s) = Mo.2 124 (8 + s) := by rw [show 24 + s = 16 + (8 + s) from by omega]; exact (o4 _ (by omega)).1
    exact ⟨x, hm, sk_q f3.2.1 hx, by rw [e3]; exact sk_q g3.2.1 hx, sk_q f3.2.2.1 hx, by rw [e1]; exact sk_q g3.2.2.1 hx, sk_q f3.2.2.2 hx, by rw [e2]; exact sk_q g3.2.2.2 hx⟩
  have hCl : ∀ s : Nat, (s : Int) < M'.2 123 5 → ∃ x ∈ F.2.2.2.1, Ml.2 (r + 9) s = x.1 ∧ M'.2 127 (16 + 2 * s) = x.1 ∧ Ml.2 (r + 10) s = x.2 ∧ M'.2 127 (17 + 2 * s) = x.2 := by
    intro s hs
    rw [n5] at hs
    obtain ⟨x, hx, hm⟩ := sk_ex (S := F.2.2.2.1) (i := s) (by omega)
    have w6' := w1.2.2
    have e1 : M'.2 127 (16 + 2 * s) = Mo.2 127 (2 * s) := (o4 (2 * s) (by omega)).2.2
    have e2 : M'.2 127 (17 + 2 * s) = Mo.2 127 (2 * s + 1) := by rw [show 17 + 2 * s = 16 + (2 * s + 1) from by omega]; exact (o4 _ (by omega)).2.2
    exact ⟨x, hm, sk_q f4.2.1 hx, by rw [e1]; exact sk_q g4.2.1 hx, sk_q f4.2.2 hx, by rw [e2]; exact sk_q g4.2.2 hx⟩
  have hnm : ∀ l : List Int, h_ls l → r_name (q_n32 l) (q_n27 l.reverse) := fun l hl' => ⟨l, hl'.2.1, hl'.1, hl'.2.2, rfl, rfl⟩
  have lm : ∀ i k, i ≤ 14 → M'.2 (r + i) k = Ml.2 (r + i) k := fun i k hi => hl _ _ (by omega) (by omega)
  have l0 : ∀ k, M'.2 r k = Ml.2 r k := fun k => hl _ _ (by omega) (by omega)
  have hrt : r = 57 ∨ r = 72 := by omega
  have hwf : r_wf M'.2 := by
    refine ⟨Or.inr ⟨o47, by rw [m3]; exact w9.1⟩, by rw [m3]; exact w9.2, by rw [n3]; omega, by rw [n4]; omega, by rw [n5]; omega, ?_, ?_, ?_, by rw [m4]; exact w7, by rw [m5]; exact w8⟩
    · intro s hs
      obtain ⟨x, hx, -, -, -, x1, -, x2, -, x3, -, x4⟩ := hS s hs
      rw [x1, x2, x3, x4]
      exact (w2 x hx).2
    · intro s hs
      obtain ⟨x, hx, -, -, -, x1, -, x2⟩ := hC s hs
      rw [x1, x2]
      exact (w3 x hx).2
    · intro s hs
      obtain ⟨x, hx, -, x1, -, x2⟩ := hCl s hs
      rw [x1, x2]
      exact w4 x hx
  have hfair : r_fair r M'.2 M'.2 := by
    refine ⟨by omega, c11, c87, by rw [l0, m3]; exact f1.1, by rw [l0, n3]; exact f2.1, by rw [l0, n4]; exact f3.1, by rw [l0, n5]; exact f4.1, by rw [l0, m4]; exact f1.2.1, by rw [l0, m5]; exact f1.2.2, ?_, ?_, ?_, ?_, ?_⟩
    · intro s hs
      obtain ⟨x, hx, y1, y2, y3, x1, y4, x2, y5, x3, y6, x4⟩ := hS s hs
      rw [lm 2 s (by omega), lm 3 s (by omega), lm 4 s (by omega), lm 5 s (by omega), lm 1 s (by omega), y1, y2, y3, x1, y4, x2, y5, x3, y6, x4]
      exact ⟨rfl, rfl, rfl, rfl, hnm _ (w2 x hx).1⟩
    · intro s hs
      obtain ⟨x, hx, y1, y2, y3, x1, y4, x2⟩ := hC s hs
      rw [lm 7 s (by omega), lm 8 s (by omega), lm 6 s (by omega), y1, y2, y3, x1, y4, x2]
      exact ⟨rfl, rfl, hnm _ (w3 x hx).1⟩
    · intro s hs
      obtain ⟨x, hx, y1, x1, y2, x2⟩ := hCl s hs
      rw [lm 9 s (by omega), lm 10 s (by omega), y1, x1, y2, x2]
      exact ⟨rfl, rfl⟩
    · have := rc_of (A := M'.2) (i := 0) f5 g6 w10.1 hcd w5 rfl (o8 0 (by omega)).1 (o8 0 (by omega)).2 o0
      rw [lm 11 1 (by omega), show M'.2 (r + 12) = Ml.2 (r + 12) from funext (fun k => lm 12 k (by omega))]
      exact this
    · have := rc_of (A := M'.2) (i := 1) f6 g7 w10.2 hcd w6 rfl (o8 1 (by omega)).1 (o8 1 (by omega)).2 o0
      rw [lm 13 1 (by omega), show M'.2 (r + 14) = Ml.2 (r + 14) from funext (fun k => lm 14 k (by omega))]
      exact this
  have hdv : r_dv M'.2 (M'.2 131) := by
    have w6' := w1.2.2
    refine ⟨by rw [o131 0 (by omega), m3]; omega, by rw [o131 1 (by omega)]; omega, ?_, by rw [o131 3 (by omega), n5]; omega, ?_, ?_⟩
    · rw [o131 2 (by omega)]
      exact ⟨Int.le_refl 0, Int.pow_pos (by decide)⟩
    · intro k hk'
      rw [o131 3 (by omega)] at hk'
      omega
    · rw [o131 20 (by omega), o131 2 (by omega)]
      decide
  have hcl : ∀ m : Nat, s_cloud M'.2 (m : Int) = (List.range (Ml.2 r 11).toNat).any (fun k => decide (Ml.2 (r + 9) k ≤ (m : Int)) && decide ((m : Int) ≤ Ml.2 (r + 10) k)) := by
    intro m
    unfold s_cloud
    rw [o131 3 (by omega), show (0 : Int).toNat = 0 from rfl, List.range_zero, List.any_nil, Bool.or_false, n5, f4.1]
    refine any_cg ?_
    intro k hk'
    have hk2 := List.mem_range.mp hk'
    rw [Int.toNat_natCast] at hk2
    obtain ⟨x, hx, y1, x1, y2, x2⟩ := hCl k (by rw [n5]; omega)
    rw [y1, x1, y2, x2]
  have hday : r_day M'.2 M'.2 := by
    refine ⟨by rw [c10 0 (by omega), o131 0 (by omega)], by rw [c10 1 (by omega), o131 1 (by omega)], by rw [c10 2 (by omega), o131 2 (by omega)], by rw [c10 3 (by omega), o131 3 (by omega)], ?_, ?_⟩
    · intro k hk'
      rw [o131 3 (by omega)] at hk'
      omega
    · intro m hm
      rw [c89 m hm, hcl]
  have hcache : r_cache (M'.2 88) M'.2 := by
    intro c s m h1 h2 h3
    have a1 := w1.2.1
    have a2 := w1.1
    have a3 := w9.2
    rw [n4] at h1
    rw [n3] at h2
    rw [m3] at h3
    refine Or.inl (c88 _ ?_)
    have : c * 6 + s ≤ 47 := by omega
    have : (c * 6 + s) * 401 ≤ 47 * 401 := Nat.mul_le_mul_right _ this
    omega
  refine ⟨r, M'.2, M'.2, ⟨fun _ _ _ => rfl, fun _ _ _ => rfl, hfair, hwf, hday, hcache, hdv⟩, ?_, ?_⟩
  · obtain ⟨j1, j2, j3, j4, j5, j6, j7, j8⟩ := hR
    refine ⟨⟨by rw [c1, c94], ?_, by rw [c94]; omega, ?_⟩, ?_, cf, ?_, ?_, ?_, by rw [c10 5 (by omega), o131 20 (by omega)], ?_⟩
    · intro k
      rw [hk 2 k (by omega), hk 95 k (by omega), eL 2 k rfl, eA 95 k rfl]
      exact j1.2.1 k
    · intro k
      rw [hk 95 k (by omega), eA 95 k rfl]
      exact j1.2.2.2 k
    · intro k
      rw [hk 56 k (by omega), hk 96 k (by omega), eL 56 k rfl, eA 96 k rfl]
      exact j2 k
    · rw [hk 3 1 (by omega), hk 94 101 (by omega), eL 3 1 rfl, eA 94 101 rfl]
      refine ⟨j4.1, j4.2.1, ?_⟩
      intro k hk'
      rw [hk 4 k (by omega), hk 165 k (by omega), eL 4 k rfl, eA 165 k rfl]
      exact j4.2.2 k hk'
    · rw [hk 10 12 (by omega), hk 94 67 (by omega), eL 10 12 rfl, eA 94 67 rfl]
      exact j5
    · rw [c36, o62]
      refine ⟨rfl, by omega, ?_⟩
      intro k hk'
      omega
    · refine ring_clear ?_ o65 (by rw [c10 10 (by omega)]; omega) (c10 11 (by omega)) ⟨hdv, ?_, ?_⟩
      · rw [hk 94 66 (by omega), eA 94 66 rfl]
        exact j8.2.2.2.1
      · intro k hk'
        rw [o131 3 (by omega)] at hk'
        omega
      · intro k hk'
        rw [o131 20 (by omega)] at hk'
        omega
  · intro e he j hj
    have := a_wc e he
    rw [hk _ _ (by omega), eA _ _ (aco_w this)]
    exact hW e he j hj
