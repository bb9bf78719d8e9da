/-! buy -/
theorem st_ref12 {M0 Mx : q_Mem} {k : Nat} (hS : q_St M0) (hx : q_S q_fr12 (q_up M0 56 k (M0.2 56 k + 1)) Mx) : q_St (q_up Mx 96 k (Mx.2 96 k + 1)) := by
  refine st_scr (u_ref hS k) ?_
  intro a j ha
  rw [up_rd, up_rd (M := q_up M0 56 k (M0.2 56 k + 1)), hx a j ha, hx 96 k (by unfold q_fr12; omega)]
def s_can (A : q_G) (x1 x2 : Int) : Bool := decide (0 ≤ x1) && decide (x1 < A 123 4) && (decide (0 ≤ x2) && decide (x2 < A 123 3)) && decide (A 125 (24 + 4 * x2.toNat) = A 131 1) && !decide (q_w (q_and (q_shr (A 131 2) x2) 1) = 1) && s_buys A x1 x2 (A 131 0)
theorem c_can {t : Nat} {M : q_Mem} {L A : q_G} (h : q_J t M L A) {x1 x2 : Int} (h1 : q_R x1) (h2 : q_R x2) : q_P (fX11_canBuy x1 x2 M) (fun r M' => r = (if s_can A x1 x2 = true then 1 else 0) ∧ q_J t M' L A) := by
  have w := j_wf h
  have db := j_db h
  obtain ⟨ht, -, hT, -, hL⟩ := j_t h
  obtain ⟨-, -, -, -, -, -, -, -, -, rs, -⟩ := h.2.2.1
  obtain ⟨-, -, -, -, -, ws, -⟩ := h.2.2.2.1
  unfold fX11_canBuy s_can
  rw [c_isCoin h h1, b_some, f_ite]
  by_cases c1 : 0 ≤ x1 ∧ x1 < A 123 4
  · rw [if_pos c1, decide_eq_true c1.1, decide_eq_true c1.2, Bool.true_and, Bool.true_and, c_isStall h h2, b_some, f_ite]
    by_cases c2 : 0 ≤ x2 ∧ x2 < A 123 3
    · rw [if_pos c2, decide_eq_true c2.1, decide_eq_true c2.2, Bool.true_and, Bool.true_and]
      obtain ⟨a, rfl, ha⟩ := nat_of c1
      obtain ⟨s, rfl, hs⟩ := nat_of c2
      obtain ⟨m, hm, hm2⟩ := nat_of' db.1
      have hw := (ws s hs).1
      simp only [q_let]
      rw [j_told h, fq3 ht, b_ld (by omega) (by omega) (by decide), Option.bind_some, Int.toNat_natCast, hL 2 s (by decide), (rs s hs).1, (j_d h).2.1, n_w (by omega) (by omega), n_w (by omega) (by omega)]
      by_cases c3 : A 125 (24 + 4 * s) = A 131 1
      · rw [if_pos c3, decide_eq_true c3, Bool.true_and, c_bought h, b_some, f_ite]
        by_cases c4 : q_w (q_and (q_shr (A 131 2) (s : Int)) 1) = 1
        · rw [if_pos c4, decide_eq_true c4]
          exact w_some.mpr ⟨rfl, h⟩
        · rw [if_neg c4, decide_eq_false c4, Bool.not_false, Bool.true_and, (j_d h).1, hm]
          refine w_call (c_pays h ha hs (by omega)) ?_
          rintro r M1 ⟨rfl, hJ⟩
          rw [f_ite]
          by_cases cb : s_buys A a s m = true
          · rw [if_pos cb, if_pos cb]
            exact w_some.mpr ⟨rfl, hJ⟩
          · rw [if_neg cb, if_neg cb]
            exact w_some.mpr ⟨rfl, hJ⟩
      · rw [if_neg c3, decide_eq_false c3]
        exact w_some.mpr ⟨rfl, h⟩
    · rw [if_neg c2]
      refine w_some.mpr ⟨?_, h⟩
      have : (decide (0 ≤ x2) && decide (x2 < A 123 3)) = false := by
        rw [Bool.and_eq_false_iff, decide_eq_false_iff_not, decide_eq_false_iff_not]
        omega
      rw [this]
      rfl
  · rw [if_neg c1]
    refine w_some.mpr ⟨?_, h⟩
    have : (decide (0 ≤ x1) && decide (x1 < A 123 4)) = false := by
      rw [Bool.and_eq_false_iff, decide_eq_false_iff_not, decide_eq_false_iff_not]
      omega
    rw [this]
    rfl
theorem r_can {t : Nat} {M : q_Mem} {L A : q_G} (h : q_K t M L A) {x1 x2 : Int} (h1 : q_R x1) (h2 : q_R x2) : ∃ Mx, q_S q_fr12 M Mx ∧ q_K t Mx L A ∧ fX12_buy x1 x2 M = (if s_can A x1 x2 = true then (q_bd (fX12_keeps Mx) fun _ M6 => (q_ld M6 131 141 2).bind fun x28 => (q_sto M6 131 141 2 (q_or x28 (q_shl 1 x2))).bind fun M7 => q_bd (fX12_isKept x2 x1 M7) fun _ M8 => some (1, M8)) else fX12_buy_54 Mx) := by
  have w := y_j_wf h
  have db := y_j_db h
  obtain ⟨-, -, -, -, -, ws, -⟩ := h.2.2.2.1
  unfold fX12_buy s_can
  rw [y_r_isCoin h h1, b_some, f_ite]
  by_cases c1 : 0 ≤ x1 ∧ x1 < A 123 4
  · rw [if_pos c1, decide_eq_true c1.1, decide_eq_true c1.2, Bool.true_and, Bool.true_and, y_r_isStall h h2, b_some, f_ite]
    by_cases c2 : 0 ≤ x2 ∧ x2 < A 123 3
    · rw [if_pos c2, decide_eq_true c2.1, decide_eq_true c2.2, Bool.true_and, Bool.true_and]
      obtain ⟨a, rfl, ha⟩ := nat_of c1
      obtain ⟨s, rfl, hs⟩ := nat_of c2
      have hw := (ws s hs).1
      rw [r_place h hs, b_some, y_r_ld131 h (by decide) (by decide), Option.bind_some, show (1 : Int).toNat = 1 from rfl, Int.toNat_natCast, n_w (by omega) (by omega), n_w (by omega) (by omega)]
      by_cases c3 : A 125 (24 + 4 * s) = A 131 1
      · rw [if_pos c3, decide_eq_true c3, Bool.true_and, y_r_bought h, b_some, f_ite]
        by_cases c4 : q_w (q_and (q_shr (A 131 2) (s : Int)) 1) = 1
        · rw [if_pos c4, decide_eq_true c4]
          exact ⟨M, S_refl, h, rfl⟩
        · rw [if_neg c4, decide_eq_false c4, Bool.not_false, Bool.true_and, y_r_ld131 h (by decide) (by decide), Option.bind_some, show (0 : Int).toNat = 0 from rfl]
          obtain ⟨r, Mx, e, ⟨rfl, hK⟩, hf⟩ := N_P (y_r_buys h ha hs db.1) (N_fX12_doesBuy S_refl)
          refine ⟨Mx, hf, hK, ?_⟩
          rw [e, b_some, f_ite]
      · rw [if_neg c3, decide_eq_false c3]
        exact ⟨M, S_refl, h, rfl⟩
    · rw [if_neg c2]
      have : (decide (0 ≤ x2) && decide (x2 < A 123 3)) = false := by
        rw [Bool.and_eq_false_iff, decide_eq_false_iff_not, decide_eq_false_iff_not]
        omega
      rw [this]
      exact ⟨M, S_refl, h, rfl⟩
  · rw [if_neg c1]
    have : (decide (0 ≤ x1) && decide (x1 < A 123 4)) = false := by
      rw [Bool.and_eq_false_iff, decide_eq_false_iff_not, decide_eq_false_iff_not]
      omega
    rw [this]
    exact ⟨M, S_refl, h, rfl⟩
theorem c_keepM {M : q_Mem} {k : Nat} {x1 x2 : Int} (hk : k < 6) (h5 : M.2 10 5 = (k : Int)) : q_P (fX1_keep x1 x2 M) (fun _ M1 => (∀ a j, ¬ ((a = 10 ∧ (j = 2 ∨ j = 5)) ∨ (12 ≤ a ∧ a ≤ 14 ∧ j = k)) → M1.2 a j = M.2 a j) ∧ M1.2 10 2 = q_or (M.2 10 2) (q_shl 1 x2) ∧ M1.2 10 5 = (k : Int) + 1 ∧ M1.2 12 k = M.2 10 0 ∧ M1.2 13 k = x2 ∧ M1.2 14 k = x1) := by
  unfold fX1_keep
  rw [q_le]
  have e5 : (q_up M 10 2 (q_or (M.2 10 2) (q_shl 1 x2))).2 10 5 = (k : Int) := by rw [up_ne (by omega), h5]
  have e0 : (q_up M 10 2 (q_or (M.2 10 2) (q_shl 1 x2))).2 10 0 = M.2 10 0 := up_ne (by omega)
  have e2 : (q_up M 10 2 (q_or (M.2 10 2) (q_shl 1 x2))).2 10 2 = q_or (M.2 10 2) (q_shl 1 x2) := by rw [up_rd, if_pos ⟨rfl, rfl⟩]
  have ee : ∀ a j, ¬ (a = 10 ∧ j = 2) → (q_up M 10 2 (q_or (M.2 10 2) (q_shl 1 x2))).2 a j = M.2 a j := fun a j ha => up_ne ha
  generalize q_up M 10 2 (q_or (M.2 10 2) (q_shl 1 x2)) = N at e5 e0 e2 ee ⊢
  rw [e5, n_w (by omega) (by omega), show q_w 6 = 6 from rfl, if_pos (by omega), b_sto (by omega) (by omega) (by decide), Option.bind_some, Int.toNat_natCast]
  have f5 : (q_up N 12 k (N.2 10 0)).2 10 5 = (k : Int) := by rw [up_ne (by omega), e5]
  rw [f5, b_sto (by omega) (by omega) (by decide), Option.bind_some, Int.toNat_natCast]
  have g5 : (q_up (q_up N 12 k (N.2 10 0)) 13 k x2).2 10 5 = (k : Int) := by rw [up_ne (by omega), f5]
  rw [g5, b_sto (by omega) (by omega) (by decide), Option.bind_some, Int.toNat_natCast, q_le]
  have i5 : (q_up (q_up (q_up N 12 k (N.2 10 0)) 13 k x2) 14 k x1).2 10 5 = (k : Int) := by rw [up_ne (by omega), g5]
  rw [i5]
  refine w_some.mpr ⟨?_, ?_, ?_, ?_, ?_, ?_⟩
  · intro a j ha
    rw [up_ne (by omega), up_ne (by omega), up_ne (by omega), up_ne (by omega), ee a j (by omega)]
  · rw [up_ne (by omega), up_ne (by omega), up_ne (by omega), up_ne (by omega), e2]
  · rw [up_rd, if_pos ⟨rfl, rfl⟩]
  · rw [up_ne (by omega), up_ne (by omega), up_ne (by omega), up_rd, if_pos ⟨rfl, rfl⟩, e0]
  · rw [up_ne (by omega), up_ne (by omega), up_rd, if_pos ⟨rfl, rfl⟩]
  · rw [up_ne (by omega), up_rd, if_pos ⟨rfl, rfl⟩]
theorem r_kept {M : q_Mem} {k : Nat} {x1 x2 : Int} (hk : k < 6) (h20 : M.2 131 20 = (k : Int)) : q_P (fX12_isKept x1 x2 M) (fun _ M1 => (∀ a j, ¬ (a = 131 ∧ (j = 20 ∨ (21 + 3 * k ≤ j ∧ j ≤ 23 + 3 * k))) → M1.2 a j = M.2 a j) ∧ M1.2 131 20 = (k : Int) + 1 ∧ M1.2 131 (21 + 3 * k) = M.2 131 0 ∧ M1.2 131 (22 + 3 * k) = x1 ∧ M1.2 131 (23 + 3 * k) = x2) := by
  unfold fX12_isKept fX12_isKept_56
  rw [b_ld (by decide) (by decide) (by decide), Option.bind_some, show (20 : Int).toNat = 20 from rfl, h20, n_w (by omega) (by omega), show q_w 40 = 40 from rfl, if_neg (by omega), Option.bind_some, b_sto (by decide) (by decide) (by decide), Option.bind_some, show (20 : Int).toNat = 20 from rfl, b_ld (by decide) (by decide) (by decide), Option.bind_some, show (20 : Int).toNat = 20 from rfl, up_rd, if_pos ⟨rfl, rfl⟩, q_le, b_ld (by decide) (by decide) (by decide), Option.bind_some, show (0 : Int).toNat = 0 from rfl, up_ne (by omega), b_sto (by omega) (by omega) (by decide), Option.bind_some, b_sto (by omega) (by omega) (by decide), Option.bind_some, b_sto (by omega) (by omega) (by decide), Option.bind_some]
  rw [show ((21 : Int) + 3 * ((k : Int) + 1) - 3).toNat = 21 + 3 * k from by omega, show ((21 : Int) + 3 * ((k : Int) + 1) - 3 + 1).toNat = 22 + 3 * k from by omega, show ((21 : Int) + 3 * ((k : Int) + 1) - 3 + 2).toNat = 23 + 3 * k from by omega]
  refine w_some.mpr ⟨?_, ?_, ?_, ?_, ?_⟩
  · intro a j ha
    rw [up_ne (by omega), up_ne (by omega), up_ne (by omega), up_ne (by omega)]
  · rw [up_ne (by omega), up_ne (by omega), up_ne (by omega), up_rd, if_pos ⟨rfl, rfl⟩]
  · rw [up_ne (by omega), up_ne (by omega), up_rd, if_pos ⟨rfl, rfl⟩]
  · rw [up_ne (by omega), up_rd, if_pos ⟨rfl, rfl⟩]
  · rw [up_rd, if_pos ⟨rfl, rfl⟩]
theorem st_buy {M : q_Mem} (hS : q_St M) (x1 x2 : Int) (h1 : q_R x1) (h2 : q_R x2) : q_Step M (fX11_buy x1 x2 M) (fun M1 => fX12_buy x1 x2 M1) := by
  obtain ⟨t, L, A, hI'⟩ := id hS
  obtain ⟨_, M0, e0, rfl, hJ0⟩ := c_can hI'.1 h1 h2
  have hI : q_I t M0 L A := ⟨hJ0, hI'.2.1, hI'.2.2⟩
  have w := j_wf hI.1
  have db := j_db hI.1
  have jd := j_d hI.1
  by_cases c : s_can A x1 x2 = true
  · have rg := i_rg hI
    obtain ⟨i1, i2, i3, i4⟩ := i_self hI
    have sj := sj_self hI
    obtain ⟨⟨v1, v2, v3, v4, v5, v6⟩, s2, s3⟩ := id sj
    have m131 : ∀ k, M0.2 131 k = A 131 k := fun k => hI.1.2.1 131 k rfl
    have cc := c
    unfold s_can at cc
    simp only [Bool.and_eq_true, decide_eq_true_eq, Bool.not_eq_true', decide_eq_false_iff_not] at cc
    obtain ⟨⟨⟨⟨⟨ca1, ca2⟩, cb1, cb2⟩, c3⟩, c4⟩, c5⟩ := cc
    obtain ⟨a, rfl, ha⟩ := nat_of ⟨ca1, ca2⟩
    obtain ⟨s, rfl, hs⟩ := nat_of ⟨cb1, cb2⟩
    obtain ⟨d, hd, hd2⟩ := nat_of (x := A 131 2) (b := 64) ⟨by omega, by omega⟩
    obtain ⟨k, hk, hk2⟩ := nat_of' (x := A 131 20) (b := 6) ⟨by omega, by omega⟩
    obtain ⟨S, hSt, hSt2⟩ := nat_of' w.2.1
    have ko := k_or ⟨d, by omega⟩ ⟨s, by omega⟩
    simp only at ko
    rw [hd] at c4 v6 v3
    obtain ⟨ko1, ko2⟩ := ko
    obtain ⟨p1, p2, p3⟩ := ko1.resolve_left c4
    have p4 := ko2 ⟨S, by omega⟩ (by show s < S; omega) (by show d < 2 ^ S; rw [hSt, Int.toNat_natCast] at v3; apply Int.ofNat_lt.mp; rw [Int.natCast_pow]; exact v3.2)
    simp only at p4
    generalize hB : q_or (d : Int) (q_shl 1 (s : Int)) = B at p1 p2 p4
    have hk6 : k < 6 := by omega
    obtain ⟨_, Ma, ea, hza⟩ := c_rem rg.1 rg.2.1
    have ma := rem_ma hza
    obtain ⟨_, M1, e1, n1, n2, n3, n4, n5, n6⟩ := c_keepM (M := Ma) (k := k) (x1 := (a : Int)) (x2 := (s : Int)) hk6 (by rw [ma 10 5 (by omega) (by omega), i3, m131, hk])
    rw [ma 10 2 (by omega) (by omega), jd.2.2.1, hd, hB] at n2
    rw [ma 10 0 (by omega) (by omega), jd.1] at n4
    have eM1 : fX11_buy (a : Int) (s : Int) M = some (1, M1) := by
      unfold fX11_buy
      rw [e0, b_some, f_ite, if_pos c, ea, b_some, e1, b_some]
    have c1 : ∀ a j, 90 ≤ a → M1.2 a j = M0.2 a j := fun a j ha => by rw [n1 a j (by omega), ma a j (by omega) (by omega)]
    have hK1 : q_K t M1 L A := k_lt (k_of hI.1) (fun a k ha => c1 a k (by omega))
    obtain ⟨Mx, hx, hKx, er⟩ := r_can hK1 h1 h2
    have cx : ∀ a j, 90 ≤ a → q_fr12 a j → Mx.2 a j = M0.2 a j := fun a j ha hf => by rw [hx a j hf, c1 a j ha]
    obtain ⟨_, Mb, eb, hzb⟩ := r_keeps (M := Mx) (by rw [cx 94 66 (by decide) (by unfold q_fr12; omega)]; exact rg.2.2.1) (by rw [cx 94 65 (by decide) (by unfold q_fr12; omega)]; exact rg.2.2.2)
    have b1 := keep_mb hzb
    have hb131 : ∀ k, Mb.2 131 k = A 131 k := fun k => by rw [b1 131 k (by decide) (by omega), cx 131 k (by decide) (by unfold q_fr12; omega), m131]
    obtain ⟨_, M2, e2, q1, q2, q3, q4, q5⟩ := r_kept (M := q_up Mb 131 2 B) (k := k) (x1 := (s : Int)) (x2 := (a : Int)) hk6 (by rw [up_ne (by omega), hb131, hk])
    rw [up_ne (by omega), hb131] at q3
    refine ⟨1, M1, 1, M2, eM1, ?_, rfl, ?_⟩
    · show fX12_buy _ _ _ = _
      rw [er, if_pos c, eb, b_some, b_ld (by decide) (by decide) (by decide), Option.bind_some, show (2 : Int).toNat = 2 from rfl, hb131, hd, hB, b_sto (by decide) (by decide) (by decide), Option.bind_some, show (2 : Int).toNat = 2 from rfl, e2, b_some]
    · have u2 : ∀ a j, a ≠ 131 → M2.2 a j = Mb.2 a j := fun a j ha => by rw [q1 a j (by omega), up_ne (by omega)]
      have h2v : M2.2 131 2 = B := by rw [q1 131 2 (by omega), up_rd, if_pos ⟨rfl, rfl⟩]
      have g131 : ∀ j, ¬ (j = 2 ∨ j = 20 ∨ (21 + 3 * k ≤ j ∧ j ≤ 23 + 3 * k)) → M2.2 131 j = A 131 j := fun j hj => by rw [q1 131 j (by omega), up_ne (by omega), hb131]
      refine u_act hI hza (fun a j ha => n1 a j (by omega)) hx hzb (fun a j ha => u2 a j (by omega)) ?_ ?_ ?_ ?_ ?_ ?_ ?_ ?_ ?_
      · intro j hj
        have hj' : j = 0 ∨ j = 1 ∨ j = 2 ∨ j = 3 := by omega
        rcases hj' with rfl | rfl | rfl | rfl
        · rw [g131 0 (by omega), n1 10 0 (by omega), ma 10 0 (by omega) (by omega), jd.1]
        · rw [g131 1 (by omega), n1 10 1 (by omega), ma 10 1 (by omega) (by omega), jd.2.1]
        · rw [h2v, n2]
        · rw [g131 3 (by omega), n1 10 3 (by omega), ma 10 3 (by omega) (by omega), jd.2.2.2]
      · rw [q2, n3]
      · rw [u2 94 67 (by decide), b1 94 67 (by decide) (by decide), cx 94 67 (by decide) (by unfold q_fr12; omega), n1 10 12 (by omega), ma 10 12 (by omega) (by omega)]
        exact i2
      · refine ⟨⟨by rw [g131 0 (by omega)]; exact v1, by rw [g131 1 (by omega)]; exact v2, by rw [h2v, hSt, Int.toNat_natCast]; exact ⟨p1, p4⟩, by rw [g131 3 (by omega)]; exact v4, ?_, by rw [q2, h2v, p2]; omega⟩, ?_, ?_⟩
        · intro j hj
          rw [g131 3 (by omega)] at hj
          rw [g131 _ (by omega)]
          exact v5 j hj
        · intro j hj
          rw [g131 3 (by omega)] at hj
          rw [g131 _ (by omega), n1 11 j (by omega), ma 11 j (by omega) (by omega)]
          exact s2 j hj
        · intro j hj
          rw [q2] at hj
          by_cases cj : j = k
          · subst cj
            rw [q3, q4, q5, n4, n5, n6]
            exact ⟨rfl, rfl, rfl⟩
          · rw [g131 _ (by omega), g131 _ (by omega), g131 _ (by omega), n1 12 j (by omega), n1 13 j (by omega), n1 14 j (by omega), ma 12 j (by omega) (by omega), ma 13 j (by omega) (by omega), ma 14 j (by omega) (by omega)]
            exact s3 j (by omega)
      · rw [g131 3 (by omega), m131]; exact Int.le_refl _
      · rw [q2, m131]; omega
      · intro j _
        rw [n1 11 j (by omega), ma 11 j (by omega) (by omega)]
      · intro j hj
        rw [m131] at hj
        rw [n1 12 j (by omega), n1 13 j (by omega), n1 14 j (by omega), ma 12 j (by omega) (by omega), ma 13 j (by omega) (by omega), ma 14 j (by omega) (by omega)]
        exact ⟨rfl, rfl, rfl⟩
      · intro m hm
        rw [n1 89 m (by omega), ma 89 m (by omega) (by omega), i4 m hm, cloud_cg (A := M0.2) (B := M2.2)]
        · rw [u2 123 5 (by decide), b1 123 5 (by decide) (by decide), cx 123 5 (by decide) (by unfold q_fr12; omega)]
        · intro j _
          rw [u2 127 j (by decide), b1 127 j (by decide) (by omega), cx 127 j (by decide) (by unfold q_fr12; omega)]
        · rw [g131 3 (by omega), m131]
        · intro j hj
          rw [m131] at hj
          rw [g131 _ (by omega), m131]
  · have hK1 : q_K t (q_up M0 56 2 (M0.2 56 2 + 1)) L A := k_lt (k_of hI.1) (fun a k ha => up_ne (by omega))
    obtain ⟨Mx, hx, hKx, er⟩ := r_can hK1 h1 h2
    refine ⟨0, q_up M0 56 2 (M0.2 56 2 + 1), 0, q_up Mx 96 2 (Mx.2 96 2 + 1), ?_, ?_, rfl, st_ref12 (i_of hI.1 hI.2.1 hI.2.2) hx⟩
    · unfold fX11_buy
      rw [e0, b_some, f_ite, if_neg c, f_refuse (by decide) (by decide)]
      rfl
    · show fX12_buy _ _ _ = _
      rw [er, if_neg c]
      exact f_refused (by decide) (by decide)
