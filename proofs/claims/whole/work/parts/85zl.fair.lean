/-! fair, the step -/
theorem zcF_fr {r : Nat} {F : t_Fr} {M M' : q_Mem} (h : zc_F r F M) (hk : ∀ a k, r ≤ a → a ≤ r + 14 → M'.2 a k = M.2 a k) : zc_F r F M' := by
  obtain ⟨f1, f2, f3, f4, f5, f6⟩ := h
  exact ⟨⟨by rw [hk _ _ (by omega) (by omega)]; exact f1.1, by rw [hk _ _ (by omega) (by omega)]; exact f1.2.1, by rw [hk _ _ (by omega) (by omega)]; exact f1.2.2⟩, zS_fr f2 (hk _ _ (by omega) (by omega)) (fun a k h1 h2 _ => hk _ _ (by omega) (by omega)), zC_fr f3 (hk _ _ (by omega) (by omega)) (fun a k h1 h2 _ => hk _ _ (by omega) (by omega)), zL_fr f4 (hk _ _ (by omega) (by omega)) (fun a k h1 h2 _ => hk _ _ (by omega) (by omega)), zk_fr f5 (hk _ _ (by omega) (by omega)) (fun k _ => hk _ _ (by omega) (by omega)), zk_fr f6 (hk _ _ (by omega) (by omega)) (fun k _ => hk _ _ (by omega) (by omega))⟩
theorem c_x1 (M : q_Mem) : ∃ M', fX1_begin M = some (0, M') ∧ (∀ k, k < 4 ∨ k = 5 ∨ k = 10 ∨ k = 11 → M'.2 10 k = 0) ∧ (∀ a k, ¬ (a = 10 ∧ (k < 4 ∨ k = 5 ∨ k = 10 ∨ k = 11)) → M'.2 a k = M.2 a k) := by
  unfold fX1_begin fX1_forget
  rw [q_le, q_le, q_le, q_le, q_le, q_le, q_le, b_some]
  refine ⟨_, rfl, ?_, ?_⟩
  · intro k hk
    have : k = 0 ∨ k = 1 ∨ k = 2 ∨ k = 3 ∨ k = 5 ∨ k = 10 ∨ k = 11 := by omega
    rcases this with rfl | rfl | rfl | rfl | rfl | rfl | rfl
    · rw [up_ne (by omega), up_ne (by omega), up_ne (by omega), up_ne (by omega), up_ne (by omega), up_ne (by omega), up_rd, if_pos ⟨rfl, rfl⟩]
    · rw [up_ne (by omega), up_ne (by omega), up_ne (by omega), up_ne (by omega), up_ne (by omega), up_rd, if_pos ⟨rfl, rfl⟩]
    · rw [up_ne (by omega), up_ne (by omega), up_ne (by omega), up_ne (by omega), up_rd, if_pos ⟨rfl, rfl⟩]
    · rw [up_ne (by omega), up_ne (by omega), up_ne (by omega), up_rd, if_pos ⟨rfl, rfl⟩]
    · rw [up_ne (by omega), up_ne (by omega), up_rd, if_pos ⟨rfl, rfl⟩]
    · rw [up_rd, if_pos ⟨rfl, rfl⟩]
    · rw [up_ne (by omega), up_rd, if_pos ⟨rfl, rfl⟩]
  · intro a k h
    rw [up_ne (by omega), up_ne (by omega), up_ne (by omega), up_ne (by omega), up_ne (by omega), up_ne (by omega), up_ne (by omega)]
theorem st_fair {M : q_Mem} (hS : q_St M) : q_Step M (fX11_fair M) (fun M1 => fX12_fair M1) := by
  obtain ⟨t, L, A, hI⟩ := id hS
  have hJ := hI.1
  obtain ⟨N, hN, n1, n2, n3, n4, n5, n6⟩ := j_tape hI
  obtain ⟨r, hr, m12⟩ : ∃ r : Nat, ((t = 57 ∧ r = 72) ∨ (t = 72 ∧ r = 57)) ∧ M.2 0 12 = (r : Int) := by
    have e : M.2 0 12 = L 0 12 := hJ.1 0 12 rfl
    rcases hJ.2.2.1.1 with ⟨g1, g2⟩ | ⟨g1, g2⟩
    · exact ⟨72, Or.inl ⟨g1, rfl⟩, by rw [e, g2]; rfl⟩
    · exact ⟨57, Or.inr ⟨g1, rfl⟩, by rw [e, g2]; rfl⟩
  have m11 : M.2 0 11 = (t : Int) := by rw [hJ.1 0 11 rfl]; exact hJ.2.2.1.2.1
  have hr' : r = 57 ∨ r = 72 := by omega
  have hws := ws_I hI
  obtain ⟨x, M1, e1, hK, hx⟩ := c_read (b := A 95) (N := N) hr' ⟨n2, n4, n6, hN⟩
  have hof := @o_fair (A 95) N
  generalize s_rd (A 95) N 80 1 (s_fst (A 95) N (.inl (t_sk (A 95) N 0, false))) = q at hK hx hof
  obtain ⟨kT, kS, kf, kF⟩ := hK
  by_cases hok : u_ok q.2.1 = true
  · -- a new fair
    obtain ⟨hF, hwF⟩ := kF hok
    have hx := hx hok
    obtain ⟨p, j, hq⟩ : ∃ p j, q.2.1 = .inl (p, j) := by
      rcases hq : q.2.1 with ⟨p, j⟩ | e
      · exact ⟨p, j, rfl⟩
      · rw [hq] at hok; cases hok
    rw [hq] at kS
    have z55 : M1.2 5 5 = 0 := kS.1.2.2.2.2.1
    have z56 : M1.2 5 6 = -1 := kS.2
    obtain ⟨M3, hM3, h3a, h3b, h3c, h3f⟩ : ∃ M3, M3 = q_up (q_up (q_up M1 1 1 0) 0 14 0) 0 15 (-1) ∧ M3.2 1 1 = 0 ∧ M3.2 0 14 = 0 ∧ M3.2 0 15 = -1 ∧ ∀ a k, ¬ ((a = 1 ∧ k = 1) ∨ (a = 0 ∧ (k = 14 ∨ k = 15))) → M3.2 a k = M1.2 a k := ⟨_, rfl, by rw [up_ne (by omega), up_ne (by omega), up_rd, if_pos ⟨rfl, rfl⟩], by rw [up_ne (by omega), up_rd, if_pos ⟨rfl, rfl⟩], by rw [up_rd, if_pos ⟨rfl, rfl⟩], fun a k h => by rw [up_ne (by omega), up_ne (by omega), up_ne (by omega)]⟩
    have a11 : M3.2 0 11 = (t : Int) := by rw [h3f _ _ (by omega), kf _ _ (by omega) (by omega) (by omega), m11]
    have a12 : M3.2 0 12 = (r : Int) := by rw [h3f _ _ (by omega), kf _ _ (by omega) (by omega) (by omega), m12]
    obtain ⟨M6, b1, b2, b3⟩ := c_x1 (q_up (q_up M3 0 11 (r : Int)) 0 12 (t : Int))
    have h7r : (q_up M6 36 0 0).2 0 11 = (r : Int) := by rw [up_ne (by omega), b3 _ _ (by omega), up_ne (by omega), up_rd, if_pos ⟨rfl, rfl⟩]
    obtain ⟨_, M8, c1, c2, c3⟩ := c_fill0 (r0 := 88) (n0 := 19248) (by omega) (-1) (q_up (q_up M6 36 0 0) 87 0 (r : Int))
    have f8 : ∀ a k, ¬ ((a = 1 ∧ k = 1) ∨ (a = 0 ∧ (k = 14 ∨ k = 15 ∨ k = 11 ∨ k = 12)) ∨ (a = 10 ∧ (k < 4 ∨ k = 5 ∨ k = 10 ∨ k = 11)) ∨ (a = 36 ∧ k = 0) ∨ (a = 87 ∧ k = 0) ∨ a = 88) → M8.2 a k = M1.2 a k := fun a k h => by rw [c2 a k (by omega), up_ne (by omega), up_ne (by omega), b3 a k (by omega), up_ne (by omega), up_ne (by omega), h3f a k (by omega)]
    have z8 : zc_F r q.2.2 M8 := zcF_fr hF (fun a k h1 h2 => f8 a k (by omega))
    have d87 : M8.2 87 0 = (r : Int) := by rw [c2 _ _ (by omega), up_rd, if_pos ⟨rfl, rfl⟩]
    have d10 : ∀ k, k < 4 ∨ k = 5 ∨ k = 10 ∨ k = 11 → M8.2 10 k = 0 := fun k hk => by rw [c2 _ _ (by omega), up_ne (by omega), up_ne (by omega), b2 k hk]
    have hC11 : 0 ≤ M8.2 r 11 ∧ M8.2 r 11 ≤ 8 := by
      have := hwF.1.2.2
      rw [z8.2.2.2.1.1]
      omega
    obtain ⟨_, M9, g1, g2, g3⟩ := c_marks (M := M8) hr' d87 hC11 (by
      intro k hk
      rw [z8.2.2.2.1.1] at hk
      obtain ⟨s, hs, hm⟩ := sk_ex (S := q.2.2.2.2.2.1) (i := k) (by omega)
      rw [sk_q z8.2.2.2.1.2.1 hs, sk_q z8.2.2.2.1.2.2 hs]
      exact hwF.2.2.2.1 s hm) (by rw [d10 3 (by omega)]; omega) (by
      intro k hk
      rw [d10 3 (by omega)] at hk
      omega)
    have eC : fX11_fair M = some (x, M9) := by
      unfold fX11_fair fX11_noteFault fX5_begin
      rw [q_le, m12, Int.toNat_natCast, e1, b_some, q_le, q_le, q_le, b_some, up_ne (b := 5) (j := 5) (by omega), up_ne (b := 5) (j := 6) (by omega), up_ne (b := 5) (j := 6) (by omega), z55, z56, ← hM3, h3b, show q_w 0 = 0 from rfl, if_pos rfl, q_le, q_le, a11, a12, Int.toNat_natCast, Int.toNat_natCast, q_le, q_le, b1, b_some, q_le, q_le, h7r, Int.toNat_natCast, q_le, c1, b_some, b_some, g1, b_some]
    have f9 : ∀ a k, ¬ ((a = 1 ∧ k = 1) ∨ (a = 0 ∧ (k = 14 ∨ k = 15 ∨ k = 11 ∨ k = 12)) ∨ (a = 10 ∧ (k < 4 ∨ k = 5 ∨ k = 10 ∨ k = 11)) ∨ (a = 36 ∧ k = 0) ∨ (a = 87 ∧ k = 0) ∨ a = 88 ∨ a = 89) → M9.2 a k = M1.2 a k := fun a k h => by rw [g2 a k (by omega), f8 a k (by omega)]
    have fM : ∀ a k, ¬ ((a = 1 ∧ k = 1) ∨ (a = 0 ∧ (k = 14 ∨ k = 15 ∨ k = 11 ∨ k = 12)) ∨ (a = 10 ∧ (k < 4 ∨ k = 5 ∨ k = 10 ∨ k = 11)) ∨ (a = 36 ∧ k = 0) ∨ (a = 87 ∧ k = 0) ∨ a = 88 ∨ a = 89 ∨ a = 5 ∨ a = 8 ∨ (r ≤ a ∧ a ≤ r + 14)) → M9.2 a k = M.2 a k := fun a k h => by rw [f9 a k (by omega), kf a k (by omega) (by omega) (by omega)]
    have hw9 : r_words M9.2 := by
      intro e he k hk
      have := a_wc e he
      rw [fM _ _ (by omega)]
      exact hws e he k hk
    obtain ⟨Mi, Mo, o1, o2, o3, o4, o5⟩ := hof hw9 (by rw [fM _ _ (by omega)]; exact n3) (fun k => by rw [fM _ _ (by omega), n5]) n6 hN
    obtain ⟨oT, oS, oF, oo⟩ := o4
    obtain ⟨p46, pF, pw, pcd⟩ := oo hok
    rw [hq] at oS
    have s5 : Mo.2 94 5 = 0 := oS.1
    have s6 : Mo.2 94 6 = -1 := o5 s5
    have hcd : q.2.2.2.2.2.2.1.length + q.2.2.2.2.2.2.2.length ≤ 1600 := by
      have := pcd p j hq
      have h1 : p ≤ N := oS.2.1
      omega
    have hMo : ∀ a k, ¬ (a = 94 ∧ (k = 7 ∨ k = 8)) → (q_up (q_up Mo 94 7 0) 94 8 (-1)).2 a k = Mo.2 a k := fun a k h => by rw [up_ne (by omega), up_ne (by omega)]
    obtain ⟨M', u0, u1, u2, u3, u4, u5, u6, u7, u8, u9, u10⟩ := o_std (M := q_up (q_up Mo 94 7 0) 94 8 (-1)) hcd (by rw [hMo _ _ (by omega)]; exact pF.2.2.2.2.1)
    have eO : fX12_fair M9 = some ((q.1 : Int), M') := by
      rw [o1]
      unfold fX12_fair_117
      rw [q_le, q_le, s5, up_ne (b := 94) (j := 6) (by omega), s6, hMo 94 5 (by omega), s5, show q_w 0 = 0 from rfl, if_pos rfl, u0, b_some, u10 94 46 (by omega) (by omega), hMo 94 46 (by omega), p46]
    -- what is left of the other side's run
    have fO : ∀ a k, ¬ v_o a k → ¬ (122 ≤ a ∧ a ≤ 131) → ¬ (a = 94 ∧ (k = 1 ∨ k = 3 ∨ k = 7 ∨ k = 8 ∨ k = 47 ∨ k = 62 ∨ k = 65)) → M'.2 a k = M9.2 a k := fun a k h1 h2 h3 => by rw [u10 a k h2 (by omega), hMo a k (by omega), oF a k h1, o2 a k (by unfold v_o at h1; omega)]
    have fOc : ∀ a k, a ≤ 93 → M'.2 a k = M9.2 a k := fun a k h => fO a k (by unfold v_o; omega) (by omega) (by omega)
    refine ⟨x, M9, (q.1 : Int), M', eC, eO, by rw [hx], ?_⟩
    have ho' : zo_F q.2.2 (q_up (q_up Mo 94 7 0) 94 8 (-1)) := zoF_fr pw hcd pF (fun a k h => hMo a k (by omega))
    refine fair_St (N := N) (b := A 95) (Ml := M8) (Mo := q_up (q_up Mo 94 7 0) 94 8 (-1)) hI hr hwF hcd z8 ho' ?_ u1 u2 u3 u4 u5 u6 u7 u8 u9 ?_ ?_ ?_ ?_ ?_ ?_ ?_ ?_ ?_ ?_ ?_
    · intro a k h1 h2
      rw [fOc a k (by omega), g2 a k (by omega)]
    · rw [fOc _ _ (by omega), g2 _ _ (by omega), c2 _ _ (by omega), up_ne (by omega), h7r]
    · rw [fOc _ _ (by omega), g2 _ _ (by omega), c2 _ _ (by omega), up_ne (by omega), up_ne (by omega), b3 _ _ (by omega), up_rd, if_pos ⟨rfl, rfl⟩]
    · rw [fOc _ _ (by omega), g2 _ _ (by omega), d87]
    · intro k hk
      rw [fOc _ _ (by omega), g2 _ _ (by omega), d10 k hk]
    · rw [fOc _ _ (by omega), g2 _ _ (by omega), c2 _ _ (by omega), up_ne (by omega), up_rd, if_pos ⟨rfl, rfl⟩]
    · intro k hk
      rw [fOc _ _ (by omega), g2 _ _ (by omega), c3 k hk]
    · intro m hm
      rw [fOc _ _ (by omega), g3 m hm]
      unfold s_mk
      rw [d10 3 (by omega), show (0 : Int).toNat = 0 from rfl, List.range_zero, List.any_nil, Bool.or_false]
    · rw [fOc _ _ (by omega), g2 _ _ (by omega), c2 _ _ (by omega), up_ne (by omega), up_ne (by omega), b3 _ _ (by omega), up_ne (by omega), up_ne (by omega), h3a]
    · rw [u10 _ _ (by omega) (by omega), hMo _ _ (by omega), oF _ _ (by unfold v_o; omega), o3]
    · refine ⟨?_, ?_⟩
      · rw [fOc _ _ (by omega), g2 _ _ (by omega), c2 _ _ (by omega), up_ne (by omega), up_ne (by omega), b3 _ _ (by omega), up_ne (by omega), up_ne (by omega), h3b, u10 _ _ (by omega) (by omega), up_ne (by omega), up_rd, if_pos ⟨rfl, rfl⟩]
      · rw [fOc _ _ (by omega), g2 _ _ (by omega), c2 _ _ (by omega), up_ne (by omega), up_ne (by omega), b3 _ _ (by omega), up_ne (by omega), up_ne (by omega), h3c, u10 _ _ (by omega) (by omega), up_rd, if_pos ⟨rfl, rfl⟩]
    · intro a k h
      rw [fO a k (by unfold v_o; omega) (by omega) (by omega), fM a k (by omega)]
  · -- a fault
    have hff : u_ok q.2.1 = false := Bool.eq_false_iff.mpr hok
    obtain ⟨k, pl, hq⟩ : ∃ k pl, q.2.1 = .inr (k, pl) := by
      rcases hq : q.2.1 with e | ⟨k, pl⟩
      · rw [hq] at hff; cases hff
      · exact ⟨k, pl, rfl⟩
    rw [hq] at kS
    obtain ⟨z55, z56, z53, zk⟩ := kS
    obtain ⟨M3, hM3, h3a, h3b, h3c, h3f⟩ : ∃ M3, M3 = q_up (q_up (q_up M1 1 1 0) 0 14 k) 0 15 pl ∧ M3.2 1 1 = 0 ∧ M3.2 0 14 = k ∧ M3.2 0 15 = pl ∧ ∀ a k, ¬ ((a = 1 ∧ k = 1) ∨ (a = 0 ∧ (k = 14 ∨ k = 15))) → M3.2 a k = M1.2 a k := ⟨_, rfl, by rw [up_ne (by omega), up_ne (by omega), up_rd, if_pos ⟨rfl, rfl⟩], by rw [up_ne (by omega), up_rd, if_pos ⟨rfl, rfl⟩], by rw [up_rd, if_pos ⟨rfl, rfl⟩], fun a k h => by rw [up_ne (by omega), up_ne (by omega), up_ne (by omega)]⟩
    have eC : fX11_fair M = some (-1, q_up M3 56 1 (M3.2 56 1 + 1)) := by
      unfold fX11_fair fX11_noteFault
      rw [q_le, m12, Int.toNat_natCast, e1, b_some, q_le, q_le, q_le, b_some, up_ne (b := 5) (j := 5) (by omega), up_ne (b := 5) (j := 6) (by omega), up_ne (b := 5) (j := 6) (by omega), z55, z56, ← hM3, h3b, n_w (by omega) (by omega), if_neg (by omega), f_refuse (by decide) (by decide), b_some]
      rfl
    have h56 : M3.2 56 1 = M.2 56 1 := by rw [h3f _ _ (by omega), kf _ _ (by omega) (by omega) (by omega)]
    rw [h56] at eC
    have f4 : ∀ a k', ¬ ((a = 1 ∧ k' = 1) ∨ (a = 0 ∧ (k' = 14 ∨ k' = 15)) ∨ (a = 56 ∧ k' = 1) ∨ a = 5 ∨ a = 8 ∨ (r ≤ a ∧ a ≤ r + 14)) → (q_up M3 56 1 (M.2 56 1 + 1)).2 a k' = M.2 a k' := fun a k' h => by rw [up_ne (by omega), h3f a k' (by omega), kf a k' (by omega) (by omega) (by omega)]
    have g56 : (q_up M3 56 1 (M.2 56 1 + 1)).2 56 1 = M.2 56 1 + 1 := by rw [up_rd, if_pos ⟨rfl, rfl⟩]
    have g11 : (q_up M3 56 1 (M.2 56 1 + 1)).2 1 1 = 0 := by rw [up_ne (by omega), h3a]
    have g14 : (q_up M3 56 1 (M.2 56 1 + 1)).2 0 14 = k := by rw [up_ne (by omega), h3b]
    have g15 : (q_up M3 56 1 (M.2 56 1 + 1)).2 0 15 = pl := by rw [up_ne (by omega), h3c]
    generalize q_up M3 56 1 (M.2 56 1 + 1) = M4 at eC f4 g56 g11 g14 g15
    have hw4 : r_words M4.2 := by
      intro e he k hk
      have := a_wc e he
      rw [f4 _ _ (by omega)]
      exact hws e he k hk
    obtain ⟨Mi, Mo, o1, o2, o3, o4, o5⟩ := hof hw4 (by rw [f4 _ _ (by omega)]; exact n3) (fun k => by rw [f4 _ _ (by omega), n5]) n6 hN
    obtain ⟨oT, oS, oF, oo⟩ := o4
    rw [hq] at oS
    have s5 : Mo.2 94 5 = k := oS.1
    have s6 : Mo.2 94 6 = pl := oS.2.1
    have hMo : ∀ a k', ¬ (a = 94 ∧ (k' = 7 ∨ k' = 8)) → (q_up (q_up Mo 94 7 k) 94 8 pl).2 a k' = Mo.2 a k' := fun a k' h => by rw [up_ne (by omega), up_ne (by omega)]
    have eO : fX12_fair M4 = some (-1, q_up (q_up (q_up Mo 94 7 k) 94 8 pl) 96 1 (Mo.2 96 1 + 1)) := by
      rw [o1]
      unfold fX12_fair_117
      rw [q_le, q_le, s5, up_ne (b := 94) (j := 6) (by omega), s6, hMo 94 5 (by omega), s5, n_w (by omega) (by omega), if_neg (by omega), f_refused (by decide) (by decide), show (1 : Int).toNat = 1 from rfl, hMo 96 1 (by omega)]
    have h96 : Mo.2 96 1 = M.2 96 1 := by rw [oF _ _ (by unfold v_o; omega), o2 _ _ (by omega), f4 _ _ (by omega)]
    rw [h96] at eO
    have f5 : ∀ a k', ¬ v_o a k' → ¬ ((a = 94 ∧ (k' = 1 ∨ k' = 3 ∨ k' = 7 ∨ k' = 8)) ∨ (a = 96 ∧ k' = 1)) → (q_up (q_up (q_up Mo 94 7 k) 94 8 pl) 96 1 (M.2 96 1 + 1)).2 a k' = M4.2 a k' := fun a k' h1 h2 => by rw [up_ne (by omega), hMo a k' (by omega), oF a k' h1, o2 a k' (by unfold v_o at h1; omega)]
    have e96 : (q_up (q_up (q_up Mo 94 7 k) 94 8 pl) 96 1 (M.2 96 1 + 1)).2 96 1 = M.2 96 1 + 1 := by rw [up_rd, if_pos ⟨rfl, rfl⟩]
    have e941 : (q_up (q_up (q_up Mo 94 7 k) 94 8 pl) 96 1 (M.2 96 1 + 1)).2 94 1 = 0 := by rw [up_ne (by omega), hMo _ _ (by omega), oF _ _ (by unfold v_o; omega), o3]
    have e947 : (q_up (q_up (q_up Mo 94 7 k) 94 8 pl) 96 1 (M.2 96 1 + 1)).2 94 7 = k := by rw [up_ne (by omega), up_ne (by omega), up_rd, if_pos ⟨rfl, rfl⟩]
    have e948 : (q_up (q_up (q_up Mo 94 7 k) 94 8 pl) 96 1 (M.2 96 1 + 1)).2 94 8 = pl := by rw [up_ne (by omega), up_rd, if_pos ⟨rfl, rfl⟩]
    generalize q_up (q_up (q_up Mo 94 7 k) 94 8 pl) 96 1 (M.2 96 1 + 1) = M5 at eO f5 e96 e941 e947 e948
    refine ⟨-1, M4, -1, M5, eC, eO, rfl, ?_⟩
    refine u_txt hI ?_ ?_ ?_ ?_ e941 ⟨?_, ?_⟩ ?_
    · intro a k' hw hn
      unfold w_ob at hw
      rw [f5 a k' (by unfold v_o; omega) (by omega), f4 a k' (by omega)]
    · intro a k' hc hn
      have h1 := aco_x hc
      rw [f5 a k' h1.2.1 (by omega), f4 a k' (by omega)]
    · have e : M5.2 88 = M.2 88 := funext (fun k' => by rw [f5 _ _ (by unfold v_o; omega) (by omega), f4 _ _ (by omega)])
      rw [e]
      exact hJ.2.2.2.2.2.1
    · rw [f5 _ _ (by unfold v_o; omega) (by omega), g11]
    · rw [f5 _ _ (by unfold v_o; omega) (by omega), g14, e947]
    · rw [f5 _ _ (by unfold v_o; omega) (by omega), g15, e948]
    · intro k'
      have j2 : ∀ k', M.2 56 k' = M.2 96 k' := fun k' => by rw [hJ.1 56 k' rfl, hJ.2.1 96 k' rfl]; exact hI.2.1.2.1 k'
      by_cases c : k' = 1
      · rw [c, e96, f5 _ _ (by unfold v_o; omega) (by omega), g56, j2]
      · rw [f5 _ _ (by unfold v_o; omega) (by omega), f4 _ _ (by omega), f5 _ _ (by unfold v_o; omega) (by omega), f4 _ _ (by omega), j2]
