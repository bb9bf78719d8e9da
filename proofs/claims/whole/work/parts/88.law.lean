theorem l_sl {L : Nat} {xs : Nat → Int32} {x3 : Int} {j : Int} (hL : L ≤ 3072) (h0 : 0 ≤ x3 + j) (h1 : x3 + j < (L : Int)) : q_sl L xs (x3 + j) = some ((xs (x3 + j).toNat).toInt) := by
  unfold q_sl
  rw [n_w (by omega) (by omega), if_pos ⟨h0, h1⟩]
theorem l_R (x : Int32) : q_R x.toInt := ⟨x.le_toInt, by have := x.toInt_lt; omega⟩
theorem l_step {M : q_Mem} {o1 : Option (Int × q_Mem)} {o2 : q_Mem → Option (Int × q_Mem)} {K : q_Mem → Option (Int × q_Mem)} (h : q_Step M o1 o2) (hk : ∀ M2, q_St M2 → ∃ M', K M2 = some (1, M')) : ∃ M', (q_bd o1 fun r M1 => q_bd (o2 M1) fun r' M2 => if q_w r = q_w r' then K M2 else some (0, M2)) = some (1, M') := by
  obtain ⟨r, M1, r', M2, e1, e2, e3, e4⟩ := h
  rw [e1, b_some, e2, b_some, if_pos e3]
  exact hk M2 e4
theorem l_stepA {M : q_Mem} {o1 : Option (Int × q_Mem)} {o2 : q_Mem → Option (Int × q_Mem)} {K : q_Mem → Option (Int × q_Mem)} (h : q_StepA M o1 o2) (hk : ∀ M2, q_St M2 → ∃ M', K M2 = some (1, M')) : ∃ M', (q_bd o1 fun r M1 => q_bd (o2 M1) fun r' M2 => if q_w (q_lcmp r r') = 0 then K M2 else some (0, M2)) = some (1, M') := by
  obtain ⟨r, M1, r', M2, e1, e2, e3, e4⟩ := h
  have e5 : q_w (q_lcmp r r') = 0 := by
    unfold q_lcmp
    rw [e3, if_neg (by omega), if_pos rfl]
    rfl
  rw [e1, b_some, e2, b_some, if_pos e5]
  exact hk M2 e4
theorem l_loop (L : Nat) (xs : Nat → Int32) (hL : L ≤ 3072) : ∀ (n : Nat) (x3 : Int) (M : q_Mem), q_St M → 0 ≤ x3 → x3 ≤ 3072 + 6 → 4000 - x3 < (n : Int) → ∃ M', fL_law_18 L xs n x3 M = some (1, M') := by
  intro n
  induction n with
  | zero => intro x3 M _ _ _ h; omega
  | succ n ih =>
    intro x3 M hS h0 h1 hn
    rw [fL_law_18, n_w (a := (L : Int) - 6) (by omega) (by omega), n_w (a := x3) (by omega) (by omega)]
    by_cases hend : (L : Int) - 6 < x3
    · exact ⟨M, by rw [if_pos hend]⟩
    · rw [if_neg hend]
      have hk : ∀ M2, q_St M2 → ∃ M', fL_law_1157 L xs (fL_law_18 L xs n) x3 M2 = some (1, M') := fun M2 h2 => ih (x3 + 6) M2 h2 (by omega) (by omega) (by omega)
      have e0 : q_sl L xs x3 = some ((xs x3.toNat).toInt) := by
        have := l_sl (L := L) (xs := xs) (x3 := x3) (j := 0) hL (by omega) (by omega)
        rwa [Int.add_zero] at this
      have e1 := l_sl (L := L) (xs := xs) (x3 := x3) (j := 1) hL (by omega) (by omega)
      have e2 := l_sl (L := L) (xs := xs) (x3 := x3) (j := 2) hL (by omega) (by omega)
      have e3 := l_sl (L := L) (xs := xs) (x3 := x3) (j := 3) hL (by omega) (by omega)
      have e4 := l_sl (L := L) (xs := xs) (x3 := x3) (j := 4) hL (by omega) (by omega)
      have e5 := l_sl (L := L) (xs := xs) (x3 := x3) (j := 5) hL (by omega) (by omega)
      rw [e0, e1, e2, e3, e4, e5]
      simp only [Option.bind_some, q_let]
      generalize q_and (xs x3.toNat).toInt 63 = z
      by_cases c0 : q_w z = 0
      · rw [if_pos c0]
        exact l_step (st_feed hS _ _ _ _ _ (l_R _) (l_R _) (l_R _) (l_R _) (l_R _)) hk
      rw [if_neg c0]
      by_cases c1 : q_w z = 1
      · rw [if_pos c1]
        exact l_step (st_end hS _ (l_R _)) hk
      rw [if_neg c1]
      by_cases c2 : q_w z = 2
      · rw [if_pos c2]
        exact l_step (st_fair hS  ) hk
      rw [if_neg c2]
      by_cases c3 : q_w z = 3
      · rw [if_pos c3]
        exact l_step (st_fault hS _ (l_R _)) hk
      rw [if_neg c3]
      by_cases c4 : q_w z = 4
      · rw [if_pos c4]
        exact l_step (st_has hS _ (l_R _)) hk
      rw [if_neg c4]
      by_cases c5 : q_w z = 5
      · rw [if_pos c5]
        exact l_step (st_letter hS _ _ _ (l_R _) (l_R _) (l_R _)) hk
      rw [if_neg c5]
      by_cases c6 : q_w z = 6
      · rw [if_pos c6]
        exact l_step (st_stall hS _ _ (l_R _) (l_R _)) hk
      rw [if_neg c6]
      by_cases c7 : q_w z = 7
      · rw [if_pos c7]
        exact l_step (st_coin hS _ _ (l_R _) (l_R _)) hk
      rw [if_neg c7]
      by_cases c8 : q_w z = 8
      · rw [if_pos c8]
        exact l_step (st_shadow hS _ _ _ (l_R _) (l_R _) (l_R _)) hk
      rw [if_neg c8]
      by_cases c9 : q_w z = 9
      · rw [if_pos c9]
        exact l_step (st_buys hS _ _ _ (l_R _) (l_R _) (l_R _)) hk
      rw [if_neg c9]
      by_cases c10 : q_w z = 10
      · rw [if_pos c10]
        exact l_step (st_kept hS _ _ (l_R _) (l_R _)) hk
      rw [if_neg c10]
      by_cases c11 : q_w z = 11
      · rw [if_pos c11]
        exact l_step (st_when hS _ _ _ (l_R _) (l_R _) (l_R _)) hk
      rw [if_neg c11]
      by_cases c12 : q_w z = 12
      · rw [if_pos c12]
        exact l_step (st_round hS _ _ (l_R _) (l_R _)) hk
      rw [if_neg c12]
      by_cases c13 : q_w z = 13
      · rw [if_pos c13]
        exact l_step (st_blocked hS _ (l_R _)) hk
      rw [if_neg c13]
      by_cases c14 : q_w z = 14
      · rw [if_pos c14]
        exact l_step (st_strike hS _ _ (l_R _) (l_R _)) hk
      rw [if_neg c14]
      by_cases c15 : q_w z = 15
      · rw [if_pos c15]
        exact l_step (st_handy hS _ (l_R _)) hk
      rw [if_neg c15]
      by_cases c16 : q_w z = 16
      · rw [if_pos c16]
        exact l_step (st_odd hS _ _ _ (l_R _) (l_R _) (l_R _)) hk
      rw [if_neg c16]
      by_cases c17 : q_w z = 17
      · rw [if_pos c17]
        exact l_step (st_bridge hS _ _ (l_R _) (l_R _)) hk
      rw [if_neg c17]
      by_cases c18 : q_w z = 18
      · rw [if_pos c18]
        exact l_step (st_change hS _ _ _ (l_R _) (l_R _) (l_R _)) hk
      rw [if_neg c18]
      by_cases c19 : q_w z = 19
      · rw [if_pos c19]
        exact l_step (st_chalked hS _ _ _ (l_R _) (l_R _) (l_R _)) hk
      rw [if_neg c19]
      by_cases c20 : q_w z = 20
      · rw [if_pos c20]
        exact l_step (st_see hS  ) hk
      rw [if_neg c20]
      by_cases c21 : q_w z = 21
      · rw [if_pos c21]
        exact l_step (st_minutes hS _ (l_R _)) hk
      rw [if_neg c21]
      by_cases c22 : q_w z = 22
      · rw [if_pos c22]
        exact l_step (st_lamps hS _ (l_R _)) hk
      rw [if_neg c22]
      by_cases c23 : q_w z = 23
      · rw [if_pos c23]
        exact l_step (st_walk hS _ (l_R _)) hk
      rw [if_neg c23]
      by_cases c24 : q_w z = 24
      · rw [if_pos c24]
        exact l_step (st_pause hS _ (l_R _)) hk
      rw [if_neg c24]
      by_cases c25 : q_w z = 25
      · rw [if_pos c25]
        exact l_step (st_buy hS _ _ (l_R _) (l_R _)) hk
      rw [if_neg c25]
      by_cases c26 : q_w z = 26
      · rw [if_pos c26]
        exact l_step (st_chance hS _ (l_R _)) hk
      rw [if_neg c26]
      by_cases c27 : q_w z = 27
      · rw [if_pos c27]
        exact l_step (st_undo hS  ) hk
      rw [if_neg c27]
      by_cases c28 : q_w z = 28
      · rw [if_pos c28]
        exact l_step (st_seed hS _ (l_R _)) hk
      rw [if_neg c28]
      by_cases c29 : q_w z = 29
      · rw [if_pos c29]
        exact l_stepA (st_ask hS  ) hk
      rw [if_neg c29]
      by_cases c30 : q_w z = 30
      · rw [if_pos c30]
        exact l_step (st_image hS  ) hk
      rw [if_neg c30]
      by_cases c31 : q_w z = 31
      · rw [if_pos c31]
        exact l_step (st_octet hS _ (l_R _)) hk
      rw [if_neg c31]
      by_cases c32 : q_w z = 32
      · rw [if_pos c32]
        exact l_step (st_on hS  ) hk
      rw [if_neg c32]
      by_cases c33 : q_w z = 33
      · rw [if_pos c33]
        exact l_step (st_status hS _ (l_R _)) hk
      rw [if_neg c33]
      exact hk M hS
