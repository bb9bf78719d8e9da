/-! ask, the step -/
theorem aco_y {a k : Nat} (h : a_core a k = true) : 94 ≤ a ∧ a ≠ 132 ∧ a ≠ 133 ∧ a ≠ 162 ∧ a ≠ 163 ∧ a ≠ 164 ∧ ¬ (a = 94 ∧ (k = 2 ∨ k = 3 ∨ k = 4 ∨ k = 5 ∨ k = 6 ∨ k = 35 ∨ k = 48 ∨ k = 50 ∨ k = 51 ∨ k = 52 ∨ k = 53 ∨ k = 91 ∨ k = 93 ∨ k = 94 ∨ k = 95 ∨ k = 97 ∨ k = 98 ∨ k = 99)) := by
  unfold a_core at h
  split at h
  all_goals (simp only [Bool.or_eq_true, Bool.and_eq_true, decide_eq_true_eq, beq_iff_eq] at h)
  all_goals omega
theorem tc_Q {b : Nat → Int} {N : Nat} {σ : t_S} (h : u_ok (s_Q b N σ).1 = true) : q_tc 2 (s_Q b N σ).2.reverse [] = some [decide (¬ 27 < u_K b N σ)] := by
  unfold s_Q at h ⊢
  by_cases cK : u_K b N σ = -1
  · rw [if_pos cK, ok_fl] at h
    cases h
  · rw [if_neg cK] at h ⊢
    by_cases c27 : 27 < u_K b N σ
    · rw [if_pos c27] at h ⊢
      rw [decide_eq_false (fun g => g c27)]
      exact tc_G (by decide) 60 3 0 (u_st b N σ) [] [] (by omega) ⟨by omega, by omega, fun _ => ⟨by omega, by omega⟩⟩ (ok_end h) rfl (by simp)
    · rw [if_neg c27] at h ⊢
      rw [decide_eq_true c27]
      exact tc_G (by decide) 60 0 0 (u_st b N σ) [] [] (by omega) ⟨by omega, by omega, fun _ => ⟨by omega, by omega⟩⟩ (ok_end h) rfl (by simp)
theorem st_ask {M : q_Mem} (hS : q_St M) : q_StepA M (fX11_ask M) (fun M1 => fX12_ask M1) := by
  obtain ⟨t, L, A, hI⟩ := id hS
  have hJ := hI.1
  obtain ⟨N, hN, n1, n2, n3, n4, n5, n6⟩ := j_tape hI
  have ht : t = 57 ∨ t = 72 := by
    rcases hJ.2.2.1.1 with g | g
    · exact Or.inl g.1
    · exact Or.inr g.1
  have hws := ws_I hI
  have a47 : M.2 94 47 = A 94 47 := hJ.2.1 94 47 rfl
  have j14 : M.2 0 14 = M.2 94 7 := by rw [hJ.1 0 14 rfl, hJ.2.1 94 7 rfl]; exact hI.2.1.2.2.1.1
  have j15 : M.2 0 15 = M.2 94 8 := by rw [hJ.1 0 15 rfl, hJ.2.1 94 8 rfl]; exact hI.2.1.2.2.1.2
  have j2 : ∀ k', M.2 56 k' = M.2 96 k' := fun k' => by rw [hJ.1 56 k' rfl, hJ.2.1 96 k' rfl]; exact hI.2.1.2.1 k'
  have wf := j_wf hJ
  rcases j_fair hJ with hno | hyes
  · -- no fair
    have eC : fX11_ask M = some (-1000000000000000, q_up M 1 1 0) := by
      unfold fX11_ask
      rw [q_le, j_told hJ, (j_f hJ).1, hno.2.1, show q_w 0 = 0 from rfl, if_pos rfl, q_le]
    have eO : fX12_ask (q_up M 1 1 0) = some (-1000000000000000, q_up (q_up M 1 1 0) 94 1 0) := by
      unfold fX12_ask
      rw [up_ne (b := 94) (j := 47) (by omega), a47, hno.1, show q_w 0 = 0 from rfl, if_pos rfl, q_le]
    have f2 : ∀ a k, ¬ ((a = 1 ∧ k = 1) ∨ (a = 94 ∧ k = 1)) → (q_up (q_up M 1 1 0) 94 1 0).2 a k = M.2 a k := fun a k h => by rw [up_ne (by omega), up_ne (by omega)]
    have g1 : (q_up (q_up M 1 1 0) 94 1 0).2 1 1 = 0 := by rw [up_ne (by omega), up_rd, if_pos ⟨rfl, rfl⟩]
    have g2 : (q_up (q_up M 1 1 0) 94 1 0).2 94 1 = 0 := by rw [up_rd, if_pos ⟨rfl, rfl⟩]
    refine ⟨_, _, _, _, eC, eO, rfl, ?_⟩
    generalize q_up (q_up M 1 1 0) 94 1 0 = M2 at f2 g1 g2 ⊢
    refine u_txt hI ?_ ?_ ?_ g1 g2 ⟨?_, ?_⟩ ?_
    · intro a k hw hn
      unfold w_ob at hw
      exact f2 a k (by omega)
    · intro a k hc hn
      have h1 := aco_y hc
      exact f2 a k (by omega)
    · have e : M2.2 88 = M.2 88 := funext (fun k' => f2 _ _ (by omega))
      rw [e]
      exact hJ.2.2.2.2.2.1
    · rw [f2 _ _ (by omega), f2 _ _ (by omega), j14]
    · rw [f2 _ _ (by omega), f2 _ _ (by omega), j15]
    · intro k
      rw [f2 _ _ (by omega), f2 _ _ (by omega), j2]
  · obtain ⟨x, M1, e1, hT1, hS1, f1, ok1⟩ := c_rq (b := A 95) (N := N) ⟨n2, n4, n6, hN⟩
    obtain ⟨M3, hM3, g11, g14, g15, f3⟩ : ∃ M3, M3 = q_up (q_up (q_up M1 1 1 0) 0 14 (M1.2 5 5)) 0 15 (M1.2 5 6) ∧ M3.2 1 1 = 0 ∧ M3.2 0 14 = M1.2 5 5 ∧ M3.2 0 15 = M1.2 5 6 ∧ ∀ a k, ¬ ((a = 1 ∧ k = 1) ∨ (a = 0 ∧ (k = 14 ∨ k = 15))) → M3.2 a k = M1.2 a k := ⟨_, rfl, by rw [up_ne (by omega), up_ne (by omega), up_rd, if_pos ⟨rfl, rfl⟩], by rw [up_ne (by omega), up_rd, if_pos ⟨rfl, rfl⟩], by rw [up_rd, if_pos ⟨rfl, rfl⟩], fun a k h => by rw [up_ne (by omega), up_ne (by omega), up_ne (by omega)]⟩
    have eC0 : fX11_ask M = if q_w (M3.2 0 14) = 0 then (if q_w 27 < q_w x then (q_bd (fX11_answerSum x M3) fun x22 M4 => some (x22, M4)) else (q_bd (fX11_answerTest x M3) fun x23 M5 => some (x23, M5))) else (some ((-1000000000000000), M3)) := by
      unfold fX11_ask fX11_noteFault
      rw [q_le, j_told hJ, (j_f hJ).1, n_w (a := A 122 3) (by omega) (by omega), if_neg (by omega), e1, b_some, q_le, q_le, q_le, b_some, up_ne (b := 5) (j := 5) (by omega), up_ne (b := 5) (j := 6) (by omega), up_ne (b := 5) (j := 6) (by omega), ← hM3]
    have fM3 : ∀ a k, ¬ ((a = 1 ∧ k = 1) ∨ (a = 0 ∧ (k = 14 ∨ k = 15)) ∨ (5 ≤ a ∧ a ≤ 8)) → M3.2 a k = M.2 a k := fun a k h => by rw [f3 a k (by omega), f1 a k (by omega) (by omega) (by omega) (by omega)]
    have hof := fun (Mx : q_Mem) (h : ∀ a k, 94 ≤ a → Mx.2 a k = M.2 a k) => @o_askr (A 95) N Mx (by rw [h 94 47 (by omega), a47, hyes.1]; decide) (by
      intro e he k hk
      have := a_wc e he
      rw [h _ _ (by omega)]
      exact hws e he k hk) (by rw [h _ _ (by omega)]; exact n3) (fun k => by rw [h _ _ (by omega), n5]) n6 hN
    unfold z_qr at hof
    have htc := @tc_Q (A 95) N (.inl (t_sk (A 95) N 0, false))
    generalize s_Q (A 95) N (.inl (t_sk (A 95) N 0, false)) = q at hS1 ok1 hof htc
    generalize u_K (A 95) N (.inl (t_sk (A 95) N 0, false)) = W at ok1 hof htc
    rcases hq : q.1 with ⟨p, j⟩ | ⟨k, pl⟩
    · -- an answer
      have hok : u_ok q.1 = true := by rw [hq]; rfl
      rw [hq] at hS1
      have z55 : M1.2 5 5 = 0 := hS1.1.2.2.2.2.1
      have z56 : M1.2 5 6 = -1 := hS1.2
      obtain ⟨ex, o61, o7, o16⟩ := ok1 hok
      have htc := htc hok
      obtain ⟨C, hC⟩ := Int.eq_ofNat_of_zero_le wf.2.2.1.1
      obtain ⟨S, hSS⟩ := Int.eq_ofNat_of_zero_le wf.2.1.1
      have hJ3 : q_J t M3 (m_L L M3) A := by
        refine j_txt hJ ?_ ?_ ?_
        · intro a k hw hn
          unfold w_ob at hw
          exact fM3 a k (by omega)
        · intro a k hc
          have h1 := aco_y hc
          exact fM3 a k (by omega)
        · exact funext (fun k => fM3 _ _ (by omega))
      generalize m_L L M3 = L' at hJ3
      have hqc : z_qc q.2.reverse M3 := by
        refine ⟨by rw [f3 _ _ (by omega), o61, List.length_reverse], ?_⟩
        intro i hi
        rw [List.length_reverse] at hi
        have := stk_rev o7 i (by rw [List.length_map]; exact hi)
        rw [f3 _ _ (by omega), this, ← List.map_reverse, List.getD_eq_getElem?_getD, List.getElem?_map, List.getD_eq_getElem?_getD, List.getElem?_eq_getElem (by rw [List.length_reverse]; exact hi)]
        rfl
      have hcl : q.2.reverse.length ≤ 1600 := by rw [List.length_reverse]; exact o16
      -- the bounds of the word
      obtain ⟨kd0, M0', o01, okd0, o02, o03, o04, o05, o06⟩ := hof M3 (fun a k h => fM3 a k (by omega))
      have hW : 25 ≤ W ∧ W ≤ 30 := by
        have := (o06 hok).1
        omega
      have eC : q_P (fX11_ask M) (fun v M4 => v = q_ans A q.2.reverse W C ∧ q_J t M4 L' A ∧ z_af M3 M4) := by
        rw [eC0, g14, z55, show q_w 0 = 0 from rfl, if_pos rfl, ex, show q_w 27 = 27 from rfl, n_w (a := W) (by omega) (by omega)]
        unfold q_ans
        by_cases c27 : 27 < W
        · rw [if_pos c27, if_pos c27]
          unfold fX11_answerSum
          have := c_aS (t := t) (L := L') (W := W) hC hcl htc (by omega) C 0 q_FU 0 M3 (by omega) (by unfold q_FU; omega) hJ3 hqc (by omega)
          rw [show ((0 : Nat) : Int) = 0 from rfl] at this
          refine w_call this ?_
          rintro v M4 h4
          exact w_some.mpr h4
        · rw [if_neg c27, if_neg c27]
          unfold fX11_answerTest
          have := c_aT (t := t) (L := L') (W := W) hC hcl htc (by omega) C 0 q_FU 0 (-1) M3 (by omega) (by unfold q_FU; omega) hJ3 hqc (by omega) (by omega)
          rw [show ((0 : Nat) : Int) = 0 from rfl] at this
          refine w_call this ?_
          rintro v M4 h4
          exact w_some.mpr h4
      obtain ⟨v, M4, e4, hv, hJ4, f4⟩ := eC
      obtain ⟨kd, M', o1, okd, o2, o3, o4, o5, o6⟩ := hof M4 (fun a k h => by rw [f4 a k (by omega) (by omega) (by omega) (by omega) (by omega) (by omega) (by omega), fM3 a k (by omega)])
      obtain ⟨ekd, o91, o162⟩ := o6 hok
      rw [hq] at o4
      have s5 : M'.2 94 5 = 0 := o4.1
      have s6 : M'.2 94 6 = -1 := o5 s5
      obtain ⟨v', M8, e8, hv', m7, m8, f8⟩ := o_133 (t := t) (C := C) (S := S) (L := L') (A := A) (cs := q.2.reverse) (kd := kd) (M := M') okd hC hSS hJ3.2.2.1 hJ3.2.2.2.1 hJ3.2.2.2.2.1 hJ3.2.2.2.2.2.2 (by
        intro a k hc hn
        have h1 := aco_y hc
        rw [o2 a k (by omega) (by omega) (by omega)]
        exact hJ4.2.1 a k hc) (fun c k h => env_b hJ3 (by omega) k) (fun c k a h => ofs_b hJ3 (by omega) k a) hcl htc (fun g => decide_eq_true (by omega)) (by rw [o91, List.length_reverse]) (fun i hi => stk_rev o162 i (by rw [List.length_reverse] at hi; exact hi)) s5 s6
      refine ⟨v, M4, v', M8, e4, by show fX12_ask M4 = _; rw [o1, e8], by rw [hv, hv', ekd, show 25 + (W - 25) = W from by omega], ?_⟩
      have fF : ∀ a k, ¬ ((a = 1 ∧ k = 1) ∨ (a = 0 ∧ (k = 14 ∨ k = 15)) ∨ (5 ≤ a ∧ a ≤ 8) ∨ (52 ≤ a ∧ a ≤ 55) ∨ a = 88 ∨ a = 90 ∨ a = 91 ∨ a = 132 ∨ a = 133 ∨ a = 162 ∨ a = 163 ∨ a = 164) → ¬ (a = 94 ∧ (k = 1 ∨ k = 7 ∨ k = 8 ∨ k = 2 ∨ k = 3 ∨ k = 4 ∨ k = 5 ∨ k = 6 ∨ k = 35 ∨ k = 48 ∨ k = 50 ∨ k = 51 ∨ k = 52 ∨ k = 53 ∨ k = 91 ∨ k = 93 ∨ k = 94 ∨ k = 95 ∨ k = 97 ∨ k = 98 ∨ k = 99)) → M8.2 a k = M.2 a k := fun a k h1 h2 => by rw [f8 a k (by omega) (by omega) (by omega) (by omega), o2 a k (by omega) (by omega) (by omega), f4 a k (by omega) (by omega) (by omega) (by omega) (by omega) (by omega) (by omega), fM3 a k (by omega)]
      have f84 : ∀ a k, a < 94 → M8.2 a k = M4.2 a k := fun a k h => by rw [f8 a k (by omega) (by omega) (by omega) (by omega), o2 a k (by omega) (by omega) (by omega)]
      refine u_txt hI ?_ ?_ ?_ ?_ ?_ ⟨?_, ?_⟩ ?_
      · intro a k hw hn
        unfold w_ob at hw
        exact fF a k (by omega) (by omega)
      · intro a k hc hn
        have h1 := aco_y hc
        exact fF a k (by omega) (by omega)
      · rw [show M8.2 88 = M4.2 88 from funext (fun k => f84 88 k (by omega))]
        exact hJ4.2.2.2.2.2.1
      · rw [f84 _ _ (by omega), f4 _ _ (by omega) (by omega) (by omega) (by omega) (by omega) (by omega) (by omega), g11]
      · rw [f8 _ _ (by omega) (by omega) (by omega) (by omega), o3]
      · rw [f84 _ _ (by omega), f4 _ _ (by omega) (by omega) (by omega) (by omega) (by omega) (by omega) (by omega), g14, z55, m7]
      · rw [f84 _ _ (by omega), f4 _ _ (by omega) (by omega) (by omega) (by omega) (by omega) (by omega) (by omega), g15, z56, m8]
      · intro k
        rw [fF _ _ (by omega) (by omega), fF _ _ (by omega) (by omega), j2]
    · -- a fault
      rw [hq] at hS1
      obtain ⟨z55, z56, -, hk1, hk2⟩ : M1.2 5 5 = k ∧ M1.2 5 6 = pl ∧ M1.2 5 3 = 4 ∧ 1 ≤ k ∧ k ≤ 5 := hS1
      have eC : fX11_ask M = some (-1000000000000000, M3) := by rw [eC0, g14, z55, n_w (a := k) (by omega) (by omega), if_neg (by omega)]
      obtain ⟨kd, M', o1, okd, o2, o3, o4, o5, o6⟩ := hof M3 (fun a k h => fM3 a k (by omega))
      rw [hq] at o4
      have s5 : M'.2 94 5 = k := o4.1
      have s6 : M'.2 94 6 = pl := o4.2.1
      have hMo : ∀ a k', ¬ (a = 94 ∧ (k' = 7 ∨ k' = 8)) → (q_up (q_up M' 94 7 k) 94 8 pl).2 a k' = M'.2 a k' := fun a k' h => by rw [up_ne (by omega), up_ne (by omega)]
      have eO : fX12_ask M3 = some (-1000000000000000, q_up (q_up M' 94 7 k) 94 8 pl) := by
        rw [o1]
        unfold fX12_ask_133
        rw [q_le, q_le, s5, up_ne (b := 94) (j := 6) (by omega), s6, hMo 94 5 (by omega), s5, n_w (a := k) (by omega) (by omega), if_neg (by omega)]
      have m7 : (q_up (q_up M' 94 7 k) 94 8 pl).2 94 7 = k := by rw [up_ne (by omega), up_rd, if_pos ⟨rfl, rfl⟩]
      have m8 : (q_up (q_up M' 94 7 k) 94 8 pl).2 94 8 = pl := by rw [up_rd, if_pos ⟨rfl, rfl⟩]
      refine ⟨_, _, _, _, eC, eO, rfl, ?_⟩
      generalize q_up (q_up M' 94 7 k) 94 8 pl = M8 at hMo m7 m8 ⊢
      have fF : ∀ a k, ¬ ((a = 1 ∧ k = 1) ∨ (a = 0 ∧ (k = 14 ∨ k = 15)) ∨ (5 ≤ a ∧ a ≤ 8) ∨ a = 162 ∨ a = 163) → ¬ (a = 94 ∧ (k = 1 ∨ k = 7 ∨ k = 8 ∨ k = 2 ∨ k = 3 ∨ k = 4 ∨ k = 5 ∨ k = 6 ∨ k = 35 ∨ k = 48 ∨ k = 91 ∨ k = 93 ∨ k = 94 ∨ k = 95)) → M8.2 a k = M.2 a k := fun a k h1 h2 => by rw [hMo a k (by omega), o2 a k (by omega) (by omega) (by omega), fM3 a k (by omega)]
      have f83 : ∀ a k, a < 94 → M8.2 a k = M3.2 a k := fun a k h => by rw [hMo a k (by omega), o2 a k (by omega) (by omega) (by omega)]
      refine u_txt hI ?_ ?_ ?_ ?_ ?_ ⟨?_, ?_⟩ ?_
      · intro a k hw hn
        unfold w_ob at hw
        exact fF a k (by omega) (by omega)
      · intro a k hc hn
        have h1 := aco_y hc
        exact fF a k (by omega) (by omega)
      · rw [show M8.2 88 = M.2 88 from funext (fun k => fF 88 k (by omega) (by omega))]
        exact hJ.2.2.2.2.2.1
      · rw [f83 _ _ (by omega), g11]
      · rw [hMo _ _ (by omega), o3]
      · rw [f83 _ _ (by omega), g14, z55, m7]
      · rw [f83 _ _ (by omega), g15, z56, m8]
      · intro k
        rw [fF _ _ (by omega) (by omega), fF _ _ (by omega) (by omega), j2]
