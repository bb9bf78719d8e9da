theorem k_part {r : Nat} {v : Int} {M : q_Mem} (h : 40 ≤ v ∧ v ≤ 47) : fX7_isOfTwo (q_enc v - 10000) M = some (0, M) ∧ fX7_ofOne r (q_enc v - 10000) M = some (k_env r M (v - 40), M) ∧ ¬ (q_w (q_enc v - 10000) < 0) := by
  have hc : v = 40 ∨ v = 41 ∨ v = 42 ∨ v = 43 ∨ v = 44 ∨ v = 45 ∨ v = 46 ∨ v = 47 := by omega
  rcases hc with rfl | rfl | rfl | rfl | rfl | rfl | rfl | rfl <;> exact ⟨rfl, rfl, by decide⟩
theorem k_two {v : Int} {M : q_Mem} (h : 1 ≤ v ∧ v ≤ 11) : fX7_isOfTwo (q_enc v - 10000) M = some (1, M) ∧ ¬ (q_w (q_enc v - 10000) < 0) := by
  have hc : v = 1 ∨ v = 2 ∨ v = 3 ∨ v = 4 ∨ v = 5 ∨ v = 6 ∨ v = 7 ∨ v = 8 ∨ v = 9 ∨ v = 10 ∨ v = 11 := by omega
  rcases hc with rfl | rfl | rfl | rfl | rfl | rfl | rfl | rfl | rfl | rfl | rfl <;> exact ⟨rfl, by decide⟩
theorem k_envf {r : Nat} {M0 M : q_Mem} {st : List Int} (h : k_S r M0 st M) : k_env r M = k_env r M0 := by
  funext k
  unfold k_env
  rw [h.2.2 r 3 (by omega), h.2.2 r 4 (by omega), h.2.2 r 5 (by omega), h.2.2 r 6 (by omega), h.2.2 r 7 (by omega), h.2.2 r 8 (by omega), h.2.2 r 2 (by omega), h.2.2 r 9 (by omega)]
theorem k_ofS {r rc : Nat} {M0 M : q_Mem} {st : List Int} {a : Int} (h : k_S r M0 st M) (hrc : r + 2 ≤ rc) (ha : -1000000 ≤ a ∧ a ≤ 1000000) (hs : q_R (M0.2 r 10)) : fX7_ofStall r rc 6 a M = some (if 0 ≤ a ∧ a < M0.2 r 10 ∧ a < 6 then M0.2 rc a.toNat else 0, M) := by
  unfold fX7_ofStall
  unfold q_R at hs
  rw [n_w (a := a) (by omega) (by omega), h.2.2 r 10 (by omega), n_w (by omega) (by omega), n_w (by decide) (by decide)]
  by_cases c1 : a < 0
  · rw [if_pos c1, if_neg (by omega)]
  rw [if_neg c1]
  by_cases c2 : a < M0.2 r 10
  · rw [if_pos c2]
    by_cases c3 : a < 6
    · rw [if_pos (by omega), if_pos (by omega), b_ld (by omega) (by omega) (by decide), Option.bind_some, h.2.2 rc _ (by omega)]
    · rw [if_neg (by omega), if_neg (by omega)]
  · rw [if_neg c2, if_neg (by omega)]
theorem k_iter {r : Nat} (hr : q_fr r 0 = r + 1) (hr2 : q_fr r 11 = r + 2) (hr3 : q_fr r 12 = r + 3) {w : Nat} {v : Int} {τ τ' : List Bool} {st : List Int} {M0 M : q_Mem} (hv : q_tc1 w v τ = some τ') (hvt : s_vt τ st) (hl : τ.length ≤ 60) (hS : k_S r M0 st M) (hb : ∀ k, 0 ≤ k → k ≤ 7 → q_may w k = true → -1000000 ≤ k_env r M0 k ∧ k_env r M0 k ≤ 1000000) (ho : w = 2 → q_R (M0.2 r 10) ∧ ∀ k a, -1000000 ≤ k_ofs r M0 k a ∧ k_ofs r M0 k a ≤ 1000000) {K : q_Mem → Option (Int × q_Mem)} {Q : Int → q_Mem → Prop} (hK : ∀ M', k_S r M0 (s_ev1 (k_env r M0) (k_ofs r M0) v st) M' → q_P (K M') Q) :
    q_P (q_let (q_enc v - 10000) fun x22 => if q_w x22 < 0 then (q_bd (fX7_push r (q_enc v) M) fun _ M8 => K M8) else (q_bd (fX7_isOfTwo x22 M) fun x23 M1 => if q_w x23 = 0 then (q_bd (fX7_ofOne r x22 M1) fun x24 M2 => q_bd (fX7_push r x24 M2) fun _ M3 => K M3) else (q_bd (fX7_pop r M1) fun x25 M4 => q_bd (fX7_pop r M4) fun x26 M5 => q_bd (fX7_ofTwo x22 x26 x25 M5) fun x27 M6 => q_bd (fX7_push r x27 M6) fun _ M7 => K M7))) Q := by
  have hlen := vt_len hvt
  simp only [q_let]
  rcases tc1_cases hv with ⟨h1, h2, rfl⟩ | ⟨h1, h2, h3, rfl⟩ | ⟨h1, h2, ρ, rfl, rfl⟩ | ⟨rfl, rfl⟩ | ⟨rfl, ρ, rfl, rfl⟩ | ⟨h1, h2, ρ, rfl, rfl⟩ | ⟨h1, h2, ρ, rfl, rfl⟩ | ⟨h1, h2, ρ, rfl, rfl⟩
  · have e : q_enc v = v - 1000 := by unfold q_enc; rw [if_pos h1]
    rw [e, n_w (by omega) (by omega), if_pos (by omega)]
    rw [ev1_num h1] at hK
    exact w_call (k_push hr hS (by omega)) (fun _ M' h => hK M' h)
  · obtain ⟨e1, e2, e3⟩ := k_part (r := r) (M := M) ⟨h1, h2⟩
    rw [if_neg e3, e1, b_some, if_pos (by decide), e2, b_some, k_envf hS]
    have hbb := hb (v - 40) (by omega) (by omega) h3
    rw [ev1_part ⟨h1, h2⟩, clip_id hbb.1 hbb.2] at hK
    exact w_call (k_push hr hS (by omega)) (fun _ M' h => hK M' h)
  · obtain ⟨x, rr, rfl, hx, -, hrr⟩ := vt_1 hvt
    obtain ⟨ho1, ho2⟩ := ho h2
    have ho3 := ho2 (v - 60) x
    rw [ev1_of h1, clip_id ho3.1 ho3.2] at hK
    simp only [List.length_cons] at hlen hl
    rcases h1 with rfl | rfl
    · have e1 : fX7_isOfTwo (q_enc 60 - 10000) M = some (0, M) := rfl
      have e2 : fX7_ofOne r (q_enc 60 - 10000) M = q_bd (fX7_pop r M) fun x23 M3 => q_bd (fX7_ofStall r (q_fr r 11) 6 x23 M3) fun x24 M4 => some (x24, M4) := rfl
      rw [if_neg (by decide), e1, b_some, if_pos (by decide), e2, hr2]
      refine w_bd.mpr (w_call (k_pop hr hS (by omega)) ?_)
      rintro z M3 ⟨rfl, h3⟩
      rw [k_ofS h3 (by omega) hx ho1, b_some]
      refine w_some.mpr (w_call (k_push hr h3 (by omega)) ?_)
      intro _ M' h
      refine hK M' ?_
      have e4 : k_ofs r M0 (60 - 60) z = if 0 ≤ z ∧ z < M0.2 r 10 ∧ z < 6 then M0.2 (r + 2) z.toNat else 0 := by
        unfold k_ofs
        rw [if_pos (show (60 - 60 : Int) = 0 from rfl)]
      rw [e4]
      exact h
    · have e1 : fX7_isOfTwo (q_enc 61 - 10000) M = some (0, M) := rfl
      have e2 : fX7_ofOne r (q_enc 61 - 10000) M = q_bd (fX7_pop r M) fun x23 M3 => q_bd (fX7_ofStall r (q_fr r 12) 6 x23 M3) fun x24 M4 => some (x24, M4) := rfl
      rw [if_neg (by decide), e1, b_some, if_pos (by decide), e2, hr3]
      refine w_bd.mpr (w_call (k_pop hr hS (by omega)) ?_)
      rintro z M3 ⟨rfl, h3⟩
      rw [k_ofS h3 (by omega) hx ho1, b_some]
      refine w_some.mpr (w_call (k_push hr h3 (by omega)) ?_)
      intro _ M' h
      refine hK M' ?_
      have e4 : k_ofs r M0 (61 - 60) z = if 0 ≤ z ∧ z < M0.2 r 10 ∧ z < 6 then M0.2 (r + 3) z.toNat else 0 := by
        unfold k_ofs
        rw [if_neg (show ¬ (61 - 60 : Int) = 0 from by decide)]
      rw [e4]
      exact h
  · have e1 : fX7_isOfTwo (q_enc 13 - 10000) M = some (0, M) := rfl
    have e2 : fX7_ofOne r (q_enc 13 - 10000) M = some (1, M) := rfl
    rw [if_neg (by decide), e1, b_some, if_pos (by decide), e2, b_some]
    exact w_call (k_push hr hS (by omega)) (fun _ M' h => hK M' h)
  · obtain ⟨x, rr, rfl, hx, -, hrr⟩ := vt_1 hvt
    simp only [List.length_cons] at hlen hl
    have e1 : fX7_isOfTwo (q_enc 12 - 10000) M = some (0, M) := rfl
    have e2 : fX7_ofOne r (q_enc 12 - 10000) M = q_bd (fX7_pop r M) fun x25 M5 => some ((1 - x25), M5) := rfl
    rw [if_neg (by decide), e1, b_some, if_pos (by decide), e2]
    refine w_bd.mpr (w_call (k_pop hr hS (by omega)) ?_)
    rintro z M3 ⟨rfl, h3⟩
    refine w_some.mpr (w_call (k_push hr h3 (by omega)) ?_)
    intro _ M' h
    exact hK M' h
  all_goals
    obtain ⟨x, rr, rfl, hx, hx1, hrr⟩ := vt_1 hvt
    obtain ⟨y, rr, rfl, hy, hy1, hrr⟩ := vt_1 hrr
    simp only [List.length_cons] at hlen hl
    obtain ⟨e1, e2⟩ := k_two (v := v) (M := M) ⟨by omega, by omega⟩
    rw [if_neg e2, e1, b_some, if_neg (by decide)]
    refine w_call (k_pop hr hS (by simp only [List.length_cons]; omega)) ?_
    rintro z M3 ⟨rfl, h3⟩
    refine w_call (k_pop hr h3 (by omega)) ?_
    rintro z2 M4 ⟨rfl, h4⟩
    rw [o_bin hy hx (by first | exact Or.inl ⟨by omega, by omega⟩ | exact Or.inr ⟨h1, h2, hy1 rfl, hx1 rfl⟩), b_some]
    refine w_call (k_push hr h4 (by omega)) ?_
    intro _ M' h
    rw [ev1_bin (by omega)] at hK
    exact hK M' h
theorem k_run7 {r r1 : Nat} (hr : q_fr r 0 = r + 1) (hr2 : q_fr r 11 = r + 2) (hr3 : q_fr r 12 = r + 3) (hr1 : q_fr r1 0 = r1 + 1) (hn1 : r1 ≠ r) (hn2 : r1 ≠ r + 1) (hn3 : r1 + 1 ≠ r) {w : Nat} {cs : List Int} {M0 : q_Mem} (hsz : M0.2 r1 1 = (cs.length : Int)) (hcs : ∀ j : Nat, j < cs.length → M0.2 (r1 + 1) j = q_enc (cs.getD j 0)) (hcl : cs.length ≤ 1600) (hb : ∀ k, 0 ≤ k → k ≤ 7 → q_may w k = true → -1000000 ≤ k_env r M0 k ∧ k_env r M0 k ≤ 1000000) (ho : w = 2 → q_R (M0.2 r 10) ∧ ∀ k a, -1000000 ≤ k_ofs r M0 k a ∧ k_ofs r M0 k a ≤ 1000000) {b : Bool} :
    ∀ (n k : Nat) (M : q_Mem) (st : List Int) (τ : List Bool), k ≤ cs.length → cs.length - k < n → k_S r M0 st M → s_vt τ st → τ.length ≤ 60 → q_tc w (cs.drop k) τ = some [b] → q_P (fX7_run_7 r r1 n (k : Int) M) (fun v M' => v = (s_ev (k_env r M0) (k_ofs r M0) (cs.drop k) st).headD 0 ∧ ∀ a j, ¬ ((a = r ∧ j = 1) ∨ a = r + 1) → M'.2 a j = M0.2 a j) := by
  intro n
  induction n with
  | zero => intro k M st τ _ h; omega
  | succ n ih =>
    intro k M st τ hk hn hS hvt hl htc
    rw [fX7_run_7, hr1, hS.2.2 r1 1 (by omega), hsz, n_w (by omega) (by omega), n_w (by omega) (by omega)]
    by_cases c : k = cs.length
    · rw [if_neg (by omega)]
      rw [List.drop_eq_nil_of_le (by omega)] at htc ⊢
      cases htc
      obtain ⟨x, rr, rfl, hx, -, hrr⟩ := vt_1 hvt
      have hl2 := vt_len hvt
      simp only [List.length_cons, List.length_nil] at hl2
      unfold fX7_run_97
      refine w_call (k_pop hr hS (by omega)) ?_
      rintro z M3 ⟨rfl, h3⟩
      exact w_some.mpr ⟨rfl, h3.2.2⟩
    · rw [if_pos (by omega), n_w (by decide) (by decide), if_pos (by omega), b_ld (by omega) (by omega) (by decide), Option.bind_some, Int.toNat_natCast]
      have hd : cs.drop k = cs.getD k 0 :: cs.drop (k + 1) := by
        rw [List.drop_eq_getElem_cons (by omega)]
        congr 1
        rw [List.getD_eq_getElem?_getD, List.getElem?_eq_getElem (by omega)]
        rfl
      rw [hd] at htc ⊢
      obtain ⟨τ1, h1, h2, h3⟩ := tc_cons htc
      rw [hS.2.2 (r1 + 1) k (by omega), hcs k (by omega)]
      simp only [Option.bind_some]
      refine k_iter (K := fun M8 => fX7_run_91 r r1 (fX7_run_7 r r1 n) (k : Int) M8) hr hr2 hr3 h1 hvt hl hS hb ho ?_
      intro M' hS'
      have := ih (k + 1) M' _ τ1 (by omega) (by omega) hS' (vt_step h1 hvt) h2 h3
      rw [show ((k + 1 : Nat) : Int) = (k : Int) + 1 from by omega] at this
      exact this
theorem k_run {r r1 : Nat} (hr : q_fr r 0 = r + 1) (hr2 : q_fr r 11 = r + 2) (hr3 : q_fr r 12 = r + 3) (hr1 : q_fr r1 0 = r1 + 1) (hn1 : r1 ≠ r) (hn2 : r1 ≠ r + 1) (hn3 : r1 + 1 ≠ r) {w : Nat} {cs : List Int} {M0 : q_Mem} (hsz : M0.2 r1 1 = (cs.length : Int)) (hcs : ∀ j : Nat, j < cs.length → M0.2 (r1 + 1) j = q_enc (cs.getD j 0)) (hcl : cs.length ≤ 1600) (hb : ∀ k, 0 ≤ k → k ≤ 7 → q_may w k = true → -1000000 ≤ k_env r M0 k ∧ k_env r M0 k ≤ 1000000) (ho : w = 2 → q_R (M0.2 r 10) ∧ ∀ k a, -1000000 ≤ k_ofs r M0 k a ∧ k_ofs r M0 k a ≤ 1000000) {b : Bool} (htc : q_tc w cs [] = some [b]) : q_P (fX7_run r r1 M0) (fun v M' => v = (s_ev (k_env r M0) (k_ofs r M0) cs []).headD 0 ∧ ∀ a j, ¬ ((a = r ∧ j = 1) ∨ a = r + 1) → M'.2 a j = M0.2 a j) := by
  have hS : k_S r M0 [] (q_up M0 r 1 0) := by
    refine ⟨?_, ?_, ?_⟩
    · rw [up_rd, if_pos ⟨rfl, rfl⟩]
      rfl
    · intro i hi
      cases hi
    · intro a j ha
      rw [up_ne (by omega)]
  have := k_run7 hr hr2 hr3 hr1 hn1 hn2 hn3 hsz hcs hcl hb ho (b := b) q_FU 0 (q_up M0 r 1 0) [] [] (by omega) (by unfold q_FU; omega) hS trivial (by decide) htc
  exact this
