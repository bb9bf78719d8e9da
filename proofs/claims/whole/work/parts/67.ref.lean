/-- the other pile -/
def p_S (M0 : q_Mem) (st : List Int) (M : q_Mem) : Prop := M.2 94 97 = (st.length : Int) ∧ (∀ i : Nat, i < st.length → M.2 164 i = st.getD (st.length - 1 - i) 0) ∧ ∀ a j, ¬ ((a = 94 ∧ j = 97) ∨ a = 164) → M.2 a j = M0.2 a j
theorem p_puts {M0 M : q_Mem} {st : List Int} {x : Int} (h : p_S M0 st M) (hl : st.length < 1700) : q_P (fX12_qPuts x M) (fun _ M' => p_S M0 (x :: st) M') := by
  obtain ⟨h1, h2, h3⟩ := h
  unfold fX12_qPuts
  rw [h1, b_sto (by omega) (by omega) (by decide), Option.bind_some, Int.toNat_natCast]
  refine w_some.mpr ⟨?_, ?_, ?_⟩
  · rw [up_rd, if_pos ⟨rfl, rfl⟩, up_ne (by omega), h1]
    simp
  · intro i hi
    rw [up_ne (by omega), up_rd]
    rw [List.length_cons] at hi ⊢
    by_cases c : i = st.length
    · rw [if_pos ⟨rfl, c⟩, show st.length + 1 - 1 - i = 0 from by omega, List.getD_cons_zero]
    · rw [if_neg (by omega), h2 i (by omega), show st.length + 1 - 1 - i = (st.length - 1 - i) + 1 from by omega, List.getD_cons_succ]
  · intro a j ha
    rw [up_ne (by omega), up_ne (by omega)]
    exact h3 a j ha
theorem p_top {M0 M : q_Mem} {st : List Int} {x : Int} (h : p_S M0 (x :: st) M) (hl : st.length < 1699) : q_ld M 164 1700 (M.2 94 97 - 1) = some x := by
  obtain ⟨h1, h2, h3⟩ := h
  simp only [List.length_cons] at h1 h2
  rw [h1, b_ld (by omega) (by omega) (by decide), show (((st.length + 1 : Nat) : Int) - 1).toNat = st.length from by omega, h2 st.length (by omega), show st.length + 1 - 1 - st.length = 0 from by omega, List.getD_cons_zero]
theorem p_set {M0 M : q_Mem} {st : List Int} {x y : Int} {K : q_Mem → Option (Int × q_Mem)} {Q : Int → q_Mem → Prop} (h : p_S M0 (x :: st) M) (hl : st.length < 1699) (hK : ∀ M', p_S M0 (y :: st) M' → q_P (K M') Q) : q_P ((q_sto M 164 1700 (M.2 94 97 - 1) y).bind K) Q := by
  obtain ⟨h1, h2, h3⟩ := h
  simp only [List.length_cons] at h1 h2
  rw [h1, b_sto (by omega) (by omega) (by decide), show (((st.length + 1 : Nat) : Int) - 1).toNat = st.length from by omega]
  refine hK _ ⟨?_, ?_, ?_⟩
  · rw [up_ne (by omega), h1]
    rfl
  · intro i hi
    rw [up_rd]
    rw [List.length_cons] at hi ⊢
    by_cases c : i = st.length
    · rw [if_pos ⟨rfl, c⟩, show st.length + 1 - 1 - i = 0 from by omega, List.getD_cons_zero]
    · rw [if_neg (by omega), h2 i (by omega), show st.length + 1 - 1 - i = (st.length - 1 - i) + 1 from by omega, List.getD_cons_succ, List.getD_cons_succ]
  · intro a j ha
    rw [up_ne (by omega)]
    exact h3 a j ha
theorem f_qFloor {a b : Int} {M : q_Mem} (ha : -1000000 ≤ a ∧ a ≤ 1000000) (hb : -1000000 ≤ b ∧ b ≤ 1000000) : fX12_qFloor a b M = some (s_flo a b, M) := by
  unfold fX12_qFloor fX12_qFloor_32 fX12_qFloor_43 s_flo
  have k1 := f_lc (a := b) (b := 0) (by omega) (by omega) (by decide) (by decide)
  have k2 := f_lc (a := a) (b := 0) (by omega) (by omega) (by decide) (by decide)
  have hmb := n_tmb a b
  have k3 := f_lc (a := a.tmod b) (b := 0) (by omega) (by omega) (by decide) (by decide)
  by_cases c : b = 0
  · rw [if_pos (k1.2.2.mpr c), if_pos c]
  rw [if_neg (fun h => c (k1.2.2.mp h)), if_neg c, n_wl (by omega) (by omega), if_neg c]
  simp only [q_let]
  rw [if_neg c, n_ldiv (by omega) (by omega) (by omega) (by omega), n_lrem (by omega) (by omega) (by omega) (by omega)]
  by_cases c2 : a.tmod b = 0
  · rw [if_pos (k3.2.2.mpr c2), if_neg (fun h => h.1 c2)]
  rw [if_neg (fun h => c2 (k3.2.2.mp h))]
  by_cases c3 : a < 0
  · rw [if_pos (k2.2.1.mpr c3)]
    by_cases c4 : b < 0
    · rw [if_pos (k1.2.1.mpr c4), if_pos trivial, if_neg]
      simp [c3, c4]
    · rw [if_neg (fun h => c4 (k1.2.1.mp h)), if_neg (by decide), if_pos]
      simp [c2, c3, c4]
  · rw [if_neg (fun h => c3 (k2.2.1.mp h))]
    by_cases c4 : b < 0
    · rw [if_pos (k1.2.1.mpr c4), if_neg (by decide), if_pos]
      simp [c2, c3, c4]
    · rw [if_neg (fun h => c4 (k1.2.1.mp h)), if_pos trivial, if_neg]
      simp [c3, c4]
theorem p_joins {M0 M : q_Mem} {st : List Int} {a b v : Int} (h : p_S M0 (b :: a :: st) M) (hl : st.length < 1690) (ha : -1000000 ≤ a ∧ a ≤ 1000000) (hb : -1000000 ≤ b ∧ b ≤ 1000000) (hv : 1 ≤ v ∧ v ≤ 11) : q_P (fX12_qJoins v M) (fun _ M' => p_S M0 (s_bin v a b :: st) M') := by
  have htop := p_top h (by simp only [List.length_cons]; omega)
  obtain ⟨h1, h2, h3⟩ := h
  simp only [List.length_cons] at h1 h2
  have htop2 : q_ld M 164 1700 (M.2 94 97 - 2) = some a := by
    rw [h1, b_ld (by omega) (by omega) (by decide), show (((st.length + 1 + 1 : Nat) : Int) - 2).toNat = st.length from by omega, h2 st.length (by omega), show st.length + 1 + 1 - 1 - st.length = 1 from by omega]
    rfl
  have hS : p_S M0 st (q_up M 94 97 (M.2 94 97 - 2)) := by
    refine ⟨?_, ?_, ?_⟩
    · rw [up_rd, if_pos ⟨rfl, rfl⟩, h1]
      omega
    · intro i hi
      rw [up_ne (by omega), h2 i (by omega), show st.length + 1 + 1 - 1 - i = (st.length - 1 - i) + 1 + 1 from by omega, List.getD_cons_succ, List.getD_cons_succ]
    · intro c j hc
      rw [up_ne (by omega)]
      exact h3 c j hc
  have hpu : ∀ x, q_P (q_bd (fX12_qPuts x (q_up M 94 97 (M.2 94 97 - 2))) fun _ M1 => some (0, M1)) (fun _ M' => p_S M0 (x :: st) M') := fun x => w_call (p_puts hS (by omega)) (fun _ M' h => w_some.mpr h)
  have hm := f_mulb ha hb
  have kab := f_lc (a := a) (b := b) (by omega) (by omega) (by omega) (by omega)
  have ks := f_lc (a := a + b) (b := 0) (by omega) (by omega) (by decide) (by decide)
  unfold fX12_qJoins
  rw [htop, Option.bind_some, htop2, Option.bind_some]
  simp only [q_let]
  have hc : v = 1 ∨ v = 2 ∨ v = 3 ∨ v = 4 ∨ v = 5 ∨ v = 6 ∨ v = 7 ∨ v = 8 ∨ v = 9 ∨ v = 10 ∨ v = 11 := by omega
  rcases hc with rfl | rfl | rfl | rfl | rfl | rfl | rfl | rfl | rfl | rfl | rfl
  · rw [if_pos (by decide), f_qClip (by omega) (by omega), b_some, bin_1]
    exact hpu _
  · rw [if_neg (by decide), if_pos (by decide), f_qClip (by omega) (by omega), b_some, bin_2]
    exact hpu _
  · rw [if_neg (by decide), if_neg (by decide), if_pos (by decide), f_qClip (by omega) (by omega), b_some, bin_3]
    exact hpu _
  · rw [if_neg (by decide), if_neg (by decide), if_neg (by decide), if_pos (by decide), f_qFloor ha hb, b_some, bin_4]
    exact hpu _
  · rw [if_neg (by decide), if_neg (by decide), if_neg (by decide), if_neg (by decide), if_pos (by decide), bin_5]
    by_cases c : a < b
    · rw [if_pos (kab.2.1.mpr c), if_pos c]
      exact hpu _
    · rw [if_neg (fun h => c (kab.2.1.mp h)), if_neg c]
      exact hpu _
  · rw [if_neg (by decide), if_neg (by decide), if_neg (by decide), if_neg (by decide), if_neg (by decide), if_pos (by decide), bin_6]
    by_cases c : b < a
    · rw [if_pos (kab.1.mpr c), if_pos c]
      exact hpu _
    · rw [if_neg (fun h => c (kab.1.mp h)), if_neg c]
      exact hpu _
  · rw [if_neg (by decide), if_neg (by decide), if_neg (by decide), if_neg (by decide), if_neg (by decide), if_neg (by decide), if_pos (by decide), show s_bin 7 a b = (if a < b then 1 else 0) from rfl]
    by_cases c : a < b
    · rw [if_pos (kab.2.1.mpr c), if_pos c]
      exact hpu _
    · rw [if_neg (fun h => c (kab.2.1.mp h)), if_neg c]
      exact hpu _
  · rw [if_neg (by decide), if_neg (by decide), if_neg (by decide), if_neg (by decide), if_neg (by decide), if_neg (by decide), if_neg (by decide), if_pos (by decide), show s_bin 8 a b = (if b < a then 1 else 0) from rfl]
    by_cases c : b < a
    · rw [if_pos (kab.1.mpr c), if_pos c]
      exact hpu _
    · rw [if_neg (fun h => c (kab.1.mp h)), if_neg c]
      exact hpu _
  · rw [if_neg (by decide), if_neg (by decide), if_neg (by decide), if_neg (by decide), if_neg (by decide), if_neg (by decide), if_neg (by decide), if_neg (by decide), if_pos (by decide), show s_bin 9 a b = (if a = b then 1 else 0) from rfl]
    by_cases c : a = b
    · rw [if_pos (kab.2.2.mpr c), if_pos c]
      exact hpu _
    · rw [if_neg (fun h => c (kab.2.2.mp h)), if_neg c]
      exact hpu _
  · rw [if_neg (by decide), if_neg (by decide), if_neg (by decide), if_neg (by decide), if_neg (by decide), if_neg (by decide), if_neg (by decide), if_neg (by decide), if_neg (by decide), if_pos (by decide), show s_bin 10 a b = a * b from rfl]
    exact hpu _
  · rw [if_neg (by decide), if_neg (by decide), if_neg (by decide), if_neg (by decide), if_neg (by decide), if_neg (by decide), if_neg (by decide), if_neg (by decide), if_neg (by decide), if_neg (by decide), show s_bin 11 a b = (if 0 < a + b then 1 else 0) from rfl]
    by_cases c : 0 < a + b
    · rw [if_pos (ks.1.mpr c), if_pos c]
      exact hpu _
    · rw [if_neg (fun h => c (ks.1.mp h)), if_neg c]
      exact hpu _
theorem p_iter {w : Nat} {v x2 : Int} {τ τ' : List Bool} {st : List Int} {M0 M : q_Mem} {env : Int → Int} {ofs : Int → Int → Int} (hv : q_tc1 w v τ = some τ') (hvt : s_vt τ st) (hl : τ.length ≤ 60) (hw : w ≠ 2) (hS : p_S M0 st M) (hb : ∀ M st, p_S M0 st M → ∀ k, 0 ≤ k → k ≤ 7 → q_may w k = true → fX12_qPartOf k x2 M = some (env k, M) ∧ -1000000 ≤ env k ∧ env k ≤ 1000000) {K : q_Mem → Option (Int × q_Mem)} {Q : Int → q_Mem → Prop} (hK : ∀ M', p_S M0 (s_ev1 env ofs v st) M' → q_P (K M') Q) :
    q_P (if q_w v < q_w 1000 then (if q_w v < q_w 40 then (if q_w v = q_w 13 then (q_bd (fX12_qPuts 1 M) fun _ M3 => K M3) else (if q_w v = q_w 12 then ((q_ld M 164 1700 ((M.2 94 97) - 1)).bind fun x24 => (q_sto M 164 1700 ((M.2 94 97) - 1) (1 - x24)).bind fun M2 => K M2) else (q_bd (fX12_qJoins v M) fun _ M1 => K M1))) else (q_bd (fX12_qPartOf (v - 40) x2 M) fun x25 M4 => q_bd (fX12_qPuts x25 M4) fun _ M5 => K M5)) else (q_bd (fX12_qPuts (q_w (v - 1000)) M) fun _ M6 => K M6)) Q := by
  have hlen := vt_len hvt
  have e1000 : q_w 1000 = 1000 := rfl
  have e40 : q_w 40 = 40 := rfl
  have e13 : q_w 13 = 13 := rfl
  have e12 : q_w 12 = 12 := rfl
  rw [e1000, e40, e13, e12]
  rcases tc1_cases hv with ⟨h1, h2, rfl⟩ | ⟨h1, h2, h3, rfl⟩ | ⟨h1, h2, ρ, rfl, rfl⟩ | ⟨rfl, rfl⟩ | ⟨rfl, ρ, rfl, rfl⟩ | ⟨h1, h2, ρ, rfl, rfl⟩ | ⟨h1, h2, ρ, rfl, rfl⟩ | ⟨h1, h2, ρ, rfl, rfl⟩
  · rw [n_w (a := v) (by omega) (by omega), if_neg (by omega), n_w (by omega) (by omega)]
    rw [ev1_num h1] at hK
    exact w_call (p_puts hS (by omega)) (fun _ M' h => hK M' h)
  · rw [n_w (a := v) (by omega) (by omega), if_pos (by omega), if_neg (by omega)]
    obtain ⟨e, hbb⟩ := hb M st hS (v - 40) (by omega) (by omega) h3
    rw [e, b_some]
    rw [ev1_part ⟨h1, h2⟩, clip_id hbb.1 hbb.2] at hK
    exact w_call (p_puts hS (by omega)) (fun _ M' h => hK M' h)
  · exact absurd h2 hw
  · rw [n_w (by omega) (by omega), if_pos (by omega), if_pos (by omega), if_pos rfl]
    exact w_call (p_puts hS (by omega)) (fun _ M' h => hK M' h)
  · obtain ⟨x, rr, rfl, hx, -, hrr⟩ := vt_1 hvt
    simp only [List.length_cons] at hlen hl
    rw [n_w (by omega) (by omega), if_pos (by omega), if_pos (by omega), if_neg (by omega), if_pos rfl, p_top hS (by omega), Option.bind_some]
    exact p_set hS (by omega) (fun M' h => hK M' h)
  all_goals
    obtain ⟨x, rr, rfl, hx, hx1, hrr⟩ := vt_1 hvt
    obtain ⟨y, rr, rfl, hy, hy1, hrr⟩ := vt_1 hrr
    simp only [List.length_cons] at hlen hl
    rw [n_w (a := v) (by omega) (by omega), if_pos (by omega), if_pos (by omega), if_neg (by omega), if_neg (by omega)]
    rw [ev1_bin (by omega)] at hK
    exact w_call (p_joins hS (by omega) hy hx (by omega)) (fun _ M' h => hK M' h)
theorem p_tell19 {w : Nat} (hw : w < 2) {x2 : Int} {M0 : q_Mem} {cs : List Int} {env : Int → Int} {ofs : Int → Int → Int} {f : Nat} (hf : f + cs.length ≤ 1600) (he : M0.2 129 (2 + w) = ((f + cs.length : Nat) : Int)) (hcs : ∀ j : Nat, j < cs.length → M0.2 130 (1600 + f + j) = cs.getD j 0) (hb : ∀ M st, p_S M0 st M → ∀ k, 0 ≤ k → k ≤ 7 → q_may w k = true → fX12_qPartOf k x2 M = some (env k, M) ∧ -1000000 ≤ env k ∧ env k ≤ 1000000) {b : Bool} :
    ∀ (n k : Nat) (M : q_Mem) (st : List Int) (τ : List Bool), k ≤ cs.length → cs.length - k < n → p_S M0 st M → s_vt τ st → τ.length ≤ 60 → q_tc w (cs.drop k) τ = some [b] → q_P (fX12_codesTell_19 n (w : Int) x2 ((f + k : Nat) : Int) M) (fun v M' => v = (s_ev env ofs (cs.drop k) st).headD 0 ∧ ∀ a j, ¬ ((a = 94 ∧ j = 97) ∨ a = 164) → M'.2 a j = M0.2 a j) := by
  intro n
  induction n with
  | zero => intro k M st τ _ h; omega
  | succ n ih =>
    intro k M st τ hk hn hS hvt hl htc
    rw [fX12_codesTell_19, b_ld (by omega) (by omega) (by decide), Option.bind_some, show ((2 : Int) + (w : Int)).toNat = 2 + w from by omega, hS.2.2 129 _ (by omega), he, n_w (by omega) (by omega), n_w (by omega) (by omega)]
    by_cases c : k = cs.length
    · rw [if_neg (by omega)]
      rw [List.drop_eq_nil_of_le (by omega)] at htc ⊢
      cases htc
      obtain ⟨x, rr, rfl, hx, -, hrr⟩ := vt_1 hvt
      have hl2 := vt_len hvt
      simp only [List.length_cons, List.length_nil] at hl2
      rw [b_ld (by decide) (by decide) (by decide), Option.bind_some]
      have e := hS.2.1 0 (by simp only [List.length_cons]; omega)
      refine w_some.mpr ⟨?_, hS.2.2⟩
      rw [show (0 : Int).toNat = 0 from rfl, e]
      rw [show (x :: rr).length - 1 - 0 = 0 from by simp only [List.length_cons]; omega]
      rfl
    · rw [if_pos (by omega), b_ld (by omega) (by omega) (by decide), Option.bind_some, show ((1600 : Int) + ((f + k : Nat) : Int)).toNat = 1600 + f + k from by omega]
      have hd : cs.drop k = cs.getD k 0 :: cs.drop (k + 1) := by
        rw [List.drop_eq_getElem_cons (by omega)]
        congr 1
        rw [List.getD_eq_getElem?_getD, List.getElem?_eq_getElem (by omega)]
        rfl
      rw [hd] at htc ⊢
      obtain ⟨τ1, h1, h2, h3⟩ := tc_cons htc
      rw [hS.2.2 130 _ (by omega), hcs k (by omega)]
      refine p_iter (K := fun M8 => fX12_codesTell_144 (fX12_codesTell_19 n) (w : Int) x2 ((f + k : Nat) : Int) M8) (env := env) (ofs := ofs) h1 hvt hl (by omega) hS hb ?_
      intro M' hS'
      have := ih (k + 1) M' _ τ1 (by omega) (by omega) hS' (vt_step h1 hvt) h2 h3
      rw [show ((f + (k + 1) : Nat) : Int) = ((f + k : Nat) : Int) + 1 from by omega] at this
      exact this
