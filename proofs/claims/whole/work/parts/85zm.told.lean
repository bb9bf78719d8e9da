/-! ask: the other side's evaluation -/
theorem p_iterQ {v x1 : Int} {τ τ' : List Bool} {st : List Int} {M0 M : q_Mem} {env : Int → Int} {ofs : Int → Int → Int} (hv : q_tc1 2 v τ = some τ') (hvt : s_vt τ st) (hl : τ.length ≤ 60) (hS : p_S M0 st M) (hb : ∀ M st, p_S M0 st M → ∀ k, 0 ≤ k → k ≤ 7 → q_may 2 k = true → fX12_qPartOf k x1 M = some (env k, M) ∧ -1000000 ≤ env k ∧ env k ≤ 1000000) (hof : ∀ M st, p_S M0 st M → ∀ k a, 0 ≤ k → k ≤ 1 → -1000000 ≤ a → a ≤ 1000000 → fX12_qOf k a x1 M = some (ofs k a, M) ∧ -1000000 ≤ ofs k a ∧ ofs k a ≤ 1000000) {K : q_Mem → Option (Int × q_Mem)} {Q : Int → q_Mem → Prop} (hK : ∀ M', p_S M0 (s_ev1 env ofs v st) M' → q_P (K M') Q) :
    q_P (if q_w v < q_w 1000 then (if q_w v < q_w 60 then (if q_w v < q_w 40 then (if q_w v = q_w 13 then (q_bd (fX12_qPuts 1 M) fun _ M3 => K M3) else (if q_w v = q_w 12 then ((q_ld M 164 1700 ((M.2 94 97) - 1)).bind fun x23 => (q_sto M 164 1700 ((M.2 94 97) - 1) (1 - x23)).bind fun M2 => K M2) else (q_bd (fX12_qJoins v M) fun _ M1 => K M1))) else (q_bd (fX12_qPartOf (v - 40) x1 M) fun x24 M4 => q_bd (fX12_qClip x24 M4) fun x25 M5 => q_bd (fX12_qPuts x25 M5) fun _ M6 => K M6)) else ((q_ld M 164 1700 ((M.2 94 97) - 1)).bind fun x26 => q_bd (fX12_qOf (v - 60) x26 x1 M) fun x27 M7 => q_bd (fX12_qClip x27 M7) fun x28 M8 => (q_sto M8 164 1700 ((M.2 94 97) - 1) x28).bind fun M9 => K M9)) else (q_bd (fX12_qPuts (q_w (v - 1000)) M) fun _ M10 => K M10)) Q := by
  have hlen := vt_len hvt
  rw [show q_w 1000 = 1000 from rfl, show q_w 60 = 60 from rfl, show q_w 40 = 40 from rfl, show q_w 13 = 13 from rfl, show q_w 12 = 12 from rfl]
  rcases tc1_cases hv with ⟨h1, h2, rfl⟩ | ⟨h1, h2, h3, rfl⟩ | ⟨h1, h2, ρ, rfl, rfl⟩ | ⟨rfl, rfl⟩ | ⟨rfl, ρ, rfl, rfl⟩ | ⟨h1, h2, ρ, rfl, rfl⟩ | ⟨h1, h2, ρ, rfl, rfl⟩ | ⟨h1, h2, ρ, rfl, rfl⟩
  · rw [n_w (a := v) (by omega) (by omega), if_neg (by omega), n_w (by omega) (by omega)]
    rw [ev1_num h1] at hK
    exact w_call (p_puts hS (by omega)) (fun _ M' h => hK M' h)
  · rw [n_w (a := v) (by omega) (by omega), if_pos (by omega), if_pos (by omega), if_neg (by omega)]
    obtain ⟨e, hbb⟩ := hb M st hS (v - 40) (by omega) (by omega) h3
    rw [e, b_some, f_qClip (by omega) (by omega), b_some]
    rw [ev1_part ⟨h1, h2⟩] at hK
    exact w_call (p_puts hS (by omega)) (fun _ M' h => hK M' h)
  · obtain ⟨x, rr, rfl, hx, -, hrr⟩ := vt_1 hvt
    simp only [List.length_cons] at hlen hl
    have hv60 : v = 60 ∨ v = 61 := h1
    obtain ⟨e, hbb⟩ := hof M _ hS (v - 60) x (by omega) (by omega) hx.1 hx.2
    rw [n_w (a := v) (by omega) (by omega), if_pos (by omega), if_neg (by omega), p_top hS (by omega), Option.bind_some, e, b_some, f_qClip (by omega) (by omega), b_some]
    rw [ev1_of h1] at hK
    exact p_set hS (by omega) (fun M' h => hK M' h)
  · rw [n_w (by omega) (by omega), if_pos (by omega), if_pos (by omega), if_pos (by omega), if_pos rfl]
    exact w_call (p_puts hS (by omega)) (fun _ M' h => hK M' h)
  · obtain ⟨x, rr, rfl, hx, -, hrr⟩ := vt_1 hvt
    simp only [List.length_cons] at hlen hl
    rw [n_w (by omega) (by omega), if_pos (by omega), if_pos (by omega), if_pos (by omega), if_neg (by omega), if_pos rfl, p_top hS (by omega), Option.bind_some]
    exact p_set hS (by omega) (fun M' h => hK M' h)
  all_goals
    obtain ⟨x, rr, rfl, hx, hx1, hrr⟩ := vt_1 hvt
    obtain ⟨y, rr, rfl, hy, hy1, hrr⟩ := vt_1 hrr
    simp only [List.length_cons] at hlen hl
    rw [n_w (a := v) (by omega) (by omega), if_pos (by omega), if_pos (by omega), if_pos (by omega), if_neg (by omega), if_neg (by omega)]
    rw [ev1_bin (by omega)] at hK
    exact w_call (p_joins hS (by omega) hy hx (by omega)) (fun _ M' h => hK M' h)
theorem p_told7 {x1 : Int} {M0 : q_Mem} {cs : List Int} {env : Int → Int} {ofs : Int → Int → Int} (hcl : cs.length ≤ 1600) (h91 : M0.2 94 91 = (cs.length : Int)) (hcs : ∀ j : Nat, j < cs.length → M0.2 162 j = cs.getD j 0) (hb : ∀ M st, p_S M0 st M → ∀ k, 0 ≤ k → k ≤ 7 → q_may 2 k = true → fX12_qPartOf k x1 M = some (env k, M) ∧ -1000000 ≤ env k ∧ env k ≤ 1000000) (hof : ∀ M st, p_S M0 st M → ∀ k a, 0 ≤ k → k ≤ 1 → -1000000 ≤ a → a ≤ 1000000 → fX12_qOf k a x1 M = some (ofs k a, M) ∧ -1000000 ≤ ofs k a ∧ ofs k a ≤ 1000000) {b : Bool} :
    ∀ (n k : Nat) (M : q_Mem) (st : List Int) (τ : List Bool), k ≤ cs.length → cs.length - k < n → p_S M0 st M → s_vt τ st → τ.length ≤ 60 → q_tc 2 (cs.drop k) τ = some [b] → q_P (fX12_qTold_7 n x1 (k : Int) M) (fun v M' => v = (s_ev env ofs (cs.drop k) st).headD 0 ∧ ∀ a j, ¬ ((a = 94 ∧ j = 97) ∨ a = 164) → M'.2 a j = M0.2 a j) := by
  intro n
  induction n with
  | zero => intro k M st τ _ h; omega
  | succ n ih =>
    intro k M st τ hk hn hS hvt hl htc
    rw [fX12_qTold_7, hS.2.2 94 91 (by omega), h91, n_w (by omega) (by omega), n_w (by omega) (by omega)]
    by_cases c : k = cs.length
    · rw [if_neg (by omega)]
      rw [List.drop_eq_nil_of_le (by omega)] at htc ⊢
      cases htc
      obtain ⟨x, rr, rfl, hx, -, hrr⟩ := vt_1 hvt
      have hl2 := vt_len hvt
      simp only [List.length_cons, List.length_nil] at hl2
      rw [b_ld (by decide) (by decide) (by decide), Option.bind_some]
      have e := hS.2.1 0 (by simp only [List.length_cons]; omega)
      refine w_some.mpr ⟨?_, hS.2.2⟩
      rw [show (0 : Int).toNat = 0 from rfl, e]
      rw [show (x :: rr).length - 1 - 0 = 0 from by simp only [List.length_cons]; omega]
      rfl
    · rw [if_pos (by omega), ld_n rfl (by omega) (by omega), Option.bind_some]
      have hd : cs.drop k = cs.getD k 0 :: cs.drop (k + 1) := by
        rw [List.drop_eq_getElem_cons (by omega)]
        congr 1
        rw [List.getD_eq_getElem?_getD, List.getElem?_eq_getElem (by omega)]
        rfl
      rw [hd] at htc ⊢
      obtain ⟨τ1, h1, h2, h3⟩ := tc_cons htc
      rw [hS.2.2 162 _ (by omega), hcs k (by omega)]
      refine p_iterQ (K := fun M8 => fX12_qTold_162 (fX12_qTold_7 n) x1 (k : Int) M8) (env := env) (ofs := ofs) h1 hvt hl hS hb hof ?_
      intro M' hS'
      have := ih (k + 1) M' _ τ1 (by omega) (by omega) hS' (vt_step h1 hvt) h2 h3
      rw [show ((k + 1 : Nat) : Int) = (k : Int) + 1 from by omega] at this
      exact this
theorem p_told {x1 : Int} {M0 : q_Mem} {cs : List Int} {env : Int → Int} {ofs : Int → Int → Int} (hcl : cs.length ≤ 1600) (h91 : M0.2 94 91 = (cs.length : Int)) (hcs : ∀ j : Nat, j < cs.length → M0.2 162 j = cs.getD j 0) (hb : ∀ M st, p_S M0 st M → ∀ k, 0 ≤ k → k ≤ 7 → q_may 2 k = true → fX12_qPartOf k x1 M = some (env k, M) ∧ -1000000 ≤ env k ∧ env k ≤ 1000000) (hof : ∀ M st, p_S M0 st M → ∀ k a, 0 ≤ k → k ≤ 1 → -1000000 ≤ a → a ≤ 1000000 → fX12_qOf k a x1 M = some (ofs k a, M) ∧ -1000000 ≤ ofs k a ∧ ofs k a ≤ 1000000) {b : Bool} (htc : q_tc 2 cs [] = some [b]) : q_P (fX12_qTold x1 M0) (fun v M' => v = (s_ev env ofs cs []).headD 0 ∧ ∀ a j, ¬ ((a = 94 ∧ j = 97) ∨ a = 164) → M'.2 a j = M0.2 a j) := by
  have hS : p_S M0 [] (q_up M0 94 97 0) := ⟨by rw [up_rd, if_pos ⟨rfl, rfl⟩]; rfl, fun i hi => absurd hi (by simp), fun a j ha => up_ne (by omega)⟩
  unfold fX12_qTold
  rw [q_le]
  exact p_told7 hcl h91 hcs hb hof (b := b) q_FU 0 (q_up M0 94 97 0) [] [] (by omega) (by unfold q_FU; omega) hS trivial (by decide) htc
