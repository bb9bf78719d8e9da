/-! rounds: the other side's search, round -/
theorem end_b (A : q_G) (c : Nat) : ∀ (l : List Nat) (p x : Int), 0 ≤ x ∧ x ≤ A 122 3 → e_end (A 122 3) (e_pl A) (e_X A c) l p x = -1 ∨ (0 ≤ e_end (A 122 3) (e_pl A) (e_X A c) l p x ∧ e_end (A 122 3) (e_pl A) (e_X A c) l p x ≤ A 122 3) := by
  intro l
  induction l with
  | nil => intro p x hx; exact Or.inr hx
  | cons s l ih =>
    intro p x hx
    rw [e_end]
    by_cases c1 : e_ft (A 122 3) (e_pl A) (e_X A c) p x s = -1
    · rw [if_pos c1]; exact Or.inl rfl
    · rw [if_neg c1]
      apply ih
      unfold e_ft at c1 ⊢
      by_cases c2 : A 122 3 < x + (if 0 ≤ e_pl A s - p then e_pl A s - p else -(e_pl A s - p))
      · rw [if_pos c2] at c1
        exact absurd rfl c1
      · rw [if_neg c2] at c1 ⊢
        have hw : 0 ≤ (if 0 ≤ e_pl A s - p then e_pl A s - p else -(e_pl A s - p)) := by
          by_cases c3 : 0 ≤ e_pl A s - p
          · rw [if_pos c3]; omega
          · rw [if_neg c3]; omega
        generalize (if 0 ≤ e_pl A s - p then e_pl A s - p else -(e_pl A s - p)) = w at hw c1 c2 ⊢
        obtain ⟨i, hi, hi2⟩ := nat_of' (x := x + w) (b := A 122 3) ⟨by omega, by omega⟩
        rw [hi] at c1 ⊢
        have := X_b A c s i hi2
        omega
def e_R (t : Nat) (L A : q_G) (c S F : Nat) (l : List Nat) (st : e_S) (M : q_Mem) : Prop := q_J t M L A ∧ e_N A c S F M ∧ M.2 94 59 = (l.length : Int) ∧ (∀ j, j < l.length → M.2 135 j = ((l.getD j 0 : Nat) : Int)) ∧ M.2 94 60 = st.1 ∧ (st.1 ≠ -1 → st.2.length = l.length ∧ ∀ j, j < l.length → M.2 136 j = ((st.2.getD j 0 : Nat) : Int)) ∧ (-1 ≤ st.1 ∧ st.1 ≤ 400)
theorem r_95 {K : Int → q_Mem → Option (Int × q_Mem)} {m : Nat} (hm : m ≤ 6) : ∀ (n k : Nat) (M : q_Mem), k ≤ m → m - k < n → M.2 94 59 = (m : Int) → ∃ M', (∀ a j, a ≠ 136 → M'.2 a j = M.2 a j) ∧ (∀ j, k ≤ j → j < m → M'.2 136 j = M.2 135 j) ∧ (∀ j, j < k → M'.2 136 j = M.2 136 j) ∧ fX12_laysRound_95 K n (k : Int) M = fX12_laysRound_124 K M' := by
  intro n
  induction n with
  | zero => intro k M _ h; omega
  | succ n ih =>
    intro k M hk hn h59
    rw [fX12_laysRound_95, h59, n_w (by omega) (by omega), n_w (by omega) (by omega)]
    by_cases c : k < m
    · rw [if_pos (by omega), b_ld (by omega) (by omega) (by decide), Option.bind_some, b_sto (by omega) (by omega) (by decide), Option.bind_some, Int.toNat_natCast, show (k : Int) + 1 = ((k + 1 : Nat) : Int) from by omega]
      obtain ⟨M', g1, g2, g3, g4⟩ := ih (k + 1) (q_up M 136 k (M.2 135 k)) (by omega) (by omega) (by rw [up_ne (by omega), h59])
      refine ⟨M', fun a j ha => by rw [g1 a j ha, up_ne (by omega)], ?_, fun j hj => by rw [g3 j (by omega), up_ne (by omega)], g4⟩
      intro j h1 h2
      by_cases cj : j = k
      · rw [cj, g3 k (by omega), up_rd, if_pos ⟨rfl, rfl⟩]
      · rw [g2 j (by omega) h2, up_ne (by omega)]
    · rw [if_neg (by omega)]
      exact ⟨M, fun _ _ _ => rfl, fun j h1 h2 => by omega, fun _ _ => rfl, rfl⟩
/-- one row looked at, then the next one -/
theorem r_57s {t : Nat} {L A : q_G} {c S F m : Nat} (hS : A 123 3 = (S : Int)) (hS2 : S ≤ 6) (hF : A 122 3 = (F : Int)) (hF2 : F ≤ 400) (hm : m ≤ 6) {l : List Nat} {st : e_S} {n : Nat} {M : q_Mem} (hl : l.length = m ∧ ∀ s ∈ l, s < S) (hR : e_R t L A c S F l st M) {Q : Int → q_Mem → Prop} (hK : ∀ x M', (e_nl l = none → x = 0 ∧ ∃ l', l'.length = m ∧ e_R t L A c S F l' (e_up st (e_end (A 122 3) (e_pl A) (e_X A c) l (A 131 1) (A 131 0)) ([] ++ l)) M') → (∀ l', e_nl l = some l' → l'.length = m → x = 1 ∧ e_R t L A c S F l' (e_up st (e_end (A 122 3) (e_pl A) (e_X A c) l (A 131 1) (A 131 0)) ([] ++ l)) M') → q_P (fX12_laysRound_57 n x M') Q) : q_P (fX12_laysRound_57 (n + 1) 1 M) Q := by
  obtain ⟨hJ, hN, h59, h135, h60, h136, hb⟩ := hR
  have w := j_wf hJ
  have db := j_db hJ
  have hoe : fX12_orderEnds M = some (e_end (A 122 3) (e_pl A) (e_X A c) l (A 131 1) (A 131 0), M) := by
    unfold fX12_orderEnds
    rw [r_ld131 hJ (by decide) (by decide), Option.bind_some, r_ld131 hJ (by decide) (by decide), Option.bind_some, show (0 : Int).toNat = 0 from rfl, show (1 : Int).toNat = 1 from rfl]
    exact r_oe16 hJ hS hS2 hF hF2 hN (m := m) hm (by rw [h59, hl.1]) l q_FU 0 (A 131 1) (A 131 0) (by omega) (by unfold q_FU; omega) (fun j hj => by rw [Nat.zero_add]; exact h135 j hj) hl.2 db.2.1 (by omega)
  have heb := end_b A c l (A 131 1) (A 131 0) (by omega)
  have h5 : ∀ j, j < l.length → l.getD j 0 ≤ 5 := by
    intro j hj
    have : l.getD j 0 ∈ l := by
      rw [List.getD_eq_getElem?_getD, List.getElem?_eq_getElem hj]
      exact List.getElem_mem _
    have := hl.2 _ this
    omega
  -- the next row from a memory that holds this one
  have next : ∀ (st' : e_S) (M1 : q_Mem), e_R t L A c S F l st' M1 → st' = e_up st (e_end (A 122 3) (e_pl A) (e_X A c) l (A 131 1) (A 131 0)) ([] ++ l) → q_P (fX12_laysRound_124 (fX12_laysRound_57 n) M1) Q := by
    intro st' M1 hR1 hst
    obtain ⟨gJ, gN, g59, g135, g60, g136, gb⟩ := hR1
    unfold fX12_laysRound_124
    refine w_call (r_nextL (M := M1) (l := l) (by omega) g59 g135 h5) ?_
    rintro r M2 ⟨f1, f2, f3⟩
    have hJ2 : q_J t M2 L A := by
      refine j_frame gJ (fun a k ha => f1 a k ?_)
      rintro rfl
      rcases ha with ha | ha | ha
      · cases ha
      · cases ha
      · omega
    have common : ∀ l', l'.length = m → (∀ j, j < l'.length → M2.2 135 j = ((l'.getD j 0 : Nat) : Int)) → e_R t L A c S F l' st' M2 := by
      intro l' hl' h'
      refine ⟨hJ2, fun s i h1 h2 => by rw [f1 134 _ (by decide)]; exact gN s i h1 h2, by rw [f1 94 59 (by decide), g59, hl.1, hl'], h', by rw [f1 94 60 (by decide), g60], ?_, gb⟩
      intro hne
      obtain ⟨q1, q2⟩ := g136 hne
      exact ⟨by rw [q1, hl.1, hl'], fun j hj => by rw [f1 136 j (by decide)]; exact q2 j (by omega)⟩
    rw [hst] at common
    refine hK r M2 (fun hnone => ⟨(f2 hnone).1, l, hl.1, common l hl.1 (fun j hj => by rw [(f2 hnone).2 j]; exact g135 j hj)⟩) (fun l' hs hl' => ?_)
    · obtain ⟨x1, x2, x3⟩ := f3 l' hs
      exact ⟨x1, common l' hl' (fun j hj => x3 j (by omega))⟩
  rw [fX12_laysRound_57, if_neg (by decide), hoe, b_some, h60]
  generalize e_end (A 122 3) (e_pl A) (e_X A c) l (A 131 1) (A 131 0) = e at heb next hK ⊢
  rw [n_w (a := e) (by omega) (by omega), n_w (a := st.1) (by omega) (by omega), show q_w (-1) = -1 from rfl]
  have better : e ≠ -1 → (st.1 = -1 ∨ e < st.1) → q_P (fX12_laysRound_87 (fX12_laysRound_57 n) e M) Q := by
    intro h1 h2
    unfold fX12_laysRound_87
    rw [q_le]
    obtain ⟨M', g1, g2, g3, g4⟩ := r_95 (K := fX12_laysRound_57 n) (m := m) hm q_FU 0 (q_up M 94 60 e) (by omega) (by unfold q_FU; omega) (by rw [up_ne (by omega), h59, hl.1])
    rw [show ((0 : Nat) : Int) = 0 from rfl] at g4
    rw [g4]
    have ho : ∀ a j, a ≠ 136 → ¬ (a = 94 ∧ j = 60) → M'.2 a j = M.2 a j := fun a j ha hb => by rw [g1 a j ha, up_ne (by omega)]
    refine next (e, [] ++ l) M' ⟨?_, ?_, ?_, ?_, ?_, ?_, ?_⟩ ?_
    · refine j_frame hJ (fun a k ha => ho a k ?_ ?_)
      · rintro rfl
        rcases ha with ha | ha | ha
        · cases ha
        · cases ha
        · omega
      · rintro ⟨rfl, rfl⟩
        rcases ha with ha | ha | ha
        · cases ha
        · cases ha
        · omega
    · intro s i q1 q2
      rw [ho 134 _ (by decide) (by omega)]
      exact hN s i q1 q2
    · rw [ho 94 59 (by decide) (by decide), h59]
    · intro j hj
      rw [ho 135 j (by decide) (by omega)]
      exact h135 j hj
    · rw [g1 94 60 (by decide), up_rd, if_pos ⟨rfl, rfl⟩]
    · intro _
      refine ⟨rfl, fun j hj => ?_⟩
      rw [g2 j (by omega) (by omega), up_ne (by omega)]
      exact h135 j hj
    · show -1 ≤ e ∧ e ≤ 400
      omega
    · unfold e_up
      rw [if_pos ⟨h1, h2⟩]
  have same : ¬ (e ≠ -1 ∧ (st.1 = -1 ∨ e < st.1)) → q_P (fX12_laysRound_124 (fX12_laysRound_57 n) M) Q := by
    intro h1
    refine next st M ⟨hJ, hN, h59, h135, h60, h136, hb⟩ ?_
    unfold e_up
    rw [if_neg h1]
  by_cases c1 : e = -1
  · rw [if_pos c1]
    exact same (fun h => h.1 c1)
  · rw [if_neg c1]
    by_cases c2 : st.1 = -1
    · rw [if_pos c2]
      exact better c1 (Or.inl c2)
    · rw [if_neg c2]
      by_cases c3 : e < st.1
      · rw [if_pos c3]
        exact better c1 (Or.inr c3)
      · rw [if_neg c3]
        exact same (by omega)
theorem r_57 {t : Nat} {L A : q_G} {c S F m : Nat} (hS : A 123 3 = (S : Int)) (hS2 : S ≤ 6) (hF : A 122 3 = (F : Int)) (hF2 : F ≤ 400) (hm : m ≤ 6) : ∀ (Ls : List (List Nat)) (l : List Nat) (st : e_S) (n : Nat) (M : q_Mem), e_isB (l :: Ls) = true → (∀ l' ∈ l :: Ls, l'.length = m ∧ ∀ s ∈ l', s < S) → Ls.length + 2 < n → e_R t L A c S F l st M → q_P (fX12_laysRound_57 n 1 M) (fun _ M' => ∃ l', l'.length = m ∧ e_R t L A c S F l' ((l :: Ls).foldl (fun st l => e_up st (e_end (A 122 3) (e_pl A) (e_X A c) l (A 131 1) (A 131 0)) ([] ++ l)) st) M') := by
  intro Ls
  induction Ls with
  | nil =>
    intro l st n M hB hl hn hR
    obtain ⟨n', rfl⟩ : ∃ n', n = n' + 1 + 1 := ⟨n - 2, by simp at hn; omega⟩
    have hnone : e_nl l = none := by
      rw [e_isB] at hB
      simpa using hB
    refine r_57s hS hS2 hF hF2 hm (hl l List.mem_cons_self) hR ?_
    intro x M' h1 h2
    obtain ⟨rfl, l', q1, q2⟩ := h1 hnone
    rw [fX12_laysRound_57, if_pos (by decide), List.foldl_cons, List.foldl_nil]
    exact w_some.mpr ⟨l', q1, q2⟩
  | cons l2 Ls ih =>
    intro l st n M hB hl hn hR
    obtain ⟨n', rfl⟩ : ∃ n', n = n' + 1 := ⟨n - 1, by simp at hn; omega⟩
    rw [e_isB] at hB
    simp only [Bool.and_eq_true, beq_iff_eq] at hB
    refine r_57s hS hS2 hF hF2 hm (hl l List.mem_cons_self) hR ?_
    intro x M' h1 h2
    obtain ⟨rfl, q2⟩ := h2 l2 hB.1 (hl l2 (List.mem_cons_of_mem _ List.mem_cons_self)).1
    rw [List.foldl_cons]
    exact ih l2 _ n' M' hB.2 (fun l' h => hl l' (List.mem_cons_of_mem _ h)) (by simp at hn; omega) q2
theorem perms_len : ∀ r : Fin 64, (e_perms 6 r.val).length ≤ 720 := by decide +kernel
theorem r_l7 {t : Nat} {L A : q_G} {c S F r : Nat} (hS : A 123 3 = (S : Int)) (hS2 : S ≤ 6) (hr : r < 64) {Q : Int → q_Mem → Prop} (hK : ∀ M', q_J t M' L A → e_N A c S F M' → M'.2 94 59 = ((e_bits r).length : Int) → (∀ j, j < (e_bits r).length → M'.2 135 j = (((e_bits r).getD j 0 : Nat) : Int)) → q_P (fX12_laysRound_57 q_FU 1 (q_up M' 94 60 (-1))) Q) : ∀ (n k : Nat) (acc : List Nat) (M : q_Mem), q_J t M L A → e_N A c S F M → k ≤ S → S - k < n → acc ++ ((List.range S).drop k).filter (fun s => r.testBit s) = e_bits r → M.2 94 59 = (acc.length : Int) → (∀ j, j < acc.length → M.2 135 j = ((acc.getD j 0 : Nat) : Int)) → q_P (fX12_laysRound_7 n (r : Int) (k : Int) M) Q := by
  have h6 := (e_c0 ⟨r, hr⟩).2
  simp only at h6
  intro n
  induction n with
  | zero => intro k acc M _ _ _ h; omega
  | succ n ih =>
    intro k acc M hJ hN hk hn hacc h59 h135
    rw [fX12_laysRound_7, r_sm hJ, b_some, hS, n_w (by omega) (by omega), n_w (a := (S : Int)) (by omega) (by omega)]
    by_cases c1 : k < S
    · have et := e_tst ⟨r, hr⟩ ⟨k, by omega⟩
      simp only at et
      rw [if_pos (by omega)]
      unfold fX12_laysRound_44
      rw [show (k : Int) + 1 = ((k + 1 : Nat) : Int) from by omega]
      rw [rng_drop c1, List.filter_cons] at hacc
      by_cases cb : r.testBit k = true
      · rw [if_pos cb] at hacc
        have hlen : acc.length + 1 ≤ e_card r := by
          have := congrArg List.length hacc
          rw [List.length_append, List.length_cons] at this
          unfold e_card
          omega
        rw [if_pos (et.mpr cb), h59, b_sto (by omega) (by omega) (by decide), Option.bind_some, Int.toNat_natCast, q_le, up_ne (by omega), h59]
        refine ih (k + 1) (acc ++ [k]) _ (j_scr (j_scr hJ rfl rfl rfl) rfl rfl rfl) ?_ (by omega) (by omega) ?_ ?_ ?_
        · intro s i q1 q2
          rw [up_ne (by omega), up_ne (by omega)]
          exact hN s i q1 q2
        · rw [List.append_assoc]
          exact hacc
        · rw [up_rd, if_pos ⟨rfl, rfl⟩]
          simp
        · intro j hj
          simp at hj
          rw [up_ne (by omega), up_rd]
          by_cases cj : j = acc.length
          · rw [if_pos ⟨rfl, cj⟩, cj, List.getD_eq_getElem?_getD, List.getElem?_append_right (Nat.le_refl _)]
            simp
          · rw [if_neg (by omega), h135 j (by omega), List.getD_eq_getElem?_getD, List.getD_eq_getElem?_getD, List.getElem?_append_left (by omega)]
      · rw [if_neg cb] at hacc
        rw [if_neg (fun h => cb (et.mp h))]
        exact ih (k + 1) acc M hJ hN (by omega) (by omega) hacc h59 h135
    · rw [if_neg (by omega), q_le]
      rw [List.drop_eq_nil_of_le (by simp; omega), List.filter_nil, List.append_nil] at hacc
      subst hacc
      exact hK M hJ hN h59 h135
theorem r_lround {t : Nat} {M : q_Mem} {L A : q_G} (h : q_J t M L A) {c S F r : Nat} (hS : A 123 3 = (S : Int)) (hS2 : S ≤ 6) (hF : A 122 3 = (F : Int)) (hF2 : F ≤ 400) (hN : e_N A c S F M) (hr : r < 64) (hrS : r < 2 ^ S) : q_P (fX12_laysRound (r : Int) M) (fun _ M' => ∃ l', l'.length = e_card r ∧ e_R t L A c S F l' (e_best A c r) M') := by
  have h6 := (e_c0 ⟨r, hr⟩).2
  simp only at h6
  have po := perms_ok ⟨r, hr⟩
  simp only [Bool.and_eq_true, beq_iff_eq] at po
  obtain ⟨⟨p1, p2⟩, p3⟩ := po
  have pl := perms_len ⟨r, hr⟩
  simp only at pl
  have hbS := e_bS ⟨S, by omega⟩ ⟨r, hr⟩ hrS
  simp only at hbS
  unfold e_best e_fold
  obtain ⟨Ls, hLs⟩ : ∃ Ls, e_perms 6 r = e_bits r :: Ls := by
    cases hp : e_perms 6 r with
    | nil => rw [hp] at p2; cases p2
    | cons a Ls => rw [hp] at p2; cases p2; exact ⟨Ls, rfl⟩
  rw [hLs] at p1 p3 pl ⊢
  have hall : ∀ l' ∈ e_bits r :: Ls, l'.length = e_card r ∧ ∀ s ∈ l', s < S := by
    intro l' hl'
    have := List.all_eq_true.mp p3 l' hl'
    simp only [Bool.and_eq_true, beq_iff_eq] at this
    refine ⟨this.1, fun s hs => ?_⟩
    have hb := List.all_eq_true.mp this.2 s hs
    apply Classical.byContradiction
    intro hc
    have : 2 ^ S ≤ 2 ^ s := Nat.pow_le_pow_right (by decide) (by omega)
    rw [Nat.testBit_lt_two_pow (by omega)] at hb
    cases hb
  unfold fX12_laysRound
  rw [q_le]
  refine r_l7 (t := t) (L := L) (A := A) (c := c) (S := S) (F := F) (r := r) hS hS2 hr ?_ q_FU 0 [] (q_up M 94 59 0) (j_scr h rfl rfl rfl) (fun s i q1 q2 => by rw [up_ne (by omega)]; exact hN s i q1 q2) (by omega) (by unfold q_FU; omega) (by rw [List.drop_zero, List.nil_append, hbS]) (by rw [up_rd, if_pos ⟨rfl, rfl⟩]; rfl) (fun j hj => by simp at hj)
  intro M' hJ' hN' h59 h135
  refine r_57 hS hS2 hF hF2 (m := e_card r) h6 Ls (e_bits r) (-1, []) q_FU (q_up M' 94 60 (-1)) p1 hall (by unfold q_FU; simp at pl; omega) ⟨j_scr hJ' rfl rfl rfl, fun s i q1 q2 => by rw [up_ne (by omega)]; exact hN' s i q1 q2, by rw [up_ne (by omega), h59], fun j hj => by rw [up_ne (by omega)]; exact h135 j hj, by rw [up_rd, if_pos ⟨rfl, rfl⟩], fun hne => absurd rfl hne, by decide⟩
theorem r_unb {t : Nat} {M : q_Mem} {L A : q_G} (h : q_J t M L A) {b S : Nat} (hb : A 131 2 = (b : Int)) (hb2 : b < 64) (hS : A 123 3 = (S : Int)) (hS2 : S ≤ 6) : fX12_unbought M = some (((e_wn b S : Nat) : Int), M) := by
  unfold fX12_unbought
  rw [r_sm h, b_some, r_ld131 h (by decide) (by decide), Option.bind_some, show (2 : Int).toNat = 2 from rfl, hb, hS, (e_wnb ⟨b, hb2⟩ ⟨S, by omega⟩).2.2.1]
theorem pc_card : ∀ r : Fin 64, q_pc (r.val : Int) = ((e_card r.val : Nat) : Int) := by decide +kernel
theorem st_round {M : q_Mem} (hS : q_St M) (x1 x2 : Int) (h1 : q_R x1) (h2 : q_R x2) : q_Step M (fX11_round x1 x2 M) (fun M1 => fX12_round x1 x2 M1) := by
  obtain ⟨t, L, A, hI⟩ := id hS
  have w := j_wf hI.1
  have db := j_db hI.1
  have h2' := h2
  unfold q_R at h2'
  by_cases c : 0 ≤ x1 ∧ x1 < A 123 4
  · obtain ⟨a, rfl, ha⟩ := nat_of c
    obtain ⟨b, hb, hb2⟩ := nat_of (x := A 131 2) (b := 64) ⟨by omega, by omega⟩
    obtain ⟨S, hSt, hSt2⟩ := nat_of' w.2.1
    obtain ⟨F, hF, hF2⟩ := nat_of' w.1
    have ew := e_wnb ⟨b, by omega⟩ ⟨S, by omega⟩
    simp only at ew
    have h6 := (e_c0 ⟨e_wn b S, ew.1⟩).2
    simp only at h6
    have hpc := pc_card ⟨e_wn b S, ew.1⟩
    simp only at hpc
    refine st_q hI (if (e_best A a (e_wn b S)).1 = -1 ∨ x2 < -1 ∨ (e_card (e_wn b S) : Int) ≤ x2 then -1 else if x2 = -1 then (e_best A a (e_wn b S)).1 else (((e_best A a (e_wn b S)).2.getD x2.toNat 0 : Nat) : Int)) ?_ ?_
    · unfold fX11_round
      rw [c_isCoin hI.1 h1, b_some, f_ite, if_pos c, n_w h2'.1 h2'.2, show q_w (-1) = -1 from rfl]
      by_cases c2 : x2 < -1
      · rw [if_pos c2, if_pos (Or.inr (Or.inl c2))]
        exact w_some.mpr ⟨rfl, hI.1⟩
      · rw [if_neg c2, q_le, j_told hI.1]
        refine w_call (c_plan hI.1 ha hb hSt) ?_
        rintro _ M1 ⟨hJ1, e6, e8, e51, eb, -⟩
        rw [e8, e6, n_w (by omega) (by omega)]
        unfold fX11_round_51
        rw [e8]
        by_cases c3 : (e_best A a (e_wn b S)).1 = -1
        · rw [if_pos c3, if_pos (Or.inl c3)]
          exact w_some.mpr ⟨c3, hJ1⟩
        · rw [if_neg c3]
          obtain ⟨q1, q2⟩ := e51 c3
          by_cases c4 : x2 = -1
          · rw [if_pos c4, if_neg (by omega), if_pos c4]
            exact w_some.mpr ⟨rfl, hJ1⟩
          · rw [if_neg c4, c_bits (by omega) (by omega), b_some, hpc, n_w (by omega) (by omega)]
            by_cases c5 : x2 < (e_card (e_wn b S) : Int)
            · rw [if_pos c5, if_neg (by omega), if_neg c4, b_ld (by omega) (by omega) (by decide), Option.bind_some, q2 x2.toNat (by omega)]
              exact w_some.mpr ⟨rfl, hJ1⟩
            · rw [if_neg c5, if_pos (by omega)]
              exact w_some.mpr ⟨rfl, hJ1⟩
    · intro M1 hJ
      unfold fX12_round
      rw [r_isCoin hJ h1, b_some, f_ite, if_pos c]
      refine w_call (r_nexts hJ ha hSt hF (by omega)) ?_
      rintro _ M2 ⟨hJ2, hN2⟩
      rw [r_unb hJ2 hb (by omega) hSt (by omega), b_some]
      refine w_call (r_lround hJ2 hSt (by omega) hF (by omega) hN2 ew.1 ew.2.1) ?_
      rintro _ M3 ⟨l', hl', hJ3, hN3, h59, h135, h60, h136, hbb⟩
      rw [h60, n_w (by omega) (by omega), show q_w (-1) = -1 from rfl]
      by_cases c3 : (e_best A a (e_wn b S)).1 = -1
      · rw [if_pos c3, if_pos (Or.inl c3)]
        exact w_some.mpr ⟨rfl, hJ3⟩
      · obtain ⟨q1, q2⟩ := h136 c3
        rw [if_neg c3, h59, hl', n_w (a := ((e_card (e_wn b S) : Nat) : Int) - 1) (by omega) (by omega), f_isInW h2 (by decide) (by decide) (by omega) (by omega), b_some, f_ite, n_w h2'.1 h2'.2]
        by_cases c5 : -1 ≤ x2 ∧ x2 ≤ ((e_card (e_wn b S) : Nat) : Int) - 1
        · rw [if_pos c5, if_neg (show ¬ ((e_best A a (e_wn b S)).1 = -1 ∨ x2 < -1 ∨ ((e_card (e_wn b S) : Nat) : Int) ≤ x2) by omega)]
          by_cases c4 : x2 = -1
          · rw [if_pos c4, if_pos c4]
            exact w_some.mpr ⟨h60, hJ3⟩
          · rw [if_neg c4, if_neg c4, b_ld (by omega) (by omega) (by decide), Option.bind_some, q2 x2.toNat (by omega)]
            exact w_some.mpr ⟨rfl, hJ3⟩
        · rw [if_neg c5, if_pos (by omega)]
          exact w_some.mpr ⟨rfl, hJ3⟩
  · refine st_q hI (-1) ?_ ?_
    · unfold fX11_round
      rw [c_isCoin hI.1 h1, b_some, f_ite, if_neg c]
      exact w_some.mpr ⟨rfl, hI.1⟩
    · intro M1 hJ
      unfold fX12_round
      rw [r_isCoin hJ h1, b_some, f_ite, if_neg c]
      exact w_some.mpr ⟨rfl, hJ⟩
