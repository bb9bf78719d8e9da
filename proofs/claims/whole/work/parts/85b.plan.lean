/-! rounds: the class's search -/
def e_rch (F : Int) (P : Nat → Int) (X : Nat → Int → Int) : Nat → Nat → Nat → Int → Int → Nat → Bool
  | 0, _, d, _, _, t => t == d
  | n + 1, r, d, p, m, t => t == d || (e_bits r).any (fun s => !(e_ft F P X p m s == -1) && e_rch F P X n (e_clr r s) (d ||| 2 ^ s) (P s) (e_ft F P X p m s) t)
def e_H (M0 : q_Mem) (W S F : Nat) (m0 : Int) (P : Nat → Int) (X : Nat → Int → Int) : Prop := S ≤ 6 ∧ W < 64 ∧ W < 2 ^ S ∧ F ≤ 400 ∧ 0 ≤ m0 ∧ M0.2 40 0 = (S : Int) ∧ M0.2 40 1 = (F : Int) ∧ M0.2 40 6 = (W : Int) ∧ ∀ s, W.testBit s = true → M0.2 41 s = P s ∧ (0 ≤ P s ∧ P s ≤ 99) ∧ ∀ i : Nat, m0 ≤ (i : Int) → i ≤ F → M0.2 (43 + s) i = X s i ∧ (X s i = -1 ∨ ((i : Int) ≤ X s i ∧ X s i ≤ (F : Int)))
def e_V (M0 : q_Mem) (W : Nat) (pre : List Nat) (st : e_S) (re : Nat → Bool) (M : q_Mem) : Prop :=
  (∀ a j, ¬ ((a = 40 ∧ j = 8) ∨ (49 ≤ a ∧ a ≤ 51)) → M.2 a j = M0.2 a j) ∧ (∀ j, j < pre.length → M.2 50 j = ((pre.getD j 0 : Nat) : Int)) ∧ M.2 40 8 = st.1 ∧ (st.1 ≠ -1 → st.2.length = e_card W ∧ ∀ j, j < e_card W → M.2 51 j = ((st.2.getD j 0 : Nat) : Int)) ∧ (-1 ≤ st.1 ∧ st.1 ≤ 400) ∧ ∀ t, t < 64 → M.2 49 t = if re t = true then 1 else 0
theorem V_re {M0 : q_Mem} {W : Nat} {pre : List Nat} {st : e_S} {re re' : Nat → Bool} {M : q_Mem} (h : ∀ t, re t = re' t) (hV : e_V M0 W pre st re M) : e_V M0 W pre st re' M := ⟨hV.1, hV.2.1, hV.2.2.1, hV.2.2.2.1, hV.2.2.2.2.1, fun t ht => by rw [hV.2.2.2.2.2 t ht, h t]⟩
theorem e_left : ∀ W d : Fin 64, q_and (W.val : Int) (q_xor (d.val : Int) (-1)) = ((W.val &&& (63 ^^^ d.val) : Nat) : Int) ∧ W.val &&& (63 ^^^ d.val) < 64 := by decide +kernel
theorem e_tst : ∀ (x : Fin 64) (s : Fin 6), (q_w (q_and (q_shr (x.val : Int) (s.val : Int)) 1) = q_w 1) ↔ x.val.testBit s.val = true := by decide +kernel
theorem e_or : ∀ (d : Fin 64) (s : Fin 6), q_or (d.val : Int) (q_shl 1 (s.val : Int)) = ((d.val ||| 2 ^ s.val : Nat) : Int) ∧ d.val ||| 2 ^ s.val < 64 := by decide +kernel
theorem e_sub : ∀ W d : Fin 64, W.val &&& d.val = d.val → ((W.val &&& (63 ^^^ d.val) = 0 ↔ d.val = W.val) ∧ e_card (W.val &&& (63 ^^^ d.val)) + e_card d.val = e_card W.val) := by decide +kernel
theorem e_nxt : ∀ (W d : Fin 64) (s : Fin 6), (W.val &&& (63 ^^^ d.val)).testBit s.val = true → (W.val &&& (63 ^^^ (d.val ||| 2 ^ s.val)) = e_clr (W.val &&& (63 ^^^ d.val)) s.val) ∧ W.val.testBit s.val = true ∧ (W.val &&& d.val = d.val → W.val &&& (d.val ||| 2 ^ s.val) = d.val ||| 2 ^ s.val) := by decide +kernel
theorem e_42 : ∀ s : Fin 6, q_fr 42 s.val = 43 + s.val := by decide +kernel
theorem e_bS : ∀ (S : Fin 7) (r : Fin 64), r.val < 2 ^ S.val → (List.range S.val).filter (fun s => r.val.testBit s) = e_bits r.val := by decide +kernel
theorem e_abs {x : Int} (h : -1000 ≤ x ∧ x ≤ 1000) : q_abs x = if 0 ≤ x then x else -x := n_abs (by omega) (by omega)
theorem e_ftb {M0 : q_Mem} {W S F : Nat} {m0 : Int} {P : Nat → Int} {X : Nat → Int → Int} (H : e_H M0 W S F m0 P X) {s : Nat} (hs : W.testBit s = true) {p m : Int} (hp : 0 ≤ p ∧ p ≤ 99) (hm : m0 ≤ m ∧ m ≤ (F : Int)) : e_ft (F : Int) P X p m s = -1 ∨ (m ≤ e_ft (F : Int) P X p m s ∧ e_ft (F : Int) P X p m s ≤ (F : Int)) := by
  obtain ⟨h1, h2, h3, h4, h5, h6, h7, h8, h9⟩ := H
  obtain ⟨x1, x2, x3⟩ := h9 s hs
  unfold e_ft
  by_cases c : (F : Int) < m + (if 0 ≤ P s - p then P s - p else -(P s - p))
  · rw [if_pos c]; exact Or.inl rfl
  · rw [if_neg c]
    have hw : 0 ≤ (if 0 ≤ P s - p then P s - p else -(P s - p)) := by
      by_cases c2 : 0 ≤ P s - p
      · rw [if_pos c2]; omega
      · rw [if_neg c2]; omega
    generalize (if 0 ≤ P s - p then P s - p else -(P s - p)) = w at c hw ⊢
    obtain ⟨i, hi, hi2⟩ := nat_of' (x := m + w) (b := (F : Int)) ⟨by omega, by omega⟩
    rw [hi]
    have := (x3 i (by omega) (by omega)).2
    omega
theorem c_v62 {M0 : q_Mem} {W S F : Nat} {m0 : Int} {P : Nat → Int} {X : Nat → Int → Int} (H : e_H M0 W S F m0 P X) {d : Nat} (hd : d < 64) {p m : Int} (hp : 0 ≤ p ∧ p ≤ 99) (hm : m0 ≤ m ∧ m ≤ (F : Int)) {pre : List Nat} (hpl : pre.length < 6) {G : Int → Int → Int → Int → q_Mem → Option (Int × q_Mem)} {gs : Nat → e_S → e_S} {gr : Nat → Nat → Bool} (hG : ∀ s st re M, (W &&& (63 ^^^ d)).testBit s = true → s < 6 → e_ft (F : Int) P X p m s ≠ -1 → e_V M0 W (pre ++ [s]) st re M → q_P (G ((pre.length : Int) + 1) (P s) (e_ft (F : Int) P X p m s) ((d ||| 2 ^ s : Nat) : Int) M) (fun _ M' => e_V M0 W (pre ++ [s]) (gs s st) (fun t => re t || gr s t) M')) : ∀ (n k : Nat) (st : e_S) (re : Nat → Bool) (M : q_Mem), k ≤ S → S - k < n → e_V M0 W pre st re M → q_P (fX6_visit_62 G n (pre.length : Int) p m (d : Int) (k : Int) M) (fun _ M' => e_V M0 W pre ((((List.range S).drop k).filter (fun s => (W &&& (63 ^^^ d)).testBit s)).foldl (fun st s => if e_ft (F : Int) P X p m s = -1 then st else gs s st) st) (fun t => re t || (((List.range S).drop k).filter (fun s => (W &&& (63 ^^^ d)).testBit s)).any (fun s => !(e_ft (F : Int) P X p m s == -1) && gr s t)) M') := by
  obtain ⟨h1, h2, h3, h4, h5, h6, h7, h8, h9⟩ := id H
  have eL := e_left ⟨W, h2⟩ ⟨d, hd⟩
  simp only at eL
  intro n
  induction n with
  | zero => intro k st re M _ h; omega
  | succ n ih =>
    intro k st re M hk hn hV
    rw [fX6_visit_62, hV.1 40 0 (by omega), hV.1 40 1 (by omega), hV.1 40 6 (by omega), h6, h7, h8, n_w (a := (k : Int)) (by omega) (by omega), n_w (a := (S : Int)) (by omega) (by omega)]
    by_cases ck : k < S
    · rw [if_pos (by omega), q_le, eL.1, b_ld (by omega) (by omega) (by decide), Option.bind_some, q_le, Int.toNat_natCast]
      have et := e_tst ⟨W &&& (63 ^^^ d), eL.2⟩ ⟨k, by omega⟩
      simp only at et
      unfold fX6_visit_171
      rw [show (k : Int) + 1 = ((k + 1 : Nat) : Int) from by omega, rng_drop ck, List.filter_cons]
      by_cases cb : (W &&& (63 ^^^ d)).testBit k = true
      · obtain ⟨en1, en2, en3⟩ := e_nxt ⟨W, h2⟩ ⟨d, hd⟩ ⟨k, by omega⟩ cb
        simp only at en1 en2 en3
        obtain ⟨x1, x2, x3⟩ := h9 k en2
        have hft := e_ftb H en2 hp hm
        rw [if_pos (et.mpr cb), if_pos cb, List.foldl_cons, hV.1 41 k (by omega), x1, e_abs (by omega)]
        have hw : 0 ≤ (if 0 ≤ P k - p then P k - p else -(P k - p)) ∧ (if 0 ≤ P k - p then P k - p else -(P k - p)) ≤ 99 := by
          by_cases c2 : 0 ≤ P k - p
          · rw [if_pos c2]; omega
          · rw [if_neg c2]; omega
        have hfe : e_ft (F : Int) P X p m k = if (F : Int) < m + (if 0 ≤ P k - p then P k - p else -(P k - p)) then -1 else X k (m + (if 0 ≤ P k - p then P k - p else -(P k - p))) := rfl
        have hany : ∀ t, ((k :: ((List.range S).drop (k + 1)).filter (fun s => (W &&& (63 ^^^ d)).testBit s)).any (fun s => !(e_ft (F : Int) P X p m s == -1) && gr s t)) = ((!(e_ft (F : Int) P X p m k == -1) && gr k t) || (((List.range S).drop (k + 1)).filter (fun s => (W &&& (63 ^^^ d)).testBit s)).any (fun s => !(e_ft (F : Int) P X p m s == -1) && gr s t)) := fun t => List.any_cons
        have skip : e_ft (F : Int) P X p m k = -1 → q_P (fX6_visit_62 G n (pre.length : Int) p m (d : Int) ((k + 1 : Nat) : Int) M) (fun _ M' => e_V M0 W pre ((((List.range S).drop (k + 1)).filter (fun s => (W &&& (63 ^^^ d)).testBit s)).foldl (fun st s => if e_ft (F : Int) P X p m s = -1 then st else gs s st) (if e_ft (F : Int) P X p m k = -1 then st else gs k st)) (fun t => re t || (k :: ((List.range S).drop (k + 1)).filter (fun s => (W &&& (63 ^^^ d)).testBit s)).any (fun s => !(e_ft (F : Int) P X p m s == -1) && gr s t)) M') := by
          intro he
          rw [if_pos he]
          refine w_mono (ih (k + 1) st re M (by omega) (by omega) hV) ?_
          intro _ M' hV'
          refine V_re (fun t => ?_) hV'
          rw [hany, he]
          rfl
        generalize hwd : (if 0 ≤ P k - p then P k - p else -(P k - p)) = w at hw hfe ⊢
        rw [n_w (a := (F : Int)) (by omega) (by omega), n_w (a := m + w) (by omega) (by omega)]
        by_cases c1 : (F : Int) < m + w
        · rw [if_pos c1] at hfe ⊢
          exact skip hfe
        · rw [if_neg c1] at hfe ⊢
          obtain ⟨i, hi, hi2⟩ := nat_of' (x := m + w) (b := (F : Int)) ⟨by omega, by omega⟩
          obtain ⟨y1, y2⟩ := x3 i (by omega) (by omega)
          have e42 : q_ldr 42 6 (k : Int) = some (43 + k) := by
            unfold q_ldr
            rw [n_w (by omega) (by omega), if_pos (by omega), Int.toNat_natCast, e_42 ⟨k, by omega⟩]
          rw [hi] at hfe ⊢
          rw [e42, Option.bind_some, b_ld (by omega) (by omega) (by decide), Option.bind_some, Int.toNat_natCast, hV.1 (43 + k) i (by omega), y1, ← hfe, n_w (a := e_ft (F : Int) P X p m k) (by omega) (by omega), show q_w (-1) = -1 from rfl]
          by_cases c2 : e_ft (F : Int) P X p m k = -1
          · rw [if_pos c2]
            exact skip c2
          · rw [if_neg c2, if_neg c2, b_sto (by omega) (by omega) (by decide), Option.bind_some, b_ld (by omega) (by omega) (by decide), Option.bind_some, Int.toNat_natCast, Int.toNat_natCast, up_ne (by omega), hV.1 41 k (by omega), x1, Option.bind_some, b_ld (by omega) (by omega) (by decide), Option.bind_some, Int.toNat_natCast, up_ne (by omega), hV.1 (43 + k) i (by omega), y1, ← hfe]
            have eo := e_or ⟨d, hd⟩ ⟨k, by omega⟩
            simp only at eo
            rw [eo.1]
            have hV2 : e_V M0 W (pre ++ [k]) st re (q_up M 50 pre.length (k : Int)) := by
              refine ⟨fun a j ha => by rw [up_ne (by omega)]; exact hV.1 a j ha, ?_, by rw [up_ne (by omega)]; exact hV.2.2.1, ?_, hV.2.2.2.2.1, fun t ht => by rw [up_ne (by omega)]; exact hV.2.2.2.2.2 t ht⟩
              · intro j hj
                simp at hj
                rw [up_rd]
                by_cases cj : j = pre.length
                · rw [if_pos ⟨rfl, cj⟩, cj, List.getD_eq_getElem?_getD, List.getElem?_append_right (Nat.le_refl _)]
                  simp
                · rw [if_neg (by omega), hV.2.1 j (by omega), List.getD_eq_getElem?_getD, List.getD_eq_getElem?_getD, List.getElem?_append_left (by omega)]
              · intro hne
                obtain ⟨z1, z2⟩ := hV.2.2.2.1 hne
                exact ⟨z1, fun j hj => by rw [up_ne (by omega)]; exact z2 j hj⟩
            refine w_call (hG k st re _ cb (by omega) c2 hV2) ?_
            intro _ M2 hV3
            have hV4 : e_V M0 W pre (gs k st) (fun t => re t || gr k t) M2 := by
              refine ⟨hV3.1, ?_, hV3.2.2.1, hV3.2.2.2.1, hV3.2.2.2.2.1, hV3.2.2.2.2.2⟩
              intro j hj
              rw [hV3.2.1 j (by simp; omega), List.getD_eq_getElem?_getD, List.getD_eq_getElem?_getD, List.getElem?_append_left (by omega)]
            refine w_mono (ih (k + 1) _ _ M2 (by omega) (by omega) hV4) ?_
            intro _ M' hV'
            refine V_re (fun t => ?_) hV'
            have e1 : (e_ft (F : Int) P X p m k == -1) = false := by simpa using c2
            rw [hany, e1, Bool.not_false, Bool.true_and, Bool.or_assoc]
      · rw [if_neg (fun h => cb (et.mp h)), if_neg cb]
        exact ih (k + 1) st re M (by omega) (by omega) hV
    · rw [if_neg (by omega), List.drop_eq_nil_of_le (by simp; omega)]
      exact w_some.mpr (V_re (fun t => by simp) hV)
