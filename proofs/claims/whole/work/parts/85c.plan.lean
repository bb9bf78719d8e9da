/-! rounds: the class's search, whole -/
theorem e_bt : ∀ (r : Fin 64) (s : Fin 6), s.val ∈ e_bits r.val ↔ r.val.testBit s.val = true := by decide +kernel
theorem c_vpre {M0 : q_Mem} {W S F : Nat} {m0 : Int} {P : Nat → Int} {X : Nat → Int → Int} (H : e_H M0 W S F m0 P X) {d : Nat} {pre : List Nat} {p m : Int} {st : e_S} {re : Nat → Bool} {M : q_Mem} (hd : d < 64) (hdW : W &&& d = d) (hpl : pre.length = e_card d) (hm : m0 ≤ m ∧ m ≤ (F : Int)) (hV : e_V M0 W pre st re M) (G : Int → Int → Int → Int → q_Mem → Option (Int × q_Mem)) : ∃ M1, e_V M0 W pre (if W &&& (63 ^^^ d) = 0 then e_up st m pre else st) (fun t => re t || t == d) M1 ∧ fX6_visit G (pre.length : Int) p m (d : Int) M = fX6_visit_52 G (pre.length : Int) p m (d : Int) M1 := by
  obtain ⟨h1, h2, h3, h4, h5, h6, h7, h8, h9⟩ := id H
  have es := e_sub ⟨W, h2⟩ ⟨d, hd⟩ hdW
  simp only at es
  have hc6 := (e_c0 ⟨d, hd⟩).2
  simp only at hc6
  obtain ⟨v1, v2, v3, v4, v5, v6⟩ := hV
  have hVa : e_V M0 W pre st (fun t => re t || t == d) (q_up M 49 d 1) := by
    refine ⟨fun a j ha => by rw [up_ne (by omega)]; exact v1 a j ha, fun j hj => by rw [up_ne (by omega)]; exact v2 j hj, by rw [up_ne (by omega)]; exact v3, fun hne => ⟨(v4 hne).1, fun j hj => by rw [up_ne (by omega)]; exact (v4 hne).2 j hj⟩, v5, ?_⟩
    intro t ht
    rw [up_rd]
    by_cases c : t = d
    · rw [if_pos ⟨rfl, c⟩, c]
      simp
    · rw [if_neg (fun h => c h.2), v6 t ht]
      have : (t == d) = false := by simpa using c
      show _ = if (re t || t == d) = true then 1 else 0
      rw [this, Bool.or_false]
  have e40 : (q_up M 49 d 1).2 40 6 = (W : Int) := by rw [up_ne (by omega), v1 40 6 (by omega), h8]
  have e48 : (q_up M 49 d 1).2 40 8 = st.1 := by rw [up_ne (by omega), v3]
  unfold fX6_visit
  rw [b_sto (by omega) (by omega) (by decide), Option.bind_some, Int.toNat_natCast, e40, e48, n_w (a := (d : Int)) (by omega) (by omega), n_w (a := (W : Int)) (by omega) (by omega)]
  generalize q_up M 49 d 1 = Ma at hVa e40 e48
  by_cases c : d = W
  · rw [if_pos (es.1.mpr c), if_pos (by omega), n_w (a := st.1) (by omega) (by omega), n_w (a := m) (by omega) (by omega), show q_w (-1) = -1 from rfl]
    have hub : fX6_visit_33 G (pre.length : Int) p m (d : Int) Ma = fX6_visit_52 G (pre.length : Int) p m (d : Int) ((q_up Ma 40 8 m).1, q_u1 (q_up Ma 40 8 m).2 51 (fun k => if k < pre.length then Ma.2 50 k else Ma.2 51 k)) := by
      unfold fX6_visit_33
      rw [q_le]
      unfold q_cpy
      rw [show q_w 0 = 0 from rfl, n_w (a := (pre.length : Int)) (by omega) (by omega), if_pos (by omega), Option.bind_some]
      have hfun : (fun k => if (0 : Int).toNat ≤ k ∧ k < (0 : Int).toNat + ((pre.length : Int)).toNat then (q_up Ma 40 8 m).2 50 ((0 : Int).toNat + (k - (0 : Int).toNat)) else (q_up Ma 40 8 m).2 51 k) = (fun k => if k < pre.length then Ma.2 50 k else Ma.2 51 k) := by
        funext k
        rw [up_ne (by omega), up_ne (by omega), Int.toNat_natCast, show (0 : Int).toNat = 0 from rfl]
        by_cases ck : k < pre.length
        · rw [if_pos (by omega), if_pos ck, show 0 + (k - 0) = k from by omega]
        · rw [if_neg (by omega), if_neg ck]
      rw [hfun]
    obtain ⟨w1, w2, w3, w4, w5, w6⟩ := hVa
    have hnew : e_V M0 W pre (m, pre) (fun t => re t || t == d) ((q_up Ma 40 8 m).1, q_u1 (q_up Ma 40 8 m).2 51 (fun k => if k < pre.length then Ma.2 50 k else Ma.2 51 k)) := by
      have rd : ∀ a j, a ≠ 51 → (q_u1 (q_up Ma 40 8 m).2 51 (fun k => if k < pre.length then Ma.2 50 k else Ma.2 51 k)) a j = (q_up Ma 40 8 m).2 a j := fun a j ha => by rw [f_u2 ha]
      refine ⟨?_, ?_, ?_, ?_, ?_, ?_⟩
      · intro a j ha
        show (q_u1 (q_up Ma 40 8 m).2 51 (fun k => if k < pre.length then Ma.2 50 k else Ma.2 51 k)) a j = _
        rw [rd a j (by omega), up_ne (by omega)]
        exact w1 a j ha
      · intro j hj
        show (q_u1 (q_up Ma 40 8 m).2 51 (fun k => if k < pre.length then Ma.2 50 k else Ma.2 51 k)) 50 j = _
        rw [rd 50 j (by decide), up_ne (by omega)]
        exact w2 j hj
      · show (q_u1 (q_up Ma 40 8 m).2 51 (fun k => if k < pre.length then Ma.2 50 k else Ma.2 51 k)) 40 8 = m
        rw [rd 40 8 (by decide), up_rd, if_pos ⟨rfl, rfl⟩]
      · intro _
        refine ⟨by show pre.length = _; rw [hpl, c], ?_⟩
        intro j hj
        show (q_u1 (q_up Ma 40 8 m).2 51 (fun k => if k < pre.length then Ma.2 50 k else Ma.2 51 k)) 51 j = _
        rw [f_u1, if_pos (by rw [hpl, c]; exact hj)]
        exact w2 j (by rw [hpl, c]; exact hj)
      · show -1 ≤ m ∧ m ≤ 400
        omega
      · intro t ht
        show (q_u1 (q_up Ma 40 8 m).2 51 (fun k => if k < pre.length then Ma.2 50 k else Ma.2 51 k)) 49 t = _
        rw [rd 49 t (by decide), up_ne (by omega)]
        exact w6 t ht
    unfold e_up
    by_cases c1 : st.1 = -1
    · rw [if_pos c1, if_pos ⟨by omega, Or.inl c1⟩]
      exact ⟨_, hnew, hub⟩
    · rw [if_neg c1]
      by_cases c2 : m < st.1
      · rw [if_pos c2, if_pos ⟨by omega, Or.inr c2⟩]
        exact ⟨_, hnew, hub⟩
      · rw [if_neg c2, if_neg (by omega)]
        exact ⟨Ma, ⟨w1, w2, w3, w4, w5, w6⟩, rfl⟩
  · rw [if_neg (fun h => c (es.1.mp h)), if_neg (by omega)]
    exact ⟨Ma, hVa, rfl⟩
theorem e_le : ∀ W d : Fin 64, W.val &&& (63 ^^^ d.val) ≤ W.val := fun W d => Nat.and_le_left
theorem c_visit {M0 : q_Mem} {W S F : Nat} {m0 : Int} {P : Nat → Int} {X : Nat → Int → Int} (H : e_H M0 W S F m0 P X) : ∀ (n d : Nat) (pre : List Nat) (p m : Int) (st : e_S) (re : Nat → Bool) (M : q_Mem), d < 64 → W &&& d = d → pre.length = e_card d → e_card (W &&& (63 ^^^ d)) ≤ n → 0 ≤ p ∧ p ≤ 99 → m0 ≤ m ∧ m ≤ (F : Int) → e_V M0 W pre st re M → q_P (fV (n + 1) (pre.length : Int) p m (d : Int) M) (fun _ M' => e_V M0 W pre (e_dfs (F : Int) P X n (W &&& (63 ^^^ d)) pre p m st) (fun t => re t || e_rch (F : Int) P X n (W &&& (63 ^^^ d)) d p m t) M') := by
  obtain ⟨h1, h2, h3, h4, h5, h6, h7, h8, h9⟩ := id H
  intro n
  induction n with
  | zero =>
    intro d pre p m st re M hd hdW hpl hc hp hm hV
    have eL := e_left ⟨W, h2⟩ ⟨d, hd⟩
    simp only at eL
    have hr0 : W &&& (63 ^^^ d) = 0 := ((e_c0 ⟨_, eL.2⟩).1).mp (by show e_card (W &&& (63 ^^^ d)) = 0; omega)
    obtain ⟨M1, hV1, e1⟩ := c_vpre H (p := p) hd hdW hpl hm hV (fV 0)
    rw [fV, e1, e_dfs]
    unfold fX6_visit_52
    rw [show q_w 6 = 6 from rfl]
    have hc6 := (e_c0 ⟨d, hd⟩).2
    simp only at hc6
    rw [n_w (by omega) (by omega)]
    have fin : ∀ M', e_V M0 W pre (if W &&& (63 ^^^ d) = 0 then e_up st m pre else st) (fun t => re t || t == d) M' → e_V M0 W pre (if W &&& (63 ^^^ d) = 0 then e_up st m pre else st) (fun t => re t || e_rch (F : Int) P X 0 (W &&& (63 ^^^ d)) d p m t) M' := fun M' h => h
    by_cases c : pre.length < 6
    · rw [if_pos (by omega)]
      have := c_v62 H hd hp hm c (G := fV 0) (gs := fun _ st => st) (gr := fun _ _ => false) (fun s st re M hb _ _ _ => by rw [hr0] at hb; simp at hb) q_FU 0 _ _ M1 (by omega) (by unfold q_FU; omega) hV1
      rw [List.drop_zero, hr0] at this
      have e0 : (List.range S).filter (fun s => (0 : Nat).testBit s) = [] := by
        rw [List.filter_eq_nil_iff]
        intro s _
        simp
      rw [e0] at this
      refine w_mono this ?_
      intro _ M' hV'
      rw [hr0]
      refine V_re (fun t => ?_) hV'
      rw [e_rch, List.any_nil, Bool.or_false]
    · rw [if_neg (by omega)]
      exact w_some.mpr (fin M1 hV1)
  | succ n ih =>
    intro d pre p m st re M hd hdW hpl hc hp hm hV
    have eL := e_left ⟨W, h2⟩ ⟨d, hd⟩
    simp only at eL
    have es := e_sub ⟨W, h2⟩ ⟨d, hd⟩ hdW
    simp only at es
    have hW6 := (e_c0 ⟨W, h2⟩).2
    simp only at hW6
    obtain ⟨M1, hV1, e1⟩ := c_vpre H (p := p) hd hdW hpl hm hV (fV (n + 1))
    rw [fV, e1, e_dfs]
    unfold fX6_visit_52
    rw [show q_w 6 = 6 from rfl, n_w (by omega) (by omega)]
    have hbS := e_bS ⟨S, by omega⟩ ⟨W &&& (63 ^^^ d), eL.2⟩ (by show W &&& (63 ^^^ d) < 2 ^ S; have := e_le ⟨W, h2⟩ ⟨d, hd⟩; simp only at this; omega)
    simp only at hbS
    by_cases c : pre.length < 6
    · rw [if_pos (by omega)]
      have := c_v62 H hd hp hm c (G := fV (n + 1)) (gs := fun s st => e_dfs (F : Int) P X n (e_clr (W &&& (63 ^^^ d)) s) (pre ++ [s]) (P s) (e_ft (F : Int) P X p m s) st) (gr := fun s t => e_rch (F : Int) P X n (e_clr (W &&& (63 ^^^ d)) s) (d ||| 2 ^ s) (P s) (e_ft (F : Int) P X p m s) t) (by
        intro s st re M hb hs6 hne hV2
        obtain ⟨en1, en2, en3⟩ := e_nxt ⟨W, h2⟩ ⟨d, hd⟩ ⟨s, hs6⟩ hb
        simp only at en1 en2 en3
        have eo := e_or ⟨d, hd⟩ ⟨s, hs6⟩
        simp only at eo
        have es2 := e_sub ⟨W, h2⟩ ⟨d ||| 2 ^ s, eo.2⟩ (en3 hdW)
        simp only at es2
        obtain ⟨c1, c2, c3⟩ := e_cc ⟨W &&& (63 ^^^ d), eL.2⟩ s ((e_bt ⟨W &&& (63 ^^^ d), eL.2⟩ ⟨s, hs6⟩).mpr hb)
        simp only at c1 c2 c3
        have hft := e_ftb H en2 hp hm
        have hx := h9 s en2
        rw [en1] at es2
        have := ih (d ||| 2 ^ s) (pre ++ [s]) (P s) (e_ft (F : Int) P X p m s) st re M eo.2 (en3 hdW) (by rw [List.length_append, List.length_singleton]; omega) (by rw [en1]; omega) hx.2.1 (by omega) hV2
        rw [en1, List.length_append, List.length_singleton, show ((pre.length + 1 : Nat) : Int) = (pre.length : Int) + 1 from by omega] at this
        exact this) q_FU 0 _ _ M1 (by omega) (by unfold q_FU; omega) hV1
      rw [List.drop_zero, hbS] at this
      refine w_mono this ?_
      intro _ M' hV'
      refine V_re (fun t => ?_) hV'
      rw [e_rch, Bool.or_assoc]
    · have hr0 : W &&& (63 ^^^ d) = 0 := ((e_c0 ⟨_, eL.2⟩).1).mp (by show e_card (W &&& (63 ^^^ d)) = 0; omega)
      rw [if_neg (by omega)]
      rw [hr0] at hV1 ⊢
      have e0 : e_bits 0 = [] := by decide
      rw [e0, List.foldl_nil]
      refine w_some.mpr (V_re (fun t => ?_) hV1)
      rw [e_rch, e0, List.any_nil, Bool.or_false]
