/-! chance -/
theorem q_le {α β : Type} (a : α) (f : α → β) : q_let a f = f a := rfl
theorem c_ch31 {M0 : q_Mem} {t : Nat} (ht : t = 57 ∨ t = 72) (hT : M0.2 0 11 = (t : Int)) {gu to bf : Int} {N : Nat} (hN : N ≤ 400) (hg : M0.2 t 17 = gu) (hto : M0.2 t 11 = to) (hgb : 0 ≤ gu ∧ gu ≤ 100) (htb : 0 ≤ to ∧ to ≤ 8) : ∀ (n k i : Nat) (x m : Int) (cs : List Int) (M : q_Mem), i + k = N → k < n → 0 ≤ x ∧ x < 2147483648 → 0 ≤ m ∧ m + (k : Int) ≤ 400 → to + (cs.length : Int) ≤ 16 → z_cl M0 x m cs M → ∃ Mc, z_cl M0 (s_ch gu to k x m cs).1 (s_ch gu to k x m cs).2.1 (s_ch gu to k x m cs).2.2 Mc ∧ fX11_chance_31 n (N : Int) bf (i : Int) M = (q_bd (fX5_markClouds Mc) fun _ M1 => some (((M1.2 10 3) - bf), M1)) := by
  intro n
  induction n with
  | zero => intro k i x m cs M _ h; omega
  | succ n ih =>
    intro k i x m cs M hk hn hx hm hcs hz
    rw [fX11_chance_31, n_w (by omega) (by omega), n_w (by omega) (by omega)]
    cases k with
    | zero =>
      rw [if_neg (by omega), s_ch]
      exact ⟨M, hz, rfl⟩
    | succ k =>
      rw [if_pos (by omega)]
      have e : (M.2 0 11).toNat = t := by rw [hz.2.2.2.2 0 11 (by omega), hT]; rfl
      obtain ⟨r, M', e1, hz'⟩ := c_wait ht hg hto hgb htb hx (by omega) hcs hz
      have hd := dr_b x
      have hl : to + ((if s_dr x / 64 % 100 < gu ∧ to + (cs.length : Int) < 16 then cs ++ [m] else cs).length : Int) ≤ 16 := by
        by_cases c : s_dr x / 64 % 100 < gu ∧ to + (cs.length : Int) < 16
        · rw [if_pos c]; simp; omega
        · rw [if_neg c]; exact hcs
      obtain ⟨Mc, i1, i2⟩ := ih k (i + 1) (s_dr x) (m + 1) _ M' (by omega) (by omega) hd (by omega) hl hz'
      rw [s_ch]
      refine ⟨Mc, i1, ?_⟩
      rw [q_le, e, e1, b_some, show (i : Int) + 1 = ((i + 1 : Nat) : Int) from by omega, i2]
def z_rl (M0 : q_Mem) (x m : Int) (cs : List Int) (M : q_Mem) : Prop := M.2 94 67 = x ∧ M.2 131 0 = m ∧ M.2 131 3 = (cs.length : Int) ∧ (∀ k : Nat, k < cs.length → M.2 131 (4 + k) = cs.getD k 0) ∧ ∀ a j, ¬ ((a = 131 ∧ (j = 0 ∨ (3 ≤ j ∧ j < 20))) ∨ (a = 94 ∧ j = 67)) → M.2 a j = M0.2 a j
theorem r_draw {M : q_Mem} {x : Int} (hx : 0 ≤ x ∧ x < 2147483648) (h : M.2 94 67 = x) : fX12_drawOf 100 M = some (s_dr x / 64 % 100, q_up M 94 67 (s_dr x)) := by
  have hd := dr_b x
  have ed : q_lrem (1103515245 * x + 12345) 2147483648 = s_dr x := by
    unfold s_dr
    rw [n_lrem (by omega) (by omega) (by decide) (by decide), n_tm (by omega)]
  unfold fX12_drawOf
  rw [h, ed]
  generalize hgd : s_dr x = y at hd ⊢
  rw [q_le]
  have e12 : (q_up M 94 67 y).2 94 67 = y := by rw [up_rd, if_pos ⟨rfl, rfl⟩]
  rw [e12, if_neg (by decide), show q_w 100 = 100 from rfl, n_ldiv (by omega) (by omega) (by decide) (by decide), n_td (by omega), n_lrem (by omega) (by omega) (by decide) (by decide), n_tm (by omega)]
theorem r_ch47 {M0 Md : q_Mem} {to : Int} {K : Int → Int → Int → q_Mem → Option (Int × q_Mem)} {N b i y m f : Int} {cs : List Int} {Q : Int → q_Mem → Prop} (htb : 0 ≤ to ∧ to ≤ 8) (hf : f = 0 ∨ f = 1) (hcs : to + (cs.length : Int) ≤ 16) (hto : Md.2 123 5 = to) (z1 : Md.2 94 67 = y) (z2 : Md.2 131 0 = m) (z3 : Md.2 131 3 = (cs.length : Int)) (z4 : ∀ k : Nat, k < cs.length → Md.2 131 (4 + k) = cs.getD k 0) (z5 : ∀ a j, ¬ ((a = 131 ∧ (j = 0 ∨ (3 ≤ j ∧ j < 20))) ∨ (a = 94 ∧ j = 67)) → Md.2 a j = M0.2 a j)
    (hK : ∀ M2, z_rl M0 y (m + 1) (if f = 1 ∧ to + (cs.length : Int) < 16 then cs ++ [m] else cs) M2 → q_P (K N (if f = 1 ∧ to + (cs.length : Int) < 16 then b + 1 else b) (i + 1) M2) Q) : q_P (fX12_chance_47 K N b i f Md) Q := by
  have fin : ∀ (cs' : List Int) (b' : Int) (M2 : q_Mem), (∀ M3, z_rl M0 y (m + 1) cs' M3 → q_P (K N b' (i + 1) M3) Q) → M2.2 94 67 = y → M2.2 131 0 = m → M2.2 131 3 = (cs'.length : Int) → (∀ k : Nat, k < cs'.length → M2.2 131 (4 + k) = cs'.getD k 0) → cs'.length ≤ 16 → (∀ a j, ¬ ((a = 131 ∧ (j = 0 ∨ (3 ≤ j ∧ j < 20))) ∨ (a = 94 ∧ j = 67)) → M2.2 a j = M0.2 a j) → q_P (fX12_chance_104 K N b' i M2) Q := by
    intro cs' b' M2 h0 h1 h2 h3 h4 h6 h5
    unfold fX12_chance_104
    rw [b_ld (by decide) (by decide) (by decide), Option.bind_some, show (0 : Int).toNat = 0 from rfl, h2, b_sto (by decide) (by decide) (by decide), Option.bind_some, show (0 : Int).toNat = 0 from rfl]
    refine h0 _ ⟨?_, ?_, ?_, ?_, ?_⟩
    · rw [up_ne (by omega), h1]
    · rw [up_rd, if_pos ⟨rfl, rfl⟩]
    · rw [up_ne (by omega), h3]
    · intro k hk
      rw [up_ne (by omega)]
      exact h4 k hk
    · intro a j ha
      rw [up_ne (by omega)]
      exact h5 a j ha
  unfold fX12_chance_47
  rcases hf with rfl | rfl
  · rw [if_neg (by omega), if_neg (by omega)] at hK
    rw [if_pos (by decide)]
    exact fin cs b Md hK z1 z2 z3 z4 (by omega) z5
  · rw [if_neg (by decide), b_ld (by decide) (by decide) (by decide), Option.bind_some, show (5 : Int).toNat = 5 from rfl, hto, b_ld (by decide) (by decide) (by decide), Option.bind_some, show (3 : Int).toNat = 3 from rfl, z3, n_w (by omega) (by omega), show q_w 16 = 16 from rfl]
    by_cases c2 : to + (cs.length : Int) < 16
    · rw [if_pos ⟨rfl, c2⟩, if_pos ⟨rfl, c2⟩] at hK
      rw [if_pos c2, Option.bind_some, b_ld (by decide) (by decide) (by decide), Option.bind_some, show (0 : Int).toNat = 0 from rfl, z2, b_sto (by omega) (by omega) (by decide), Option.bind_some, show ((4 : Int) + (cs.length : Int)).toNat = 4 + cs.length from by omega, b_ld (by decide) (by decide) (by decide), Option.bind_some, show (3 : Int).toNat = 3 from rfl, up_ne (by omega), z3, b_sto (by decide) (by decide) (by decide), Option.bind_some, show (3 : Int).toNat = 3 from rfl]
      refine fin (cs ++ [m]) (b + 1) _ hK ?_ ?_ ?_ ?_ (by simp; omega) ?_
      · rw [up_ne (by omega), up_ne (by omega), z1]
      · rw [up_ne (by omega), up_ne (by omega), z2]
      · rw [up_rd, if_pos ⟨rfl, rfl⟩]; simp
      · intro k hk
        simp at hk
        rw [up_ne (by omega), up_rd, snoc_get]
        by_cases ck : k = cs.length
        · rw [if_pos ⟨rfl, by omega⟩, if_pos ck]
        · rw [if_neg (by omega), if_neg ck]
          exact z4 k (by omega)
      · intro a j ha
        rw [up_ne (by omega), up_ne (by omega)]
        exact z5 a j ha
    · rw [if_neg (fun h => c2 h.2), if_neg (fun h => c2 h.2)] at hK
      rw [if_neg c2]
      exact fin cs b Md hK z1 z2 z3 z4 (by omega) z5
theorem r_ch22 {M0 : q_Mem} {gu to : Int} {N : Nat} (hN : N ≤ 400) (hg : M0.2 122 5 = gu) (hto : M0.2 123 5 = to) (hgb : 0 ≤ gu ∧ gu ≤ 100) (htb : 0 ≤ to ∧ to ≤ 8) : ∀ (n k i : Nat) (x m b : Int) (cs : List Int) (M : q_Mem), i + k = N → k < n → 0 ≤ x ∧ x < 2147483648 → 0 ≤ m ∧ m + (k : Int) ≤ 400 → to + (cs.length : Int) ≤ 16 → z_rl M0 x m cs M → q_P (fX12_chance_22 n (N : Int) b (i : Int) M) (fun r M' => r = b + (((s_ch gu to k x m cs).2.2.length : Int) - (cs.length : Int)) ∧ z_rl M0 (s_ch gu to k x m cs).1 (s_ch gu to k x m cs).2.1 (s_ch gu to k x m cs).2.2 M') := by
  intro n
  induction n with
  | zero => intro k i x m b cs M _ h; omega
  | succ n ih =>
    intro k i x m b cs M hk hn hx hm hcs hz
    rw [fX12_chance_22, n_w (by omega) (by omega), n_w (by omega) (by omega)]
    cases k with
    | zero =>
      rw [if_neg (by omega), s_ch]
      exact w_some.mpr ⟨by simp, hz⟩
    | succ k =>
      obtain ⟨z1, z2, z3, z4, z5⟩ := hz
      have hd := dr_b x
      rw [if_pos (by omega), r_draw hx z1, b_some, b_ld (by decide) (by decide) (by decide), Option.bind_some, show (5 : Int).toNat = 5 from rfl, s_ch]
      generalize hgd : s_dr x = y at hd ⊢
      have e122 : (q_up M 94 67 y).2 122 5 = gu := by rw [up_ne (by omega), z5 122 5 (by omega), hg]
      have f123 : (q_up M 94 67 y).2 123 5 = to := by rw [up_ne (by omega), z5 123 5 (by omega), hto]
      rw [e122, n_w (by omega) (by omega), n_w (by omega) (by omega)]
      have f67 : (q_up M 94 67 y).2 94 67 = y := by rw [up_rd, if_pos ⟨rfl, rfl⟩]
      have f131 : ∀ k, (q_up M 94 67 y).2 131 k = M.2 131 k := fun k => up_ne (by omega)
      have f5 : ∀ a j, ¬ ((a = 131 ∧ (j = 0 ∨ (3 ≤ j ∧ j < 20))) ∨ (a = 94 ∧ j = 67)) → (q_up M 94 67 y).2 a j = M0.2 a j := fun a j ha => by rw [up_ne (by omega)]; exact z5 a j ha
      generalize q_up M 94 67 y = Md at e122 f67 f131 f5 f123 ⊢
      have e : (i : Int) + 1 = ((i + 1 : Nat) : Int) := by omega
      have key : ∀ f : Int, (f = 0 ∨ f = 1) → (f = 1 ↔ y / 64 % 100 < gu) → q_P (fX12_chance_47 (fX12_chance_22 n) (N : Int) b (i : Int) f Md) (fun r M' => r = b + (((s_ch gu to k y (m + 1) (if y / 64 % 100 < gu ∧ to + (cs.length : Int) < 16 then cs ++ [m] else cs)).2.2.length : Int) - (cs.length : Int)) ∧ z_rl M0 (s_ch gu to k y (m + 1) (if y / 64 % 100 < gu ∧ to + (cs.length : Int) < 16 then cs ++ [m] else cs)).1 (s_ch gu to k y (m + 1) (if y / 64 % 100 < gu ∧ to + (cs.length : Int) < 16 then cs ++ [m] else cs)).2.1 (s_ch gu to k y (m + 1) (if y / 64 % 100 < gu ∧ to + (cs.length : Int) < 16 then cs ++ [m] else cs)).2.2 M') := by
        intro f hf hfi
        refine r_ch47 (M0 := M0) (to := to) (y := y) (m := m) (cs := cs) htb hf hcs f123 f67 (by rw [f131, z2]) (by rw [f131, z3]) (fun k hk => by rw [f131]; exact z4 k hk) f5 ?_
        intro M2 hz2
        rw [e]
        by_cases c : y / 64 % 100 < gu ∧ to + (cs.length : Int) < 16
        · have c' : f = 1 ∧ to + (cs.length : Int) < 16 := ⟨hfi.mpr c.1, c.2⟩
          rw [if_pos c'] at hz2 ⊢
          rw [if_pos c]
          refine w_mono (ih k (i + 1) y (m + 1) (b + 1) (cs ++ [m]) M2 (by omega) (by omega) hd (by omega) (by simp; omega) hz2) ?_
          rintro r M' ⟨rfl, hz'⟩
          refine ⟨?_, hz'⟩
          rw [List.length_append, List.length_singleton]
          omega
        · have c' : ¬ (f = 1 ∧ to + (cs.length : Int) < 16) := fun h => c ⟨hfi.mp h.1, h.2⟩
          rw [if_neg c'] at hz2 ⊢
          rw [if_neg c]
          exact ih k (i + 1) y (m + 1) b cs M2 (by omega) (by omega) hd (by omega) hcs hz2
      by_cases c1 : y / 64 % 100 < gu
      · rw [if_pos c1]
        exact key 1 (Or.inr rfl) ⟨fun _ => c1, fun _ => rfl⟩
      · rw [if_neg c1]
        exact key 0 (Or.inl rfl) ⟨fun h => absurd h (by decide), fun h => absurd h c1⟩
theorem mk_cloud {Mc M2 : q_Mem} {t : Nat} (h1 : Mc.2 t 11 = M2.2 123 5) (h2 : ∀ k : Nat, (k : Int) < Mc.2 t 11 → Mc.2 (t + 9) k = M2.2 127 (16 + 2 * k) ∧ Mc.2 (t + 10) k = M2.2 127 (17 + 2 * k)) (h3 : Mc.2 10 3 = M2.2 131 3) (h4 : ∀ k : Nat, (k : Int) < M2.2 131 3 → Mc.2 11 k = M2.2 131 (4 + k)) (m : Int) : s_mk Mc t m = s_cloud M2.2 m := by
  unfold s_mk s_cloud
  rw [h3]
  congr 1
  · rw [← h1]
    apply any_cg
    intro k hk
    rw [List.mem_range] at hk
    obtain ⟨x1, x2⟩ := h2 k (by omega)
    rw [x1, x2]
  · apply any_cg
    intro k hk
    rw [List.mem_range] at hk
    rw [h4 k (by omega)]
theorem j_cl {t : Nat} {M : q_Mem} {L A : q_G} (h : q_J t M L A) : ∀ k : Nat, (k : Int) < A 123 5 → (M.2 (t + 9) k = A 127 (16 + 2 * k) ∧ M.2 (t + 10) k = A 127 (17 + 2 * k)) ∧ 0 ≤ A 127 (16 + 2 * k) ∧ A 127 (16 + 2 * k) ≤ A 127 (17 + 2 * k) ∧ A 127 (17 + 2 * k) ≤ 400 := by
  intro k hk
  obtain ⟨ht, -, hT, -, hL⟩ := j_t h
  obtain ⟨-, -, -, -, -, -, -, -, -, -, -, rcl, -⟩ := h.2.2.1
  obtain ⟨-, -, -, -, -, -, -, wcl, -⟩ := h.2.2.2.1
  rw [hL 9 k (by decide), hL 10 k (by decide)]
  exact ⟨rcl k hk, wcl k hk⟩
theorem st_chance {M : q_Mem} (hS : q_St M) (x1 : Int) (h1 : q_R x1) : q_Step M (fX11_chance x1 M) (fun M1 => fX12_chance x1 M1) := by
  obtain ⟨t, L, A, hI⟩ := id hS
  have w := j_wf hI.1
  have db := j_db hI.1
  have jd := j_d hI.1
  have jf := j_f hI.1
  have jcl := j_cl hI.1
  obtain ⟨ht, -, hT, hT0, hL⟩ := j_t hI.1
  obtain ⟨-, -, -, -, -, -, -, -, wtoll, wgust⟩ := hI.1.2.2.2.1
  by_cases c : (1 ≤ x1 ∧ x1 ≤ 400) ∧ A 131 0 + x1 ≤ A 122 3
  · have rg := i_rg hI
    obtain ⟨i1, i2, i3, i4⟩ := i_self hI
    have sj := sj_self hI
    obtain ⟨⟨v1, v2, v3, v4, v5, v6⟩, s2, s3⟩ := id sj
    have m131 : ∀ k, M.2 131 k = A 131 k := fun k => hI.1.2.1 131 k rfl
    obtain ⟨N, rfl, hN⟩ := nat_of' (x := x1) (b := 400) ⟨by omega, by omega⟩
    obtain ⟨D, hD, hD2⟩ := nat_of' (x := A 131 3) (b := 16) ⟨by omega, by omega⟩
    obtain ⟨_, Ma, ea, hza⟩ := c_rem rg.1 rg.2.1
    have ma := rem_ma hza
    obtain ⟨cs, hcs⟩ : ∃ cs : List Int, cs = (List.range D).map (fun k => A 131 (4 + k)) := ⟨_, rfl⟩
    have hcl : cs.length = D := by rw [hcs]; simp
    have hcg : ∀ k, k < D → cs.getD k 0 = A 131 (4 + k) := by
      intro k hk
      rw [hcs, List.getD_eq_getElem?_getD, List.getElem?_map, List.getElem?_range hk]
      rfl
    obtain ⟨x, hx⟩ : ∃ x, x = M.2 94 67 := ⟨_, rfl⟩
    have hz0 : z_cl Ma x (A 131 0) cs Ma := by
      refine ⟨?_, ?_, ?_, ?_, fun _ _ _ => rfl⟩
      · rw [ma 10 12 (by omega) (by omega), i2.1, hx]
      · rw [ma 10 0 (by omega) (by omega), jd.1]
      · rw [ma 10 3 (by omega) (by omega), jd.2.2.2, hD, hcl]
      · intro k hk
        rw [hcl] at hk
        rw [ma 11 k (by omega) (by omega), hcg k hk, s2 k (by omega)]
    obtain ⟨e1, e2, ⟨ext, e3, e4⟩, e5⟩ := ch_x (A 122 5) (A 123 5) N x (A 131 0) cs
    have e2' := e2 (by rw [hx]; exact i2.2)
    have e5' := e5 (by rw [hcl]; omega)
    obtain ⟨Mc, hzc, ec⟩ := c_ch31 (M0 := Ma) ht (by rw [ma 0 11 (by omega) (by omega)]; exact hT0) (gu := A 122 5) (to := A 123 5) (bf := A 131 3) (N := N) (by omega) (by rw [ma t 17 (by omega) (by omega)]; exact jf.2.2.2.2.2) (by rw [ma t 11 (by omega) (by omega)]; exact jf.2.2.2.1) wgust w.2.2.2 q_FU N 0 x (A 131 0) cs Ma (by omega) (by unfold q_FU; omega) (by rw [hx]; exact i2.2) (by omega) (by rw [hcl]; omega) hz0
    generalize hgx : (s_ch (A 122 5) (A 123 5) N x (A 131 0) cs).1 = x' at e2' hzc
    generalize hgm : (s_ch (A 122 5) (A 123 5) N x (A 131 0) cs).2.1 = m' at e1 hzc
    generalize hgc : (s_ch (A 122 5) (A 123 5) N x (A 131 0) cs).2.2 = cs' at e3 e5' hzc
    obtain ⟨y1, y2, y3, y4, y5⟩ := hzc
    have hlen : cs'.length = D + ext.length := by rw [e3, List.length_append, hcl]
    have hpre : ∀ k, k < D → cs'.getD k 0 = A 131 (4 + k) := by
      intro k hk
      rw [e3, List.getD_eq_getElem?_getD, List.getElem?_append_left (by omega), ← List.getD_eq_getElem?_getD, hcg k hk]
    have hval : ∀ k, k < cs'.length → 0 ≤ cs'.getD k 0 ∧ cs'.getD k 0 ≤ 400 := by
      intro k hk
      by_cases ck : k < D
      · rw [hpre k ck]
        exact v5 k (by omega)
      · have hmem : cs'.getD k 0 ∈ ext := by
          rw [e3, List.getD_eq_getElem?_getD, List.getElem?_append_right (by omega), List.getElem?_eq_getElem (by omega)]
          exact List.getElem_mem _
        have := e4 _ hmem
        omega
    have yc : ∀ a j, ¬ ((a = 10 ∧ (j = 0 ∨ j = 3 ∨ j = 12 ∨ j = 10 ∨ j = 11)) ∨ a = 11 ∨ (16 ≤ a ∧ a ≤ 35)) → Mc.2 a j = M.2 a j := fun a j ha => by rw [y5 a j (by omega), ma a j (by omega) (by omega)]
    have ct : ∀ i k, i ≤ 14 → Mc.2 (t + i) k = M.2 (t + i) k := fun i k hi => yc _ k (by omega)
    have ct0 : Mc.2 t 11 = A 123 5 := by rw [yc t 11 (by omega)]; exact jf.2.2.2.1
    obtain ⟨r, M1, em, hm1, hm2⟩ := c_marks (M := Mc) ht (by rw [yc 87 0 (by omega)]; exact hT) (by rw [ct0]; exact w.2.2.2) (fun k hk => by rw [ct0] at hk; rw [ct 9 k (by decide), ct 10 k (by decide), (jcl k hk).1.1, (jcl k hk).1.2]; exact (jcl k hk).2) (by rw [y3]; omega) (fun k hk => by rw [y3] at hk; rw [y4 k (by omega)]; exact hval k (by omega))
    have eM1 : fX11_chance (N : Int) M = some ((cs'.length : Int) - A 131 3, M1) := by
      unfold fX11_chance
      rw [c_canWait hI.1 h1, b_some, f_ite, if_pos c, ea, b_some]
      rw [q_le, show (0 : Int) = ((0 : Nat) : Int) from rfl, ma 10 3 (by omega) (by omega), jd.2.2.2, ec, em, b_some, hm1 10 3 (by decide), y3]
    have n1 : ∀ a j, ¬ ((a = 10 ∧ (j = 0 ∨ j = 3 ∨ j = 12)) ∨ a = 11 ∨ a = 89) → M1.2 a j = Ma.2 a j := fun a j ha => by rw [hm1 a j (by omega), y5 a j (by omega)]
    have hK1 : q_K t M1 L A := k_lt (k_of hI.1) (fun a k ha => by rw [n1 a k (by omega), ma a k (by omega) (by omega)])
    have c1 : ∀ a j, 90 ≤ a → M1.2 a j = M.2 a j := fun a j ha => by rw [n1 a j (by omega), ma a j (by omega) (by omega)]
    obtain ⟨_, Mb, eb, hzb⟩ := r_keeps (M := M1) (by rw [c1 94 66 (by decide)]; exact rg.2.2.1) (by rw [c1 94 65 (by decide)]; exact rg.2.2.2)
    have b1 := keep_mb hzb
    have hb131 : ∀ k, Mb.2 131 k = A 131 k := fun k => by rw [b1 131 k (by decide) (by omega), c1 131 k (by decide), hI.1.2.1 131 k rfl]
    have hbA : ∀ a k, 95 ≤ a → a ≠ 139 → Mb.2 a k = M.2 a k := fun a k ha ha2 => by rw [b1 a k (by omega) (by omega), c1 a k (by omega)]
    have hr0 : z_rl Mb x (A 131 0) cs Mb := by
      refine ⟨?_, hb131 0, ?_, ?_, fun _ _ _ => rfl⟩
      · rw [b1 94 67 (by decide) (by decide), c1 94 67 (by decide), hx]
      · rw [hb131, hD, hcl]
      · intro k hk
        rw [hcl] at hk
        rw [hb131, hcg k hk]
    obtain ⟨r2, M2, er, hr2, hzr⟩ := r_ch22 (M0 := Mb) (gu := A 122 5) (to := A 123 5) (N := N) (by omega) (by rw [hbA 122 5 (by decide) (by decide), hI.1.2.1 122 5 rfl]) (by rw [hbA 123 5 (by decide) (by decide), hI.1.2.1 123 5 rfl]) wgust w.2.2.2 q_FU N 0 x (A 131 0) 0 cs Mb (by omega) (by unfold q_FU; omega) (by rw [hx]; exact i2.2) (by omega) (by rw [hcl]; omega) hr0
    rw [hgx, hgm, hgc] at hzr
    rw [hgc, hcl] at hr2
    obtain ⟨q1, q2, q3, q4, q5⟩ := hzr
    refine ⟨(cs'.length : Int) - A 131 3, M1, r2, M2, eM1, ?_, (by rw [show r2 = (cs'.length : Int) - A 131 3 from by omega]), ?_⟩
    · show fX12_chance _ _ = _
      unfold fX12_chance
      rw [r_canWait hK1 h1, b_some, f_ite, if_pos c, eb, b_some]
      exact er
    · have g131 : ∀ k, (k = 1 ∨ k = 2 ∨ 20 ≤ k) → M2.2 131 k = A 131 k := fun k hk => by rw [q5 131 k (by omega), hb131]
      refine u_act hI hza (fun a j ha => n1 a j (by omega)) (fun _ _ _ => rfl) hzb (fun a j ha => q5 a j (by omega)) ?_ ?_ ?_ ?_ ?_ ?_ ?_ ?_ ?_
      · intro k hk
        have hk' : k = 0 ∨ k = 1 ∨ k = 2 ∨ k = 3 := by omega
        rcases hk' with rfl | rfl | rfl | rfl
        · rw [hm1 10 0 (by decide), y2, q2]
        · rw [g131 1 (by decide), n1 10 1 (by omega), ma 10 1 (by omega) (by omega), jd.2.1]
        · rw [g131 2 (by decide), n1 10 2 (by omega), ma 10 2 (by omega) (by omega), jd.2.2.1]
        · rw [hm1 10 3 (by decide), y3, q3]
      · rw [g131 20 (by decide), n1 10 5 (by omega), ma 10 5 (by omega) (by omega), i3, m131]
      · rw [hm1 10 12 (by decide), y1, q1]
        exact ⟨rfl, e2'⟩
      · refine ⟨⟨by rw [q2]; omega, by rw [g131 1 (by decide)]; exact v2, by rw [g131 2 (by decide)]; exact v3, by rw [q3]; omega, ?_, by rw [g131 20 (by decide), g131 2 (by decide)]; exact v6⟩, ?_, ?_⟩
        · intro k hk
          rw [q3] at hk
          rw [q4 k (by omega)]
          exact hval k (by omega)
        · intro k hk
          rw [q3] at hk
          rw [q4 k (by omega), hm1 11 k (by decide), y4 k (by omega)]
        · intro k hk
          rw [g131 20 (by decide)] at hk
          rw [g131 _ (by omega), g131 _ (by omega), g131 _ (by omega), n1 12 k (by omega), ma 12 k (by omega) (by omega), n1 13 k (by omega), ma 13 k (by omega) (by omega), n1 14 k (by omega), ma 14 k (by omega) (by omega)]
          exact s3 k hk
      · rw [q3, m131]; omega
      · rw [g131 20 (by decide), m131]; exact Int.le_refl _
      · intro k hk
        rw [m131] at hk
        rw [hm1 11 k (by decide), y4 k (by omega), hpre k (by omega), s2 k (by omega)]
      · intro k _
        rw [n1 12 k (by omega), ma 12 k (by omega) (by omega), n1 13 k (by omega), ma 13 k (by omega) (by omega), n1 14 k (by omega), ma 14 k (by omega) (by omega)]
        exact ⟨rfl, rfl, rfl⟩
      · intro m hm
        have e123 : M2.2 123 5 = A 123 5 := by rw [q5 123 5 (by omega), hbA 123 5 (by decide) (by decide), hI.1.2.1 123 5 rfl]
        rw [hm2 m hm, mk_cloud (M2 := M2)]
        · rw [ct0, e123]
        · intro k hk
          rw [ct0] at hk
          rw [ct 9 k (by decide), ct 10 k (by decide), (jcl k hk).1.1, (jcl k hk).1.2, q5 127 _ (by omega), q5 127 _ (by omega), hbA 127 _ (by decide) (by decide), hbA 127 _ (by decide) (by decide), hI.1.2.1 127 _ (decide_eq_true (by omega)), hI.1.2.1 127 _ (decide_eq_true (by omega))]
          exact ⟨rfl, rfl⟩
        · rw [y3, q3]
        · intro k hk
          rw [q3] at hk
          rw [y4 k (by omega), q4 k (by omega)]
  · refine ⟨-1, q_up M 56 3 (M.2 56 3 + 1), -1, _, ?_, ?_, rfl, u_ref hS 3⟩
    · unfold fX11_chance
      rw [c_canWait hI.1 h1, b_some, f_ite, if_neg c, f_refuse (by decide) (by decide)]
      rfl
    · show fX12_chance _ _ = _
      have hK : q_K t (q_up M 56 3 (M.2 56 3 + 1)) L A := k_lt (k_of hI.1) (fun a k ha => up_ne (by omega))
      have eref : ∀ M, fX12_refuses 3 M = some (-1, q_up M 96 3 (M.2 96 3 + 1)) := fun M => f_refused (by decide) (by decide)
      unfold fX12_chance
      rw [r_canWait hK h1, b_some, f_ite, if_neg c, eref]
      rfl
