/-! texts: the class reads a statement -/
def z_rf (r : Nat) (M M' : q_Mem) : Prop := ∀ a k, a ≠ 5 → a ≠ 8 → ¬ (r ≤ a ∧ a ≤ r + 14) → M'.2 a k = M.2 a k
def z_K (b : Nat → Int) (N r : Nat) (M0 : q_Mem) (q : t_S × t_Fr) (M : q_Mem) : Prop := z_tp b N M ∧ z_S b N q.1 M ∧ z_rf r M0 M ∧ (u_ok q.1 = true → zc_F r q.2 M ∧ w_F q.2)
theorem S_fr {b : Nat → Int} {N : Nat} {σ : t_S} {M M' : q_Mem} (h : z_S b N σ M) (hk : ∀ k, M'.2 5 k = M.2 5 k) : z_S b N σ M' := by
  rcases σ with ⟨p, j⟩ | ⟨k', pl⟩
  · obtain ⟨⟨i1, i2, i3, i4, i5, i6⟩, i7⟩ := h
    exact ⟨⟨by rw [hk, i1], by rw [hk, i2], by rw [hk, i3], by rw [hk, i4], by rw [hk, i5], i6⟩, by rw [hk, i7]⟩
  · obtain ⟨i1, i2, i3, i4⟩ := h
    exact ⟨by rw [hk, i1], by rw [hk, i2], by rw [hk, i3], i4⟩
theorem sto_n {M : q_Mem} {a n k : Nat} {i v : Int} (hi : i = (k : Int)) (hk : k < n) (hn : n ≤ 2147483647) : q_sto M a n i v = some (q_up M a k v) := by
  rw [hi, b_sto (by omega) (by omega) hn, Int.toNat_natCast]
theorem c_wn {b : Nat → Int} {N : Nat} {σ : t_S} {M : q_Mem} {w lo hi i : Int} {a n K : Nat} {G : q_Mem → Option (Int × q_Mem)} {Q : Int → q_Mem → Prop} (hT : z_tp b N M) (hz : z_S b N σ M) (hw : 0 ≤ w ∧ w ≤ 1000) (hl : 0 ≤ lo ∧ lo ≤ 100000) (hh : 0 ≤ hi ∧ hi ≤ 100000) (hi' : i = (K : Int)) (hK : K < n) (hn : n ≤ 1600) (ha : 5 < a) (h : ∀ M3, z_tp b N M3 → z_S b N (s_wn b N w lo hi σ).2 M3 → M3.2 a K = (s_wn b N w lo hi σ).1 → (∀ a' k', a' ≠ 5 → ¬ (a' = a ∧ k' = K) → M3.2 a' k' = M.2 a' k') → q_P (G M3) Q) : q_P (q_bd (fX8_takeWord w M) fun _ M1 => q_bd (fX8_takeNumber lo hi M1) fun x M2 => (q_sto M2 a n i x).bind G) Q := by
  refine w_call (c_tW hT hz hw) ?_
  rintro _ M1 ⟨g1, g2⟩
  refine w_call (c_tN (z5_T hT g1) g2 hl hh) ?_
  rintro x M2 ⟨k1, k2, k3⟩
  rw [sto_n hi' hK (by omega), Option.bind_some]
  exact h _ (tp_fr (z5_T (z5_T hT g1) k1) (fun a' j ha' => up_ne (by omega))) (S_fr k2 (fun k => up_ne (by omega))) (by rw [up_rd, if_pos ⟨rfl, rfl⟩, k3]; rfl) (fun a' k' h1 h2 => by rw [up_ne h2, k1 a' k' h1, g1 a' k' h1])
theorem c_room {b : Nat → Int} {N : Nat} {σ : t_S} {M : q_Mem} (hz : z_S b N σ M) {k m : Nat} (hk : k ≤ 1600) (hm : m ≤ 100) : (k < m → fX3_hasRoom (k : Int) (m : Int) M = some (1, M)) ∧ (¬ k < m → ∃ M', fX3_hasRoom (k : Int) (m : Int) M = some (0, M') ∧ z_5 M M' ∧ z_S b N (u_fl 5 (u_p σ) σ) M') := by
  unfold fX3_hasRoom
  rw [n_w (by omega) (by omega), n_w (by omega) (by omega)]
  refine ⟨fun h => by rw [if_pos (by omega)], fun h => ?_⟩
  rw [if_neg (by omega)]
  obtain ⟨M', g1, g2, g3⟩ := c_fail hz (k := 5) (pl := M.2 5 1) (by omega)
  rw [g1, b_some]
  refine ⟨M', rfl, g2, ?_⟩
  rcases σ with ⟨p, j⟩ | ⟨k', pl⟩
  · rw [hz.1.1] at g3
    exact g3
  · exact g3
theorem K_flt {b : Nat → Int} {N r : Nat} {M0 M M' : q_Mem} {q : t_S × t_Fr} {τ : t_S} {F : t_Fr} (hr : r = 57 ∨ r = 72) (h : z_K b N r M0 q M) (hf : u_ok τ = false) (h5 : z_rf r M M') (hT : z_tp b N M') (hS : z_S b N τ M') : z_K b N r M0 (τ, F) M' := ⟨hT, hS, fun a k h1 h2 h3 => by rw [h5 a k h1 h2 h3, h.2.2.1 a k h1 h2 h3], fun g => (by rw [show u_ok τ = true from g] at hf; cases hf)⟩
theorem rf_5 {r : Nat} {M M' : q_Mem} (h : z_5 M M') : z_rf r M M' := fun a k h1 _ _ => h a k h1
theorem zS_fr {r : Nat} {S : List (List Int × Int × Int × Int × Int)} {M M' : q_Mem} (h : zc_S r S M) (h1 : M'.2 r 1 = M.2 r 1) (hk : ∀ a k, r + 1 ≤ a → a ≤ r + 5 → k < S.length → M'.2 a k = M.2 a k) : zc_S r S M' := by
  obtain ⟨a1, a2, a3, a4, a5, a6⟩ := h
  exact ⟨by rw [h1, a1], stk_fr (fun i hi => hk _ _ (by omega) (by omega) (by rw [List.length_map] at hi; exact hi)) a2, stk_fr (fun i hi => hk _ _ (by omega) (by omega) (by rw [List.length_map] at hi; exact hi)) a3, stk_fr (fun i hi => hk _ _ (by omega) (by omega) (by rw [List.length_map] at hi; exact hi)) a4, stk_fr (fun i hi => hk _ _ (by omega) (by omega) (by rw [List.length_map] at hi; exact hi)) a5, stk_fr (fun i hi => hk _ _ (by omega) (by omega) (by rw [List.length_map] at hi; exact hi)) a6⟩
theorem zC_fr {r : Nat} {S : List (List Int × Int × Int)} {M M' : q_Mem} (h : zc_C r S M) (h1 : M'.2 r 7 = M.2 r 7) (hk : ∀ a k, r + 6 ≤ a → a ≤ r + 8 → k < S.length → M'.2 a k = M.2 a k) : zc_C r S M' := by
  obtain ⟨a1, a2, a3, a4⟩ := h
  exact ⟨by rw [h1, a1], stk_fr (fun i hi => hk _ _ (by omega) (by omega) (by rw [List.length_map] at hi; exact hi)) a2, stk_fr (fun i hi => hk _ _ (by omega) (by omega) (by rw [List.length_map] at hi; exact hi)) a3, stk_fr (fun i hi => hk _ _ (by omega) (by omega) (by rw [List.length_map] at hi; exact hi)) a4⟩
theorem zL_fr {r : Nat} {S : List (Int × Int)} {M M' : q_Mem} (h : zc_L r S M) (h1 : M'.2 r 11 = M.2 r 11) (hk : ∀ a k, r + 9 ≤ a → a ≤ r + 10 → k < S.length → M'.2 a k = M.2 a k) : zc_L r S M' := by
  obtain ⟨a1, a2, a3⟩ := h
  exact ⟨by rw [h1, a1], stk_fr (fun i hi => hk _ _ (by omega) (by omega) (by rw [List.length_map] at hi; exact hi)) a2, stk_fr (fun i hi => hk _ _ (by omega) (by omega) (by rw [List.length_map] at hi; exact hi)) a3⟩
theorem zk_fr {a : Nat} {R : List Int} {M M' : q_Mem} (h : zc_k a R M) (h1 : M'.2 a 1 = M.2 a 1) (hk : ∀ k, k < R.length → M'.2 (a + 1) k = M.2 (a + 1) k) : zc_k a R M' := ⟨by rw [h1, h.1], stk_fr (fun i hi => hk _ (by rw [List.length_map] at hi; exact hi)) h.2⟩
theorem sk_pu {α : Type} {f g : Nat → Int} {S : List α} {s : α} {φ : α → Int} (h : z_stk f (S.map φ)) (h1 : g S.length = φ s) (h2 : ∀ i, i < S.length → g i = f i) : z_stk g ((s :: S).map φ) := by
  rw [List.map_cons]
  exact stk_pu h (by rw [List.length_map]; exact h1) (fun i hi => h2 i (by rw [List.length_map] at hi; exact hi))
theorem NBd {b : Nat → Int} {N : Nat} {σ : t_S} {lo hi : Int} (hl : 0 ≤ lo) (hh : 0 ≤ hi) : 0 ≤ (u_N b N lo hi σ).1 ∧ (u_N b N lo hi σ).1 ≤ hi := by
  by_cases c : u_ok (u_N b N lo hi σ).2 = true
  · have := N_hi c
    omega
  · refine ⟨N_v hl, ?_⟩
    rcases σ with ⟨p, j⟩ | ⟨k', pl⟩
    · rw [u_N] at c ⊢
      by_cases c1 : t_kind b N p j = 2
      · rw [if_pos c1] at c ⊢
        by_cases c2 : 4 < t_end b N p - p
        · rw [if_pos c2]; exact hh
        · rw [if_neg c2] at c ⊢
          by_cases c3 : t_val b N p < lo ∨ hi < t_val b N p
          · rw [if_pos c3]; exact hh
          · rw [if_neg c3] at c
            exact absurd rfl c
      · rw [if_neg c1]; exact hh
    · exact hh
theorem c_sta {b : Nat → Int} {N r : Nat} {M0 M : q_Mem} {σ : t_S} {F : t_Fr} (hr : r = 57 ∨ r = 72) (hok : u_ok σ = true) (h : z_K b N r M0 (σ, F) M) : q_P (fX3_readStall r M) (fun _ M' => z_K b N r M0 (s_sta b N F σ) M') := by
  have hK := h
  obtain ⟨hT, hz, hrf, hF⟩ := h
  obtain ⟨hF, hw⟩ : zc_F r F M ∧ w_F F := hF hok
  obtain ⟨f1, f2, f3, f4, f5, f6⟩ := hF
  have hlen := hw.1.1
  unfold fX3_readStall s_sta
  rw [q_le, f2.1, fq2 hr, fq3 hr, fq4 hr, fq5 hr, fq6 hr]
  have hroom := c_room (m := 6) hz (k := F.2.1.length) (by omega) (by omega)
  by_cases c : F.2.1.length < 6
  · rw [show (6 : Int) = ((6 : Nat) : Int) from rfl, hroom.1 c, b_some, show q_w 1 = 1 from rfl, if_neg (by decide), if_pos c]
    refine w_call (c_st hT hz) ?_
    rintro _ M2 ⟨s1, s2⟩
    have hT2 := z5_T hT s1
    have z2 : zc_S r F.2.1 M2 := zS_fr f2 (s1 _ _ (by omega)) (fun a k h1 h2 _ => s1 _ _ (by omega))
    have z3 : zc_C r F.2.2.1 M2 := zC_fr f3 (s1 _ _ (by omega)) (fun a k h1 h2 _ => s1 _ _ (by omega))
    refine w_call (c_tM (dup := f_dup F) (r := r) hT2 s2 (fun l hl => c_hn hr hw z2 z3 hl)) ?_
    rintro x M3 ⟨n1, n2, n3⟩
    have hT3 := z5_T hT2 n1
    rw [sto_n rfl c (by omega), Option.bind_some]
    have g4 : ∀ a k, a ≠ 5 → ¬ (a = r + 1 ∧ k = F.2.1.length) → (q_up M3 (r + 1) F.2.1.length x).2 a k = M.2 a k := fun a k h1 h2 => by rw [up_ne h2, n1 a k h1, s1 a k h1]
    have v4 : (q_up M3 (r + 1) F.2.1.length x).2 (r + 1) F.2.1.length = x := by rw [up_rd, if_pos ⟨rfl, rfl⟩]
    have hT4 : z_tp b N (q_up M3 (r + 1) F.2.1.length x) := tp_fr hT3 (fun a j ha => up_ne (by omega))
    have hz4 : z_S b N (u_M b N (f_dup F) (u_st b N σ)).2 (q_up M3 (r + 1) F.2.1.length x) := S_fr n2 (fun k => up_ne (by omega))
    generalize q_up M3 (r + 1) F.2.1.length x = M4 at g4 v4 hT4 hz4
    refine c_wn hT4 hz4 (by omega) (by omega) (by omega) rfl c (by omega) (by omega) ?_
    intro M7 hT7 hz7 v7 g7
    refine c_wn hT7 hz7 (by omega) (by omega) (by omega) rfl c (by omega) (by omega) ?_
    intro M10 hT10 hz10 v10 g10
    refine c_wn hT10 hz10 (by omega) (by omega) (by omega) rfl c (by omega) (by omega) ?_
    intro M13 hT13 hz13 v13 g13
    refine c_wn hT13 hz13 (by omega) (by omega) (by omega) rfl c (by omega) (by omega) ?_
    intro M16 hT16 hz16 v16 g16
    rw [q_le]
    have ga : ∀ a k, a ≠ 5 → ¬ (r + 1 ≤ a ∧ a ≤ r + 5 ∧ k = F.2.1.length) → M16.2 a k = M.2 a k := fun a k h1 h2 => by rw [g16 a k h1 (by omega), g13 a k h1 (by omega), g10 a k h1 (by omega), g7 a k h1 (by omega), g4 a k h1 (by omega)]
    have e1 : M16.2 r 1 = (F.2.1.length : Int) := by rw [ga r 1 (by omega) (by omega), f2.1]
    rw [e1]
    have gb : ∀ a k, a ≠ 5 → ¬ (r + 1 ≤ a ∧ a ≤ r + 5 ∧ k = F.2.1.length) → ¬ (a = r ∧ k = 1) → (q_up M16 r 1 ((F.2.1.length : Int) + 1)).2 a k = M.2 a k := fun a k h1 h2 h3 => by rw [up_ne h3, ga a k h1 h2]
    refine w_some.mpr ⟨tp_fr hT16 (fun a j ha => up_ne (by omega)), S_fr hz16 (fun k => up_ne (by omega)), fun a k h1 h2 h3 => by rw [gb a k h1 (by omega) (by omega), hrf a k h1 h2 h3], ?_⟩
    intro hok2
    have o4 := ok_N hok2
    have o3 := ok_W o4
    have o2 := ok_wn o3
    have o1 := ok_wn o2
    have o0 := ok_wn o1
    obtain ⟨n3, n4⟩ := n3 o0
    refine ⟨⟨⟨by rw [gb _ _ (by omega) (by omega) (by omega)]; exact f1.1, by rw [gb _ _ (by omega) (by omega) (by omega)]; exact f1.2.1, by rw [gb _ _ (by omega) (by omega) (by omega)]; exact f1.2.2⟩, ⟨?_, ?_, ?_, ?_, ?_, ?_⟩, zC_fr f3 (gb _ _ (by omega) (by omega) (by omega)) (fun a k h1 h2 _ => gb _ _ (by omega) (by omega) (by omega)), zL_fr f4 (gb _ _ (by omega) (by omega) (by omega)) (fun a k h1 h2 _ => gb _ _ (by omega) (by omega) (by omega)), zk_fr f5 (gb _ _ (by omega) (by omega) (by omega)) (fun k _ => gb _ _ (by omega) (by omega) (by omega)), zk_fr f6 (gb _ _ (by omega) (by omega) (by omega)) (fun k _ => gb _ _ (by omega) (by omega) (by omega))⟩, ?_⟩
    · rw [up_rd, if_pos ⟨rfl, rfl⟩, List.length_cons]; omega
    · exact sk_pu f2.2.1 (by rw [up_ne (by omega), g16 _ _ (by omega) (by omega), g13 _ _ (by omega) (by omega), g10 _ _ (by omega) (by omega), g7 _ _ (by omega) (by omega), v4, n3]) (fun i hi => gb _ _ (by omega) (by omega) (by omega))
    · exact sk_pu f2.2.2.1 (by rw [up_ne (by omega), g16 _ _ (by omega) (by omega), g13 _ _ (by omega) (by omega), g10 _ _ (by omega) (by omega), v7]) (fun i hi => gb _ _ (by omega) (by omega) (by omega))
    · exact sk_pu f2.2.2.2.1 (by rw [up_ne (by omega), g16 _ _ (by omega) (by omega), g13 _ _ (by omega) (by omega), v10]) (fun i hi => gb _ _ (by omega) (by omega) (by omega))
    · exact sk_pu f2.2.2.2.2.1 (by rw [up_ne (by omega), g16 _ _ (by omega) (by omega), v13]) (fun i hi => gb _ _ (by omega) (by omega) (by omega))
    · exact sk_pu f2.2.2.2.2.2 (by rw [up_ne (by omega), v16]) (fun i hi => gb _ _ (by omega) (by omega) (by omega))
    · obtain ⟨w1, w2, w3⟩ := hw
      refine ⟨⟨by show (_ :: F.2.1).length ≤ 6; rw [List.length_cons]; omega, w1.2⟩, ?_, w3⟩
      intro s hs
      rcases List.mem_cons.mp hs with e | e
      · rw [e]
        exact ⟨n4, NBd (by omega) (by omega), NBd (by omega) (by omega), NBd (by omega) (by omega), NBd (by omega) (by omega)⟩
      · exact w2 s e
  · obtain ⟨M', g1, g2, g3⟩ := hroom.2 c
    rw [show (6 : Int) = ((6 : Nat) : Int) from rfl, g1, b_some, show q_w 0 = 0 from rfl, if_pos rfl, if_neg c]
    exact w_some.mpr (K_flt hr hK ok_fl (rf_5 g2) (z5_T hT g2) g3)
theorem c_coi {b : Nat → Int} {N r : Nat} {M0 M : q_Mem} {σ : t_S} {F : t_Fr} (hr : r = 57 ∨ r = 72) (hok : u_ok σ = true) (h : z_K b N r M0 (σ, F) M) : q_P (fX3_readCoin r M) (fun _ M' => z_K b N r M0 (s_coi b N F σ) M') := by
  have hK := h
  obtain ⟨hT, hz, hrf, hF⟩ := h
  obtain ⟨hF, hw⟩ : zc_F r F M ∧ w_F F := hF hok
  obtain ⟨f1, f2, f3, f4, f5, f6⟩ := hF
  have hlen := hw.1.2.1
  unfold fX3_readCoin s_coi
  rw [q_le, f3.1, fq8 hr, fq9 hr, fq10 hr]
  have hroom := c_room (m := 8) hz (k := F.2.2.1.length) (by omega) (by omega)
  by_cases c : F.2.2.1.length < 8
  · rw [show (8 : Int) = ((8 : Nat) : Int) from rfl, hroom.1 c, b_some, show q_w 1 = 1 from rfl, if_neg (by decide), if_pos c]
    refine w_call (c_st hT hz) ?_
    rintro _ M2 ⟨s1, s2⟩
    have hT2 := z5_T hT s1
    have z2 : zc_S r F.2.1 M2 := zS_fr f2 (s1 _ _ (by omega)) (fun a k h1 h2 _ => s1 _ _ (by omega))
    have z3 : zc_C r F.2.2.1 M2 := zC_fr f3 (s1 _ _ (by omega)) (fun a k h1 h2 _ => s1 _ _ (by omega))
    refine w_call (c_tM (dup := f_dup F) (r := r) hT2 s2 (fun l hl => c_hn hr hw z2 z3 hl)) ?_
    rintro x M3 ⟨n1, n2, n3⟩
    have hT3 := z5_T hT2 n1
    rw [sto_n rfl c (by omega), Option.bind_some]
    have g4 : ∀ a k, a ≠ 5 → ¬ (a = r + 6 ∧ k = F.2.2.1.length) → (q_up M3 (r + 6) F.2.2.1.length x).2 a k = M.2 a k := fun a k h1 h2 => by rw [up_ne h2, n1 a k h1, s1 a k h1]
    have v4 : (q_up M3 (r + 6) F.2.2.1.length x).2 (r + 6) F.2.2.1.length = x := by rw [up_rd, if_pos ⟨rfl, rfl⟩]
    have hT4 : z_tp b N (q_up M3 (r + 6) F.2.2.1.length x) := tp_fr hT3 (fun a j ha => up_ne (by omega))
    have hz4 : z_S b N (u_M b N (f_dup F) (u_st b N σ)).2 (q_up M3 (r + 6) F.2.2.1.length x) := S_fr n2 (fun k => up_ne (by omega))
    generalize q_up M3 (r + 6) F.2.2.1.length x = M4 at g4 v4 hT4 hz4
    refine c_wn hT4 hz4 (w := 7) (lo := 0) (hi := 99) (by omega) (by omega) (by omega) rfl c (by omega) (by omega) ?_
    intro M7 hT7 hz7 v7 g7
    refine c_wn hT7 hz7 (w := 8) (lo := 0) (hi := 9) (by omega) (by omega) (by omega) rfl c (by omega) (by omega) ?_
    intro M10 hT10 hz10 v10 g10
    rw [q_le]
    have ga : ∀ a k, a ≠ 5 → ¬ (r + 6 ≤ a ∧ a ≤ r + 8 ∧ k = F.2.2.1.length) → M10.2 a k = M.2 a k := fun a k h1 h2 => by rw [g10 a k h1 (by omega), g7 a k h1 (by omega), g4 a k h1 (by omega)]
    have e1 : M10.2 r 7 = (F.2.2.1.length : Int) := by rw [ga r 7 (by omega) (by omega), f3.1]
    rw [e1]
    have gb : ∀ a k, a ≠ 5 → ¬ (r + 6 ≤ a ∧ a ≤ r + 8 ∧ k = F.2.2.1.length) → ¬ (a = r ∧ k = 7) → (q_up M10 r 7 ((F.2.2.1.length : Int) + 1)).2 a k = M.2 a k := fun a k h1 h2 h3 => by rw [up_ne h3, ga a k h1 h2]
    refine w_some.mpr ⟨tp_fr hT10 (fun a j ha => up_ne (by omega)), S_fr hz10 (fun k => up_ne (by omega)), fun a k h1 h2 h3 => by rw [gb a k h1 (by omega) (by omega), hrf a k h1 h2 h3], ?_⟩
    intro hok2
    have o2 := ok_W (ok_N hok2)
    have o0 := ok_wn o2
    obtain ⟨n3, n4⟩ := n3 o0
    refine ⟨⟨⟨by rw [gb _ _ (by omega) (by omega) (by omega)]; exact f1.1, by rw [gb _ _ (by omega) (by omega) (by omega)]; exact f1.2.1, by rw [gb _ _ (by omega) (by omega) (by omega)]; exact f1.2.2⟩, zS_fr f2 (gb _ _ (by omega) (by omega) (by omega)) (fun a k h1 h2 _ => gb _ _ (by omega) (by omega) (by omega)), ⟨?_, ?_, ?_, ?_⟩, zL_fr f4 (gb _ _ (by omega) (by omega) (by omega)) (fun a k h1 h2 _ => gb _ _ (by omega) (by omega) (by omega)), zk_fr f5 (gb _ _ (by omega) (by omega) (by omega)) (fun k _ => gb _ _ (by omega) (by omega) (by omega)), zk_fr f6 (gb _ _ (by omega) (by omega) (by omega)) (fun k _ => gb _ _ (by omega) (by omega) (by omega))⟩, ?_⟩
    · rw [up_rd, if_pos ⟨rfl, rfl⟩, List.length_cons]; omega
    · exact sk_pu f3.2.1 (by rw [up_ne (by omega), g10 _ _ (by omega) (by omega), g7 _ _ (by omega) (by omega), v4, n3]) (fun i hi => gb _ _ (by omega) (by omega) (by omega))
    · exact sk_pu f3.2.2.1 (by rw [up_ne (by omega), g10 _ _ (by omega) (by omega), v7]) (fun i hi => gb _ _ (by omega) (by omega) (by omega))
    · exact sk_pu f3.2.2.2 (by rw [up_ne (by omega), v10]; rfl) (fun i hi => gb _ _ (by omega) (by omega) (by omega))
    · obtain ⟨w1, w2, w3, w4⟩ := hw
      refine ⟨⟨w1.1, by show (_ :: F.2.2.1).length ≤ 8; rw [List.length_cons]; omega, w1.2.2⟩, w2, ?_, w4⟩
      intro s hs
      rcases List.mem_cons.mp hs with e | e
      · rw [e]
        exact ⟨n4, NBd (by omega) (by omega), NBd (by omega) (by omega)⟩
      · exact w3 s e
  · obtain ⟨M', g1, g2, g3⟩ := hroom.2 c
    rw [show (8 : Int) = ((8 : Nat) : Int) from rfl, g1, b_some, show q_w 0 = 0 from rfl, if_pos rfl, if_neg c]
    exact w_some.mpr (K_flt hr hK ok_fl (rf_5 g2) (z5_T hT g2) g3)
theorem c_clo {b : Nat → Int} {N r : Nat} {M0 M : q_Mem} {σ : t_S} {F : t_Fr} (hr : r = 57 ∨ r = 72) (hok : u_ok σ = true) (h : z_K b N r M0 (σ, F) M) : q_P (fX3_readCloud r M) (fun _ M' => z_K b N r M0 (s_clo b N F σ) M') := by
  have hK := h
  obtain ⟨hT, hz, hrf, hF⟩ := h
  obtain ⟨hF, hw⟩ : zc_F r F M ∧ w_F F := hF hok
  obtain ⟨f1, f2, f3, f4, f5, f6⟩ := hF
  have hlen := hw.1.2.2
  unfold fX3_readCloud s_clo
  rw [q_le, f4.1, fq12 hr, fq13 hr]
  have hroom := c_room (m := 8) hz (k := F.2.2.2.1.length) (by omega) (by omega)
  by_cases c : F.2.2.2.1.length < 8
  · rw [show (8 : Int) = ((8 : Nat) : Int) from rfl, hroom.1 c, b_some, show q_w 1 = 1 from rfl, if_neg (by decide), if_pos c]
    refine w_call (c_st hT hz) ?_
    rintro _ M2 ⟨s1, s2⟩
    have hT2 := z5_T hT s1
    refine w_call (c_tN hT2 s2 (lo := 0) (hi := 400) (by omega) (by omega)) ?_
    rintro x M3 ⟨n1, n2, n3⟩
    have hT3 := z5_T hT2 n1
    rw [sto_n rfl c (by omega), Option.bind_some]
    have g4 : ∀ a k, a ≠ 5 → ¬ (a = r + 9 ∧ k = F.2.2.2.1.length) → (q_up M3 (r + 9) F.2.2.2.1.length x).2 a k = M.2 a k := fun a k h1 h2 => by rw [up_ne h2, n1 a k h1, s1 a k h1]
    have v4 : (q_up M3 (r + 9) F.2.2.2.1.length x).2 (r + 9) F.2.2.2.1.length = x := by rw [up_rd, if_pos ⟨rfl, rfl⟩]
    have hT4 : z_tp b N (q_up M3 (r + 9) F.2.2.2.1.length x) := tp_fr hT3 (fun a j ha => up_ne (by omega))
    have hz4 : z_S b N (u_N b N 0 400 (u_st b N σ)).2 (q_up M3 (r + 9) F.2.2.2.1.length x) := S_fr n2 (fun k => up_ne (by omega))
    generalize q_up M3 (r + 9) F.2.2.2.1.length x = M4 at g4 v4 hT4 hz4
    rw [n3] at v4
    have hfr := NBd (b := b) (N := N) (σ := u_st b N σ) (lo := 0) (hi := 400) (by omega) (by omega)
    refine w_call (c_tW hT4 hz4 (by omega)) ?_
    rintro _ M5 ⟨t1, t2⟩
    rw [ld_n rfl c (by omega), Option.bind_some, t1 _ _ (by omega), v4]
    refine w_call (c_tN (z5_T hT4 t1) t2 (lo := (u_N b N 0 400 (u_st b N σ)).1) (hi := 400) (by omega) (by omega)) ?_
    rintro y M6 ⟨m1, m2, m3⟩
    rw [sto_n rfl c (by omega), Option.bind_some, q_le]
    have ga : ∀ a k, a ≠ 5 → ¬ (r + 9 ≤ a ∧ a ≤ r + 10 ∧ k = F.2.2.2.1.length) → (q_up M6 (r + 10) F.2.2.2.1.length y).2 a k = M.2 a k := fun a k h1 h2 => by rw [up_ne (by omega), m1 a k h1, t1 a k h1, g4 a k h1 (by omega)]
    have v9 : (q_up M6 (r + 10) F.2.2.2.1.length y).2 (r + 9) F.2.2.2.1.length = (u_N b N 0 400 (u_st b N σ)).1 := by rw [up_ne (by omega), m1 _ _ (by omega), t1 _ _ (by omega), v4]
    have v10 : (q_up M6 (r + 10) F.2.2.2.1.length y).2 (r + 10) F.2.2.2.1.length = y := by rw [up_rd, if_pos ⟨rfl, rfl⟩]
    have hT7 : z_tp b N (q_up M6 (r + 10) F.2.2.2.1.length y) := tp_fr (z5_T (z5_T hT4 t1) m1) (fun a j ha => up_ne (by omega))
    have hz7 := S_fr (M' := q_up M6 (r + 10) F.2.2.2.1.length y) m2 (fun k => up_ne (by omega))
    generalize q_up M6 (r + 10) F.2.2.2.1.length y = M7 at ga v9 v10 hT7 hz7
    have e1 : M7.2 r 11 = (F.2.2.2.1.length : Int) := by rw [ga r 11 (by omega) (by omega), f4.1]
    rw [e1]
    have gb : ∀ a k, a ≠ 5 → ¬ (r + 9 ≤ a ∧ a ≤ r + 10 ∧ k = F.2.2.2.1.length) → ¬ (a = r ∧ k = 11) → (q_up M7 r 11 ((F.2.2.2.1.length : Int) + 1)).2 a k = M.2 a k := fun a k h1 h2 h3 => by rw [up_ne h3, ga a k h1 h2]
    refine w_some.mpr ⟨tp_fr hT7 (fun a j ha => up_ne (by omega)), S_fr hz7 (fun k => up_ne (by omega)), fun a k h1 h2 h3 => by rw [gb a k h1 (by omega) (by omega), hrf a k h1 h2 h3], ?_⟩
    intro hok2
    have hN2 := N_hi hok2
    refine ⟨⟨⟨by rw [gb _ _ (by omega) (by omega) (by omega)]; exact f1.1, by rw [gb _ _ (by omega) (by omega) (by omega)]; exact f1.2.1, by rw [gb _ _ (by omega) (by omega) (by omega)]; exact f1.2.2⟩, zS_fr f2 (gb _ _ (by omega) (by omega) (by omega)) (fun a k h1 h2 _ => gb _ _ (by omega) (by omega) (by omega)), zC_fr f3 (gb _ _ (by omega) (by omega) (by omega)) (fun a k h1 h2 _ => gb _ _ (by omega) (by omega) (by omega)), ⟨?_, ?_, ?_⟩, zk_fr f5 (gb _ _ (by omega) (by omega) (by omega)) (fun k _ => gb _ _ (by omega) (by omega) (by omega)), zk_fr f6 (gb _ _ (by omega) (by omega) (by omega)) (fun k _ => gb _ _ (by omega) (by omega) (by omega))⟩, ?_⟩
    · rw [up_rd, if_pos ⟨rfl, rfl⟩, List.length_cons]; omega
    · exact sk_pu f4.2.1 (by rw [up_ne (by omega), v9]) (fun i hi => gb _ _ (by omega) (by omega) (by omega))
    · exact sk_pu f4.2.2 (by rw [up_ne (by omega), v10, m3]; rfl) (fun i hi => gb _ _ (by omega) (by omega) (by omega))
    · obtain ⟨w1, w2, w3, w4, w5⟩ := hw
      refine ⟨⟨w1.1, w1.2.1, by show (_ :: F.2.2.2.1).length ≤ 8; rw [List.length_cons]; omega⟩, w2, w3, ?_, w5⟩
      intro s hs
      rcases List.mem_cons.mp hs with e | e
      · rw [e]
        exact ⟨hfr.1, hN2.1, hN2.2⟩
      · exact w4 s e
  · obtain ⟨M', g1, g2, g3⟩ := hroom.2 c
    rw [show (8 : Int) = ((8 : Nat) : Int) from rfl, g1, b_some, show q_w 0 = 0 from rfl, if_pos rfl, if_neg c]
    exact w_some.mpr (K_flt hr hK ok_fl (rf_5 g2) (z5_T hT g2) g3)
