/-! texts: the class reads a fair -/
theorem sG_len {b : Nat → Int} {N w r : Nat} {M0 M : q_Mem} {σ : t_S} {o d : Nat} {R : List Int} (h : z_G b N w r M0 σ o d R M) (hok : u_ok σ = true) : M.2 r 1 = (R.length : Int) ∧ z_stk (M.2 (r + 1)) (R.map q_enc) ∧ R.length ≤ 1600 := by
  rcases σ with ⟨p, j⟩ | ⟨k', pl⟩
  · obtain ⟨g1, g2, g3⟩ := h.2.2.2.1 p j rfl
    have h1 := h.2.1.1.2.2.2.2.2
    have h2 := h.1.2.2.2
    exact ⟨g1, g2, by omega⟩
  · cases hok
theorem c_cod {b : Nat → Int} {N a w t : Nat} {M : q_Mem} {σ : t_S} {R0 : List Int} (ha : z_r a) (hw2 : w ≤ 2) (ht : t ≤ 5) (hT : z_tp b N M) (hz : z_S b N σ M) (hk : zc_k a R0 M) (hR : R0.length ≤ 1600) : q_P (q_bd (fX3_hasRoom (M.2 a 1) 1 M) fun x24 M15 => if q_w x24 = 0 then (some (0, M15)) else (q_bd (fX8_step M15) fun _ M16 => q_bd (fX4_begin a (w : Int) M16) fun _ M17 => q_bd (fG q_GD t M17) fun _ M18 => some (0, M18))) (fun _ M' => z_tp b N M' ∧ (∀ a' k', a' ≠ 5 → a' ≠ 8 → a' ≠ a → a' ≠ a + 1 → M'.2 a' k' = M.2 a' k') ∧ (R0 = [] → z_S b N (s_G b N w 60 t 0 (u_st b N σ, [])).1 M' ∧ (u_ok (s_G b N w 60 t 0 (u_st b N σ, [])).1 = true → zc_k a (s_G b N w 60 t 0 (u_st b N σ, [])).2 M' ∧ (s_G b N w 60 t 0 (u_st b N σ, [])).2.length ≤ 1600)) ∧ (¬ R0 = [] → z_S b N (u_fl 5 (u_p σ) σ) M')) := by
  have ha' := ha
  obtain ⟨a1, a2, a3, a4⟩ := ha
  have hroom := c_room (m := 1) hz (k := R0.length) hR (by omega)
  rw [hk.1, show (1 : Int) = ((1 : Nat) : Int) from rfl]
  by_cases c : R0 = []
  · rw [hroom.1 (by rw [c]; decide), b_some, show q_w 1 = 1 from rfl, if_neg (by decide)]
    refine w_call (c_st hT hz) ?_
    rintro _ M2 ⟨s1, s2⟩
    unfold fX4_begin
    have e81 : ((q_up M2 8 1 (a : Int)).2 8 1).toNat = a := by rw [up_rd, if_pos ⟨rfl, rfl⟩, Int.toNat_natCast]
    rw [q_le, q_le, e81, q_le, q_le, q_le, b_some]
    have hG : z_G b N w a (q_up (q_up (q_up (q_up M2 8 1 (a : Int)) a 1 0) 8 2 (w : Int)) 8 3 0) (u_st b N σ) 0 0 [] (q_up (q_up (q_up (q_up M2 8 1 (a : Int)) a 1 0) 8 2 (w : Int)) 8 3 0) := by
      refine ⟨tp_fr (z5_T hT s1) (fun a' j h' => by rw [up_ne (by omega), up_ne (by omega), up_ne (by omega), up_ne (by omega)]), S_fr s2 (fun k => by rw [up_ne (by omega), up_ne (by omega), up_ne (by omega), up_ne (by omega)]), ⟨by rw [up_ne (by omega), up_ne (by omega), up_ne (by omega), up_rd, if_pos ⟨rfl, rfl⟩], by rw [up_ne (by omega), up_rd, if_pos ⟨rfl, rfl⟩], by rw [up_rd, if_pos ⟨rfl, rfl⟩]; rfl⟩, ?_, fun _ _ _ _ _ _ => rfl⟩
      intro p j _
      exact ⟨by rw [up_ne (by omega), up_ne (by omega), up_rd, if_pos ⟨rfl, rfl⟩]; rfl, trivial, by rw [List.length_nil]; omega⟩
    have hfr : ∀ a' k', a' ≠ 5 → a' ≠ 8 → a' ≠ a → a' ≠ a + 1 → (q_up (q_up (q_up (q_up M2 8 1 (a : Int)) a 1 0) 8 2 (w : Int)) 8 3 0).2 a' k' = M.2 a' k' := fun a' k' h1 h2 h3 h4 => by rw [up_ne (by omega), up_ne (by omega), up_ne (by omega), up_ne (by omega), s1 a' k' h1]
    generalize q_up (q_up (q_up (q_up M2 8 1 (a : Int)) a 1 0) 8 2 (w : Int)) 8 3 0 = M4 at hG hfr
    have hD : h_D 0 t 60 (u_st b N σ) := ⟨by omega, by omega, fun _ => ⟨by omega, by omega⟩⟩
    have := c_G (M0 := M4) ha' hw2 60 t 0 0 (u_st b N σ) [] M4 (by omega) hD (by omega) hG
    refine w_call this ?_
    intro _ M5 h5
    refine w_some.mpr ⟨h5.1, fun a' k' h1 h2 h3 h4 => by rw [h5.2.2.2.2 a' k' h1 h2 h3 h4, hfr a' k' h1 h2 h3 h4], fun _ => ⟨h5.2.1, fun g => ?_⟩, fun g => absurd c g⟩
    obtain ⟨k1, k2, k3⟩ := sG_len h5 g
    exact ⟨⟨k1, k2⟩, k3⟩
  · have hl : ¬ R0.length < 1 := by
      intro g
      exact c (List.length_eq_zero_iff.mp (by omega))
    obtain ⟨M', g1, g2, g3⟩ := hroom.2 hl
    rw [g1, b_some, show q_w 0 = 0 from rfl, if_pos rfl]
    exact w_some.mpr ⟨z5_T hT g2, fun a' k' h1 _ _ _ => g2 a' k' h1, fun g => absurd g c, fun _ => g3⟩
theorem c_sha {b : Nat → Int} {N r : Nat} {M0 M : q_Mem} {σ : t_S} {F : t_Fr} (hr : r = 57 ∨ r = 72) (hok : u_ok σ = true) (h : z_K b N r M0 (σ, F) M) : q_P (q_bd (fX3_hasRoom (M.2 (q_fr r 14) 1) 1 M) fun x24 M15 => if q_w x24 = 0 then (some (0, M15)) else (q_bd (fX8_step M15) fun _ M16 => q_bd (fX4_begin (q_fr r 14) 0 M16) fun _ M17 => q_bd (fG q_GD 3 M17) fun _ M18 => some (0, M18))) (fun _ M' => z_K b N r M0 (s_sha b N F σ) M') := by
  obtain ⟨hT, hz, hrf, hF⟩ := h
  obtain ⟨hF, hw⟩ : zc_F r F M ∧ w_F F := hF hok
  obtain ⟨f1, f2, f3, f4, f5, f6⟩ := hF
  have hw' := hw
  obtain ⟨w1, w2, w3, w4, w5, w6, w7, w8, w9, w10⟩ := hw
  rw [fq14 hr]
  refine w_mono (c_cod (w := 0) (t := 3) ⟨by omega, by omega, by omega, fqa hr⟩ (by omega) (by omega) hT hz f5 w10.1) ?_
  rintro _ M' ⟨k1, k2, k3, k4⟩
  unfold s_sha
  by_cases c : F.2.2.2.2.1 = []
  · rw [if_pos c]
    obtain ⟨k5, k6⟩ := k3 c
    refine ⟨k1, k5, fun a k h1 h2 h3 => by rw [k2 a k h1 h2 (by omega) (by omega), hrf a k h1 h2 h3], fun g => ?_⟩
    obtain ⟨k7, k8⟩ := k6 g
    refine ⟨⟨⟨by rw [k2 _ _ (by omega) (by omega) (by omega) (by omega)]; exact f1.1, by rw [k2 _ _ (by omega) (by omega) (by omega) (by omega)]; exact f1.2.1, by rw [k2 _ _ (by omega) (by omega) (by omega) (by omega)]; exact f1.2.2⟩, zS_fr f2 (k2 _ _ (by omega) (by omega) (by omega) (by omega)) (fun a k h1 h2 _ => k2 _ _ (by omega) (by omega) (by omega) (by omega)), zC_fr f3 (k2 _ _ (by omega) (by omega) (by omega) (by omega)) (fun a k h1 h2 _ => k2 _ _ (by omega) (by omega) (by omega) (by omega)), zL_fr f4 (k2 _ _ (by omega) (by omega) (by omega) (by omega)) (fun a k h1 h2 _ => k2 _ _ (by omega) (by omega) (by omega) (by omega)), k7, zk_fr f6 (k2 _ _ (by omega) (by omega) (by omega) (by omega)) (fun k _ => k2 _ _ (by omega) (by omega) (by omega) (by omega))⟩, w1, w2, w3, w4, Or.inr ?_, w6, w7, w8, w9, k8, w10.2⟩
    exact tc_G (by omega) 60 3 0 (u_st b N σ) [] [] (by omega) ⟨by omega, by omega, fun _ => ⟨by omega, by omega⟩⟩ g rfl (by simp)
  · rw [if_neg c]
    exact ⟨k1, k4 c, fun a k h1 h2 h3 => by rw [k2 a k h1 h2 (by omega) (by omega), hrf a k h1 h2 h3], fun g => (by rw [ok_fl] at g; cases g)⟩
theorem c_rfs {b : Nat → Int} {N r : Nat} {M0 M : q_Mem} {σ : t_S} {F : t_Fr} (hr : r = 57 ∨ r = 72) (hok : u_ok σ = true) (h : z_K b N r M0 (σ, F) M) : q_P (q_bd (fX3_hasRoom (M.2 (q_fr r 15) 1) 1 M) fun x24 M15 => if q_w x24 = 0 then (some (0, M15)) else (q_bd (fX8_step M15) fun _ M16 => q_bd (fX4_begin (q_fr r 15) 1 M16) fun _ M17 => q_bd (fG q_GD 0 M17) fun _ M18 => some (0, M18))) (fun _ M' => z_K b N r M0 (s_ref b N F σ) M') := by
  obtain ⟨hT, hz, hrf, hF⟩ := h
  obtain ⟨hF, hw⟩ : zc_F r F M ∧ w_F F := hF hok
  obtain ⟨f1, f2, f3, f4, f5, f6⟩ := hF
  obtain ⟨w1, w2, w3, w4, w5, w6, w7, w8, w9, w10⟩ := hw
  rw [fq15 hr]
  refine w_mono (c_cod (w := 1) (t := 0) ⟨by omega, by omega, by omega, fqb hr⟩ (by omega) (by omega) hT hz f6 w10.2) ?_
  rintro _ M' ⟨k1, k2, k3, k4⟩
  unfold s_ref
  by_cases c : F.2.2.2.2.2 = []
  · rw [if_pos c]
    obtain ⟨k5, k6⟩ := k3 c
    refine ⟨k1, k5, fun a k h1 h2 h3 => by rw [k2 a k h1 h2 (by omega) (by omega), hrf a k h1 h2 h3], fun g => ?_⟩
    obtain ⟨k7, k8⟩ := k6 g
    refine ⟨⟨⟨by rw [k2 _ _ (by omega) (by omega) (by omega) (by omega)]; exact f1.1, by rw [k2 _ _ (by omega) (by omega) (by omega) (by omega)]; exact f1.2.1, by rw [k2 _ _ (by omega) (by omega) (by omega) (by omega)]; exact f1.2.2⟩, zS_fr f2 (k2 _ _ (by omega) (by omega) (by omega) (by omega)) (fun a k h1 h2 _ => k2 _ _ (by omega) (by omega) (by omega) (by omega)), zC_fr f3 (k2 _ _ (by omega) (by omega) (by omega) (by omega)) (fun a k h1 h2 _ => k2 _ _ (by omega) (by omega) (by omega) (by omega)), zL_fr f4 (k2 _ _ (by omega) (by omega) (by omega) (by omega)) (fun a k h1 h2 _ => k2 _ _ (by omega) (by omega) (by omega) (by omega)), zk_fr f5 (k2 _ _ (by omega) (by omega) (by omega) (by omega)) (fun k _ => k2 _ _ (by omega) (by omega) (by omega) (by omega)), k7⟩, w1, w2, w3, w4, w5, Or.inr ?_, w7, w8, w9, w10.1, k8⟩
    exact tc_G (by omega) 60 0 0 (u_st b N σ) [] [] (by omega) ⟨by omega, by omega, fun _ => ⟨by omega, by omega⟩⟩ g rfl (by simp)
  · rw [if_neg c]
    exact ⟨k1, k4 c, fun a k h1 h2 h3 => by rw [k2 a k h1 h2 (by omega) (by omega), hrf a k h1 h2 h3], fun g => (by rw [ok_fl] at g; cases g)⟩
theorem c_bri {b : Nat → Int} {N r : Nat} {M0 M : q_Mem} {σ : t_S} {F : t_Fr} (hr : r = 57 ∨ r = 72) (hok : u_ok σ = true) (h : z_K b N r M0 (σ, F) M) : q_P (q_bd (fX8_step M) fun _ M23 => q_bd (fX8_takeNumber 0 9999 M23) fun x26 M24 => q_let (q_up M24 r 16 x26) fun M25 => some (0, M25)) (fun _ M' => z_K b N r M0 (s_brg b N F σ) M') := by
  obtain ⟨hT, hz, hrf, hF⟩ := h
  obtain ⟨hF, hw⟩ : zc_F r F M ∧ w_F F := hF hok
  obtain ⟨f1, f2, f3, f4, f5, f6⟩ := hF
  obtain ⟨w1, w2, w3, w4, w5, w6, w7, w8, w9, w10⟩ := hw
  refine w_call (c_st hT hz) ?_
  rintro _ M2 ⟨s1, s2⟩
  refine w_call (c_tN (z5_T hT s1) s2 (lo := 0) (hi := 9999) (by omega) (by omega)) ?_
  rintro x M3 ⟨n1, n2, n3⟩
  rw [q_le]
  have gb : ∀ a k, a ≠ 5 → ¬ (a = r ∧ k = 16) → (q_up M3 r 16 x).2 a k = M.2 a k := fun a k h1 h2 => by rw [up_ne h2, n1 a k h1, s1 a k h1]
  refine w_some.mpr ⟨tp_fr (z5_T (z5_T hT s1) n1) (fun a j ha => up_ne (by omega)), S_fr n2 (fun k => up_ne (by omega)), fun a k h1 h2 h3 => by rw [gb a k h1 (by omega), hrf a k h1 h2 h3], fun g => ⟨⟨⟨by rw [gb _ _ (by omega) (by omega)]; exact f1.1, by rw [up_rd, if_pos ⟨rfl, rfl⟩, n3]; rfl, by rw [gb _ _ (by omega) (by omega)]; exact f1.2.2⟩, zS_fr f2 (gb _ _ (by omega) (by omega)) (fun a k h1 h2 _ => gb _ _ (by omega) (by omega)), zC_fr f3 (gb _ _ (by omega) (by omega)) (fun a k h1 h2 _ => gb _ _ (by omega) (by omega)), zL_fr f4 (gb _ _ (by omega) (by omega)) (fun a k h1 h2 _ => gb _ _ (by omega) (by omega)), zk_fr f5 (gb _ _ (by omega) (by omega)) (fun k _ => gb _ _ (by omega) (by omega)), zk_fr f6 (gb _ _ (by omega) (by omega)) (fun k _ => gb _ _ (by omega) (by omega))⟩, w1, w2, w3, w4, w5, w6, NBd (by omega) (by omega), w8, w9, w10⟩⟩
theorem c_gus {b : Nat → Int} {N r : Nat} {M0 M : q_Mem} {σ : t_S} {F : t_Fr} (hr : r = 57 ∨ r = 72) (hok : u_ok σ = true) (h : z_K b N r M0 (σ, F) M) : q_P (q_bd (fX8_step M) fun _ M23 => q_bd (fX8_takeNumber 0 100 M23) fun x26 M24 => q_let (q_up M24 r 17 x26) fun M25 => some (0, M25)) (fun _ M' => z_K b N r M0 (s_gus b N F σ) M') := by
  obtain ⟨hT, hz, hrf, hF⟩ := h
  obtain ⟨hF, hw⟩ : zc_F r F M ∧ w_F F := hF hok
  obtain ⟨f1, f2, f3, f4, f5, f6⟩ := hF
  obtain ⟨w1, w2, w3, w4, w5, w6, w7, w8, w9, w10⟩ := hw
  refine w_call (c_st hT hz) ?_
  rintro _ M2 ⟨s1, s2⟩
  refine w_call (c_tN (z5_T hT s1) s2 (lo := 0) (hi := 100) (by omega) (by omega)) ?_
  rintro x M3 ⟨n1, n2, n3⟩
  rw [q_le]
  have gb : ∀ a k, a ≠ 5 → ¬ (a = r ∧ k = 17) → (q_up M3 r 17 x).2 a k = M.2 a k := fun a k h1 h2 => by rw [up_ne h2, n1 a k h1, s1 a k h1]
  refine w_some.mpr ⟨tp_fr (z5_T (z5_T hT s1) n1) (fun a j ha => up_ne (by omega)), S_fr n2 (fun k => up_ne (by omega)), fun a k h1 h2 h3 => by rw [gb a k h1 (by omega), hrf a k h1 h2 h3], fun g => ⟨⟨⟨by rw [gb _ _ (by omega) (by omega)]; exact f1.1, by rw [gb _ _ (by omega) (by omega)]; exact f1.2.1, by rw [up_rd, if_pos ⟨rfl, rfl⟩, n3]; rfl⟩, zS_fr f2 (gb _ _ (by omega) (by omega)) (fun a k h1 h2 _ => gb _ _ (by omega) (by omega)), zC_fr f3 (gb _ _ (by omega) (by omega)) (fun a k h1 h2 _ => gb _ _ (by omega) (by omega)), zL_fr f4 (gb _ _ (by omega) (by omega)) (fun a k h1 h2 _ => gb _ _ (by omega) (by omega)), zk_fr f5 (gb _ _ (by omega) (by omega)) (fun k _ => gb _ _ (by omega) (by omega)), zk_fr f6 (gb _ _ (by omega) (by omega)) (fun k _ => gb _ _ (by omega) (by omega))⟩, w1, w2, w3, w4, w5, w6, w7, NBd (by omega) (by omega), w9, w10⟩⟩
theorem K_f1 {b : Nat → Int} {N r : Nat} {M0 M : q_Mem} {σ : t_S} {F F' : t_Fr} (hr : r = 57 ∨ r = 72) (h : z_K b N r M0 (σ, F) M) : q_P (q_bd (fX8_fail 1 (M.2 5 1) M) fun _ M1 => some (0, M1)) (fun _ M' => z_K b N r M0 (u_fl 1 (u_p σ) σ, F') M') := by
  obtain ⟨M', g0, g1, g2⟩ := c_f1 (σ := σ) h.2.1
  rw [g0, b_some]
  exact w_some.mpr (K_flt hr h ok_fl (rf_5 g1) (z5_T h.1 g1) g2)
theorem c_st0 {b : Nat → Int} {N r : Nat} {M0 M : q_Mem} {σ : t_S} {F : t_Fr} (hr : r = 57 ∨ r = 72) (hok : u_ok σ = true) (h : z_K b N r M0 (σ, F) M) : q_P (fX3_readStatement r 0 M) (fun _ M' => z_K b N r M0 (s_st0 b N F σ) M') := by
  unfold fX3_readStatement fX3_readStatement_23 s_st0
  have hT := h.1
  have hz : z_S b N σ M := h.2.1
  rcases σ with ⟨p, j⟩ | ⟨k', pl⟩
  · have hk := kd_b b N p j
    have bad : (∀ c : Int, c = 1 ∨ c = 6 ∨ c = 9 ∨ c = 11 ∨ c = 12 ∨ c = 13 ∨ c = 14 → ¬ u_isW b N c (.inl (p, j)) = true) → q_P (q_bd (fX8_fail 1 (M.2 5 1) M) fun _ M1 => some (0, M1)) (fun _ M' => z_K b N r M0 (if u_isW b N 1 (.inl (p, j)) = true then s_sta b N F (.inl (p, j)) else if u_isW b N 6 (.inl (p, j)) = true then s_coi b N F (.inl (p, j)) else if u_isW b N 9 (.inl (p, j)) = true then s_clo b N F (.inl (p, j)) else if u_isW b N 11 (.inl (p, j)) = true then s_sha b N F (.inl (p, j)) else if u_isW b N 12 (.inl (p, j)) = true then s_ref b N F (.inl (p, j)) else if u_isW b N 13 (.inl (p, j)) = true then s_brg b N F (.inl (p, j)) else if u_isW b N 14 (.inl (p, j)) = true then s_gus b N F (.inl (p, j)) else (u_fl 1 (u_p (.inl (p, j))) (.inl (p, j)), F)) M') := by
      intro hn
      rw [if_neg (hn 1 (by omega)), if_neg (hn 6 (by omega)), if_neg (hn 9 (by omega)), if_neg (hn 11 (by omega)), if_neg (hn 12 (by omega)), if_neg (hn 13 (by omega)), if_neg (hn 14 (by omega))]
      exact K_f1 hr h
    rw [hz.1.2.2.1, n_w (a := t_kind b N p j) (by omega) (by omega), show q_w 1 = 1 from rfl]
    by_cases c1 : t_kind b N p j = 1
    · have hW : ∀ c : Int, u_isW b N c (.inl (p, j)) = true ↔ t_val b N p = c := by
        intro c
        rw [u_isW, decide_eq_true c1, Bool.true_and, decide_eq_true_iff]
      have hvb := val_b hT p
      rw [if_pos c1, c_isW hT hz (by omega), b_some]
      by_cases c0 : u_isW b N 0 (.inl (p, j)) = true
      · rw [if_pos c0, show q_w 1 = 1 from rfl, show q_w 0 = 0 from rfl, if_neg (by decide)]
        exact bad (fun c hc g => by have h1 := (hW _).mp c0; have h2 := (hW _).mp g; omega)
      · rw [if_neg c0, if_pos rfl, q_le, hz.1.2.2.2.1, n_w (a := t_val b N p) (by omega) (by omega)]
        have v0 : ¬ t_val b N p = 0 := fun e => c0 ((hW 0).mpr e)
        rw [if_neg v0]
        by_cases v1 : t_val b N p = 1
        · rw [if_pos v1, if_pos ((hW 1).mpr v1)]
          exact w_call (c_sta hr hok h) (fun _ M4 h4 => w_some.mpr h4)
        rw [if_neg v1]
        by_cases v2 : t_val b N p = 2
        · rw [if_pos v2]
          exact bad (fun c hc g => by have h2 := (hW _).mp g; omega)
        rw [if_neg v2]
        by_cases v3 : t_val b N p = 3
        · rw [if_pos v3]
          exact bad (fun c hc g => by have h2 := (hW _).mp g; omega)
        rw [if_neg v3]
        by_cases v4 : t_val b N p = 4
        · rw [if_pos v4]
          exact bad (fun c hc g => by have h2 := (hW _).mp g; omega)
        rw [if_neg v4]
        by_cases v5 : t_val b N p = 5
        · rw [if_pos v5]
          exact bad (fun c hc g => by have h2 := (hW _).mp g; omega)
        rw [if_neg v5]
        by_cases v6 : t_val b N p = 6
        · rw [if_pos v6, if_neg (fun g => by have := (hW _).mp g; omega), if_pos ((hW 6).mpr v6)]
          exact w_call (c_coi hr hok h) (fun _ M4 h4 => w_some.mpr h4)
        rw [if_neg v6]
        by_cases v7 : t_val b N p = 7
        · rw [if_pos v7]
          exact bad (fun c hc g => by have h2 := (hW _).mp g; omega)
        rw [if_neg v7]
        by_cases v8 : t_val b N p = 8
        · rw [if_pos v8]
          exact bad (fun c hc g => by have h2 := (hW _).mp g; omega)
        rw [if_neg v8]
        by_cases v9 : t_val b N p = 9
        · rw [if_pos v9, if_neg (fun g => by have := (hW _).mp g; omega), if_neg (fun g => by have := (hW _).mp g; omega), if_pos ((hW 9).mpr v9)]
          exact w_call (c_clo hr hok h) (fun _ M4 h4 => w_some.mpr h4)
        rw [if_neg v9]
        by_cases v10 : t_val b N p = 10
        · rw [if_pos v10]
          exact bad (fun c hc g => by have h2 := (hW _).mp g; omega)
        rw [if_neg v10]
        by_cases v11 : t_val b N p = 11
        · rw [if_pos v11, if_neg (fun g => by have := (hW _).mp g; omega), if_neg (fun g => by have := (hW _).mp g; omega), if_neg (fun g => by have := (hW _).mp g; omega), if_pos ((hW 11).mpr v11)]
          exact c_sha hr hok h
        rw [if_neg v11]
        by_cases v12 : t_val b N p = 12
        · rw [if_pos v12, if_neg (fun g => by have := (hW _).mp g; omega), if_neg (fun g => by have := (hW _).mp g; omega), if_neg (fun g => by have := (hW _).mp g; omega), if_neg (fun g => by have := (hW _).mp g; omega), if_pos ((hW 12).mpr v12)]
          exact c_rfs hr hok h
        rw [if_neg v12]
        by_cases v13 : t_val b N p = 13
        · rw [if_pos v13, if_neg (fun g => by have := (hW _).mp g; omega), if_neg (fun g => by have := (hW _).mp g; omega), if_neg (fun g => by have := (hW _).mp g; omega), if_neg (fun g => by have := (hW _).mp g; omega), if_neg (fun g => by have := (hW _).mp g; omega), if_pos ((hW 13).mpr v13)]
          exact c_bri hr hok h
        rw [if_neg v13]
        by_cases v14 : t_val b N p = 14
        · rw [if_pos v14, if_neg (fun g => by have := (hW _).mp g; omega), if_neg (fun g => by have := (hW _).mp g; omega), if_neg (fun g => by have := (hW _).mp g; omega), if_neg (fun g => by have := (hW _).mp g; omega), if_neg (fun g => by have := (hW _).mp g; omega), if_neg (fun g => by have := (hW _).mp g; omega), if_pos ((hW 14).mpr v14)]
          exact c_gus hr hok h
        rw [if_neg v14]
        exact bad (fun c hc g => by have h2 := (hW _).mp g; omega)
    · rw [if_neg c1]
      exact bad (fun c hc g => c1 (of_decide_eq_true (Bool.and_eq_true_iff.mp g).1))
  · cases hok
theorem K_Z {b : Nat → Int} {N r : Nat} {M0 M : q_Mem} {q : t_S × t_Fr} (hr : r = 57 ∨ r = 72) (h : z_K b N r M0 q M) : q_P (fX8_takeSign 59 M) (fun _ M' => z_K b N r M0 (u_Z b N 59 q.1, q.2) M') := by
  refine w_mono (c_tZ h.1 h.2.1 (by omega)) ?_
  rintro _ M' ⟨g1, g2⟩
  refine ⟨z5_T h.1 g1, g2, fun a k h1 h2 h3 => by rw [g1 a k h1, h.2.2.1 a k h1 h2 h3], fun g => ?_⟩
  obtain ⟨hF, hw⟩ := h.2.2.2 (ok_Z g).1
  obtain ⟨f1, f2, f3, f4, f5, f6⟩ := hF
  exact ⟨⟨⟨by rw [g1 _ _ (by omega)]; exact f1.1, by rw [g1 _ _ (by omega)]; exact f1.2.1, by rw [g1 _ _ (by omega)]; exact f1.2.2⟩, zS_fr f2 (g1 _ _ (by omega)) (fun a k h1 h2 _ => g1 _ _ (by omega)), zC_fr f3 (g1 _ _ (by omega)) (fun a k h1 h2 _ => g1 _ _ (by omega)), zL_fr f4 (g1 _ _ (by omega)) (fun a k h1 h2 _ => g1 _ _ (by omega)), zk_fr f5 (g1 _ _ (by omega)) (fun k _ => g1 _ _ (by omega)), zk_fr f6 (g1 _ _ (by omega)) (fun k _ => g1 _ _ (by omega))⟩, hw⟩
def u_E (b : Nat → Int) (N : Nat) : t_S → Bool
  | .inl (p, j) => decide (t_kind b N p j = 0)
  | .inr _ => false
def s_rd (b : Nat → Int) (N : Nat) : Nat → Nat → t_S × t_Fr → Nat × (t_S × t_Fr)
  | 0, c, r => (c, r)
  | n + 1, c, r => if u_ok r.1 = true ∧ u_E b N r.1 = false then (if c < 80 then s_rd b N n (c + 1) (s_stm b N r) else (c, (u_fl 5 (u_p r.1) r.1, r.2))) else (c, r)
theorem K_68 {b : Nat → Int} {N r c : Nat} {M0 M : q_Mem} {q : t_S × t_Fr} (hr : r = 57 ∨ r = 72) (h : z_K b N r M0 q M) (hc : 1 ≤ c ∧ c ≤ 80) : q_P (fX3_read_68 r (c : Int) M) (fun x M' => x = (c : Int) ∧ z_K b N r M0 (if u_ok q.1 = true ∧ u_E b N q.1 = false then (u_fl 5 (u_p q.1) q.1, q.2) else q) M') := by
  unfold fX3_read_68
  rw [n_w (by omega) (by omega), if_neg (by omega)]
  obtain ⟨σ, F⟩ := q
  rcases σ with ⟨p, j⟩ | ⟨k', pl⟩
  · have hk := kd_b b N p j
    have hz : z_S b N (.inl (p, j)) M := h.2.1
    rw [hz.1.2.2.1, n_w (by omega) (by omega)]
    by_cases c0 : t_kind b N p j = 0
    · rw [if_pos c0, if_neg (fun g => by have := g.2; rw [show u_E b N ((Sum.inl (p, j), F) : t_S × t_Fr).1 = decide (t_kind b N p j = 0) from rfl, decide_eq_true c0] at this; cases this)]
      exact w_some.mpr ⟨rfl, h⟩
    · rw [if_neg c0, if_pos ⟨rfl, decide_eq_false c0⟩]
      obtain ⟨M', g1, g2, g3⟩ := c_fail hz (k := 5) (pl := M.2 5 1) (by omega)
      rw [g1, b_some]
      rw [hz.1.1] at g3
      exact w_some.mpr ⟨rfl, K_flt hr h rfl (rf_5 g2) (z5_T h.1 g2) g3⟩
  · have hz : z_S b N (.inr (k', pl)) M := h.2.1
    rw [hz.2.2.1, show q_w 4 = 4 from rfl, if_neg (by decide), if_neg (fun g => by cases g.1)]
    obtain ⟨M', g1, g2, g3⟩ := c_fail hz (k := 5) (pl := M.2 5 1) (by omega)
    rw [g1, b_some]
    exact w_some.mpr ⟨rfl, K_flt hr h rfl (rf_5 g2) (z5_T h.1 g2) g3⟩
theorem c_rd {b : Nat → Int} {N r : Nat} {M0 : q_Mem} (hr : r = 57 ∨ r = 72) : ∀ (n f c : Nat) (q : t_S × t_Fr) (M : q_Mem), 1 ≤ c → c ≤ 80 → 81 ≤ c + n → n < f → z_K b N r M0 q M → q_P (fX3_read_13 r f (c : Int) M) (fun x M' => x = ((s_rd b N n c q).1 : Int) ∧ z_K b N r M0 (s_rd b N n c q).2 M') := by
  intro n
  induction n with
  | zero => intro f c q M h1 h2 h3; omega
  | succ n ih =>
    intro f c q M h1 h2 h3 hf h
    cases f with
    | zero => omega
    | succ f =>
      rw [fX3_read_13, n_w (by omega) (by omega), show q_w 80 = 80 from rfl, s_rd]
      have h68 := K_68 hr h ⟨h1, h2⟩
      by_cases cc : c < 80
      · rw [if_pos (by omega)]
        obtain ⟨σ, F⟩ := q
        rcases σ with ⟨p, j⟩ | ⟨k', pl⟩
        · have hk := kd_b b N p j
          have hz : z_S b N (.inl (p, j)) M := h.2.1
          rw [show M.2 5 5 = 0 from hz.1.2.2.2.2.1, show q_w 0 = 0 from rfl, if_pos rfl, hz.1.2.2.1, n_w (by omega) (by omega)]
          by_cases c0 : t_kind b N p j = 0
          · have hno : ¬ (u_ok ((Sum.inl (p, j), F) : t_S × t_Fr).1 = true ∧ u_E b N ((Sum.inl (p, j), F) : t_S × t_Fr).1 = false) := by
              intro g
              have := g.2
              rw [show u_E b N ((Sum.inl (p, j), F) : t_S × t_Fr).1 = decide (t_kind b N p j = 0) from rfl, decide_eq_true c0] at this
              cases this
            rw [if_neg hno] at h68
            rw [if_pos c0, if_neg hno]
            exact h68
          · rw [if_neg c0, if_neg (show ¬ (c : Int) = 0 by omega), if_pos (show u_ok ((Sum.inl (p, j), F) : t_S × t_Fr).1 = true ∧ u_E b N ((Sum.inl (p, j), F) : t_S × t_Fr).1 = false from ⟨rfl, decide_eq_false c0⟩), if_pos cc]
            unfold fX3_read_50
            refine w_call (c_st0 hr rfl h) ?_
            intro _ M1 h4
            refine w_call (K_Z hr h4) ?_
            intro _ M2 h5
            rw [show (c : Int) + 1 = ((c + 1 : Nat) : Int) from by omega]
            exact ih f (c + 1) _ M2 (by omega) (by omega) (by omega) (by omega) h5
        · have hz : z_S b N (.inr (k', pl)) M := h.2.1
          have h4 := hz.2.2.2
          rw [show M.2 5 5 = k' from hz.1, n_w (by omega) (by omega), if_neg (by omega)]
          rw [if_neg (fun g => by cases g.1)] at h68 ⊢
          exact h68
      · rw [if_neg (by omega)]
        by_cases hg : u_ok q.1 = true ∧ u_E b N q.1 = false
        · rw [if_pos hg] at h68
          rw [if_pos hg, if_neg cc]
          exact h68
        · rw [if_neg hg] at h68
          rw [if_neg hg]
          exact h68
def s_fst (b : Nat → Int) (N : Nat) (σ : t_S) : t_S × t_Fr := (u_Z b N 59 (s_wn b N 0 10 400 σ).2, ((s_wn b N 0 10 400 σ).1, 0, 0), [], [], [], [], [])
theorem c_rd1 {b : Nat → Int} {N r f : Nat} {M0 M : q_Mem} {σ : t_S} (hr : r = 57 ∨ r = 72) (hf : 200 < f) (hT : z_tp b N M) (hz : z_S b N σ M) (hok : u_ok σ = true) (hrf : z_rf r M0 M) (e1 : M.2 r 1 = 0) (e7 : M.2 r 7 = 0) (e11 : M.2 r 11 = 0) (ea : M.2 (r + 11) 1 = 0) (eb : M.2 (r + 13) 1 = 0) (e16 : M.2 r 16 = 0) (e17 : M.2 r 17 = 0) : q_P (fX3_read_13 r f 0 M) (fun x M' => z_K b N r M0 (s_rd b N 80 1 (s_fst b N σ)).2 M' ∧ (u_ok (s_rd b N 80 1 (s_fst b N σ)).2.1 = true → x = ((s_rd b N 80 1 (s_fst b N σ)).1 : Int))) := by
  have flt : ∀ τ F c, u_ok τ = false → s_rd b N 80 c (τ, F) = (c, (τ, F)) := by
    intro τ F c h
    rw [s_rd, if_neg (fun g => by rw [show u_ok τ = true from g.1] at h; cases h)]
  have hbad : ∀ M1, z_5 M M1 → z_S b N (u_fl 1 (u_p σ) σ) M1 → ¬ u_isW b N 0 σ = true → z_K b N r M0 (s_fst b N σ) M1 := by
    intro M1 g1 g2 hn
    have ew : u_W b N 0 σ = u_fl 1 (u_p σ) σ := by unfold u_W; rw [if_neg hn]
    have e2 : (s_fst b N σ).1 = u_fl 1 (u_p σ) σ := by
      unfold s_fst s_wn
      rw [ew]
      rcases σ with ⟨p, j⟩ | ⟨k', pl⟩ <;> rfl
    refine ⟨z5_T hT g1, by rw [e2]; exact g2, fun a k h1 h2 h3 => by rw [g1 a k h1, hrf a k h1 h2 h3], fun g => ?_⟩
    rw [e2, ok_fl] at g
    cases g
  cases f with
  | zero => omega
  | succ f =>
    rcases σ with ⟨p, j⟩ | ⟨k', pl⟩
    · have hk := kd_b b N p j
      have hvb := val_b hT p
      rw [fX3_read_13, show q_w 0 = 0 from rfl, show q_w 80 = 80 from rfl, if_pos (by decide), show M.2 5 5 = 0 from hz.1.2.2.2.2.1, show q_w 0 = 0 from rfl, if_pos rfl, hz.1.2.2.1, n_w (by omega) (by omega)]
      by_cases c0 : t_kind b N p j = 0
      · rw [if_pos c0]
        unfold fX3_read_68
        rw [show q_w 0 = 0 from rfl, if_pos rfl]
        obtain ⟨M1, g0, g1, g2⟩ := c_f1 (σ := .inl (p, j)) hz
        rw [g0, b_some]
        have hn : ¬ u_isW b N 0 (.inl (p, j)) = true := fun g => by have := of_decide_eq_true (Bool.and_eq_true_iff.mp g).1; omega
        have h1 := hbad M1 g1 g2 hn
        have hf0 : u_ok (s_fst b N (.inl (p, j))).1 = false := by
          unfold s_fst s_wn u_W
          rw [if_neg hn]
          rfl
        have e3 := flt (s_fst b N (.inl (p, j))).1 (s_fst b N (.inl (p, j))).2 1 hf0
        rw [show s_rd b N 80 1 (s_fst b N (.inl (p, j))) = (1, s_fst b N (.inl (p, j))) from e3]
        exact w_some.mpr ⟨h1, fun g => (by rw [hf0] at g; cases g)⟩
      · rw [if_neg c0, if_pos rfl]
        unfold fX3_read_50 fX3_readStatement fX3_readStatement_23
        rw [hz.1.2.2.1, n_w (a := t_kind b N p j) (by omega) (by omega), show q_w 1 = 1 from rfl]
        have rest : ∀ M1, z_K b N r M0 ((s_wn b N 0 10 400 (.inl (p, j))).2, ((s_wn b N 0 10 400 (.inl (p, j))).1, 0, 0), [], [], [], [], []) M1 → q_P (q_bd (fX8_takeSign 59 M1) fun _ M2 => fX3_read_13 r f (0 + 1) M2) (fun x M' => z_K b N r M0 (s_rd b N 80 1 (s_fst b N (.inl (p, j)))).2 M' ∧ (u_ok (s_rd b N 80 1 (s_fst b N (.inl (p, j)))).2.1 = true → x = ((s_rd b N 80 1 (s_fst b N (.inl (p, j)))).1 : Int))) := by
          intro M1 h1
          refine w_call (K_Z hr h1) ?_
          intro _ M2 h2
          refine w_mono (c_rd hr 80 f 1 (s_fst b N (.inl (p, j))) M2 (by omega) (by omega) (by omega) (by omega) h2) ?_
          rintro x M3 ⟨x1, x2⟩
          exact ⟨x2, fun _ => x1⟩
        have bad : ¬ u_isW b N 0 (.inl (p, j)) = true → q_P (q_bd (q_bd (fX8_fail 1 (M.2 5 1) M) fun _ M1 => some (0, M1)) fun _ M1 => q_bd (fX8_takeSign 59 M1) fun _ M2 => fX3_read_13 r f (0 + 1) M2) (fun x M' => z_K b N r M0 (s_rd b N 80 1 (s_fst b N (.inl (p, j)))).2 M' ∧ (u_ok (s_rd b N 80 1 (s_fst b N (.inl (p, j)))).2.1 = true → x = ((s_rd b N 80 1 (s_fst b N (.inl (p, j)))).1 : Int))) := by
          intro hn
          obtain ⟨M1, g0, g1, g2⟩ := c_f1 (σ := .inl (p, j)) hz
          rw [g0, b_some, b_some]
          refine rest M1 ?_
          have e2 : (s_wn b N 0 10 400 (.inl (p, j))).2 = u_fl 1 (u_p (.inl (p, j))) (.inl (p, j)) := by
            unfold s_wn u_W
            rw [if_neg hn]
            rfl
          refine ⟨z5_T hT g1, by rw [e2]; exact g2, fun a k h1 h2 h3 => by rw [g1 a k h1, hrf a k h1 h2 h3], fun g => ?_⟩
          rw [e2, ok_fl] at g
          cases g
        by_cases c1 : t_kind b N p j = 1
        · rw [if_pos c1, c_isW hT hz (by omega), b_some]
          by_cases cw : u_isW b N 0 (.inl (p, j)) = true
          · have v0 : t_val b N p = 0 := of_decide_eq_true (Bool.and_eq_true_iff.mp cw).2
            rw [if_pos cw, show q_w 1 = 1 from rfl, if_pos rfl, q_le, hz.1.2.2.2.1, v0, show q_w 0 = 0 from rfl, if_pos rfl]
            have ew : u_W b N 0 (.inl (p, j)) = u_st b N (.inl (p, j)) := by unfold u_W; rw [if_pos cw]
            refine w_call (Q' := fun _ M1 => z_K b N r M0 ((s_wn b N 0 10 400 (.inl (p, j))).2, ((s_wn b N 0 10 400 (.inl (p, j))).1, 0, 0), [], [], [], [], []) M1) ?_ (fun _ M1 h1 => rest M1 h1)
            refine w_call (c_st hT hz) ?_
            rintro _ M2 ⟨s1, s2⟩
            refine w_call (c_tN (z5_T hT s1) s2 (lo := 10) (hi := 400) (by omega) (by omega)) ?_
            rintro x M3 ⟨n1, n2, n3⟩
            rw [q_le]
            have gb : ∀ a k, a ≠ 5 → ¬ (a = r ∧ k = 0) → (q_up M3 r 0 x).2 a k = M.2 a k := fun a k h1 h2 => by rw [up_ne h2, n1 a k h1, s1 a k h1]
            unfold s_wn
            rw [ew]
            refine w_some.mpr ⟨tp_fr (z5_T (z5_T hT s1) n1) (fun a j ha => up_ne (by omega)), S_fr n2 (fun k => up_ne (by omega)), fun a k h1 h2 h3 => by rw [gb a k h1 (by omega), hrf a k h1 h2 h3], fun g => ⟨⟨⟨by rw [up_rd, if_pos ⟨rfl, rfl⟩, n3], by rw [gb _ _ (by omega) (by omega), e16], by rw [gb _ _ (by omega) (by omega), e17]⟩, ⟨by rw [gb _ _ (by omega) (by omega), e1]; rfl, trivial, trivial, trivial, trivial, trivial⟩, ⟨by rw [gb _ _ (by omega) (by omega), e7]; rfl, trivial, trivial, trivial⟩, ⟨by rw [gb _ _ (by omega) (by omega), e11]; rfl, trivial, trivial⟩, ⟨by rw [gb _ _ (by omega) (by omega), ea]; rfl, trivial⟩, ⟨by rw [gb _ _ (by omega) (by omega), eb]; rfl, trivial⟩⟩, ?_⟩⟩
            exact ⟨⟨Nat.zero_le _, Nat.zero_le _, Nat.zero_le _⟩, fun s hs => absurd hs List.not_mem_nil, fun s hs => absurd hs List.not_mem_nil, fun s hs => absurd hs List.not_mem_nil, Or.inl rfl, Or.inl rfl, ⟨Int.le_refl 0, (by decide : (0 : Int) ≤ 9999)⟩, ⟨Int.le_refl 0, (by decide : (0 : Int) ≤ 100)⟩, N_hi g, ⟨Nat.zero_le _, Nat.zero_le _⟩⟩
          · rw [if_neg cw, show q_w 0 = 0 from rfl, if_neg (by decide)]
            exact bad cw
        · rw [if_neg c1]
          exact bad (fun g => c1 (of_decide_eq_true (Bool.and_eq_true_iff.mp g).1))
    · cases hok
/-- the class's whole reading -/
theorem c_read {b : Nat → Int} {N r : Nat} {M : q_Mem} (hr : r = 57 ∨ r = 72) (hT : z_tp b N M) : q_P (fX3_read r M) (fun x M' => z_K b N r M (s_rd b N 80 1 (s_fst b N (.inl (t_sk b N 0, false)))).2 M' ∧ (u_ok (s_rd b N 80 1 (s_fst b N (.inl (t_sk b N 0, false)))).2.1 = true → x = ((s_rd b N 80 1 (s_fst b N (.inl (t_sk b N 0, false)))).1 : Int))) := by
  unfold fX3_read fX2_clear
  rw [fq14 hr, fq15 hr]
  rw [q_le, q_le, q_le, q_le, q_le, q_le, q_le, q_le, b_some]
  have hfr : ∀ a k, ¬ (r ≤ a ∧ a ≤ r + 14) → (q_up (q_up (q_up (q_up (q_up (q_up (q_up (q_up M r 0 0) r 1 0) r 7 0) r 11 0) (r + 11) 1 0) (r + 13) 1 0) r 16 0) r 17 0).2 a k = M.2 a k := fun a k h => by rw [up_ne (by omega), up_ne (by omega), up_ne (by omega), up_ne (by omega), up_ne (by omega), up_ne (by omega), up_ne (by omega), up_ne (by omega)]
  have hc : (q_up (q_up (q_up (q_up (q_up (q_up (q_up (q_up M r 0 0) r 1 0) r 7 0) r 11 0) (r + 11) 1 0) (r + 13) 1 0) r 16 0) r 17 0).2 r 1 = 0 ∧ (q_up (q_up (q_up (q_up (q_up (q_up (q_up (q_up M r 0 0) r 1 0) r 7 0) r 11 0) (r + 11) 1 0) (r + 13) 1 0) r 16 0) r 17 0).2 r 7 = 0 ∧ (q_up (q_up (q_up (q_up (q_up (q_up (q_up (q_up M r 0 0) r 1 0) r 7 0) r 11 0) (r + 11) 1 0) (r + 13) 1 0) r 16 0) r 17 0).2 r 11 = 0 ∧ (q_up (q_up (q_up (q_up (q_up (q_up (q_up (q_up M r 0 0) r 1 0) r 7 0) r 11 0) (r + 11) 1 0) (r + 13) 1 0) r 16 0) r 17 0).2 (r + 11) 1 = 0 ∧ (q_up (q_up (q_up (q_up (q_up (q_up (q_up (q_up M r 0 0) r 1 0) r 7 0) r 11 0) (r + 11) 1 0) (r + 13) 1 0) r 16 0) r 17 0).2 (r + 13) 1 = 0 ∧ (q_up (q_up (q_up (q_up (q_up (q_up (q_up (q_up M r 0 0) r 1 0) r 7 0) r 11 0) (r + 11) 1 0) (r + 13) 1 0) r 16 0) r 17 0).2 r 16 = 0 ∧ (q_up (q_up (q_up (q_up (q_up (q_up (q_up (q_up M r 0 0) r 1 0) r 7 0) r 11 0) (r + 11) 1 0) (r + 13) 1 0) r 16 0) r 17 0).2 r 17 = 0 := by
    refine ⟨?_, ?_, ?_, ?_, ?_, ?_, ?_⟩
    · rw [up_ne (by omega), up_ne (by omega), up_ne (by omega), up_ne (by omega), up_ne (by omega), up_ne (by omega), up_rd, if_pos ⟨rfl, rfl⟩]
    · rw [up_ne (by omega), up_ne (by omega), up_ne (by omega), up_ne (by omega), up_ne (by omega), up_rd, if_pos ⟨rfl, rfl⟩]
    · rw [up_ne (by omega), up_ne (by omega), up_ne (by omega), up_ne (by omega), up_rd, if_pos ⟨rfl, rfl⟩]
    · rw [up_ne (by omega), up_ne (by omega), up_ne (by omega), up_rd, if_pos ⟨rfl, rfl⟩]
    · rw [up_ne (by omega), up_ne (by omega), up_rd, if_pos ⟨rfl, rfl⟩]
    · rw [up_ne (by omega), up_rd, if_pos ⟨rfl, rfl⟩]
    · rw [up_rd, if_pos ⟨rfl, rfl⟩]
  generalize q_up (q_up (q_up (q_up (q_up (q_up (q_up (q_up M r 0 0) r 1 0) r 7 0) r 11 0) (r + 11) 1 0) (r + 13) 1 0) r 16 0) r 17 0 = M1 at hfr hc
  obtain ⟨d1, d2, d3, d4, d5, d6, d7⟩ := hc
  have hT1 : z_tp b N M1 := tp_fr hT (fun a j ha => hfr a j (by omega))
  refine w_call (c_begin hT1) ?_
  rintro _ M2 ⟨g1, g2, g3⟩
  exact c_rd1 (σ := .inl (t_sk b N 0, false)) hr (by decide) (tp_fr hT1 (fun a j ha => g1 a j (by omega))) ⟨g2, g3⟩ rfl (fun a k h1 h2 h3 => by rw [g1 a k h1, hfr a k h3]) (by rw [g1 _ _ (by omega), d1]) (by rw [g1 _ _ (by omega), d2]) (by rw [g1 _ _ (by omega), d3]) (by rw [g1 _ _ (by omega), d4]) (by rw [g1 _ _ (by omega), d5]) (by rw [g1 _ _ (by omega), d6]) (by rw [g1 _ _ (by omega), d7])
