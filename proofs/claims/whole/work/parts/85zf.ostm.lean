/-! texts: the other side reads a statement -/
theorem le_W {b : Nat → Int} {N : Nat} {w : Int} {σ : t_S} (h : u_in N σ) : u_le N σ (u_W b N w σ) := by
  unfold u_W
  split
  · exact le_st h
  · exact le_fl
theorem le_wn {b : Nat → Int} {N : Nat} {w lo hi : Int} {σ : t_S} (h : u_in N σ) : u_le N σ (s_wn b N w lo hi σ).2 := le_t (le_W h) (le_N (le_in (le_W h)))
theorem le_M {b : Nat → Int} {N : Nat} {dup : List Int → Bool} {σ : t_S} (h : u_in N σ) : u_le N σ (u_M b N dup σ).2 := by
  intro p' j' e
  rcases σ with ⟨p, j⟩ | e0
  · rw [u_M] at e
    by_cases c1 : t_kind b N p j = 1 ∧ ¬ (0 ≤ t_val b N p ∧ t_val b N p ≤ 24)
    · rw [if_pos c1] at e
      by_cases c2 : 6 < t_end b N p - p
      · rw [if_pos c2] at e; cases e
      · rw [if_neg c2] at e
        by_cases c3 : dup (t_ls b (t_end b N p - p) p) = true
        · rw [if_pos c3] at e; cases e
        · rw [if_neg c3] at e
          exact le_st h p' j' e
    · rw [if_neg c1] at e; cases e
  · cases e
theorem O_in {b : Nat → Int} {N : Nat} {σ : t_S} {M : q_Mem} (h : z_O b N σ M) : u_in N σ := by
  intro p j e
  rw [e] at h
  exact h.2.1
theorem o_tk {b : Nat → Int} {N : Nat} {σ : t_S} {M : q_Mem} (hw : r_words M.2) (hT : z_ot b N M) (hz : z_O b N σ M) {c r m : Nat} {ci : Int} (hc : c < 25 ∧ r = 97 + c ∧ m = (t_W.getD c []).length ∧ ci = (c : Int)) : ∃ M', fX12_takes r m M = some (if u_isW b N ci σ = true then 1 else 0, M') ∧ z_94 M M' ∧ (if u_isW b N ci σ = true then z_O b N (u_st b N σ) M' else z_Q b N σ M') := by
  obtain ⟨h1, h2, h3, h4⟩ := hc
  have hmem := wm_o c h1
  rw [← h2] at hmem
  rw [h4]
  exact o_takes hT hz (by omega) (by omega) (fun j hj => hw _ hmem j hj) h3
theorem o_ak {b : Nat → Int} {N : Nat} {σ : t_S} {M : q_Mem} (hw : r_words M.2) (hT : z_ot b N M) (hz : z_O b N σ M) {c r m : Nat} {ci : Int} (hc : c < 25 ∧ r = 97 + c ∧ m = (t_W.getD c []).length ∧ ci = (c : Int)) : ∃ M', fX12_asks r m M = some (0, M') ∧ z_94 M M' ∧ z_O b N (u_W b N ci σ) M' := by
  obtain ⟨h1, h2, h3, h4⟩ := hc
  have hmem := wm_o c h1
  rw [← h2] at hmem
  rw [h4]
  exact o_asks hT hz (by omega) (by omega) (fun j hj => hw _ hmem j hj) h3
theorem o_wn {b : Nat → Int} {N : Nat} {σ : t_S} {M : q_Mem} (hw : r_words M.2) (hT : z_ot b N M) (hz : z_O b N σ M) {c r m : Nat} {ci lo hi : Int} (hc : c < 25 ∧ r = 97 + c ∧ m = (t_W.getD c []).length ∧ ci = (c : Int)) (hl : 0 ≤ lo ∧ lo ≤ 100000) (hh : 0 ≤ hi ∧ hi ≤ 100000) : ∃ x M1 M2, fX12_asks r m M = some (0, M1) ∧ fX12_number lo hi M1 = some (x, M2) ∧ z_94 M M2 ∧ z_O b N (s_wn b N ci lo hi σ).2 M2 ∧ (u_ok (s_wn b N ci lo hi σ).2 = true → x = (s_wn b N ci lo hi σ).1) := by
  obtain ⟨M1, g1, g2, g3⟩ := o_ak hw hT hz hc
  obtain ⟨x, M2, k1, k2, k3, k4⟩ := o_num (z94_T hT g2) g3 hl hh
  exact ⟨x, M1, M2, g1, k1, z94_t g2 k2, k3, k4⟩
theorem num_F {b : Nat → Int} {N : Nat} {σ : t_S} {M : q_Mem} (hz : z_O b N σ M) (hf : u_ok σ = false) : (∀ lo hi, fX12_number lo hi M = some (0, M)) ∧ ¬ q_w (M.2 94 5) = 0 := by
  rcases σ with ⟨p, j⟩ | ⟨k, pl⟩
  · cases hf
  · have h4 := hz.2.2
    have hb : ¬ q_w (M.2 94 5) = 0 := by
      rw [show M.2 94 5 = k from hz.1, n_w (by omega) (by omega)]
      omega
    refine ⟨fun lo hi => ?_, hb⟩
    unfold fX12_number
    rw [if_neg hb]
theorem zoS_fr {S : List (List Int × Int × Int × Int × Int)} {M M' : q_Mem} (h : zo_S S M) (hk : ∀ a k, (a = 123 ∧ k = 0) ∨ (a = 124 ∧ k < S.length) ∨ (a = 125 ∧ k < 4 * S.length) → M'.2 a k = M.2 a k) : zo_S S M' := by
  obtain ⟨a1, a2, a3, a4, a5, a6⟩ := h
  refine ⟨by rw [hk _ _ (by omega), a1], stk_fr (fun i hi => ?_) a2, stk_fr (fun i hi => ?_) a3, stk_fr (fun i hi => ?_) a4, stk_fr (fun i hi => ?_) a5, stk_fr (fun i hi => ?_) a6⟩
  all_goals (rw [List.length_map] at hi; exact hk _ _ (by omega))
theorem zoC_fr {S : List (List Int × Int × Int)} {M M' : q_Mem} (h : zo_C S M) (hk : ∀ a k, (a = 123 ∧ k = 1) ∨ (a = 124 ∧ 8 ≤ k ∧ k < 8 + S.length) ∨ (a = 126 ∧ k < 2 * S.length) → M'.2 a k = M.2 a k) : zo_C S M' := by
  obtain ⟨a1, a2, a3, a4⟩ := h
  refine ⟨by rw [hk _ _ (by omega), a1], stk_fr (fun i hi => ?_) a2, stk_fr (fun i hi => ?_) a3, stk_fr (fun i hi => ?_) a4⟩
  all_goals (rw [List.length_map] at hi; exact hk _ _ (by omega))
theorem zoL_fr {S : List (Int × Int)} {M M' : q_Mem} (h : zo_L S M) (hk : ∀ a k, (a = 123 ∧ k = 2) ∨ (a = 127 ∧ k < 2 * S.length) → M'.2 a k = M.2 a k) : zo_L S M' := by
  obtain ⟨a1, a2, a3⟩ := h
  refine ⟨by rw [hk _ _ (by omega), a1], stk_fr (fun i hi => ?_) a2, stk_fr (fun i hi => ?_) a3⟩
  all_goals (rw [List.length_map] at hi; exact hk _ _ (by omega))
theorem zok_fr {cd cd' i : Nat} {R : List Int} {M M' : q_Mem} (h : zo_k cd i R M) (hcd : cd ≤ cd') (hk : ∀ a k, (a = 128 ∧ k = i) ∨ (a = 129 ∧ k = i) ∨ (a = 130 ∧ k < cd) → M'.2 a k = M.2 a k) : zo_k cd' i R M' := by
  rcases h with ⟨h1, h2⟩ | ⟨h1, f, h2, h3, h4, h5⟩
  · exact Or.inl ⟨h1, by rw [hk _ _ (by omega), h2]⟩
  · exact Or.inr ⟨h1, f, by rw [hk _ _ (by omega), h2], by rw [hk _ _ (by omega), h3], by omega, fun j hj => by rw [hk _ _ (by omega), h5 j hj]⟩
theorem zoF_fr {F : t_Fr} {M M' : q_Mem} (hw : w_F F) (hcd : F.2.2.2.2.1.length + F.2.2.2.2.2.length ≤ 1600) (h : zo_F F M) (hk : ∀ a k, (a = 94 ∧ k = 45) ∨ (122 ≤ a ∧ a ≤ 130) → M'.2 a k = M.2 a k) : zo_F F M' := by
  obtain ⟨f1, f2, f3, f4, f5, f6, f7⟩ := h
  exact ⟨⟨by rw [hk _ _ (by omega)]; exact f1.1, by rw [hk _ _ (by omega)]; exact f1.2.1, by rw [hk _ _ (by omega)]; exact f1.2.2⟩, zoS_fr f2 (fun a k h => hk _ _ (by omega)), zoC_fr f3 (fun a k h => hk _ _ (by omega)), zoL_fr f4 (fun a k h => hk _ _ (by omega)), by rw [hk _ _ (by omega), f5], zok_fr f6 (Nat.le_refl _) (fun a k h => hk _ _ (by omega)), zok_fr f7 (Nat.le_refl _) (fun a k h => hk _ _ (by omega))⟩
theorem L_94 {b : Nat → Int} {N c : Nat} {M0 M M' : q_Mem} {σ τ : t_S} {F : t_Fr} (h : z_L b N M0 c (σ, F) M) (hok : u_ok σ = true) (h9 : z_94 M M') (hO : z_O b N τ M') (hle : u_le N σ τ) : z_L b N M0 c (τ, F) M' := by
  obtain ⟨h1, h2, h3, h4⟩ := h
  obtain ⟨k1, k2, k3, k4⟩ := h4 hok
  have hcd : F.2.2.2.2.1.length + F.2.2.2.2.2.length ≤ 1600 := by
    rcases σ with ⟨p, j⟩ | e
    · have a1 := k4 p j rfl
      have a2 : p ≤ N := h2.2.1
      have a3 := h1.2.2.2
      have a4 : F.2.2.2.2.1.length + F.2.2.2.2.2.length ≤ p := a1
      omega
    · cases hok
  refine ⟨z94_T h1 h9, hO, of_94 h3 h9, fun _ => ⟨by rw [h9 _ _ (by omega)]; exact k1, zoF_fr k3 hcd k2 (fun a k h => h9 _ _ (by omega)), k3, ?_⟩⟩
  intro p' j' e
  obtain ⟨_, p, j, e1, e2⟩ := hle p' j' e
  have := k4 p j e1
  show F.2.2.2.2.1.length + F.2.2.2.2.2.length ≤ p'
  have this' : F.2.2.2.2.1.length + F.2.2.2.2.2.length ≤ p := this
  omega
theorem L_flt {b : Nat → Int} {N c c' : Nat} {M0 M M' : q_Mem} {q : t_S × t_Fr} {τ : t_S} {F : t_Fr} (h : z_L b N M0 c q M) (h9 : z_94 M M') (hO : z_O b N τ M') (hf : u_ok τ = false) : z_L b N M0 c' (τ, F) M' := ⟨z94_T h.1 h9, hO, of_94 h.2.2.1 h9, fun g => (by rw [show u_ok τ = true from g] at hf; cases hf)⟩
theorem o_full {b : Nat → Int} {N : Nat} {p : Nat} {j : Bool} {M : q_Mem} {i len room : Nat} {pl : Int} (hz : z_O b N (.inl (p, j)) M) (hi : i < 3) (h : M.2 123 i = (len : Int)) (hl : len ≤ 100) (hr : room ≤ 100) : (len = room → ∃ M', fX12_isFull (i : Int) (room : Int) pl M = some (1, M') ∧ z_94 M M' ∧ z_O b N (.inr (5, pl)) M') ∧ (¬ len = room → fX12_isFull (i : Int) (room : Int) pl M = some (0, M)) := by
  unfold fX12_isFull fX12_isFull_23
  rw [show M.2 94 5 = 0 from hz.1, show q_w 0 = 0 from rfl, if_pos rfl, ld_n rfl (by omega) (by omega), Option.bind_some, h, n_w (by omega) (by omega), n_w (by omega) (by omega)]
  constructor
  · intro e
    obtain ⟨M', g1, g2, g3⟩ := o_fail (k := 5) (pl := pl) hz (by omega)
    have h5 : M'.2 94 5 = 5 := g3.1
    rw [if_pos (by omega), g1, b_some, h5, show q_w 5 = 5 from rfl, if_neg (by decide)]
    exact ⟨M', rfl, g2, g3⟩
  · intro e
    rw [if_neg (by omega), if_pos rfl]
theorem wc_o : (2 < 25 ∧ 99 = 97 + 2 ∧ 2 = (t_W.getD 2 []).length ∧ (2 : Int) = ((2 : Nat) : Int)) ∧ (3 < 25 ∧ 100 = 97 + 3 ∧ 4 = (t_W.getD 3 []).length ∧ (3 : Int) = ((3 : Nat) : Int)) ∧ (4 < 25 ∧ 101 = 97 + 4 ∧ 5 = (t_W.getD 4 []).length ∧ (4 : Int) = ((4 : Nat) : Int)) ∧ (5 < 25 ∧ 102 = 97 + 5 ∧ 4 = (t_W.getD 5 []).length ∧ (5 : Int) = ((5 : Nat) : Int)) ∧ (7 < 25 ∧ 104 = 97 + 7 ∧ 5 = (t_W.getD 7 []).length ∧ (7 : Int) = ((7 : Nat) : Int)) ∧ (8 < 25 ∧ 105 = 97 + 8 ∧ 4 = (t_W.getD 8 []).length ∧ (8 : Int) = ((8 : Nat) : Int)) ∧ (10 < 25 ∧ 107 = 97 + 10 ∧ 2 = (t_W.getD 10 []).length ∧ (10 : Int) = ((10 : Nat) : Int)) := by decide
theorem wc_p : (1 < 25 ∧ 98 = 97 + 1 ∧ 5 = (t_W.getD 1 []).length ∧ (1 : Int) = ((1 : Nat) : Int)) ∧ (6 < 25 ∧ 103 = 97 + 6 ∧ 4 = (t_W.getD 6 []).length ∧ (6 : Int) = ((6 : Nat) : Int)) ∧ (9 < 25 ∧ 106 = 97 + 9 ∧ 5 = (t_W.getD 9 []).length ∧ (9 : Int) = ((9 : Nat) : Int)) ∧ (11 < 25 ∧ 108 = 97 + 11 ∧ 5 = (t_W.getD 11 []).length ∧ (11 : Int) = ((11 : Nat) : Int)) ∧ (12 < 25 ∧ 109 = 97 + 12 ∧ 6 = (t_W.getD 12 []).length ∧ (12 : Int) = ((12 : Nat) : Int)) ∧ (13 < 25 ∧ 110 = 97 + 13 ∧ 6 = (t_W.getD 13 []).length ∧ (13 : Int) = ((13 : Nat) : Int)) ∧ (14 < 25 ∧ 111 = 97 + 14 ∧ 4 = (t_W.getD 14 []).length ∧ (14 : Int) = ((14 : Nat) : Int)) ∧ (0 < 25 ∧ 97 = 97 + 0 ∧ 4 = (t_W.getD 0 []).length ∧ (0 : Int) = ((0 : Nat) : Int)) := by decide
theorem O_bad {b : Nat → Int} {N : Nat} {σ : t_S} {M : q_Mem} (hz : z_O b N σ M) : (q_w (M.2 94 5) = 0 ↔ u_ok σ = true) := by
  rcases σ with ⟨p, j⟩ | ⟨k, pl⟩
  · rw [show M.2 94 5 = 0 from hz.1]
    exact ⟨fun _ => rfl, fun _ => rfl⟩
  · have h4 := hz.2.2
    rw [show M.2 94 5 = k from hz.1, n_w (by omega) (by omega)]
    exact ⟨fun g => by omega, fun g => by cases g⟩
theorem o_sta {b : Nat → Int} {N c p : Nat} {j : Bool} {M0 M : q_Mem} {F : t_Fr} (hw0 : r_words M0.2) (h : z_L b N M0 c (u_st b N (.inl (p, j)), F) M) (hle : p ≤ N) (hcb : F.2.2.2.2.1.length + F.2.2.2.2.2.length ≤ p) : q_P (fX12_stallTold (p : Int) M) (fun _ M' => z_L b N M0 c (s_sta b N F (.inl (p, j))) M') := by
  have hK := h
  obtain ⟨hT, hz, hof, hF⟩ := h
  obtain ⟨h46, hF, hw, hcd⟩ : M.2 94 46 = (c : Int) ∧ zo_F F M ∧ w_F F ∧ _ := hF (by rw [ok_st]; rfl)
  obtain ⟨f1, f2, f3, f4, f5, f6, f7⟩ := hF
  have hN := hT.2.2.2
  have hws := of_ws hof hw0
  unfold fX12_stallTold s_sta
  obtain ⟨p1, j1, ep⟩ : ∃ p1 j1, u_st b N (.inl (p, j)) = .inl (p1, j1) := ⟨_, _, rfl⟩
  have hz1 : z_O b N (.inl (p1, j1)) M := by rw [← ep]; exact hz
  have hfull := o_full (pl := (p : Int)) hz1 (i := 0) (room := 6) (by omega) f2.1 (by have := hw.1.1; omega) (by omega)
  by_cases cf : F.2.1.length < 6
  · have hn : ¬ F.2.1.length = 6 := by omega
    have e0 : fX12_isFull 0 6 (p : Int) M = some (0, M) := hfull.2 hn
    rw [e0, b_some, show q_w 0 = 0 from rfl, if_pos rfl, if_pos cf]
    obtain ⟨x, M2, a1, a2, a3, a4⟩ := o_new hws hT hz hw f2 f3
    rw [a1, b_some]
    generalize hm : u_M b N (f_dup F) (u_st b N (.inl (p, j))) = m at a3 a4
    obtain ⟨x1, N1, M3, b1, b2, b3, b4, b5⟩ := o_wn (ws_94 hws a2) (z94_T hT a2) a3 (lo := 0) (hi := 99) wc_o.1 (by omega) (by omega)
    rw [b1, b_some, b2, b_some]
    obtain ⟨x2, N2, M4, c1, c2, c3, c4, c5⟩ := o_wn (ws_94 (ws_94 hws a2) b3) (z94_T (z94_T hT a2) b3) b4 (lo := 0) (hi := 9) wc_o.2.1 (by omega) (by omega)
    rw [c1, b_some, c2, b_some]
    obtain ⟨x3, N3, M5, d1, d2, d3, d4, d5⟩ := o_wn (ws_94 (ws_94 (ws_94 hws a2) b3) c3) (z94_T (z94_T (z94_T hT a2) b3) c3) c4 (lo := 0) (hi := 999) wc_o.2.2.1 (by omega) (by omega)
    rw [d1, b_some, d2, b_some]
    obtain ⟨x4, N4, M6, e1, e2, e3, e4, e5⟩ := o_wn (ws_94 (ws_94 (ws_94 (ws_94 hws a2) b3) c3) d3) (z94_T (z94_T (z94_T (z94_T hT a2) b3) c3) d3) d4 (lo := 0) (hi := 400) wc_o.2.2.2.1 (by omega) (by omega)
    rw [e1, b_some, e2, b_some]
    have h9 : z_94 M M6 := z94_t (z94_t (z94_t (z94_t a2 b3) c3) d3) e3
    have hbad := O_bad e4
    generalize hs4 : s_wn b N 5 0 400 (s_wn b N 4 0 999 (s_wn b N 3 0 9 (s_wn b N 2 0 99 m.2).2).2).2 = q4 at e4 e5 hbad
    by_cases hok : u_ok q4.2 = true
    · have o4 : u_ok (s_wn b N 4 0 999 (s_wn b N 3 0 9 (s_wn b N 2 0 99 m.2).2).2).2 = true := ok_wn (by rw [hs4]; exact hok)
      have o3 := ok_wn o4
      have o2 := ok_wn o3
      have o1 := ok_wn o2
      obtain ⟨v0, v0'⟩ := a4 o1
      have v1 := b5 o2
      have v2 := c5 o3
      have v3 := d5 o4
      have v4 := e5 hok
      have l123 : M6.2 123 0 = (F.2.1.length : Int) := by rw [h9 _ _ (by omega), f2.1]
      rw [if_pos (hbad.mpr hok), ld_n (i := 0) (k := 0) rfl (by omega) (by omega), l123, Option.bind_some, q_le, Option.bind_some, sto_n rfl (by omega) (by omega), Option.bind_some, sto_n (k := 4 * F.2.1.length) (by omega) (by omega) (by omega), Option.bind_some, sto_n (k := 4 * F.2.1.length + 1) (by omega) (by omega) (by omega), Option.bind_some, sto_n (k := 4 * F.2.1.length + 2) (by omega) (by omega) (by omega), Option.bind_some, sto_n (k := 4 * F.2.1.length + 3) (by omega) (by omega) (by omega), Option.bind_some, ld_n (i := 0) (k := 0) rfl (by omega) (by omega), Option.bind_some, up_ne (by omega), up_ne (by omega), up_ne (by omega), up_ne (by omega), up_ne (by omega), l123, sto_n (i := 0) (k := 0) rfl (by omega) (by omega), Option.bind_some]
      have gf : ∀ a k, ¬ (a = 124 ∧ k = F.2.1.length) → ¬ (a = 125 ∧ 4 * F.2.1.length ≤ k ∧ k < 4 * F.2.1.length + 4) → ¬ (a = 123 ∧ k = 0) → (q_up (q_up (q_up (q_up (q_up (q_up M6 124 F.2.1.length x) 125 (4 * F.2.1.length) x1) 125 (4 * F.2.1.length + 1) x2) 125 (4 * F.2.1.length + 2) x3) 125 (4 * F.2.1.length + 3) x4) 123 0 ((F.2.1.length : Int) + 1)).2 a k = M6.2 a k := fun a k g1 g2 g3 => by rw [up_ne (by omega), up_ne (by omega), up_ne (by omega), up_ne (by omega), up_ne (by omega), up_ne (by omega)]
      have w0 : (q_up (q_up (q_up (q_up (q_up (q_up M6 124 F.2.1.length x) 125 (4 * F.2.1.length) x1) 125 (4 * F.2.1.length + 1) x2) 125 (4 * F.2.1.length + 2) x3) 125 (4 * F.2.1.length + 3) x4) 123 0 ((F.2.1.length : Int) + 1)).2 124 F.2.1.length = x := by rw [up_ne (by omega), up_ne (by omega), up_ne (by omega), up_ne (by omega), up_ne (by omega), up_rd, if_pos ⟨rfl, rfl⟩]
      have w1 : (q_up (q_up (q_up (q_up (q_up (q_up M6 124 F.2.1.length x) 125 (4 * F.2.1.length) x1) 125 (4 * F.2.1.length + 1) x2) 125 (4 * F.2.1.length + 2) x3) 125 (4 * F.2.1.length + 3) x4) 123 0 ((F.2.1.length : Int) + 1)).2 125 (4 * F.2.1.length) = x1 := by rw [up_ne (by omega), up_ne (by omega), up_ne (by omega), up_ne (by omega), up_rd, if_pos ⟨rfl, rfl⟩]
      have w2 : (q_up (q_up (q_up (q_up (q_up (q_up M6 124 F.2.1.length x) 125 (4 * F.2.1.length) x1) 125 (4 * F.2.1.length + 1) x2) 125 (4 * F.2.1.length + 2) x3) 125 (4 * F.2.1.length + 3) x4) 123 0 ((F.2.1.length : Int) + 1)).2 125 (4 * F.2.1.length + 1) = x2 := by rw [up_ne (by omega), up_ne (by omega), up_ne (by omega), up_rd, if_pos ⟨rfl, rfl⟩]
      have w3 : (q_up (q_up (q_up (q_up (q_up (q_up M6 124 F.2.1.length x) 125 (4 * F.2.1.length) x1) 125 (4 * F.2.1.length + 1) x2) 125 (4 * F.2.1.length + 2) x3) 125 (4 * F.2.1.length + 3) x4) 123 0 ((F.2.1.length : Int) + 1)).2 125 (4 * F.2.1.length + 2) = x3 := by rw [up_ne (by omega), up_ne (by omega), up_rd, if_pos ⟨rfl, rfl⟩]
      have w4 : (q_up (q_up (q_up (q_up (q_up (q_up M6 124 F.2.1.length x) 125 (4 * F.2.1.length) x1) 125 (4 * F.2.1.length + 1) x2) 125 (4 * F.2.1.length + 2) x3) 125 (4 * F.2.1.length + 3) x4) 123 0 ((F.2.1.length : Int) + 1)).2 125 (4 * F.2.1.length + 3) = x4 := by rw [up_ne (by omega), up_rd, if_pos ⟨rfl, rfl⟩]
      have w5 : (q_up (q_up (q_up (q_up (q_up (q_up M6 124 F.2.1.length x) 125 (4 * F.2.1.length) x1) 125 (4 * F.2.1.length + 1) x2) 125 (4 * F.2.1.length + 2) x3) 125 (4 * F.2.1.length + 3) x4) 123 0 ((F.2.1.length : Int) + 1)).2 123 0 = (F.2.1.length : Int) + 1 := by rw [up_rd, if_pos ⟨rfl, rfl⟩]
      generalize q_up (q_up (q_up (q_up (q_up (q_up M6 124 F.2.1.length x) 125 (4 * F.2.1.length) x1) 125 (4 * F.2.1.length + 1) x2) 125 (4 * F.2.1.length + 2) x3) 125 (4 * F.2.1.length + 3) x4) 123 0 ((F.2.1.length : Int) + 1) = M7 at gf w0 w1 w2 w3 w4 w5
      have gM : ∀ a k, ¬ (a = 94 ∧ (k = 2 ∨ k = 4 ∨ k = 5 ∨ k = 6 ∨ k = 35)) → ¬ (a = 124 ∧ k = F.2.1.length) → ¬ (a = 125 ∧ 4 * F.2.1.length ≤ k ∧ k < 4 * F.2.1.length + 4) → ¬ (a = 123 ∧ k = 0) → M7.2 a k = M.2 a k := fun a k g1 g2 g3 g4 => by rw [gf a k g2 g3 g4, h9 a k g1]
      refine w_some.mpr ⟨ot_fr (z94_T hT h9) (gf _ _ (by omega) (by omega) (by omega)) (fun k => gf _ _ (by omega) (by omega) (by omega)), O_fr e4 (fun k hk => gf _ _ (by omega) (by omega) (by omega)), fun a k hk => by rw [gM a k (by unfold v_o at hk; omega) (by unfold v_o at hk; omega) (by unfold v_o at hk; omega) (by unfold v_o at hk; omega), hof a k hk], fun _ => ⟨by rw [gM _ _ (by omega) (by omega) (by omega) (by omega)]; exact h46, ?_, ?_, ?_⟩⟩
      · refine ⟨⟨by rw [gM _ _ (by omega) (by omega) (by omega) (by omega)]; exact f1.1, by rw [gM _ _ (by omega) (by omega) (by omega) (by omega)]; exact f1.2.1, by rw [gM _ _ (by omega) (by omega) (by omega) (by omega)]; exact f1.2.2⟩, ⟨by rw [w5, List.length_cons]; omega, sk_pu f2.2.1 (by rw [w0, v0]) (fun i hi => gM _ _ (by omega) (by omega) (by omega) (by omega)), sk_pu f2.2.2.1 (by rw [w1, v1]) (fun i hi => gM _ _ (by omega) (by omega) (by omega) (by omega)), sk_pu f2.2.2.2.1 (by rw [w2, v2]) (fun i hi => gM _ _ (by omega) (by omega) (by omega) (by omega)), sk_pu f2.2.2.2.2.1 (by rw [w3, v3]) (fun i hi => gM _ _ (by omega) (by omega) (by omega) (by omega)), sk_pu f2.2.2.2.2.2 (by rw [w4, v4]) (fun i hi => gM _ _ (by omega) (by omega) (by omega) (by omega))⟩, zoC_fr f3 (fun a k h => gM _ _ (by omega) (by omega) (by omega) (by omega)), zoL_fr f4 (fun a k h => gM _ _ (by omega) (by omega) (by omega) (by omega)), by rw [gM _ _ (by omega) (by omega) (by omega) (by omega)]; exact f5, zok_fr f6 (Nat.le_refl _) (fun a k h => gM _ _ (by omega) (by omega) (by omega) (by omega)), zok_fr f7 (Nat.le_refl _) (fun a k h => gM _ _ (by omega) (by omega) (by omega) (by omega))⟩
      · obtain ⟨y1, y2, y3⟩ := hw
        refine ⟨⟨by show (_ :: F.2.1).length ≤ 6; rw [List.length_cons]; omega, y1.2⟩, ?_, y3⟩
        intro s hs
        rcases List.mem_cons.mp hs with e | e
        · rw [e]
          refine ⟨v0', NBd (by omega) (by omega), NBd (by omega) (by omega), NBd (by omega) (by omega), ?_⟩
          rw [← hs4]
          exact NBd (by omega) (by omega)
        · exact y2 s e
      · intro p' j' e
        have hi0 : u_in N (.inl (p, j)) := fun p0 j0 e0 => by cases e0; exact hle
        have l0 := le_st (b := b) hi0
        have l1 := le_M (b := b) (dup := f_dup F) (le_in l0)
        rw [hm] at l1
        have l2 := le_wn (b := b) (w := 2) (lo := 0) (hi := 99) (le_in l1)
        have l3 := le_wn (b := b) (w := 3) (lo := 0) (hi := 9) (le_in l2)
        have l4 := le_wn (b := b) (w := 4) (lo := 0) (hi := 999) (le_in l3)
        have l5 := le_wn (b := b) (w := 5) (lo := 0) (hi := 400) (le_in l4)
        rw [hs4] at l5
        obtain ⟨_, p0, j0, e0, h0⟩ := le_t l0 (le_t l1 (le_t l2 (le_t l3 (le_t l4 l5)))) p' j' e
        cases e0
        show F.2.2.2.2.1.length + F.2.2.2.2.2.length ≤ p'
        omega
    · rw [if_neg (fun g => hok (hbad.mp g))]
      exact w_some.mpr (L_flt hK h9 e4 (Bool.eq_false_iff.mpr hok))
  · have hn : F.2.1.length = 6 := by have := hw.1.1; omega
    obtain ⟨M', g1, g2, g3⟩ := hfull.1 hn
    have e0 : fX12_isFull 0 6 (p : Int) M = some (1, M') := g1
    rw [e0, b_some, show q_w 1 = 1 from rfl, if_neg (by decide), if_neg cf]
    exact w_some.mpr (L_flt hK g2 g3 rfl)
