/-! texts: words, and the scanner's step -/
def t_C (w k : Nat) : Int := (q_wbytes.getD (w * 6 + k) 0).toInt
theorem t_tab : ∀ w, w < 31 → (t_W.getD w []).length ≤ 6 ∧ ∀ k, k < 6 → (k < (t_W.getD w []).length → t_C w k = (t_W.getD w []).getD k 0 ∧ t_lt (t_C w k) = true) ∧ ((t_W.getD w []).length ≤ k → t_C w k = 32) := by decide +kernel
theorem t_wb : ∀ k, k < 186 → 0 ≤ (q_wbytes.getD k 0).toInt ∧ (q_wbytes.getD k 0).toInt ≤ 255 := by decide +kernel
theorem t_wat {w k : Nat} (hw : w < 31) (hk : k < 6) : q_wat (((w : Int)) * 6 + (k : Int)) = some (t_C w k) := by
  unfold q_wat
  have e : q_w ((w : Int) * 6 + (k : Int)) = (w : Int) * 6 + (k : Int) := n_w (by omega) (by omega)
  rw [e, if_pos (by omega), show ((w : Int) * 6 + (k : Int)).toNat = w * 6 + k from by omega]
  rfl
theorem t_Cb {w k : Nat} (hw : w < 31) (hk : k < 6) : 0 ≤ t_C w k ∧ t_C w k ≤ 255 := t_wb _ (by omega)
theorem t_mt {s : Nat → Int} {L w : Nat} (hL : L ≤ 6) (hw : w < 31) (hs : ∀ k, k < L → t_lt (s k) = true) : (List.range L).map s = t_W.getD w [] ↔ (∀ k, k < L → s k = t_C w k) ∧ (L = 6 ∨ t_C w L = 32) := by
  obtain ⟨h1, h2⟩ := t_tab w hw
  constructor
  · intro h
    have hl : (t_W.getD w []).length = L := by rw [← h, List.length_map, List.length_range]
    refine ⟨fun k hk => ?_, ?_⟩
    · rw [((h2 k (by omega)).1 (by omega)).1, ← h, List.getD_eq_getElem?_getD, List.getElem?_map, List.getElem?_range hk]
      rfl
    · by_cases c : L = 6
      · exact Or.inl c
      · exact Or.inr ((h2 L (by omega)).2 (by omega))
  · rintro ⟨h3, h4⟩
    have h32 : t_lt 32 = false := rfl
    have hl : (t_W.getD w []).length = L := by
      rcases Nat.lt_trichotomy (t_W.getD w []).length L with c | c | c
      · have e1 := (h2 (t_W.getD w []).length (by omega)).2 (Nat.le_refl _)
        have e2 := hs _ c
        rw [h3 _ c, e1, h32] at e2
        exact absurd e2 (by decide)
      · exact c
      · have e1 := ((h2 L (by omega)).1 c).2
        rcases h4 with h4 | h4
        · omega
        · rw [h4, h32] at e1
          exact absurd e1 (by decide)
    refine List.ext_getElem? fun k => ?_
    by_cases c : k < L
    · have e1 := ((h2 k (by omega)).1 (by omega)).1
      rw [List.getElem?_map, List.getElem?_range c, Option.map_some, h3 k c, e1, List.getD_eq_getElem?_getD, List.getElem?_eq_getElem (by omega)]
      rfl
    · rw [List.getElem?_eq_none (by rw [List.length_map, List.length_range]; omega), List.getElem?_eq_none (by omega)]
theorem c_rw132 {b : Nat → Int} {p L w i : Nat} (K : Int → Int → q_Mem → Option (Int × q_Mem)) (hL : L ≤ 6) (hw : w < 31) (hs : ∀ k, k < L → t_lt (b (p + k)) = true) {M : q_Mem} (hi : i ≤ L) (he : ∀ k, k < i → b (p + k) = t_C w k) (hn : i < L → b (p + i) ≠ t_C w i) : fX8_readWord_132 K (L : Int) (w : Int) ((w : Int) * 6) (i : Int) M = K (L : Int) ((w : Int) + 1) (if (List.range L).map (fun k => b (p + k)) = t_W.getD w [] then q_up M 5 4 (w : Int) else M) := by
  unfold fX8_readWord_132 fX8_readWord_159 fX8_readWord_164
  have hm := t_mt (s := fun k => b (p + k)) hL hw hs
  rw [n_w (a := (i : Int)) (by omega) (by omega), n_w (a := (L : Int)) (by omega) (by omega), show q_w 6 = 6 from rfl]
  by_cases c : i = L
  · subst c
    rw [if_pos rfl]
    by_cases c6 : i = 6
    · rw [if_pos (by omega), if_pos (hm.mpr ⟨he, Or.inl c6⟩)]
      rfl
    · rw [if_neg (by omega), t_wat hw (by omega), Option.bind_some, n_w (a := t_C w i) (by have := t_Cb hw (k := i) (by omega); omega) (by have := t_Cb hw (k := i) (by omega); omega), show q_w 32 = 32 from rfl]
      by_cases c32 : t_C w i = 32
      · rw [if_pos c32, if_pos (hm.mpr ⟨he, Or.inr c32⟩)]
        rfl
      · rw [if_neg c32, if_neg (fun g => by rcases (hm.mp g).2 with g | g; exact c6 g; exact c32 g)]
  · rw [if_neg (by omega), if_neg (fun g => hn (by omega) ((hm.mp g).1 i (by omega)))]
theorem c_rw94 {b : Nat → Int} {N p L w : Nat} (K : Int → Int → q_Mem → Option (Int × q_Mem)) (hL : L ≤ 6) (hN : p + L ≤ N) (hw : w < 31) (hs : ∀ k, k < L → t_lt (b (p + k)) = true) {M : q_Mem} (hT : z_tp b N M) (hp : M.2 5 1 = (p : Int)) : ∀ n i : Nat, i ≤ L → L - i < n → (∀ k, k < i → b (p + k) = t_C w k) → fX8_readWord_94 K n (L : Int) (w : Int) ((w : Int) * 6) (i : Int) M = K (L : Int) ((w : Int) + 1) (if (List.range L).map (fun k => b (p + k)) = t_W.getD w [] then q_up M 5 4 (w : Int) else M) := by
  intro n
  induction n with
  | zero => intro i _ h; omega
  | succ n ih =>
    intro i hi hn he
    have hN2 := hT.2.2.2
    rw [fX8_readWord_94, n_w (a := (i : Int)) (by omega) (by omega), n_w (a := (L : Int)) (by omega) (by omega)]
    by_cases c : i < L
    · have hb := hT.2.2.1 (p + i)
      have hc := t_Cb hw (k := i) (by omega)
      rw [if_pos (by omega), t_wat hw (by omega), Option.bind_some, hp, show (p : Int) + (i : Int) = ((p + i : Nat) : Int) from by omega, tp_at hT (by omega), b_some, at_in (by omega), n_w (a := t_C w i) (by omega) (by omega), n_w (a := b (p + i)) (by omega) (by omega)]
      by_cases c2 : t_C w i = b (p + i)
      · rw [if_pos c2, show (i : Int) + 1 = ((i + 1 : Nat) : Int) from by omega]
        exact ih (i + 1) (by omega) (by omega) (fun k hk => by
          by_cases c3 : k = i
          · rw [c3, c2]
          · exact he k (by omega))
      · rw [if_neg c2]
        exact c_rw132 K hL hw hs hi he (fun _ g => c2 g.symm)
    · rw [if_neg (by omega)]
      exact c_rw132 K hL hw hs hi he (fun g => absurd g c)
theorem c_rw74 {b : Nat → Int} {N p L : Nat} (hL : L ≤ 6) (hN : p + L ≤ N) (hs : ∀ k, k < L → t_lt (b (p + k)) = true) : ∀ (n v w : Nat) (M : q_Mem), z_tp b N M → M.2 5 1 = (p : Int) → w + v = 31 → v < n → ∃ M', fX8_readWord_74 n (L : Int) (w : Int) M = some (0, M') ∧ (∀ a k, ¬ (a = 5 ∧ k = 4) → M'.2 a k = M.2 a k) ∧ M'.2 5 4 = t_wv ((List.range L).map (fun k => b (p + k))) v w (M.2 5 4) := by
  intro n
  induction n with
  | zero => intro v w M _ _ _ h; omega
  | succ n ih =>
    intro v w M hT hp hv hn
    rw [fX8_readWord_74, n_w (a := (w : Int)) (by omega) (by omega), n_w (a := (L : Int)) (by omega) (by omega), show q_w 31 = 31 from rfl, show q_w 6 = 6 from rfl]
    cases v with
    | zero =>
      rw [if_neg (by omega), t_wv]
      exact ⟨M, rfl, fun _ _ _ => rfl, rfl⟩
    | succ v =>
      rw [if_pos (by omega), if_neg (by omega), q_le, show (0 : Int) = ((0 : Nat) : Int) from rfl, c_rw94 _ hL hN (by omega) hs hT hp q_FU 0 (by omega) (by unfold q_FU; omega) (fun k hk => absurd hk (by omega)), t_wv, show (w : Int) + 1 = ((w + 1 : Nat) : Int) from by omega]
      by_cases c : (List.range L).map (fun k => b (p + k)) = t_W.getD w []
      · rw [if_pos c, if_pos c]
        obtain ⟨M', g1, g2, g3⟩ := ih v (w + 1) (q_up M 5 4 (w : Int)) (tp_fr hT (fun a j ha => up_ne (by omega))) (by rw [up_ne (by omega), hp]) (by omega) (by omega)
        exact ⟨M', g1, fun a k ha => by rw [g2 a k ha, up_ne ha], by rw [g3, up_rd, if_pos ⟨rfl, rfl⟩]⟩
      · rw [if_neg c, if_neg c]
        exact ih v (w + 1) M hT hp (by omega) (by omega)
theorem t_wvn {s : List Int} (h : 6 < s.length) : ∀ (v w : Nat) (x : Int), w + v = 31 → t_wv s v w x = x := by
  intro v
  induction v with
  | zero => intro w x _; rfl
  | succ v ih =>
    intro w x hv
    rw [t_wv, if_neg (fun g => by
      have := (t_tab w (by omega)).1
      rw [← g] at this
      omega)]
    exact ih (w + 1) x (by omega)
theorem run_t (f : Int → Bool) (b : Nat → Int) : ∀ n p k, p ≤ k → k < t_run f b n p → f (b k) = true := by
  intro n
  induction n with
  | zero => intro p k h1 h2; rw [t_run] at h2; omega
  | succ n ih =>
    intro p k h1 h2
    rw [t_run] at h2
    by_cases c : f (b p) = true
    · rw [if_pos c] at h2
      by_cases ck : k = p
      · rw [ck]; exact c
      · exact ih (p + 1) k (by omega) h2
    · rw [if_neg c] at h2
      omega
theorem c_rword {b : Nat → Int} {N p : Nat} {M : q_Mem} (hT : z_tp b N M) (hp : M.2 5 1 = (p : Int)) (hpN : p ≤ N) : ∃ M', fX8_readWord M = some (0, M') ∧ (∀ a k, ¬ (a = 5 ∧ (k = 2 ∨ k = 3 ∨ k = 4)) → M'.2 a k = M.2 a k) ∧ M'.2 5 2 = (t_we b N p : Int) ∧ M'.2 5 3 = 1 ∧ M'.2 5 4 = t_word b p (t_we b N p) := by
  have hN := hT.2.2.2
  unfold fX8_readWord
  rw [q_le, q_le, up_ne (by omega), hp]
  obtain ⟨M1, g1, g2, g3⟩ := c_rw13 (b := b) (N := N) q_FU (N - p) p (q_up (q_up M 5 3 1) 5 2 (p : Int)) (tp_fr hT (fun a j ha => by rw [up_ne (by omega), up_ne (by omega)])) (by omega) (by unfold q_FU; omega) (by rw [up_rd, if_pos ⟨rfl, rfl⟩])
  rw [g3]
  have hr := run_b t_lt b (N - p) p
  have ht := run_t t_lt b (N - p) p
  have e1 : M1.2 5 1 = (p : Int) := by rw [g1 5 1 (by omega), up_ne (by omega), up_ne (by omega), hp]
  have e3 : M1.2 5 3 = 1 := by rw [g1 5 3 (by omega), up_ne (by omega), up_rd, if_pos ⟨rfl, rfl⟩]
  have hf : ∀ a k, ¬ (a = 5 ∧ (k = 2 ∨ k = 3 ∨ k = 4)) → M1.2 a k = M.2 a k := fun a k ha => by rw [g1 a k (by omega), up_ne (by omega), up_ne (by omega)]
  have hT1 : z_tp b N M1 := tp_fr hT (fun a j ha => hf a j (by omega))
  unfold fX8_readWord_57
  rw [q_le, q_le, up_ne (by omega), up_ne (by omega), e1, g2]
  unfold t_word t_seg t_we
  rw [show ((t_run t_lt b (N - p) p : Nat) : Int) - (p : Int) = ((t_run t_lt b (N - p) p - p : Nat) : Int) from by omega]
  have h5 : (q_up M1 5 4 (-1)).2 5 4 = -1 := by rw [up_rd, if_pos ⟨rfl, rfl⟩]
  by_cases c : t_run t_lt b (N - p) p - p ≤ 6
  · obtain ⟨M', k1, k2, k3⟩ := c_rw74 (b := b) (N := N) (p := p) c (by omega) (fun k hk => ht (p + k) (by omega) (by omega)) q_FU 31 0 (q_up M1 5 4 (-1)) (tp_fr hT1 (fun a j ha => up_ne (by omega))) (by rw [up_ne (by omega), e1]) rfl (by unfold q_FU; omega)
    refine ⟨M', k1, fun a k ha => by rw [k2 a k (by omega), up_ne (by omega), hf a k ha], by rw [k2 5 2 (by omega), up_ne (by omega), g2], by rw [k2 5 3 (by omega), up_ne (by omega), e3], by rw [k3, h5]⟩
  · refine ⟨q_up M1 5 4 (-1), ?_, fun a k ha => by rw [up_ne (by omega), hf a k ha], by rw [up_ne (by omega), g2], by rw [up_ne (by omega), e3], ?_⟩
    · rw [show q_FU = (q_FU - 1) + 1 from rfl, fX8_readWord_74, show q_w 0 = 0 from rfl, show q_w 31 = 31 from rfl, show q_w 6 = 6 from rfl, if_pos (by omega), n_w (by omega) (by omega), if_pos (by omega)]
    · rw [h5, t_wvn (by rw [List.length_map, List.length_range]; omega) 31 0 (-1) rfl]
theorem c_rnum {b : Nat → Int} {N p : Nat} {M : q_Mem} (hT : z_tp b N M) (hp : M.2 5 1 = (p : Int)) (hpN : p ≤ N) : q_P (fX8_readNumeral M) (fun _ M' => (∀ a k, ¬ (a = 5 ∧ (k = 2 ∨ k = 3 ∨ k = 4)) → M'.2 a k = M.2 a k) ∧ M'.2 5 2 = (t_de b N p : Int) ∧ M'.2 5 3 = 2 ∧ M'.2 5 4 = t_num b p (t_de b N p)) := by
  have hN := hT.2.2.2
  unfold fX8_readNumeral
  rw [q_le, q_le, q_le, up_ne (by omega), up_ne (by omega), hp]
  refine w_mono (c_rn18 (b := b) (N := N) (p := p) q_FU (N - p) p 0 _ (tp_fr hT (fun a j ha => by rw [up_ne (by omega), up_ne (by omega), up_ne (by omega)])) (by omega) (by unfold q_FU; omega) (Nat.le_refl _) (by rw [up_ne (by omega), up_ne (by omega), up_ne (by omega), hp]) (by rw [up_rd, if_pos ⟨rfl, rfl⟩]) (by rw [up_ne (by omega), up_rd, if_pos ⟨rfl, rfl⟩]) (by rw [Nat.sub_self]; decide)) ?_
  rintro _ M' ⟨g1, g2, g3⟩
  refine ⟨fun a k ha => by rw [g1 a k (by omega), up_ne (by omega), up_ne (by omega), up_ne (by omega)], g2, by rw [g1 5 3 (by omega), up_ne (by omega), up_ne (by omega), up_rd, if_pos ⟨rfl, rfl⟩], ?_⟩
  rw [g3]
  unfold t_num t_de
  rw [Nat.sub_self, Nat.zero_min, Nat.sub_zero]
theorem c_st102 {b : Nat → Int} {N p : Nat} {M : q_Mem} (hT : z_tp b N M) (hp : M.2 5 1 = (p : Int)) (hpN : p ≤ N) (h5 : M.2 5 5 = 0) (j : Bool) {s : Int} (hs : s = if j = true then 1 else 0) : q_P (fX8_step_102 s M) (fun _ M' => (∀ a k, ¬ (a = 5 ∧ (k = 2 ∨ k = 3 ∨ k = 4)) → M'.2 a k = M.2 a k) ∧ z_sc b N p j M') := by
  have hb := at_b hT p
  unfold fX8_step_102
  rw [hp, tp_at hT hpN, b_some, (c_letr hb _).1, b_some, f_ite]
  have h185 : ∀ (M' : q_Mem) (kd : Int), (∀ a k, ¬ (a = 5 ∧ (k = 2 ∨ k = 3 ∨ k = 4)) → M'.2 a k = M.2 a k) → M'.2 5 2 = (t_end b N p : Int) → M'.2 5 3 = kd → (t_kind b N p j = if j = true then 4 else kd) → M'.2 5 4 = t_val b N p → q_P (fX8_step_185 s M') (fun _ M' => (∀ a k, ¬ (a = 5 ∧ (k = 2 ∨ k = 3 ∨ k = 4)) → M'.2 a k = M.2 a k) ∧ z_sc b N p j M') := by
    intro M' kd g1 g2 g3 g4 g5
    unfold fX8_step_185
    rw [hs, f_ite]
    cases j with
    | true =>
      rw [if_pos rfl, q_le]
      refine w_some.mpr ⟨fun a k ha => by rw [up_ne (by omega), g1 a k ha], by rw [up_ne (by omega), g1 5 1 (by omega), hp], by rw [up_ne (by omega), g2], by rw [up_rd, if_pos ⟨rfl, rfl⟩, g4]; rfl, by rw [up_ne (by omega), g5], by rw [up_ne (by omega), g1 5 5 (by omega), h5], hpN⟩
    | false =>
      rw [if_neg (by decide)]
      refine w_some.mpr ⟨g1, by rw [g1 5 1 (by omega), hp], g2, by rw [g3, g4]; rfl, g5, by rw [g1 5 5 (by omega), h5], hpN⟩
  by_cases c1 : t_lt (t_at b N p) = true
  · rw [if_pos c1]
    obtain ⟨M', g0, g1, g2, g3, g4⟩ := c_rword hT hp hpN
    rw [g0, b_some]
    refine h185 M' 1 g1 ?_ g3 ?_ ?_
    · rw [g2]; unfold t_end; rw [if_pos c1]
    · unfold t_kind; rw [if_pos c1]
    · rw [g4]; unfold t_val; rw [if_pos c1]
  · rw [if_neg c1, (c_digt hb _).1, b_some, f_ite]
    by_cases c2 : t_dg (t_at b N p) = true
    · rw [if_pos c2]
      refine w_call (c_rnum hT hp hpN) ?_
      rintro _ M' ⟨g1, g2, g3, g4⟩
      refine h185 M' 2 g1 ?_ g3 ?_ ?_
      · rw [g2]; unfold t_end; rw [if_neg c1, if_pos c2]
      · unfold t_kind; rw [if_neg c1, if_pos c2]
      · rw [g4]; unfold t_val; rw [if_neg c1, if_pos c2]
    · rw [if_neg c2, n_w (by omega) (by omega), show q_w (-1) = -1 from rfl]
      have hv : t_val b N p = t_at b N p := by unfold t_val; rw [if_neg c1, if_neg c2]
      unfold fX8_step_154 fX8_step_181
      rw [n_w (by omega) (by omega), show q_w (-1) = -1 from rfl]
      by_cases c3 : t_at b N p = -1
      · rw [if_pos c3, q_le, q_le, if_pos c3, q_le, up_ne (by omega), up_ne (by omega), hp]
        refine w_some.mpr ⟨fun a k ha => by rw [up_ne (by omega), up_ne (by omega), up_ne (by omega)], by rw [up_ne (by omega), up_ne (by omega), up_ne (by omega), hp], ?_, ?_, ?_, ?_, hpN⟩
        · rw [up_rd, if_pos ⟨rfl, rfl⟩]; unfold t_end; rw [if_neg c1, if_neg c2, if_pos c3]
        · rw [up_ne (by omega), up_ne (by omega), up_rd, if_pos ⟨rfl, rfl⟩]; unfold t_kind; rw [if_neg c1, if_neg c2, if_pos c3]
        · rw [up_ne (by omega), up_rd, if_pos ⟨rfl, rfl⟩, hv]
        · rw [up_ne (by omega), up_ne (by omega), up_ne (by omega), h5]
      · rw [if_neg c3, q_le, q_le, if_neg c3, q_le, up_ne (by omega), up_ne (by omega), hp]
        refine w_some.mpr ⟨fun a k ha => by rw [up_ne (by omega), up_ne (by omega), up_ne (by omega)], by rw [up_ne (by omega), up_ne (by omega), up_ne (by omega), hp], ?_, ?_, ?_, ?_, hpN⟩
        · rw [up_rd, if_pos ⟨rfl, rfl⟩]; unfold t_end; rw [if_neg c1, if_neg c2, if_neg c3]; omega
        · rw [up_ne (by omega), up_ne (by omega), up_rd, if_pos ⟨rfl, rfl⟩]; unfold t_kind; rw [if_neg c1, if_neg c2, if_neg c3]
        · rw [up_ne (by omega), up_rd, if_pos ⟨rfl, rfl⟩, hv]
        · rw [up_ne (by omega), up_ne (by omega), up_ne (by omega), h5]
/-- the next token's place, and whether it is joined to a word or number before it -/
def t_np (b : Nat → Int) (N p : Nat) : Nat := t_sk b N (t_end b N p)
def t_nj (b : Nat → Int) (N p : Nat) (j : Bool) : Bool := (decide (t_kind b N p j = 1) || decide (t_kind b N p j = 2)) && decide (t_np b N p = t_end b N p)
theorem c_s29 {b : Nat → Int} {N e : Nat} {M : q_Mem} (hT : z_tp b N M) (he : M.2 5 2 = (e : Int)) (heN : e ≤ N) (h5 : M.2 5 5 = 0) (j : Bool) {s : Int} (hs : s = if j = true then 1 else 0) : q_P (fX8_step_29 s M) (fun _ M' => (∀ a k, ¬ (a = 5 ∧ (k = 1 ∨ k = 2 ∨ k = 3 ∨ k = 4)) → M'.2 a k = M.2 a k) ∧ z_sc b N (t_sk b N e) (j && decide (t_sk b N e = e)) M') := by
  have hN := hT.2.2.2
  unfold fX8_step_29
  rw [q_le, he]
  obtain ⟨M1, g1, g2, g3⟩ := c_sk38 (b := b) (N := N) (x1 := s) q_FU (N - e) e (q_up M 5 1 (e : Int)) (tp_fr hT (fun a j ha => up_ne (by omega))) (by omega) (by unfold q_FU; omega) (by rw [up_rd, if_pos ⟨rfl, rfl⟩])
  rw [g3]
  have hr := run_b t_bl b (N - e) e
  have hf : ∀ a k, ¬ (a = 5 ∧ (k = 1)) → M1.2 a k = M.2 a k := fun a k ha => by rw [g1 a k ha, up_ne ha]
  have hT1 : z_tp b N M1 := tp_fr hT (fun a j ha => hf a j (by omega))
  unfold fX8_step_82 fX8_step_101
  rw [hf 5 2 (by omega), he, g2, n_w (a := ((t_run t_bl b (N - e) e : Nat) : Int)) (by omega) (by omega), n_w (a := (e : Int)) (by omega) (by omega), hs, f_ite]
  have key : ∀ (jj : Bool) (ss : Int), ss = (if jj = true then 1 else 0) → jj = (j && decide (t_sk b N e = e)) → q_P (fX8_step_102 ss M1) (fun _ M' => (∀ a k, ¬ (a = 5 ∧ (k = 1 ∨ k = 2 ∨ k = 3 ∨ k = 4)) → M'.2 a k = M.2 a k) ∧ z_sc b N (t_sk b N e) (j && decide (t_sk b N e = e)) M') := by
    intro jj ss h1 h2
    refine w_mono (c_st102 (p := t_sk b N e) hT1 g2 (by unfold t_sk; omega) (by rw [hf 5 5 (by omega), h5]) jj h1) ?_
    rintro _ M' ⟨k1, k2⟩
    exact ⟨fun a k ha => by rw [k1 a k (by omega), hf a k (by omega)], by rw [← h2]; exact k2⟩
  cases j with
  | false => rw [if_neg (by decide)]; exact key false 0 rfl rfl
  | true =>
    rw [if_pos rfl]
    by_cases c : t_run t_bl b (N - e) e = e
    · rw [if_pos (by omega)]
      exact key true 1 rfl (by unfold t_sk; rw [c]; simp)
    · rw [if_neg (by omega)]
      exact key false 0 rfl (by unfold t_sk; rw [decide_eq_false c]; rfl)
theorem te_b {b : Nat → Int} {N p : Nat} (h : p ≤ N) : p ≤ t_end b N p ∧ t_end b N p ≤ N := by
  have h1 := run_b t_lt b (N - p) p
  have h2 := run_b t_dg b (N - p) p
  unfold t_end t_we t_de
  by_cases c1 : t_lt (t_at b N p) = true
  · rw [if_pos c1]; omega
  · rw [if_neg c1]
    by_cases c2 : t_dg (t_at b N p) = true
    · rw [if_pos c2]; omega
    · rw [if_neg c2]
      by_cases c3 : t_at b N p = -1
      · rw [if_pos c3]; omega
      · rw [if_neg c3]
        unfold t_at at c3
        by_cases c4 : p < N
        · omega
        · rw [if_neg c4] at c3
          exact absurd rfl c3
theorem kd_b (b : Nat → Int) (N p : Nat) (j : Bool) : 0 ≤ t_kind b N p j ∧ t_kind b N p j ≤ 4 := by
  unfold t_kind
  split <;> (try split) <;> (try split) <;> omega
theorem c_step {b : Nat → Int} {N p : Nat} {j : Bool} {M : q_Mem} (hT : z_tp b N M) (hz : z_sc b N p j M) : q_P (fX8_step M) (fun _ M' => (∀ a k, ¬ (a = 5 ∧ (k = 1 ∨ k = 2 ∨ k = 3 ∨ k = 4)) → M'.2 a k = M.2 a k) ∧ z_sc b N (t_np b N p) (t_nj b N p j) M') := by
  obtain ⟨h1, h2, h3, h4, h5, h6⟩ := hz
  have he := te_b (b := b) h6
  have hk := kd_b b N p j
  unfold fX8_step fX8_step_24
  rw [h5, show q_w 0 = 0 from rfl, if_pos rfl, h3, n_w (by omega) (by omega), show q_w 1 = 1 from rfl, show q_w 2 = 2 from rfl]
  unfold t_np t_nj t_np
  by_cases c1 : t_kind b N p j = 1
  · rw [if_pos c1, decide_eq_true c1, Bool.true_or]
    exact c_s29 hT h2 he.2 h5 true rfl
  · rw [if_neg c1, decide_eq_false c1, Bool.false_or]
    by_cases c2 : t_kind b N p j = 2
    · rw [if_pos c2, decide_eq_true c2]
      exact c_s29 hT h2 he.2 h5 true rfl
    · rw [if_neg c2, decide_eq_false c2]
      exact c_s29 hT h2 he.2 h5 false rfl
theorem c_begin {b : Nat → Int} {N : Nat} {M : q_Mem} (hT : z_tp b N M) : q_P (fX8_begin M) (fun _ M' => (∀ a k, a ≠ 5 → M'.2 a k = M.2 a k) ∧ z_sc b N (t_sk b N 0) false M' ∧ M'.2 5 6 = -1) := by
  unfold fX8_begin
  rw [q_le, q_le, q_le, q_le]
  have hT1 : z_tp b N (q_up (q_up (q_up (q_up M 5 2 0) 5 3 0) 5 5 0) 5 6 (-1)) := tp_fr hT (fun a j ha => by rw [up_ne (by omega), up_ne (by omega), up_ne (by omega), up_ne (by omega)])
  have h5 : (q_up (q_up (q_up (q_up M 5 2 0) 5 3 0) 5 5 0) 5 6 (-1)).2 5 5 = 0 := by rw [up_ne (by omega), up_rd, if_pos ⟨rfl, rfl⟩]
  have h3 : (q_up (q_up (q_up (q_up M 5 2 0) 5 3 0) 5 5 0) 5 6 (-1)).2 5 3 = 0 := by rw [up_ne (by omega), up_ne (by omega), up_rd, if_pos ⟨rfl, rfl⟩]
  have h2 : (q_up (q_up (q_up (q_up M 5 2 0) 5 3 0) 5 5 0) 5 6 (-1)).2 5 2 = ((0 : Nat) : Int) := by rw [up_ne (by omega), up_ne (by omega), up_ne (by omega), up_rd, if_pos ⟨rfl, rfl⟩]; rfl
  have h6 : (q_up (q_up (q_up (q_up M 5 2 0) 5 3 0) 5 5 0) 5 6 (-1)).2 5 6 = -1 := by rw [up_rd, if_pos ⟨rfl, rfl⟩]
  have hf : ∀ a k, a ≠ 5 → (q_up (q_up (q_up (q_up M 5 2 0) 5 3 0) 5 5 0) 5 6 (-1)).2 a k = M.2 a k := fun a k ha => by rw [up_ne (by omega), up_ne (by omega), up_ne (by omega), up_ne (by omega)]
  generalize q_up (q_up (q_up (q_up M 5 2 0) 5 3 0) 5 5 0) 5 6 (-1) = M4 at *
  refine w_call (Q' := fun _ M' => (∀ a k, ¬ (a = 5 ∧ (k = 1 ∨ k = 2 ∨ k = 3 ∨ k = 4)) → M'.2 a k = M4.2 a k) ∧ z_sc b N (t_sk b N 0) false M') ?_ ?_
  · unfold fX8_step
    rw [h5, h3, show q_w 0 = 0 from rfl, show q_w 1 = 1 from rfl, show q_w 2 = 2 from rfl, if_pos rfl, if_neg (by decide), if_neg (by decide)]
    exact c_s29 hT1 h2 (Nat.zero_le _) h5 false rfl
  · rintro _ M' ⟨g1, g2⟩
    exact w_some.mpr ⟨fun a k ha => by rw [g1 a k (by omega), hf a k ha], g2, by rw [g1 5 6 (by omega), h6]⟩
