/-! texts: words, and the scanner's step -/
def t_C (w k : Nat) : Int := (q_wbytes.getD (w * 6 + k) 0).toInt
theorem t_tab : ∀ w, w < 31 → (t_W.getD w []).length ≤ 6 ∧ ∀ k, k < 6 → (k < (t_W.getD w []).length → t_C w k = (t_W.getD w []).getD k 0 ∧ t_lt (t_C w k) = true) ∧ ((t_W.getD w []).length ≤ k → t_C w k = 32) := by decide +kernel
theorem t_wb : ∀ k, k < 186 → 0 ≤ (q_wbytes.getD k 0).toInt ∧ (q_wbytes.getD k 0).toInt ≤ 255 := by decide +kernel
theorem t_wat {w k : Nat} (hw : w < 31) (hk : k < 6) : q_wat (((w : Int)) * 6 + (k : Int)) = some (t_C w k) := by
  unfold q_wat
  have e : q_w ((w : Int) * 6 + (k : Int)) = (w : Int) * 6 + (k : Int) := n_w (by omega) (by omega)
  rw [e, if_pos (by omega), show ((w : Int) * 6 + (k : Int)).toNat = w * 6 + k from by omega]
  rfl
theorem t_Cb {w k : Nat} (hw : w < 31) (hk : k < 6) : 0 ≤ t_C w k ∧ t_C w k ≤ 255 := t_wb _ (by omega)
theorem t_mt {s : Nat → Int} {L w : Nat} (hL : L ≤ 6) (hw : w < 31) (hs : ∀ k, k < L → t_lt (s k) = true) : (List.range L).map s = t_W.getD w [] ↔ (∀ k, k < L → s k = t_C w k) ∧ (L = 6 ∨ t_C w L = 32) := by
  obtain ⟨h1, h2⟩ := t_tab w hw
  constructor
  · intro h
    have hl : (t_W.getD w []).length = L := by rw [← h, List.length_map, List.length_range]
    refine ⟨fun k hk => ?_, ?_⟩
    · rw [((h2 k (by omega)).1 (by omega)).1, ← h, List.getD_eq_getElem?_getD, List.getElem?_map, List.getElem?_range hk]
      rfl
    · by_cases c : L = 6
      · exact Or.inl c
      · exact Or.inr ((h2 L (by omega)).2 (by omega))
  · rintro ⟨h3, h4⟩
    have h32 : t_lt 32 = false := rfl
    have hl : (t_W.getD w []).length = L := by
      rcases Nat.lt_trichotomy (t_W.getD w []).length L with c | c | c
      · have e1 := (h2 (t_W.getD w []).length (by omega)).2 (Nat.le_refl _)
        have e2 := hs _ c
        rw [h3 _ c, e1, h32] at e2
        exact absurd e2 (by decide)
      · exact c
      · have e1 := ((h2 L (by omega)).1 c).2
        rcases h4 with h4 | h4
        · omega
        · rw [h4, h32] at e1
          exact absurd e1 (by decide)
    refine List.ext_getElem? fun k => ?_
    by_cases c : k < L
    · have e1 := ((h2 k (by omega)).1 (by omega)).1
      rw [List.getElem?_map, List.getElem?_range c, Option.map_some, h3 k c, e1, List.getD_eq_getElem?_getD, List.getElem?_eq_getElem (by omega)]
      rfl
    · rw [List.getElem?_eq_none (by rw [List.length_map, List.length_range]; omega), List.getElem?_eq_none (by omega)]
theorem c_rw132 {b : Nat → Int} {p L w i : Nat} (K : Int → Int → q_Mem → Option (Int × q_Mem)) (hL : L ≤ 6) (hw : w < 31) (hs : ∀ k, k < L → t_lt (b (p + k)) = true) {M : q_Mem} (hi : i ≤ L) (he : ∀ k, k < i → b (p + k) = t_C w k) (hn : i < L → b (p + i) ≠ t_C w i) : fX8_readWord_132 K (L : Int) (w : Int) ((w : Int) * 6) (i : Int) M = K (L : Int) ((w : Int) + 1) (if (List.range L).map (fun k => b (p + k)) = t_W.getD w [] then q_up M 5 4 (w : Int) else M) := by
  unfold fX8_readWord_132 fX8_readWord_159 fX8_readWord_164
  have hm := t_mt (s := fun k => b (p + k)) hL hw hs
  rw [n_w (a := (i : Int)) (by omega) (by omega), n_w (a := (L : Int)) (by omega) (by omega), show q_w 6 = 6 from rfl]
  by_cases c : i = L
  · subst c
    rw [if_pos rfl]
    by_cases c6 : i = 6
    · rw [if_pos (by omega), if_pos (hm.mpr ⟨he, Or.inl c6⟩)]
      rfl
    · rw [if_neg (by omega), t_wat hw (by omega), Option.bind_some, n_w (a := t_C w i) (by have := t_Cb hw (k := i) (by omega); omega) (by have := t_Cb hw (k := i) (by omega); omega), show q_w 32 = 32 from rfl]
      by_cases c32 : t_C w i = 32
      · rw [if_pos c32, if_pos (hm.mpr ⟨he, Or.inr c32⟩)]
        rfl
      · rw [if_neg c32, if_neg (fun g => by rcases (hm.mp g).2 with g | g; exact c6 g; exact c32 g)]
  · rw [if_neg (by omega), if_neg (fun g => hn (by omega) ((hm.mp g).1 i (by omega)))]
theorem c_rw94 {b : Nat → Int} {N p L w : Nat} (K : Int → Int → q_Mem → Option (Int × q_Mem)) (hL : L ≤ 6) (hN : p + L ≤ N) (hw : w < 31) (hs : ∀ k, k < L → t_lt (b (p + k)) = true) {M : q_Mem} (hT : z_tp b N M) (hp : M.2 5 1 = (p : Int)) : ∀ n i : Nat, i ≤ L → L - i < n → (∀ k, k < i → b (p + k) = t_C w k) → fX8_readWord_94 K n (L : Int) (w : Int) ((w : Int) * 6) (i : Int) M = K (L : Int) ((w : Int) + 1) (if (List.range L).map (fun k => b (p + k)) = t_W.getD w [] then q_up M 5 4 (w : Int) else M) := by
  intro n
  induction n with
  | zero => intro i _ h; omega
  | succ n ih =>
    intro i hi hn he
    have hN2 := hT.2.2.2
    rw [fX8_readWord_94, n_w (a := (i : Int)) (by omega) (by omega), n_w (a := (L : Int)) (by omega) (by omega)]
    by_cases c : i < L
    · have hb := hT.2.2.1 (p + i)
      have hc := t_Cb hw (k := i) (by omega)
      rw [if_pos (by omega), t_wat hw (by omega), Option.bind_some, hp, show (p : Int) + (i : Int) = ((p + i : Nat) : Int) from by omega, tp_at hT (by omega), b_some, at_in (by omega), n_w (a := t_C w i) (by omega) (by omega), n_w (a := b (p + i)) (by omega) (by omega)]
      by_cases c2 : t_C w i = b (p + i)
      · rw [if_pos c2, show (i : Int) + 1 = ((i + 1 : Nat) : Int) from by omega]
        exact ih (i + 1) (by omega) (by omega) (fun k hk => by
          by_cases c3 : k = i
          · rw [c3, c2]
          · exact he k (by omega))
      · rw [if_neg c2]
        exact c_rw132 K hL hw hs hi he (fun _ g => c2 g.symm)
    · rw [if_neg (by omega)]
      exact c_rw132 K hL hw hs hi he (fun g => absurd g c)
theorem c_rw74 {b : Nat → Int} {N p L : Nat} (hL : L ≤ 6) (hN : p + L ≤ N) (hs : ∀ k, k < L → t_lt (b (p + k)) = true) : ∀ (n v w : Nat) (M : q_Mem), z_tp b N M → M.2 5 1 = (p : Int) → w + v = 31 → v < n → ∃ M', fX8_readWord_74 n (L : Int) (w : Int) M = some (0, M') ∧ (∀ a k, ¬ (a = 5 ∧ k = 4) → M'.2 a k = M.2 a k) ∧ M'.2 5 4 = t_wv ((List.range L).map (fun k => b (p + k))) v w (M.2 5 4) := by
  intro n
  induction n with
  | zero => intro v w M _ _ _ h; omega
  | succ n ih =>
    intro v w M hT hp hv hn
    rw [fX8_readWord_74, n_w (a := (w : Int)) (by omega) (by omega), n_w (a := (L : Int)) (by omega) (by omega), show q_w 31 = 31 from rfl, show q_w 6 = 6 from rfl]
    cases v with
    | zero =>
      rw [if_neg (by omega), t_wv]
      exact ⟨M, rfl, fun _ _ _ => rfl, rfl⟩
    | succ v =>
      rw [if_pos (by omega), if_neg (by omega), q_le, show (0 : Int) = ((0 : Nat) : Int) from rfl, c_rw94 _ hL hN (by omega) hs hT hp q_FU 0 (by omega) (by unfold q_FU; omega) (fun k hk => absurd hk (by omega)), t_wv, show (w : Int) + 1 = ((w + 1 : Nat) : Int) from by omega]
      by_cases c : (List.range L).map (fun k => b (p + k)) = t_W.getD w []
      · rw [if_pos c, if_pos c]
        obtain ⟨M', g1, g2, g3⟩ := ih v (w + 1) (q_up M 5 4 (w : Int)) (tp_fr hT (fun a j ha => up_ne (by omega))) (by rw [up_ne (by omega), hp]) (by omega) (by omega)
        exact ⟨M', g1, fun a k ha => by rw [g2 a k ha, up_ne ha], by rw [g3, up_rd, if_pos ⟨rfl, rfl⟩]⟩
      · rw [if_neg c, if_neg c]
        exact ih v (w + 1) M hT hp (by omega) (by omega)
theorem t_wvn {s : List Int} (h : 6 < s.length) : ∀ (v w : Nat) (x : Int), w + v = 31 → t_wv s v w x = x := by
  intro v
  induction v with
  | zero => intro w x _; rfl
  | succ v ih =>
    intro w x hv
    rw [t_wv, if_neg (fun g => by
      have := (t_tab w (by omega)).1
      rw [← g] at this
      omega)]
    exact ih (w + 1) x (by omega)
theorem run_t (f : Int → Bool) (b : Nat → Int) : ∀ n p k, p ≤ k → k < t_run f b n p → f (b k) = true := by
  intro n
  induction n with
  | zero => intro p k h1 h2; rw [t_run] at h2; omega
  | succ n ih =>
    intro p k h1 h2
    rw [t_run] at h2
    by_cases c : f (b p) = true
    · rw [if_pos c] at h2
      by_cases ck : k = p
      · rw [ck]; exact c
      · exact ih (p + 1) k (by omega) h2
    · rw [if_neg c] at h2
      omega
theorem c_rword {b : Nat → Int} {N p : Nat} {M : q_Mem} (hT : z_tp b N M) (hp : M.2 5 1 = (p : Int)) (hpN : p ≤ N) : ∃ M', fX8_readWord M = some (0, M') ∧ (∀ a k, ¬ (a = 5 ∧ (k = 2 ∨ k = 3 ∨ k = 4)) → M'.2 a k = M.2 a k) ∧ M'.2 5 2 = (t_we b N p : Int) ∧ M'.2 5 3 = 1 ∧ M'.2 5 4 = t_word b p (t_we b N p) := by
  have hN := hT.2.2.2
  unfold fX8_readWord
  rw [q_le, q_le, up_ne (by omega), hp]
  obtain ⟨M1, g1, g2, g3⟩ := c_rw13 (b := b) (N := N) q_FU (N - p) p (q_up (q_up M 5 3 1) 5 2 (p : Int)) (tp_fr hT (fun a j ha => by rw [up_ne (by omega), up_ne (by omega)])) (by omega) (by unfold q_FU; omega) (by rw [up_rd, if_pos ⟨rfl, rfl⟩])
  rw [g3]
  have hr := run_b t_lt b (N - p) p
  have ht := run_t t_lt b (N - p) p
  have e1 : M1.2 5 1 = (p : Int) := by rw [g1 5 1 (by omega), up_ne (by omega), up_ne (by omega), hp]
  have e3 : M1.2 5 3 = 1 := by rw [g1 5 3 (by omega), up_ne (by omega), up_rd, if_pos ⟨rfl, rfl⟩]
  have hf : ∀ a k, ¬ (a = 5 ∧ (k = 2 ∨ k = 3 ∨ k = 4)) → M1.2 a k = M.2 a k := fun a k ha => by rw [g1 a k (by omega), up_ne (by omega), up_ne (by omega)]
  have hT1 : z_tp b N M1 := tp_fr hT (fun a j ha => hf a j (by omega))
  unfold fX8_readWord_57
  rw [q_le, q_le, up_ne (by omega), up_ne (by omega), e1, g2]
  unfold t_word t_seg t_we
  rw [show ((t_run t_lt b (N - p) p : Nat) : Int) - (p : Int) = ((t_run t_lt b (N - p) p - p : Nat) : Int) from by omega]
  have h5 : (q_up M1 5 4 (-1)).2 5 4 = -1 := by rw [up_rd, if_pos ⟨rfl, rfl⟩]
  by_cases c : t_run t_lt b (N - p) p - p ≤ 6
  · obtain ⟨M', k1, k2, k3⟩ := c_rw74 (b := b) (N := N) (p := p) c (by omega) (fun k hk => ht (p + k) (by omega) (by omega)) q_FU 31 0 (q_up M1 5 4 (-1)) (tp_fr hT1 (fun a j ha => up_ne (by omega))) (by rw [up_ne (by omega), e1]) rfl (by unfold q_FU; omega)
    refine ⟨M', k1, fun a k ha => by rw [k2 a k (by omega), up_ne (by omega), hf a k ha], by rw [k2 5 2 (by omega), up_ne (by omega), g2], by rw [k2 5 3 (by omega), up_ne (by omega), e3], by rw [k3, h5]⟩
  · refine ⟨q_up M1 5 4 (-1), ?_, fun a k ha => by rw [up_ne (by omega), hf a k ha], by rw [up_ne (by omega), g2], by rw [up_ne (by omega), e3], ?_⟩
    · rw [show q_FU = (q_FU - 1) + 1 from rfl, fX8_readWord_74, show q_w 0 = 0 from rfl, show q_w 31 = 31 from rfl, show q_w 6 = 6 from rfl, if_pos (by omega), n_w (by omega) (by omega), if_pos (by omega)]
    · rw [h5, t_wvn (by rw [List.length_map, List.length_range]; omega) 31 0 (-1) rfl]
