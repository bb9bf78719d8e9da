/-! texts: the scanner -/
def t_bl (c : Int) : Bool := decide (c = 32) || decide (c = 10)
def t_lt (c : Int) : Bool := decide (97 ≤ c) && decide (c ≤ 122)
def t_dg (c : Int) : Bool := decide (48 ≤ c) && decide (c ≤ 57)
def t_run (f : Int → Bool) (b : Nat → Int) : Nat → Nat → Nat
  | 0, p => p
  | n + 1, p => if f (b p) = true then t_run f b n (p + 1) else p
def t_at (b : Nat → Int) (N p : Nat) : Int := if p < N then b p else -1
def t_sk (b : Nat → Int) (N p : Nat) : Nat := t_run t_bl b (N - p) p
def t_we (b : Nat → Int) (N p : Nat) : Nat := t_run t_lt b (N - p) p
def t_de (b : Nat → Int) (N p : Nat) : Nat := t_run t_dg b (N - p) p
def t_seg (b : Nat → Int) (p e : Nat) : List Int := (List.range (e - p)).map (fun i => b (p + i))
def t_W : List (List Int) := [[102, 97, 105, 114], [115, 116, 97, 108, 108], [97, 116], [116, 117, 114, 110], [112, 114, 105, 99, 101], [115, 104, 117, 116], [99, 111, 105, 110], [119, 105, 100, 116, 104], [104, 111, 108, 101], [99, 108, 111, 117, 100], [116, 111], [115, 104, 97, 100, 101], [114, 101, 102, 117, 115, 101], [98, 114, 105, 100, 103, 101], [103, 117, 115, 116], [108, 111, 110, 103], [109, 105, 110, 117, 116, 101], [110, 117, 109, 98, 101, 114], [104, 101, 114, 101], [111, 114], [97, 110, 100], [110, 111, 116], [97, 108, 108], [109, 105, 110], [109, 97, 120], [102, 105, 114, 115, 116], [108, 97, 115, 116], [111, 102, 116, 101, 110], [116, 111, 116, 97, 108], [109, 111, 115, 116], [108, 101, 97, 115, 116]]
/-- the word's number, -1 if it is none -/
def t_wv (s : List Int) : Nat → Nat → Int → Int
  | 0, _, v => v
  | n + 1, w, v => t_wv s n (w + 1) (if s = t_W.getD w [] then (w : Int) else v)
def t_word (b : Nat → Int) (p e : Nat) : Int := t_wv (t_seg b p e) 31 0 (-1)
/-- a number by its first four digits -/
def t_nv (b : Nat → Int) : Nat → Nat → Int → Int
  | 0, _, v => v
  | n + 1, p, v => t_nv b n (p + 1) (10 * v + b p - 48)
def t_num (b : Nat → Int) (p e : Nat) : Int := t_nv b (min (e - p) 4) p 0
def t_kind (b : Nat → Int) (N p : Nat) (j : Bool) : Int := if t_lt (t_at b N p) = true then (if j = true then 4 else 1) else if t_dg (t_at b N p) = true then (if j = true then 4 else 2) else if t_at b N p = -1 then 0 else 3
def t_val (b : Nat → Int) (N p : Nat) : Int := if t_lt (t_at b N p) = true then t_word b p (t_we b N p) else if t_dg (t_at b N p) = true then t_num b p (t_de b N p) else t_at b N p
def t_end (b : Nat → Int) (N p : Nat) : Nat := if t_lt (t_at b N p) = true then t_we b N p else if t_dg (t_at b N p) = true then t_de b N p else if t_at b N p = -1 then p else p + 1
/-- the tape, and the scanner at a token -/
def z_tp (b : Nat → Int) (N : Nat) (M : q_Mem) : Prop := M.2 1 1 = (N : Int) ∧ (∀ k, M.2 2 k = b k) ∧ (∀ k, 0 ≤ b k ∧ b k ≤ 255) ∧ N ≤ 1600
def z_sc (b : Nat → Int) (N p : Nat) (j : Bool) (M : q_Mem) : Prop := M.2 5 1 = (p : Int) ∧ M.2 5 2 = (t_end b N p : Int) ∧ M.2 5 3 = t_kind b N p j ∧ M.2 5 4 = t_val b N p ∧ M.2 5 5 = 0 ∧ p ≤ N
theorem run_b (f : Int → Bool) (b : Nat → Int) : ∀ n p, p ≤ t_run f b n p ∧ t_run f b n p ≤ p + n := by
  intro n
  induction n with
  | zero => intro p; exact ⟨Nat.le_refl _, Nat.le_refl _⟩
  | succ n ih =>
    intro p
    rw [t_run]
    by_cases c : f (b p) = true
    · rw [if_pos c]
      have := ih (p + 1)
      omega
    · rw [if_neg c]
      omega
theorem tp_at {b : Nat → Int} {N : Nat} {M : q_Mem} (h : z_tp b N M) {k : Nat} (hk : k ≤ N) : fX10_at 1 (k : Int) M = some (t_at b N k, M) := by
  obtain ⟨h1, h2, h3, h4⟩ := h
  rw [f_at (by unfold q_R; omega) (by unfold q_R; omega) (by rfl) 1600 (by rfl) (by decide)]
  unfold t_at
  by_cases c : k < N
  · rw [if_pos (by omega), if_pos c, Int.toNat_natCast]
    show some (M.2 2 k, M) = _
    rw [h2]
  · rw [if_neg (by omega), if_neg c]
theorem tp_fr {b : Nat → Int} {N : Nat} {M M' : q_Mem} (h : z_tp b N M) (hk : ∀ a j, a ≤ 2 → M'.2 a j = M.2 a j) : z_tp b N M' := ⟨by rw [hk 1 1 (by decide)]; exact h.1, fun k => by rw [hk 2 k (by decide)]; exact h.2.1 k, h.2.2.1, h.2.2.2⟩
theorem at_b {b : Nat → Int} {N : Nat} {M : q_Mem} (h : z_tp b N M) (k : Nat) : -1 ≤ t_at b N k ∧ t_at b N k ≤ 255 := by
  have := h.2.2.1 k
  unfold t_at
  by_cases c : k < N
  · rw [if_pos c]; omega
  · rw [if_neg c]; omega
theorem c_blank {c : Int} (h : -1 ≤ c ∧ c ≤ 255) (M : q_Mem) : fX8_isBlank c M = some (if t_bl c = true then 1 else 0, M) := by
  unfold fX8_isBlank fX8_isBlank_12 t_bl
  rw [n_w (by omega) (by omega), show q_w 32 = 32 from rfl, show q_w 10 = 10 from rfl]
  by_cases c1 : c = 32
  · rw [if_pos c1, decide_eq_true c1]; rfl
  · rw [if_neg c1, decide_eq_false c1]
    by_cases c2 : c = 10
    · rw [if_pos c2, decide_eq_true c2]; rfl
    · rw [if_neg c2, decide_eq_false c2]; rfl
theorem c_letr {c : Int} (h : -1 ≤ c ∧ c ≤ 255) (M : q_Mem) : fX8_isLetter c M = some (if t_lt c = true then 1 else 0, M) ∧ fX12_isLetter c M = some (if t_lt c = true then 1 else 0, M) := by
  unfold fX8_isLetter fX12_isLetter t_lt
  rw [n_w (by omega) (by omega), show q_w 97 = 97 from rfl, show q_w 122 = 122 from rfl]
  by_cases c1 : c < 97
  · rw [if_pos c1, decide_eq_false (by omega : ¬ 97 ≤ c)]; exact ⟨rfl, rfl⟩
  · rw [if_neg c1, decide_eq_true (by omega : 97 ≤ c)]
    by_cases c2 : 122 < c
    · rw [if_pos c2, decide_eq_false (by omega : ¬ c ≤ 122)]; exact ⟨rfl, rfl⟩
    · rw [if_neg c2, decide_eq_true (by omega : c ≤ 122)]; exact ⟨rfl, rfl⟩
theorem c_digt {c : Int} (h : -1 ≤ c ∧ c ≤ 255) (M : q_Mem) : fX8_isDigit c M = some (if t_dg c = true then 1 else 0, M) ∧ fX12_isDigit c M = some (if t_dg c = true then 1 else 0, M) := by
  unfold fX8_isDigit fX12_isDigit t_dg
  rw [n_w (by omega) (by omega), show q_w 48 = 48 from rfl, show q_w 57 = 57 from rfl]
  by_cases c1 : c < 48
  · rw [if_pos c1, decide_eq_false (by omega : ¬ 48 ≤ c)]; exact ⟨rfl, rfl⟩
  · rw [if_neg c1, decide_eq_true (by omega : 48 ≤ c)]
    by_cases c2 : 57 < c
    · rw [if_pos c2, decide_eq_false (by omega : ¬ c ≤ 57)]; exact ⟨rfl, rfl⟩
    · rw [if_neg c2, decide_eq_true (by omega : c ≤ 57)]; exact ⟨rfl, rfl⟩
theorem at_in {b : Nat → Int} {N k : Nat} (h : k < N) : t_at b N k = b k := if_pos h
theorem c_sk38 {b : Nat → Int} {N : Nat} {x1 : Int} : ∀ (n v p : Nat) (M : q_Mem), z_tp b N M → p + v = N → v < n → M.2 5 1 = (p : Int) → ∃ M', (∀ a k, ¬ (a = 5 ∧ k = 1) → M'.2 a k = M.2 a k) ∧ M'.2 5 1 = ((t_run t_bl b v p : Nat) : Int) ∧ fX8_step_38 n x1 M = fX8_step_82 x1 M' := by
  intro n
  induction n with
  | zero => intro v p M _ _ h; omega
  | succ n ih =>
    intro v p M hT hv hn hp
    have hN := hT.2.2.2
    rw [fX8_step_38, hp, hT.1, n_w (by omega) (by omega), n_w (by omega) (by omega)]
    cases v with
    | zero =>
      rw [if_neg (by omega), t_run]
      exact ⟨M, fun _ _ _ => rfl, hp, rfl⟩
    | succ v =>
      have hb := at_b hT p
      rw [if_pos (by omega), tp_at hT (by omega), b_some, c_blank hb, b_some, f_ite, at_in (by omega), t_run]
      by_cases c : t_bl (b p) = true
      · rw [if_pos c, if_pos c, q_le, hp]
        obtain ⟨M', g1, g2, g3⟩ := ih v (p + 1) (q_up M 5 1 ((p : Int) + 1)) (tp_fr hT (fun a j ha => up_ne (by omega))) (by omega) (by omega) (by rw [up_rd, if_pos ⟨rfl, rfl⟩]; omega)
        exact ⟨M', fun a k ha => by rw [g1 a k ha, up_ne (by omega)], g2, g3⟩
      · rw [if_neg c, if_neg c]
        exact ⟨M, fun _ _ _ => rfl, hp, rfl⟩
theorem c_rw13 {b : Nat → Int} {N : Nat} : ∀ (n v e : Nat) (M : q_Mem), z_tp b N M → e + v = N → v < n → M.2 5 2 = (e : Int) → ∃ M', (∀ a k, ¬ (a = 5 ∧ k = 2) → M'.2 a k = M.2 a k) ∧ M'.2 5 2 = ((t_run t_lt b v e : Nat) : Int) ∧ fX8_readWord_13 n M = fX8_readWord_57 M' := by
  intro n
  induction n with
  | zero => intro v e M _ _ h; omega
  | succ n ih =>
    intro v e M hT hv hn he
    have hN := hT.2.2.2
    rw [fX8_readWord_13, he, hT.1, n_w (by omega) (by omega), n_w (by omega) (by omega)]
    cases v with
    | zero =>
      rw [if_neg (by omega), t_run]
      exact ⟨M, fun _ _ _ => rfl, he, rfl⟩
    | succ v =>
      have hb := at_b hT e
      rw [if_pos (by omega), tp_at hT (by omega), b_some, (c_letr hb _).1, b_some, f_ite, at_in (by omega), t_run]
      by_cases c : t_lt (b e) = true
      · rw [if_pos c, if_pos c, q_le, he]
        obtain ⟨M', g1, g2, g3⟩ := ih v (e + 1) (q_up M 5 2 ((e : Int) + 1)) (tp_fr hT (fun a j ha => up_ne (by omega))) (by omega) (by omega) (by rw [up_rd, if_pos ⟨rfl, rfl⟩]; omega)
        exact ⟨M', fun a k ha => by rw [g1 a k ha, up_ne (by omega)], g2, g3⟩
      · rw [if_neg c, if_neg c]
        exact ⟨M, fun _ _ _ => rfl, he, rfl⟩
theorem c_rn18 {b : Nat → Int} {N p : Nat} : ∀ (n v e : Nat) (x : Int) (M : q_Mem), z_tp b N M → e + v = N → v < n → p ≤ e → M.2 5 1 = (p : Int) → M.2 5 2 = (e : Int) → M.2 5 4 = x → 0 ≤ x ∧ x < 10 ^ (min (e - p) 4) → q_P (fX8_readNumeral_18 n M) (fun _ M' => (∀ a k, ¬ (a = 5 ∧ (k = 2 ∨ k = 4)) → M'.2 a k = M.2 a k) ∧ M'.2 5 2 = ((t_run t_dg b v e : Nat) : Int) ∧ M'.2 5 4 = t_nv b (min (t_run t_dg b v e - p) 4 - min (e - p) 4) e x) := by
  intro n
  induction n with
  | zero => intro v e x M _ _ h; omega
  | succ n ih =>
    intro v e x M hT hv hn hpe h1 h2 h4 hx
    have hN := hT.2.2.2
    rw [fX8_readNumeral_18, h2, hT.1, n_w (by omega) (by omega), n_w (by omega) (by omega)]
    cases v with
    | zero =>
      rw [if_neg (by omega), t_run, Nat.sub_self, t_nv]
      exact w_some.mpr ⟨fun _ _ _ => rfl, h2, h4⟩
    | succ v =>
      have hb := at_b hT e
      rw [if_pos (by omega), tp_at hT (by omega), b_some, (c_digt hb _).1, b_some, f_ite, at_in (by omega), t_run, h2, h1, n_w (a := (e : Int) - (p : Int)) (by omega) (by omega), show q_w 4 = 4 from rfl]
      by_cases c : t_dg (b e) = true
      · rw [if_pos c, if_pos c]
        have hrb := run_b t_dg b v (e + 1)
        unfold fX8_readNumeral_88
        by_cases c4 : e - p < 4
        · rw [if_pos (by omega), tp_at hT (by omega), b_some, at_in (by omega), h4, q_le, q_le, up_ne (by omega), h2]
          have hd : 48 ≤ b e ∧ b e ≤ 57 := by
            unfold t_dg at c
            simpa using c
          have hpw : (10 : Int) ^ (min (e + 1 - p) 4) = 10 * 10 ^ (min (e - p) 4) := by
            rw [show min (e + 1 - p) 4 = min (e - p) 4 + 1 from by omega, Int.pow_succ]
            omega
          have := ih v (e + 1) (10 * x + b e - 48) (q_up (q_up M 5 4 (10 * x + b e - 48)) 5 2 ((e : Int) + 1)) (tp_fr hT (fun a j ha => by rw [up_ne (by omega), up_ne (by omega)])) (by omega) (by omega) (by omega) (by rw [up_ne (by omega), up_ne (by omega), h1]) (by rw [up_rd, if_pos ⟨rfl, rfl⟩]; omega) (by rw [up_ne (by omega), up_rd, if_pos ⟨rfl, rfl⟩]) (by omega)
          refine w_mono this ?_
          rintro _ M' ⟨g1, g2, g3⟩
          refine ⟨fun a k ha => by rw [g1 a k ha, up_ne (by omega), up_ne (by omega)], g2, ?_⟩
          rw [g3, show min (t_run t_dg b v (e + 1) - p) 4 - min (e - p) 4 = (min (t_run t_dg b v (e + 1) - p) 4 - min (e + 1 - p) 4) + 1 from by omega, t_nv]
        · rw [if_neg (by omega), q_le, h2]
          have := ih v (e + 1) x (q_up M 5 2 ((e : Int) + 1)) (tp_fr hT (fun a j ha => up_ne (by omega))) (by omega) (by omega) (by omega) (by rw [up_ne (by omega), h1]) (by rw [up_rd, if_pos ⟨rfl, rfl⟩]; omega) (by rw [up_ne (by omega), h4]) (by rw [show min (e + 1 - p) 4 = min (e - p) 4 from by omega]; exact hx)
          refine w_mono this ?_
          rintro _ M' ⟨g1, g2, g3⟩
          refine ⟨fun a k ha => by rw [g1 a k ha, up_ne (by omega)], g2, ?_⟩
          rw [g3, show min (t_run t_dg b v (e + 1) - p) 4 - min (e + 1 - p) 4 = 0 from by omega, show min (t_run t_dg b v (e + 1) - p) 4 - min (e - p) 4 = 0 from by omega, t_nv, t_nv]
      · rw [if_neg c, if_neg c, Nat.sub_self, t_nv]
        exact w_some.mpr ⟨fun _ _ _ => rfl, h2, h4⟩
