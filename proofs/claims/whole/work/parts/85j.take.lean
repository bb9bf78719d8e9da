/-! texts: what the class reader takes -/
/-- a place in a text: a token with its joined flag, or a fault with its place -/
abbrev t_S : Type := Sum (Nat × Bool) (Int × Int)
def z_S (b : Nat → Int) (N : Nat) (σ : t_S) (M : q_Mem) : Prop := match σ with
  | .inl (p, j) => z_sc b N p j M ∧ M.2 5 6 = -1
  | .inr (k, pl) => M.2 5 5 = k ∧ M.2 5 6 = pl ∧ M.2 5 3 = 4 ∧ 1 ≤ k ∧ k ≤ 5
def u_isW (b : Nat → Int) (N : Nat) (w : Int) : t_S → Bool
  | .inl (p, j) => decide (t_kind b N p j = 1) && decide (t_val b N p = w)
  | .inr _ => false
def u_isS (b : Nat → Int) (N : Nat) (w : Int) : t_S → Bool
  | .inl (p, j) => decide (t_kind b N p j = 3) && decide (t_val b N p = w)
  | .inr _ => false
def u_st (b : Nat → Int) (N : Nat) : t_S → t_S
  | .inl (p, j) => .inl (t_np b N p, t_nj b N p j)
  | .inr (k, pl) => .inr (k, pl)
def u_fl (k pl : Int) : t_S → t_S
  | .inl _ => .inr (k, pl)
  | .inr (k, pl) => .inr (k, pl)
def u_p : t_S → Int
  | .inl (p, _) => p
  | .inr (_, pl) => pl
def u_W (b : Nat → Int) (N : Nat) (w : Int) (σ : t_S) : t_S := if u_isW b N w σ = true then u_st b N σ else u_fl 1 (u_p σ) σ
def u_Z (b : Nat → Int) (N : Nat) (w : Int) (σ : t_S) : t_S := if u_isS b N w σ = true then u_st b N σ else u_fl 1 (u_p σ) σ
def u_N (b : Nat → Int) (N : Nat) (lo hi : Int) : t_S → Int × t_S
  | .inl (p, j) => if t_kind b N p j = 2 then (if 4 < t_end b N p - p then (0, .inr (1, (p : Int) + 4)) else if t_val b N p < lo ∨ hi < t_val b N p then (0, .inr (2, (p : Int))) else (t_val b N p, u_st b N (.inl (p, j)))) else (0, .inr (1, (p : Int)))
  | .inr (k, pl) => (0, .inr (k, pl))
theorem wv_b (s : List Int) : ∀ (v w : Nat) (x : Int), w + v = 31 → -1 ≤ x ∧ x ≤ 30 → -1 ≤ t_wv s v w x ∧ t_wv s v w x ≤ 30 := by
  intro v
  induction v with
  | zero => intro w x _ h; exact h
  | succ v ih =>
    intro w x hv hx
    rw [t_wv]
    refine ih (w + 1) _ (by omega) ?_
    by_cases c : s = t_W.getD w []
    · rw [if_pos c]; omega
    · rw [if_neg c]; exact hx
theorem val_b {b : Nat → Int} {N : Nat} {M : q_Mem} (hT : z_tp b N M) (p : Nat) : -100000 ≤ t_val b N p ∧ t_val b N p ≤ 1000000 := by
  have ha := at_b hT p
  have hb := hT.2.2.1
  unfold t_val
  by_cases c1 : t_lt (t_at b N p) = true
  · rw [if_pos c1]
    have := wv_b (t_seg b p (t_we b N p)) 31 0 (-1) rfl (by omega)
    unfold t_word
    omega
  · rw [if_neg c1]
    by_cases c2 : t_dg (t_at b N p) = true
    · rw [if_pos c2]
      unfold t_num
      have h0 := hb p
      have h1 := hb (p + 1)
      have h2 := hb (p + 1 + 1)
      have h3 := hb (p + 1 + 1 + 1)
      have hm : min (t_de b N p - p) 4 ≤ 4 := Nat.min_le_right _ _
      generalize min (t_de b N p - p) 4 = m at hm
      match m, hm with
      | 0, _ => simp only [t_nv]; omega
      | 1, _ => simp only [t_nv]; omega
      | 2, _ => simp only [t_nv]; omega
      | 3, _ => simp only [t_nv]; omega
      | 4, _ => simp only [t_nv]; omega
    · rw [if_neg c2]; omega
def z_5 (M M' : q_Mem) : Prop := ∀ a k, a ≠ 5 → M'.2 a k = M.2 a k
theorem z5_T {b : Nat → Int} {N : Nat} {M M' : q_Mem} (h : z_tp b N M) (hk : z_5 M M') : z_tp b N M' := tp_fr h (fun a j ha => hk a j (by omega))
theorem z5_t {M M' M2 : q_Mem} (h : z_5 M M') (g : z_5 M' M2) : z_5 M M2 := fun a k ha => by rw [g a k ha, h a k ha]
theorem c_fail {b : Nat → Int} {N : Nat} {σ : t_S} {M : q_Mem} (hz : z_S b N σ M) {k pl : Int} (hk : 1 ≤ k ∧ k ≤ 5) : ∃ M', fX8_fail k pl M = some (0, M') ∧ z_5 M M' ∧ z_S b N (u_fl k pl σ) M' := by
  unfold fX8_fail fX8_fail_17
  rcases σ with ⟨p, j⟩ | ⟨k', pl'⟩
  ·
    have h5 : M.2 5 5 = 0 := hz.1.2.2.2.2.1
    rw [h5, show q_w 0 = 0 from rfl, if_pos rfl, q_le, q_le, q_le]
    exact ⟨_, rfl, fun a k ha => by rw [up_ne (by omega), up_ne (by omega), up_ne (by omega)], by rw [up_ne (by omega), up_ne (by omega), up_rd, if_pos ⟨rfl, rfl⟩], by rw [up_ne (by omega), up_rd, if_pos ⟨rfl, rfl⟩], by rw [up_rd, if_pos ⟨rfl, rfl⟩], hk⟩
  ·
    obtain ⟨h1, h2, h3, h4⟩ := hz
    rw [h1, n_w (by omega) (by omega), if_neg (by omega), q_le]
    exact ⟨_, rfl, fun a k ha => by rw [up_ne (by omega)], by rw [up_ne (by omega), h1], by rw [up_ne (by omega), h2], by rw [up_rd, if_pos ⟨rfl, rfl⟩], h4⟩
theorem c_st {b : Nat → Int} {N : Nat} {σ : t_S} {M : q_Mem} (hT : z_tp b N M) (hz : z_S b N σ M) : q_P (fX8_step M) (fun _ M' => z_5 M M' ∧ z_S b N (u_st b N σ) M') := by
  rcases σ with ⟨p, j⟩ | ⟨k', pl'⟩
  ·
    refine w_mono (c_step hT hz.1) ?_
    rintro _ M' ⟨g1, g2⟩
    exact ⟨fun a k ha => g1 a k (by omega), g2, by rw [g1 5 6 (by omega)]; exact hz.2⟩
  ·
    have hz' := hz
    obtain ⟨h1, h2, h3, h4⟩ := hz
    unfold fX8_step
    rw [h1, n_w (by omega) (by omega), if_neg (by omega)]
    exact w_some.mpr ⟨fun _ _ _ => rfl, hz'⟩
theorem c_isW {b : Nat → Int} {N : Nat} {σ : t_S} {M : q_Mem} (hT : z_tp b N M) (hz : z_S b N σ M) {w : Int} (hw : 0 ≤ w ∧ w ≤ 1000) : fX8_isWord w M = some (if u_isW b N w σ = true then 1 else 0, M) := by
  unfold fX8_isWord u_isW
  rcases σ with ⟨p, j⟩ | ⟨k', pl'⟩
  ·
    have hv := val_b hT p
    have hk := kd_b b N p j
    rw [hz.1.2.2.1, hz.1.2.2.2.1, n_w (a := t_kind b N p j) (by omega) (by omega), n_w (a := t_val b N p) (by omega) (by omega), n_w (a := w) (by omega) (by omega), show q_w 1 = 1 from rfl]
    by_cases c1 : t_kind b N p j = 1
    · rw [if_pos c1]
      by_cases c2 : t_val b N p = w
      · rw [if_pos c2]; simp [c1, c2]
      · rw [if_neg c2]; simp [c2]
    · rw [if_neg c1]; simp [c1]
  ·
    rw [hz.2.2.1, show q_w 4 = 4 from rfl, show q_w 1 = 1 from rfl, if_neg (by decide)]
    rfl
theorem c_isS {b : Nat → Int} {N : Nat} {σ : t_S} {M : q_Mem} (hT : z_tp b N M) (hz : z_S b N σ M) {w : Int} (hw : 0 ≤ w ∧ w ≤ 1000) : fX8_isSign w M = some (if u_isS b N w σ = true then 1 else 0, M) := by
  unfold fX8_isSign u_isS
  rcases σ with ⟨p, j⟩ | ⟨k', pl'⟩
  ·
    have hv := val_b hT p
    have hk := kd_b b N p j
    rw [hz.1.2.2.1, hz.1.2.2.2.1, n_w (a := t_kind b N p j) (by omega) (by omega), n_w (a := t_val b N p) (by omega) (by omega), n_w (a := w) (by omega) (by omega), show q_w 3 = 3 from rfl]
    by_cases c1 : t_kind b N p j = 3
    · rw [if_pos c1]
      by_cases c2 : t_val b N p = w
      · rw [if_pos c2]; simp [c1, c2]
      · rw [if_neg c2]; simp [c2]
    · rw [if_neg c1]; simp [c1]
  ·
    rw [hz.2.2.1, show q_w 4 = 4 from rfl, show q_w 3 = 3 from rfl, if_neg (by decide)]
    rfl
theorem c_f1 {b : Nat → Int} {N : Nat} {σ : t_S} {M : q_Mem} (hz : z_S b N σ M) : ∃ M', fX8_fail 1 (M.2 5 1) M = some (0, M') ∧ z_5 M M' ∧ z_S b N (u_fl 1 (u_p σ) σ) M' := by
  rcases σ with ⟨p, j⟩ | ⟨k', pl'⟩
  ·
    rw [hz.1.1]
    exact c_fail hz (by omega)
  · exact c_fail (σ := .inr (k', pl')) hz (by omega)
theorem c_tW {b : Nat → Int} {N : Nat} {σ : t_S} {M : q_Mem} (hT : z_tp b N M) (hz : z_S b N σ M) {w : Int} (hw : 0 ≤ w ∧ w ≤ 1000) : q_P (fX8_takeWord w M) (fun _ M' => z_5 M M' ∧ z_S b N (u_W b N w σ) M') := by
  unfold fX8_takeWord u_W
  rw [c_isW hT hz hw, b_some, f_ite]
  by_cases c : u_isW b N w σ = true
  · rw [if_pos c, if_pos c]
    exact w_call (c_st hT hz) (fun _ M' g => w_some.mpr g)
  · rw [if_neg c, if_neg c]
    obtain ⟨M', g0, g⟩ := c_f1 hz
    rw [g0, b_some]
    exact w_some.mpr g
theorem c_tZ {b : Nat → Int} {N : Nat} {σ : t_S} {M : q_Mem} (hT : z_tp b N M) (hz : z_S b N σ M) {w : Int} (hw : 0 ≤ w ∧ w ≤ 1000) : q_P (fX8_takeSign w M) (fun _ M' => z_5 M M' ∧ z_S b N (u_Z b N w σ) M') := by
  unfold fX8_takeSign u_Z
  rw [c_isS hT hz hw, b_some, f_ite]
  by_cases c : u_isS b N w σ = true
  · rw [if_pos c, if_pos c]
    exact w_call (c_st hT hz) (fun _ M' g => w_some.mpr g)
  · rw [if_neg c, if_neg c]
    obtain ⟨M', g0, g⟩ := c_f1 hz
    rw [g0, b_some]
    exact w_some.mpr g
theorem c_n71 {b : Nat → Int} {N : Nat} {σ : t_S} {M : q_Mem} (hT : z_tp b N M) (hz : z_S b N σ M) {x : Int} : q_P (fX8_takeNumber_71 x M) (fun r M' => z_5 M M' ∧ z_S b N (u_st b N σ) M' ∧ r = (match σ with | .inl _ => x | .inr _ => 0)) := by
  unfold fX8_takeNumber_71
  refine w_call (c_st hT hz) ?_
  rintro _ M' ⟨g1, g2⟩
  rcases σ with ⟨p, j⟩ | ⟨k', pl'⟩
  ·
    rw [show M'.2 5 5 = 0 from g2.1.2.2.2.2.1, show q_w 0 = 0 from rfl, if_pos rfl]
    exact w_some.mpr ⟨g1, g2, rfl⟩
  ·
    have h4 := g2.2.2.2
    rw [show M'.2 5 5 = k' from g2.1, n_w (by omega) (by omega), if_neg (by omega)]
    exact w_some.mpr ⟨g1, g2, rfl⟩
theorem c_tN {b : Nat → Int} {N : Nat} {σ : t_S} {M : q_Mem} (hT : z_tp b N M) (hz : z_S b N σ M) {lo hi : Int} (hl : 0 ≤ lo ∧ lo ≤ 100000) (hh : 0 ≤ hi ∧ hi ≤ 100000) : q_P (fX8_takeNumber lo hi M) (fun r M' => z_5 M M' ∧ z_S b N (u_N b N lo hi σ).2 M' ∧ r = (u_N b N lo hi σ).1) := by
  unfold fX8_takeNumber fX8_takeNumber_62
  rw [q_le]
  have fl : ∀ (k pl : Int), 1 ≤ k ∧ k ≤ 5 → ∀ x, q_P (q_bd (fX8_fail k pl M) fun _ M1 => fX8_takeNumber_71 x M1) (fun r M' => z_5 M M' ∧ z_S b N (u_fl k pl σ) M' ∧ r = 0) := by
    intro k pl hk x
    obtain ⟨M1, g0, g1, g2⟩ := c_fail hz (pl := pl) hk
    rw [g0, b_some]
    refine w_mono (c_n71 (z5_T hT g1) g2) ?_
    rintro r M' ⟨k1, k2, k3⟩
    refine ⟨z5_t g1 k1, ?_, ?_⟩
    · rcases σ with ⟨p, j⟩ | ⟨k', pl'⟩ <;> exact k2
    · rcases σ with ⟨p, j⟩ | ⟨k', pl'⟩ <;> exact k3
  rcases σ with ⟨p, j⟩ | ⟨k', pl'⟩
  ·
    have hv := val_b hT p
    have hk := kd_b b N p j
    have he := te_b (b := b) hz.1.2.2.2.2.2
    have hN := hT.2.2.2
    have hpN := hz.1.2.2.2.2.2
    rw [hz.1.1, hz.1.2.1, hz.1.2.2.1, hz.1.2.2.2.1, n_w (a := t_kind b N p j) (by omega) (by omega), n_w (a := t_val b N p) (by omega) (by omega), n_w (a := lo) (by omega) (by omega), n_w (a := hi) (by omega) (by omega), show q_w 2 = 2 from rfl, show q_w 4 = 4 from rfl, n_w (a := (t_end b N p : Int) - (p : Int)) (by omega) (by omega)]
    rw [u_N]
    by_cases c1 : t_kind b N p j = 2
    · rw [if_pos c1, if_pos c1]
      by_cases c2 : 4 < t_end b N p - p
      · rw [if_pos (by omega), if_pos c2]
        exact fl 1 _ (by omega) _
      · rw [if_neg (by omega), if_neg c2]
        by_cases c3 : t_val b N p < lo
        · rw [if_pos c3, if_pos (Or.inl c3)]
          exact fl 2 _ (by omega) _
        · rw [if_neg c3]
          by_cases c4 : hi < t_val b N p
          · rw [if_pos c4, if_pos (Or.inr c4)]
            exact fl 2 _ (by omega) _
          · rw [if_neg c4, if_neg (by omega)]
            exact c_n71 hT hz
    · rw [if_neg c1, if_neg c1]
      exact fl 1 _ (by omega) _
  ·
    rw [hz.2.2.1, show q_w 4 = 4 from rfl, show q_w 2 = 2 from rfl, if_neg (by decide)]
    exact fl 1 _ (by omega) _
