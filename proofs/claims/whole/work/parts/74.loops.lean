/-! queries with loops -/
theorem c_pay5 {t : Nat} {L A : q_G} {c m : Nat} (hc : (c : Int) < A 123 4) (hm : (m : Int) ≤ A 122 3) : ∀ (n k : Nat) (acc : Int) (M : q_Mem), q_J t M L A → (k : Int) ≤ A 123 3 → (A 123 3).toNat - k < n → q_P (fX11_payingStalls_5 n (c : Int) (m : Int) acc (k : Int) M) (fun r M' => r = acc + ((((List.range (A 123 3).toNat).drop k).countP (fun s : Nat => s_buys A c s m) : Nat) : Int) ∧ q_J t M' L A) := by
  intro n
  induction n with
  | zero => intro k acc M _ _ h; omega
  | succ n ih =>
    intro k acc M hJ hk hn
    have w := j_wf hJ
    rw [fX11_payingStalls_5]
    simp only [q_let]
    rw [j_told hJ, (j_f hJ).2.1, n_w (by omega) (by omega), n_w (by omega) (by omega)]
    by_cases c1 : (k : Int) < A 123 3
    · rw [if_pos c1, rng_drop (by omega), List.countP_cons]
      refine w_call (c_pays hJ hc c1 hm) ?_
      rintro r M1 ⟨rfl, hJ1⟩
      rw [f_ite]
      unfold fX11_payingStalls_34
      have e : (k : Int) + 1 = ((k + 1 : Nat) : Int) := by omega
      rw [e]
      by_cases cb : s_buys A c k m = true
      · rw [if_pos cb, if_pos cb]
        refine w_mono (ih (k + 1) (acc + 1) M1 hJ1 (by omega) (by omega)) ?_
        rintro r M2 ⟨rfl, hJ2⟩
        exact ⟨by omega, hJ2⟩
      · rw [if_neg cb, if_neg cb]
        exact ih (k + 1) acc M1 hJ1 (by omega) (by omega)
    · rw [if_neg c1, List.drop_eq_nil_of_le (by simp; omega)]
      exact w_some.mpr ⟨by simp, hJ⟩
def s_np (A : q_G) (c m : Nat) : Nat := (List.range (A 123 3).toNat).countP (fun s : Nat => s_buys A c s m)
theorem c_paying {t : Nat} {M : q_Mem} {L A : q_G} (h : q_J t M L A) {c m : Nat} (hc : (c : Int) < A 123 4) (hm : (m : Int) ≤ A 122 3) : q_P (fX11_payingStalls (c : Int) (m : Int) M) (fun r M' => r = (s_np A c m : Nat) ∧ q_J t M' L A) := by
  have w := j_wf h
  have := c_pay5 hc hm q_FU 0 0 M h (by omega) (by unfold q_FU; omega)
  refine w_mono this ?_
  rintro r M' ⟨rfl, hJ⟩
  exact ⟨by unfold s_np; simp, hJ⟩
theorem np_b {t : Nat} {M : q_Mem} {L A : q_G} (h : q_J t M L A) (c m : Nat) : s_np A c m ≤ 6 := by
  have w := j_wf h
  unfold s_np
  have := List.countP_le_length (p := fun (s : Nat) => s_buys A c s m) (l := List.range (A 123 3).toNat)
  rw [List.length_range] at this
  omega
theorem r_any2 {t : Nat} {L A : q_G} {c m : Nat} (hc : (c : Int) < A 123 4) (hm : (m : Int) ≤ A 122 3) : ∀ (n k : Nat) (M : q_Mem), q_J t M L A → (k : Int) ≤ A 123 3 → (A 123 3).toNat - k < n → q_P (fX12_doesBuyAnywhere_2 n (c : Int) (m : Int) (k : Int) M) (fun r M' => r = (if 0 < ((List.range (A 123 3).toNat).drop k).countP (fun s : Nat => s_buys A c s m) then 1 else 0) ∧ q_J t M' L A) := by
  intro n
  induction n with
  | zero => intro k M _ _ h; omega
  | succ n ih =>
    intro k M hJ hk hn
    have w := j_wf hJ
    rw [fX12_doesBuyAnywhere_2, r_sm hJ, b_some, n_w (by omega) (by omega), n_w (by omega) (by omega)]
    by_cases c1 : (k : Int) < A 123 3
    · rw [if_pos c1, rng_drop (by omega), List.countP_cons]
      refine w_call (r_buys hJ hc c1 ⟨by omega, hm⟩) ?_
      rintro r M1 ⟨rfl, hJ1⟩
      rw [f_ite]
      have e : (k : Int) + 1 = ((k + 1 : Nat) : Int) := by omega
      rw [e]
      by_cases cb : s_buys A c k m = true
      · rw [if_pos cb, if_pos cb, if_pos (by omega)]
        exact w_some.mpr ⟨rfl, hJ1⟩
      · rw [if_neg cb, if_neg cb]
        exact ih (k + 1) M1 hJ1 (by omega) (by omega)
    · rw [if_neg c1, List.drop_eq_nil_of_le (by simp; omega)]
      exact w_some.mpr ⟨by simp, hJ⟩
theorem r_any {t : Nat} {M : q_Mem} {L A : q_G} (h : q_J t M L A) {c m : Nat} (hc : (c : Int) < A 123 4) (hm : (m : Int) ≤ A 122 3) : q_P (fX12_doesBuyAnywhere (c : Int) (m : Int) M) (fun r M' => r = (if 0 < s_np A c m then 1 else 0) ∧ q_J t M' L A) := by
  have w := j_wf h
  exact r_any2 hc hm q_FU 0 M h (by omega) (by unfold q_FU; omega)
def s_strike (g : Nat → Nat) (wh : Int) : Nat → Int → Int → Int → Nat → Int
  | 0, x3, x4, _, _ => if wh = 0 then x3 else x4
  | k + 1, x3, x4, x5, m => if g m = 0 then (if x3 < x5 + 1 then s_strike g wh k (x5 + 1) ((m : Int) - (x5 + 1) + 1) (x5 + 1) (m + 1) else s_strike g wh k x3 x4 (x5 + 1) (m + 1)) else s_strike g wh k x3 x4 0 (m + 1)
theorem c_strike {t : Nat} {L A : q_G} {c : Nat} {wh : Int} (hc : (c : Int) < A 123 4) (hw : q_R wh) : ∀ (n k m : Nat) (x3 x4 x5 : Int) (M : q_Mem), q_J t M L A → k = (A 122 3 + 1 - (m : Int)).toNat → k < n → (m : Int) ≤ A 122 3 + 1 → 0 ≤ x3 ∧ x3 ≤ (m : Int) → 0 ≤ x5 ∧ x5 ≤ (m : Int) → q_P (fX11_strike_36 n (c : Int) wh x3 x4 x5 (m : Int) M) (fun r M' => r = s_strike (s_np A c) wh k x3 x4 x5 m ∧ q_J t M' L A) := by
  unfold q_R at hw
  intro n
  induction n with
  | zero => intro k m x3 x4 x5 M _ _ h; omega
  | succ n ih =>
    intro k m x3 x4 x5 M hJ hk hn hm h3 h5
    have w := j_wf hJ
    rw [fX11_strike_36]
    simp only [q_let]
    rw [j_told hJ, (j_f hJ).1, n_w (by omega) (by omega), n_w (a := (m : Int)) (by omega) (by omega), n_w hw.1 hw.2]
    by_cases c1 : A 122 3 < (m : Int)
    · have : k = 0 := by omega
      subst this
      rw [if_pos c1, s_strike]
      exact w_ite (fun c => w_some.mpr ⟨by rw [if_pos c], hJ⟩) (fun c => w_some.mpr ⟨by rw [if_neg c], hJ⟩)
    · obtain ⟨k', rfl⟩ : ∃ k', k = k' + 1 := ⟨k - 1, by omega⟩
      rw [if_neg c1, s_strike]
      refine w_call (c_paying hJ hc (by omega)) ?_
      rintro r M1 ⟨rfl, hJ1⟩
      have hb := np_b hJ c m
      rw [n_w (by omega) (by omega)]
      unfold fX11_strike_66 fX11_strike_86
      have e : (m : Int) + 1 = ((m + 1 : Nat) : Int) := by omega
      rw [e]
      by_cases c2 : s_np A c m = 0
      · rw [if_pos (by omega), if_pos c2, n_w (a := x3) (by omega) (by omega), n_w (a := x5 + 1) (by omega) (by omega)]
        by_cases c3 : x3 < x5 + 1
        · rw [if_pos c3, if_pos c3]
          exact ih k' (m + 1) _ _ _ M1 hJ1 (by omega) (by omega) (by omega) (by omega) (by omega)
        · rw [if_neg c3, if_neg c3]
          exact ih k' (m + 1) _ _ _ M1 hJ1 (by omega) (by omega) (by omega) (by omega) (by omega)
      · rw [if_neg (by omega), if_neg c2, n_w (a := x3) (by omega) (by omega), show q_w 0 = 0 from rfl, if_neg (by omega)]
        exact ih k' (m + 1) _ _ _ M1 hJ1 (by omega) (by omega) (by omega) (by omega) (by omega)
theorem r_strike {t : Nat} {L A : q_G} {c : Nat} {wh : Int} (hc : (c : Int) < A 123 4) (hw : q_R wh) : ∀ (n k m : Nat) (x3 x4 x5 : Int) (M : q_Mem), q_J t M L A → k = (A 122 3 + 1 - (m : Int)).toNat → k < n → (m : Int) ≤ A 122 3 + 1 → 0 ≤ x3 ∧ x3 ≤ (m : Int) → 0 ≤ x5 ∧ x5 ≤ (m : Int) → q_P (fX12_strike_36 n (c : Int) wh x3 x4 x5 (m : Int) M) (fun r M' => r = s_strike (s_np A c) wh k x3 x4 x5 m ∧ q_J t M' L A) := by
  unfold q_R at hw
  intro n
  induction n with
  | zero => intro k m x3 x4 x5 M _ _ h; omega
  | succ n ih =>
    intro k m x3 x4 x5 M hJ hk hn hm h3 h5
    have w := j_wf hJ
    rw [fX12_strike_36, r_fm hJ, b_some, n_w (by omega) (by omega), n_w (a := (m : Int)) (by omega) (by omega), n_w hw.1 hw.2]
    by_cases c1 : A 122 3 < (m : Int)
    · have : k = 0 := by omega
      subst this
      rw [if_pos c1, s_strike]
      exact w_ite (fun c => w_some.mpr ⟨by rw [if_pos c], hJ⟩) (fun c => w_some.mpr ⟨by rw [if_neg c], hJ⟩)
    · obtain ⟨k', rfl⟩ : ∃ k', k = k' + 1 := ⟨k - 1, by omega⟩
      rw [if_neg c1, s_strike]
      refine w_call (r_any hJ hc (by omega)) ?_
      rintro r M1 ⟨rfl, hJ1⟩
      rw [f_ite]
      unfold fX12_strike_63 fX12_strike_86
      have e : (m : Int) + 1 = ((m + 1 : Nat) : Int) := by omega
      rw [e]
      by_cases c2 : s_np A c m = 0
      · rw [if_neg (by omega), if_pos c2, n_w (a := x3) (by omega) (by omega), n_w (a := x5 + 1) (by omega) (by omega)]
        simp only [q_let]
        by_cases c3 : x3 < x5 + 1
        · rw [if_pos c3, if_pos c3]
          exact ih k' (m + 1) _ _ _ M1 hJ1 (by omega) (by omega) (by omega) (by omega) (by omega)
        · rw [if_neg c3, if_neg c3]
          exact ih k' (m + 1) _ _ _ M1 hJ1 (by omega) (by omega) (by omega) (by omega) (by omega)
      · rw [if_pos (by omega), if_neg c2, n_w (a := x3) (by omega) (by omega), show q_w 0 = 0 from rfl, if_neg (by omega)]
        exact ih k' (m + 1) _ _ _ M1 hJ1 (by omega) (by omega) (by omega) (by omega) (by omega)
theorem st_strike {M : q_Mem} (hS : q_St M) (x1 x2 : Int) (h1 : q_R x1) (h2 : q_R x2) : q_Step M (fX11_strike x1 x2 M) (fun M1 => fX12_strike x1 x2 M1) := by
  obtain ⟨t, L, A, hI⟩ := id hS
  have w := j_wf hI.1
  have db := j_db hI.1
  have h2' := h2
  unfold q_R at h2'
  by_cases c : (0 ≤ x1 ∧ x1 < A 123 4) ∧ (0 ≤ x2 ∧ x2 ≤ 1)
  · obtain ⟨a, rfl, ha⟩ := nat_of c.1
    obtain ⟨m, hm, hm2⟩ := nat_of' db.1
    refine st_q hI (s_strike (s_np A a) x2 (A 122 3 + 1 - (m : Int)).toNat 0 (-1) 0 m) ?_ ?_
    · unfold fX11_strike
      rw [c_isCoin hI.1 h1, b_some, f_ite, if_pos c.1, n_w h2'.1 h2'.2, show q_w 1 = 1 from rfl, if_neg (by omega), if_neg (by omega)]
      simp only [q_let]
      rw [(j_d hI.1).1, hm]
      exact c_strike ha h2 q_FU _ m 0 (-1) 0 M hI.1 rfl (by unfold q_FU; omega) (by omega) (by omega) (by omega)
    · intro M1 hJ
      unfold fX12_strike
      rw [r_isCoin hJ h1, b_some, f_ite, if_pos c.1, f_isInW h2 (by decide) (by decide) (by decide) (by decide), b_some, f_ite, if_pos c.2, r_ld131 hJ (by decide) (by decide), Option.bind_some, show (0 : Int).toNat = 0 from rfl, hm]
      exact r_strike ha h2 q_FU _ m 0 (-1) 0 M1 hJ rfl (by unfold q_FU; omega) (by omega) (by omega) (by omega)
  · refine st_q hI (-1) ?_ ?_
    · unfold fX11_strike
      rw [c_isCoin hI.1 h1, b_some, f_ite]
      refine w_ite (fun c1 => ?_) (fun _ => w_some.mpr ⟨rfl, hI.1⟩)
      rw [n_w h2'.1 h2'.2, show q_w 1 = 1 from rfl]
      refine w_ite (fun _ => w_some.mpr ⟨rfl, hI.1⟩) (fun c2 => ?_)
      rw [if_pos (by omega)]
      exact w_some.mpr ⟨rfl, hI.1⟩
    · intro M1 hJ
      unfold fX12_strike
      rw [r_isCoin hJ h1, b_some, f_ite]
      refine w_ite (fun c1 => ?_) (fun _ => w_some.mpr ⟨rfl, hJ⟩)
      rw [f_isInW h2 (by decide) (by decide) (by decide) (by decide), b_some, f_ite, if_neg (by omega)]
      exact w_some.mpr ⟨rfl, hJ⟩
def s_find (g : Nat → Bool) : Nat → Nat → Int
  | 0, _ => -1
  | k + 1, m => if g m = true then (m : Int) else s_find g k (m + 1)
theorem c_first {t : Nat} {L A : q_G} {c s : Nat} (hc : (c : Int) < A 123 4) (hs : (s : Int) < A 123 3) : ∀ (n k m : Nat) (M : q_Mem), q_J t M L A → k = (A 122 3 + 1 - (m : Int)).toNat → k < n → (m : Int) ≤ A 122 3 + 1 → q_P (fX11_firstPaying_8 n (c : Int) (s : Int) (m : Int) M) (fun r M' => r = s_find (fun m => s_buys A c s m) k m ∧ q_J t M' L A) := by
  intro n
  induction n with
  | zero => intro k m M _ _ h; omega
  | succ n ih =>
    intro k m M hJ hk hn hm
    have w := j_wf hJ
    rw [fX11_firstPaying_8]
    simp only [q_let]
    rw [j_told hJ, (j_f hJ).1, n_w (by omega) (by omega), n_w (a := (m : Int)) (by omega) (by omega)]
    by_cases c1 : A 122 3 < (m : Int)
    · have : k = 0 := by omega
      subst this
      rw [if_pos c1, s_find]
      exact w_some.mpr ⟨rfl, hJ⟩
    · obtain ⟨k', rfl⟩ : ∃ k', k = k' + 1 := ⟨k - 1, by omega⟩
      rw [if_neg c1, s_find]
      refine w_call (c_pays hJ hc hs (by omega)) ?_
      rintro r M1 ⟨rfl, hJ1⟩
      rw [f_ite]
      have e : (m : Int) + 1 = ((m + 1 : Nat) : Int) := by omega
      rw [e]
      by_cases c2 : s_buys A c s m = true
      · rw [if_pos c2, if_pos c2]
        exact w_some.mpr ⟨rfl, hJ1⟩
      · rw [if_neg c2, if_neg c2]
        exact ih k' (m + 1) M1 hJ1 (by omega) (by omega) (by omega)
def s_desc (g : Nat → Bool) (lo : Nat) : Nat → Int
  | 0 => -1
  | k + 1 => if g (lo + k) = true then ((lo + k : Nat) : Int) else s_desc g lo k
theorem c_last {t : Nat} {L A : q_G} {c s lo : Nat} (hc : (c : Int) < A 123 4) (hs : (s : Int) < A 123 3) (hlo : A 131 0 = (lo : Int)) : ∀ (n k : Nat) (M : q_Mem), q_J t M L A → ((lo + k : Nat) : Int) ≤ A 122 3 + 1 → k < n → q_P (fX11_lastPaying_8 n (c : Int) (s : Int) (((lo + k : Nat) : Int) - 1) M) (fun r M' => r = s_desc (fun m => s_buys A c s m) lo k ∧ q_J t M' L A) := by
  intro n
  induction n with
  | zero => intro k M _ _ h; omega
  | succ n ih =>
    intro k M hJ hk hn
    have w := j_wf hJ
    have db := j_db hJ
    rw [fX11_lastPaying_8, (j_d hJ).1, hlo, n_w (by omega) (by omega), n_w (a := (lo : Int)) (by omega) (by omega)]
    cases k with
    | zero =>
      rw [if_pos (by omega), s_desc]
      exact w_some.mpr ⟨rfl, hJ⟩
    | succ k =>
      rw [if_neg (by omega), s_desc, show ((lo + (k + 1) : Nat) : Int) - 1 = ((lo + k : Nat) : Int) from by omega]
      refine w_call (c_pays hJ hc hs (by omega)) ?_
      rintro r M1 ⟨rfl, hJ1⟩
      rw [f_ite, show ((lo + k : Nat) : Int) + -1 = ((lo + k : Nat) : Int) - 1 from by omega]
      by_cases c2 : s_buys A c s ((lo + k : Nat) : Int) = true
      · rw [if_pos c2, if_pos c2]
        exact w_some.mpr ⟨rfl, hJ1⟩
      · rw [if_neg c2, if_neg c2]
        exact ih k M1 hJ1 (by omega) (by omega)
def s_last (g : Nat → Bool) : Nat → Int → Nat → Int
  | 0, f, _ => f
  | k + 1, f, m => s_last g k (if g m = true then (m : Int) else f) (m + 1)
theorem last_snoc (g : Nat → Bool) : ∀ (k : Nat) (f : Int) (lo : Nat), s_last g (k + 1) f lo = if g (lo + k) = true then ((lo + k : Nat) : Int) else s_last g k f lo := by
  intro k
  induction k with
  | zero => intro f lo; rfl
  | succ k ih =>
    intro f lo
    rw [s_last, ih, show lo + 1 + k = lo + (k + 1) from by omega]
    rfl
theorem last_desc (g : Nat → Bool) (lo : Nat) : ∀ k, s_last g k (-1) lo = s_desc g lo k := by
  intro k
  induction k with
  | zero => rfl
  | succ k ih => rw [last_snoc, ih]; rfl
theorem r_when {t : Nat} {L A : q_G} {c s : Nat} {wh : Int} (hc : (c : Int) < A 123 4) (hs : (s : Int) < A 123 3) (hw : q_R wh) : ∀ (n k m : Nat) (f : Int) (M : q_Mem), q_J t M L A → k = (A 122 3 + 1 - (m : Int)).toNat → k < n → (m : Int) ≤ A 122 3 + 1 → (wh = 0 → f = -1) → q_P (fX12_when_40 n (c : Int) (s : Int) wh f (m : Int) M) (fun r M' => r = (if wh = 0 then s_find (fun m => s_buys A c s m) k m else s_last (fun m => s_buys A c s m) k f m) ∧ q_J t M' L A) := by
  unfold q_R at hw
  intro n
  induction n with
  | zero => intro k m f M _ _ h; omega
  | succ n ih =>
    intro k m f M hJ hk hn hm hf
    have w := j_wf hJ
    rw [fX12_when_40, r_fm hJ, b_some, n_w (by omega) (by omega), n_w (a := (m : Int)) (by omega) (by omega), n_w hw.1 hw.2]
    by_cases c1 : A 122 3 < (m : Int)
    · have : k = 0 := by omega
      subst this
      rw [if_pos c1, s_find, s_last]
      refine w_some.mpr ⟨?_, hJ⟩
      by_cases cw : wh = 0
      · rw [if_pos cw, hf cw]
      · rw [if_neg cw]
    · obtain ⟨k', rfl⟩ : ∃ k', k = k' + 1 := ⟨k - 1, by omega⟩
      rw [if_neg c1, s_find, s_last]
      refine w_call (r_buys hJ hc hs ⟨by omega, by omega⟩) ?_
      rintro r M1 ⟨rfl, hJ1⟩
      rw [f_ite]
      unfold fX12_when_74
      have e : (m : Int) + 1 = ((m + 1 : Nat) : Int) := by omega
      rw [e]
      by_cases c2 : s_buys A c s m = true
      · rw [if_pos c2, if_pos c2, if_pos c2]
        by_cases cw : wh = 0
        · rw [if_pos cw, if_pos cw]
          exact w_some.mpr ⟨rfl, hJ1⟩
        · rw [if_neg cw, if_neg cw]
          have := ih k' (m + 1) (m : Int) M1 hJ1 (by omega) (by omega) (by omega) (fun h => absurd h cw)
          rw [if_neg cw] at this
          exact this
      · rw [if_neg c2, if_neg c2, if_neg c2]
        exact ih k' (m + 1) f M1 hJ1 (by omega) (by omega) (by omega) hf
theorem st_when {M : q_Mem} (hS : q_St M) (x1 x2 x3 : Int) (h1 : q_R x1) (h2 : q_R x2) (h3 : q_R x3) : q_Step M (fX11_when x1 x2 x3 M) (fun M1 => fX12_when x1 x2 x3 M1) := by
  obtain ⟨t, L, A, hI⟩ := id hS
  have w := j_wf hI.1
  have db := j_db hI.1
  have h3' := h3
  unfold q_R at h3'
  by_cases c : (0 ≤ x1 ∧ x1 < A 123 4) ∧ (0 ≤ x2 ∧ x2 < A 123 3) ∧ (0 ≤ x3 ∧ x3 ≤ 1)
  · obtain ⟨a, rfl, ha⟩ := nat_of c.1
    obtain ⟨b, rfl, hb⟩ := nat_of c.2.1
    obtain ⟨m, hm, hm2⟩ := nat_of' db.1
    refine st_q hI (if x3 = 0 then s_find (fun m => s_buys A a b m) (A 122 3 + 1 - (m : Int)).toNat m else s_last (fun m => s_buys A a b m) (A 122 3 + 1 - (m : Int)).toNat (-1) m) ?_ ?_
    · unfold fX11_when
      rw [c_isCoin hI.1 h1, b_some, f_ite, if_pos c.1, c_isStall hI.1 h2, b_some, f_ite, if_pos c.2.1, n_w h3'.1 h3'.2]
      have hx : x3 = 0 ∨ x3 = 1 := by omega
      rcases hx with rfl | rfl
      · rw [if_pos rfl, if_pos rfl]
        unfold fX11_firstPaying
        simp only [q_let]
        rw [(j_d hI.1).1, hm]
        exact w_call (c_first ha hb q_FU _ m M hI.1 rfl (by unfold q_FU; omega) (by omega)) (fun r M1 h => w_some.mpr h)
      · rw [if_neg (by decide), if_pos rfl, if_neg (by decide), last_desc]
        unfold fX11_lastPaying
        simp only [q_let]
        rw [j_told hI.1, (j_f hI.1).1]
        have := c_last ha hb hm q_FU (A 122 3 + 1 - (m : Int)).toNat M hI.1 (by omega) (by unfold q_FU; omega)
        rw [show ((m + (A 122 3 + 1 - (m : Int)).toNat : Nat) : Int) - 1 = A 122 3 from by omega] at this
        exact w_call this (fun r M1 h => w_some.mpr h)
    · intro M1 hJ
      unfold fX12_when
      rw [r_isCoin hJ h1, b_some, f_ite, if_pos c.1, r_isStall hJ h2, b_some, f_ite, if_pos c.2.1, f_isInW h3 (by decide) (by decide) (by decide) (by decide), b_some, f_ite, if_pos c.2.2, r_ld131 hJ (by decide) (by decide), Option.bind_some, show (0 : Int).toNat = 0 from rfl, hm]
      exact r_when ha hb h3 q_FU _ m (-1) M1 hJ rfl (by unfold q_FU; omega) (by omega) (fun _ => rfl)
  · refine st_q hI (-1) ?_ ?_
    · unfold fX11_when
      rw [c_isCoin hI.1 h1, b_some, f_ite]
      refine w_ite (fun c1 => ?_) (fun _ => w_some.mpr ⟨rfl, hI.1⟩)
      rw [c_isStall hI.1 h2, b_some, f_ite]
      refine w_ite (fun c2 => ?_) (fun _ => w_some.mpr ⟨rfl, hI.1⟩)
      rw [n_w h3'.1 h3'.2, if_neg (by omega), if_neg (by omega)]
      exact w_some.mpr ⟨rfl, hI.1⟩
    · intro M1 hJ
      unfold fX12_when
      rw [r_isCoin hJ h1, b_some, f_ite]
      refine w_ite (fun c1 => ?_) (fun _ => w_some.mpr ⟨rfl, hJ⟩)
      rw [r_isStall hJ h2, b_some, f_ite]
      refine w_ite (fun c2 => ?_) (fun _ => w_some.mpr ⟨rfl, hJ⟩)
      rw [f_isInW h3 (by decide) (by decide) (by decide) (by decide), b_some, f_ite]
      exact w_ite (fun c3 => absurd ⟨c1, c2, c3⟩ c) (fun _ => w_some.mpr ⟨rfl, hJ⟩)
theorem c_odd {t : Nat} {L A : q_G} {c s u : Nat} (hc : (c : Int) < A 123 4) (hs : (s : Int) < A 123 3) (hu : (u : Int) < A 123 3) : ∀ (n k m : Nat) (M : q_Mem), q_J t M L A → k = (A 122 3 + 1 - (m : Int)).toNat → k < n → (m : Int) ≤ A 122 3 + 1 → q_P (fX11_odd_40 n (c : Int) (s : Int) (u : Int) (m : Int) M) (fun r M' => r = s_find (fun m => s_buys A c s m && !s_buys A c u m) k m ∧ q_J t M' L A) := by
  intro n
  induction n with
  | zero => intro k m M _ _ h; omega
  | succ n ih =>
    intro k m M hJ hk hn hm
    have w := j_wf hJ
    rw [fX11_odd_40]
    simp only [q_let]
    rw [j_told hJ, (j_f hJ).1, n_w (by omega) (by omega), n_w (a := (m : Int)) (by omega) (by omega)]
    by_cases c1 : A 122 3 < (m : Int)
    · have : k = 0 := by omega
      subst this
      rw [if_pos c1, s_find]
      exact w_some.mpr ⟨rfl, hJ⟩
    · obtain ⟨k', rfl⟩ : ∃ k', k = k' + 1 := ⟨k - 1, by omega⟩
      rw [if_neg c1, s_find]
      refine w_call (c_pays hJ hc hs (by omega)) ?_
      rintro r M1 ⟨rfl, hJ1⟩
      rw [f_ite]
      unfold fX11_odd_83
      have e : (m : Int) + 1 = ((m + 1 : Nat) : Int) := by omega
      rw [e]
      by_cases c2 : s_buys A c s m = true
      · rw [if_pos c2, c2, Bool.true_and]
        refine w_call (c_pays hJ1 hc hu (by omega)) ?_
        rintro r M2 ⟨rfl, hJ2⟩
        rw [f_ite]
        by_cases c3 : s_buys A c u m = true
        · rw [if_pos c3, c3, if_neg (by decide)]
          exact ih k' (m + 1) M2 hJ2 (by omega) (by omega) (by omega)
        · rw [if_neg c3, Bool.not_eq_true] at *
          rw [c3, if_pos (by decide)]
          exact w_some.mpr ⟨rfl, hJ2⟩
      · rw [if_neg c2]
        rw [Bool.not_eq_true] at c2
        rw [c2, Bool.false_and, if_neg (by decide)]
        exact ih k' (m + 1) M1 hJ1 (by omega) (by omega) (by omega)
theorem r_odd {t : Nat} {L A : q_G} {c s u : Nat} (hc : (c : Int) < A 123 4) (hs : (s : Int) < A 123 3) (hu : (u : Int) < A 123 3) : ∀ (n k m : Nat) (M : q_Mem), q_J t M L A → k = (A 122 3 + 1 - (m : Int)).toNat → k < n → (m : Int) ≤ A 122 3 + 1 → q_P (fX12_odd_41 n (c : Int) (s : Int) (u : Int) (m : Int) M) (fun r M' => r = s_find (fun m => s_buys A c s m && !s_buys A c u m) k m ∧ q_J t M' L A) := by
  intro n
  induction n with
  | zero => intro k m M _ _ h; omega
  | succ n ih =>
    intro k m M hJ hk hn hm
    have w := j_wf hJ
    rw [fX12_odd_41, r_fm hJ, b_some, n_w (by omega) (by omega), n_w (a := (m : Int)) (by omega) (by omega)]
    by_cases c1 : A 122 3 < (m : Int)
    · have : k = 0 := by omega
      subst this
      rw [if_pos c1, s_find]
      exact w_some.mpr ⟨rfl, hJ⟩
    · obtain ⟨k', rfl⟩ : ∃ k', k = k' + 1 := ⟨k - 1, by omega⟩
      rw [if_neg c1, s_find]
      refine w_call (r_buys hJ hc hs ⟨by omega, by omega⟩) ?_
      rintro r M1 ⟨rfl, hJ1⟩
      rw [f_ite]
      unfold fX12_odd_75
      have e : (m : Int) + 1 = ((m + 1 : Nat) : Int) := by omega
      rw [e]
      by_cases c2 : s_buys A c s m = true
      · rw [if_pos c2, c2, Bool.true_and]
        refine w_call (r_buys hJ1 hc hu ⟨by omega, by omega⟩) ?_
        rintro r M2 ⟨rfl, hJ2⟩
        rw [f_ite]
        by_cases c3 : s_buys A c u m = true
        · rw [if_pos c3, c3, if_neg (by decide)]
          exact ih k' (m + 1) M2 hJ2 (by omega) (by omega) (by omega)
        · rw [if_neg c3, Bool.not_eq_true] at *
          rw [c3, if_pos (by decide)]
          exact w_some.mpr ⟨rfl, hJ2⟩
      · rw [if_neg c2]
        rw [Bool.not_eq_true] at c2
        rw [c2, Bool.false_and, if_neg (by decide)]
        exact ih k' (m + 1) M1 hJ1 (by omega) (by omega) (by omega)
theorem st_odd {M : q_Mem} (hS : q_St M) (x1 x2 x3 : Int) (h1 : q_R x1) (h2 : q_R x2) (h3 : q_R x3) : q_Step M (fX11_odd x1 x2 x3 M) (fun M1 => fX12_odd x1 x2 x3 M1) := by
  obtain ⟨t, L, A, hI⟩ := id hS
  have w := j_wf hI.1
  have db := j_db hI.1
  have h2' := h2
  have h3' := h3
  unfold q_R at h2' h3'
  by_cases c : (0 ≤ x1 ∧ x1 < A 123 4) ∧ (0 ≤ x2 ∧ x2 < A 123 3) ∧ (0 ≤ x3 ∧ x3 < A 123 3) ∧ x2 ≠ x3
  · obtain ⟨a, rfl, ha⟩ := nat_of c.1
    obtain ⟨b, rfl, hb⟩ := nat_of c.2.1
    obtain ⟨u, rfl, hu⟩ := nat_of c.2.2.1
    obtain ⟨m, hm, hm2⟩ := nat_of' db.1
    refine st_q hI (s_find (fun m => s_buys A a b m && !s_buys A a u m) (A 122 3 + 1 - (m : Int)).toNat m) ?_ ?_
    · unfold fX11_odd
      rw [c_isCoin hI.1 h1, b_some, f_ite, if_pos c.1, c_isStall hI.1 h2, b_some, f_ite, if_pos c.2.1, c_isStall hI.1 h3, b_some, f_ite, if_pos c.2.2.1, n_w h2'.1 h2'.2, n_w h3'.1 h3'.2, if_neg c.2.2.2]
      simp only [q_let]
      rw [(j_d hI.1).1, hm]
      exact c_odd ha hb hu q_FU _ m M hI.1 rfl (by unfold q_FU; omega) (by omega)
    · intro M1 hJ
      unfold fX12_odd
      rw [r_isCoin hJ h1, b_some, f_ite, if_pos c.1, r_isStall hJ h2, b_some, f_ite, if_pos c.2.1, r_isStall hJ h3, b_some, f_ite, if_pos c.2.2.1, n_w h2'.1 h2'.2, n_w h3'.1 h3'.2, if_neg c.2.2.2, r_ld131 hJ (by decide) (by decide), Option.bind_some, show (0 : Int).toNat = 0 from rfl, hm]
      exact r_odd ha hb hu q_FU _ m M1 hJ rfl (by unfold q_FU; omega) (by omega)
  · refine st_q hI (-1) ?_ ?_
    · unfold fX11_odd
      rw [c_isCoin hI.1 h1, b_some, f_ite]
      refine w_ite (fun c1 => ?_) (fun _ => w_some.mpr ⟨rfl, hI.1⟩)
      rw [c_isStall hI.1 h2, b_some, f_ite]
      refine w_ite (fun c2 => ?_) (fun _ => w_some.mpr ⟨rfl, hI.1⟩)
      rw [c_isStall hI.1 h3, b_some, f_ite]
      refine w_ite (fun c3 => ?_) (fun _ => w_some.mpr ⟨rfl, hI.1⟩)
      rw [n_w h2'.1 h2'.2, n_w h3'.1 h3'.2, if_pos (by omega)]
      exact w_some.mpr ⟨rfl, hI.1⟩
    · intro M1 hJ
      unfold fX12_odd
      rw [r_isCoin hJ h1, b_some, f_ite]
      refine w_ite (fun c1 => ?_) (fun _ => w_some.mpr ⟨rfl, hJ⟩)
      rw [r_isStall hJ h2, b_some, f_ite]
      refine w_ite (fun c2 => ?_) (fun _ => w_some.mpr ⟨rfl, hJ⟩)
      rw [r_isStall hJ h3, b_some, f_ite]
      refine w_ite (fun c3 => ?_) (fun _ => w_some.mpr ⟨rfl, hJ⟩)
      rw [n_w h2'.1 h2'.2, n_w h3'.1 h3'.2, if_pos (by omega)]
      exact w_some.mpr ⟨rfl, hJ⟩
