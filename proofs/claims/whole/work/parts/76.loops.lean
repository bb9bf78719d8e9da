/-! chalked, minutes, lamps -/
def s_hin (f : Nat → Nat → Int) (le : Int) (m : Nat) : Nat → Nat → List (Nat × Nat)
  | 0, _ => []
  | k + 1, c => if q_w (f m c) = q_w le then (m, c) :: s_hin f le m k (c + 1) else s_hin f le m k (c + 1)
def s_hout (f : Nat → Nat → Int) (le : Int) (C : Nat) : Nat → Nat → List (Nat × Nat)
  | 0, _ => []
  | k + 1, m => s_hin f le m C 0 ++ s_hout f le C k (m + 1)
def s_ck (wh x4 : Int) (hits : List (Nat × Nat)) : Int := if q_w wh = 0 then x4 + (hits.length : Int) else (match hits with
  | [] => -1
  | p :: _ => if q_w wh = q_w 1 then (p.1 : Int) else (p.2 : Int))
def s_ck2 (wh x4 x5 x6 : Int) (hits : List (Nat × Nat)) : Int := if q_w wh = 0 then x4 + (hits.length : Int) else if x5 = -1 then (match hits with
  | [] => if q_w wh = q_w 1 then x5 else x6
  | p :: _ => if q_w wh = q_w 1 then (p.1 : Int) else (p.2 : Int)) else if q_w wh = q_w 1 then x5 else x6
theorem c_ckin {t : Nat} {L A : q_G} {s m : Nat} {le wh : Int} (hs : (s : Int) < A 123 3) (hm : (m : Int) ≤ A 122 3) {K : Int → Int → Int → Int → Int → q_Mem → Option (Int × q_Mem)} {rest : List (Nat × Nat)} (hK : ∀ x4 M', q_J t M' L A → q_P (K (s : Int) le wh x4 ((m : Int) + 1) M') (fun r M' => r = s_ck wh x4 rest ∧ q_J t M' L A)) : ∀ (n k c : Nat) (x4 : Int) (M : q_Mem), q_J t M L A → k = (A 123 4 - (c : Int)).toNat → k < n → (c : Int) ≤ A 123 4 → q_P (fX11_chalked_51 K n (s : Int) le wh x4 (m : Int) (c : Int) M) (fun r M' => r = s_ck wh x4 (s_hin (fun m c => s_shadow A c s m) le m k c ++ rest) ∧ q_J t M' L A) := by
  intro n
  induction n with
  | zero => intro k c x4 M _ _ h; omega
  | succ n ih =>
    intro k c x4 M hJ hk hn hc
    have w := j_wf hJ
    rw [fX11_chalked_51]
    simp only [q_let]
    rw [j_told hJ, (j_f hJ).2.2.1, n_w (a := (c : Int)) (by omega) (by omega), n_w (a := A 123 4) (by omega) (by omega)]
    by_cases c1 : (c : Int) < A 123 4
    · obtain ⟨k', rfl⟩ : ∃ k', k = k' + 1 := ⟨k - 1, by omega⟩
      rw [if_pos c1, s_hin]
      refine w_call (c_len hJ c1 hs hm) ?_
      rintro r M1 ⟨rfl, hJ1⟩
      unfold fX11_chalked_99
      have e : (c : Int) + 1 = ((c + 1 : Nat) : Int) := by omega
      rw [e]
      by_cases c2 : q_w (s_shadow A c s m) = q_w le
      · rw [if_pos c2, if_pos c2]
        by_cases c3 : q_w wh = 0
        · rw [if_pos c3]
          refine w_mono (ih k' (c + 1) (x4 + 1) M1 hJ1 (by omega) (by omega) (by omega)) ?_
          rintro r M2 ⟨rfl, hJ2⟩
          refine ⟨?_, hJ2⟩
          unfold s_ck
          rw [if_pos c3, if_pos c3, List.cons_append, List.length_cons]
          omega
        · rw [if_neg c3]
          have e2 : s_ck wh x4 (((m, c) :: s_hin (fun m c => s_shadow A c s m) le m k' (c + 1)) ++ rest) = if q_w wh = q_w 1 then (m : Int) else (c : Int) := by
            unfold s_ck
            rw [if_neg c3]
            rfl
          rw [e2]
          exact w_ite (fun c4 => w_some.mpr ⟨by rw [if_pos c4], hJ1⟩) (fun c4 => w_some.mpr ⟨by rw [if_neg c4], hJ1⟩)
      · rw [if_neg c2, if_neg c2]
        exact ih k' (c + 1) x4 M1 hJ1 (by omega) (by omega) (by omega)
    · have : k = 0 := by omega
      subst this
      rw [if_neg c1, s_hin, List.nil_append]
      exact hK x4 M hJ
theorem c_ckout {t : Nat} {L A : q_G} {s : Nat} {le wh : Int} (hs : (s : Int) < A 123 3) : ∀ (n k m : Nat) (x4 : Int) (M : q_Mem), q_J t M L A → k = (A 122 3 + 1 - (m : Int)).toNat → k < n → (m : Int) ≤ A 122 3 + 1 → q_P (fX11_chalked_36 n (s : Int) le wh x4 (m : Int) M) (fun r M' => r = s_ck wh x4 (s_hout (fun m c => s_shadow A c s m) le (A 123 4).toNat k m) ∧ q_J t M' L A) := by
  intro n
  induction n with
  | zero => intro k m x4 M _ _ h; omega
  | succ n ih =>
    intro k m x4 M hJ hk hn hm
    have w := j_wf hJ
    rw [fX11_chalked_36]
    simp only [q_let]
    rw [j_told hJ, (j_f hJ).1, n_w (a := (m : Int)) (by omega) (by omega), n_w (a := A 122 3) (by omega) (by omega)]
    by_cases c1 : A 122 3 < (m : Int)
    · have : k = 0 := by omega
      subst this
      rw [if_pos c1, s_hout]
      unfold s_ck
      exact w_ite (fun c4 => w_some.mpr ⟨by rw [if_pos c4]; simp, hJ⟩) (fun c4 => w_some.mpr ⟨by rw [if_neg c4], hJ⟩)
    · obtain ⟨k', rfl⟩ : ∃ k', k = k' + 1 := ⟨k - 1, by omega⟩
      rw [if_neg c1, s_hout]
      refine c_ckin hs (by omega) ?_ q_FU (A 123 4).toNat 0 x4 M hJ (by omega) (by unfold q_FU; omega) (by omega)
      intro x4' M' hJ'
      have e : (m : Int) + 1 = ((m + 1 : Nat) : Int) := by omega
      rw [e]
      exact ih k' (m + 1) x4' M' hJ' (by omega) (by omega) (by omega)
theorem r_ckin {t : Nat} {L A : q_G} {s m : Nat} {le wh : Int} (hs : (s : Int) < A 123 3) (hm : (m : Int) ≤ A 122 3) {K : Int → Int → Int → Int → Int → Int → Int → q_Mem → Option (Int × q_Mem)} {rest : List (Nat × Nat)} (hK : ∀ x4 x5 x6 M', q_J t M' L A → -1 ≤ x5 ∧ x5 ≤ 400 → q_P (K (s : Int) le wh x4 x5 x6 ((m : Int) + 1) M') (fun r M' => r = s_ck2 wh x4 x5 x6 rest ∧ q_J t M' L A)) : ∀ (n k c : Nat) (x4 x5 x6 : Int) (M : q_Mem), q_J t M L A → k = (A 123 4 - (c : Int)).toNat → k < n → (c : Int) ≤ A 123 4 → -1 ≤ x5 ∧ x5 ≤ 400 → q_P (fX12_chalked_59 K n (s : Int) le wh x4 x5 x6 (m : Int) (c : Int) M) (fun r M' => r = s_ck2 wh x4 x5 x6 (s_hin (fun m c => s_shadow A c s m) le m k c ++ rest) ∧ q_J t M' L A) := by
  intro n
  induction n with
  | zero => intro k c x4 x5 x6 M _ _ h; omega
  | succ n ih =>
    intro k c x4 x5 x6 M hJ hk hn hc h5
    have w := j_wf hJ
    rw [fX12_chalked_59, r_cm hJ, b_some, n_w (a := (c : Int)) (by omega) (by omega), n_w (a := A 123 4) (by omega) (by omega)]
    by_cases c1 : (c : Int) < A 123 4
    · obtain ⟨k', rfl⟩ : ∃ k', k = k' + 1 := ⟨k - 1, by omega⟩
      rw [if_pos c1, s_hin]
      refine w_call (r_shadow hJ c1 hs ⟨by omega, by omega⟩) ?_
      rintro r M1 ⟨rfl, hJ1⟩
      unfold fX12_chalked_104
      have e : (c : Int) + 1 = ((c + 1 : Nat) : Int) := by omega
      rw [e, n_w (a := x5) (by omega) (by omega), show q_w (-1) = -1 from rfl]
      by_cases c2 : q_w (s_shadow A c s m) = q_w le
      · rw [if_pos c2, if_pos c2]
        by_cases c3 : x5 = -1
        · rw [if_pos c3]
          refine w_mono (ih k' (c + 1) (x4 + 1) (m : Int) (c : Int) M1 hJ1 (by omega) (by omega) (by omega) (by omega)) ?_
          rintro r M2 ⟨rfl, hJ2⟩
          refine ⟨?_, hJ2⟩
          unfold s_ck2
          rw [List.cons_append, List.length_cons, if_pos c3, if_neg (by omega : ¬ (m : Int) = -1)]
          by_cases c4 : q_w wh = 0
          · rw [if_pos c4, if_pos c4]
            omega
          · rw [if_neg c4, if_neg c4]
        · rw [if_neg c3]
          refine w_mono (ih k' (c + 1) (x4 + 1) x5 x6 M1 hJ1 (by omega) (by omega) (by omega) h5) ?_
          rintro r M2 ⟨rfl, hJ2⟩
          refine ⟨?_, hJ2⟩
          unfold s_ck2
          rw [List.cons_append, List.length_cons, if_neg c3, if_neg c3]
          by_cases c4 : q_w wh = 0
          · rw [if_pos c4, if_pos c4]
            omega
          · rw [if_neg c4, if_neg c4]
      · rw [if_neg c2, if_neg c2]
        exact ih k' (c + 1) x4 x5 x6 M1 hJ1 (by omega) (by omega) (by omega) h5
    · have : k = 0 := by omega
      subst this
      rw [if_neg c1, s_hin, List.nil_append]
      exact hK x4 x5 x6 M hJ h5
theorem r_ckout {t : Nat} {L A : q_G} {s : Nat} {le wh : Int} (hs : (s : Int) < A 123 3) : ∀ (n k m : Nat) (x4 x5 x6 : Int) (M : q_Mem), q_J t M L A → k = (A 122 3 + 1 - (m : Int)).toNat → k < n → (m : Int) ≤ A 122 3 + 1 → -1 ≤ x5 ∧ x5 ≤ 400 → q_P (fX12_chalked_47 n (s : Int) le wh x4 x5 x6 (m : Int) M) (fun r M' => r = s_ck2 wh x4 x5 x6 (s_hout (fun m c => s_shadow A c s m) le (A 123 4).toNat k m) ∧ q_J t M' L A) := by
  intro n
  induction n with
  | zero => intro k m x4 x5 x6 M _ _ h; omega
  | succ n ih =>
    intro k m x4 x5 x6 M hJ hk hn hm h5
    have w := j_wf hJ
    rw [fX12_chalked_47, r_fm hJ, b_some, n_w (a := (m : Int)) (by omega) (by omega), n_w (a := A 122 3) (by omega) (by omega)]
    by_cases c1 : A 122 3 < (m : Int)
    · have : k = 0 := by omega
      subst this
      rw [if_pos c1, s_hout]
      unfold s_ck2
      by_cases c4 : q_w wh = 0
      · rw [if_pos c4, if_pos c4]
        exact w_some.mpr ⟨by simp, hJ⟩
      · rw [if_neg c4, if_neg c4]
        by_cases c5 : x5 = -1
        · rw [if_pos c5]
          exact w_ite (fun c6 => w_some.mpr ⟨by simp [c6], hJ⟩) (fun c6 => w_some.mpr ⟨by simp [c6], hJ⟩)
        · rw [if_neg c5]
          exact w_ite (fun c6 => w_some.mpr ⟨by rw [if_pos c6], hJ⟩) (fun c6 => w_some.mpr ⟨by rw [if_neg c6], hJ⟩)
    · obtain ⟨k', rfl⟩ : ∃ k', k = k' + 1 := ⟨k - 1, by omega⟩
      rw [if_neg c1, s_hout]
      refine r_ckin hs (by omega) ?_ q_FU (A 123 4).toNat 0 x4 x5 x6 M hJ (by omega) (by unfold q_FU; omega) (by omega) h5
      intro x4' x5' x6' M' hJ' h5'
      have e : (m : Int) + 1 = ((m + 1 : Nat) : Int) := by omega
      rw [e]
      exact ih k' (m + 1) x4' x5' x6' M' hJ' (by omega) (by omega) (by omega) h5'
theorem st_chalked {M : q_Mem} (hS : q_St M) (x1 x2 x3 : Int) (h1 : q_R x1) (h2 : q_R x2) (h3 : q_R x3) : q_Step M (fX11_chalked x1 x2 x3 M) (fun M1 => fX12_chalked x1 x2 x3 M1) := by
  obtain ⟨t, L, A, hI⟩ := id hS
  have w := j_wf hI.1
  have h2' := h2
  have h3' := h3
  unfold q_R at h2' h3'
  by_cases c : (0 ≤ x1 ∧ x1 < A 123 3) ∧ (0 ≤ x2 ∧ x2 ≤ 999) ∧ (0 ≤ x3 ∧ x3 ≤ 2)
  · obtain ⟨s, rfl, hs⟩ := nat_of c.1
    refine st_q hI (s_ck x3 0 (s_hout (fun m c => s_shadow A c s m) x2 (A 123 4).toNat (A 122 3 + 1 - ((0 : Nat) : Int)).toNat 0)) ?_ ?_
    · unfold fX11_chalked
      rw [c_isStall hI.1 h1, b_some, f_ite, if_pos c.1, n_w h2'.1 h2'.2, n_w h3'.1 h3'.2, show q_w 999 = 999 from rfl, show q_w 2 = 2 from rfl, if_neg (by omega), if_neg (by omega), if_neg (by omega), if_neg (by omega)]
      exact c_ckout hs q_FU _ 0 0 M hI.1 rfl (by unfold q_FU; omega) (by omega)
    · intro M1 hJ
      unfold fX12_chalked
      rw [r_isStall hJ h1, b_some, f_ite, if_pos c.1, f_isInW h2 (by decide) (by decide) (by decide) (by decide), b_some, f_ite, if_pos c.2.1, f_isInW h3 (by decide) (by decide) (by decide) (by decide), b_some, f_ite, if_pos c.2.2]
      refine w_mono (r_ckout hs q_FU _ 0 0 (-1) (-1) M1 hJ rfl (by unfold q_FU; omega) (by omega) (by decide)) ?_
      rintro r M2 ⟨rfl, hJ2⟩
      refine ⟨?_, hJ2⟩
      unfold s_ck2 s_ck
      rw [if_pos (show (-1 : Int) = -1 from rfl)]
      cases s_hout (fun m c => s_shadow A c s m) x2 (A 123 4).toNat (A 122 3 + 1 - ((0 : Nat) : Int)).toNat 0 with
      | nil => simp
      | cons p l => rfl
  · refine st_q hI (-1) ?_ ?_
    · unfold fX11_chalked
      rw [c_isStall hI.1 h1, b_some, f_ite]
      refine w_ite (fun c1 => ?_) (fun _ => w_some.mpr ⟨rfl, hI.1⟩)
      rw [n_w h2'.1 h2'.2, n_w h3'.1 h3'.2, show q_w 999 = 999 from rfl, show q_w 2 = 2 from rfl]
      refine w_ite (fun _ => w_some.mpr ⟨rfl, hI.1⟩) (fun c2 => ?_)
      refine w_ite (fun _ => w_some.mpr ⟨rfl, hI.1⟩) (fun c3 => ?_)
      refine w_ite (fun _ => w_some.mpr ⟨rfl, hI.1⟩) (fun c4 => ?_)
      refine w_ite (fun _ => w_some.mpr ⟨rfl, hI.1⟩) (fun c5 => ?_)
      exact absurd ⟨c1, by omega, by omega⟩ c
    · intro M1 hJ
      unfold fX12_chalked
      rw [r_isStall hJ h1, b_some, f_ite]
      refine w_ite (fun c1 => ?_) (fun _ => w_some.mpr ⟨rfl, hJ⟩)
      rw [f_isInW h2 (by decide) (by decide) (by decide) (by decide), b_some, f_ite]
      refine w_ite (fun c2 => ?_) (fun _ => w_some.mpr ⟨rfl, hJ⟩)
      rw [f_isInW h3 (by decide) (by decide) (by decide) (by decide), b_some, f_ite]
      exact w_ite (fun c3 => absurd ⟨c1, c2, c3⟩ c) (fun _ => w_some.mpr ⟨rfl, hJ⟩)
/-- the rows that are not so -/
def s_wr (A : q_G) (m : Nat) : Nat → Nat → Int → Int
  | 0, _, acc => acc
  | k + 1, i, acc => s_wr A m k (i + 1) (if q_w (s_shadow A (A 138 (3 * i)) (A 138 (3 * i + 1)) m) = q_w (A 138 (3 * i + 2)) then acc else q_or acc (q_shl 1 (i : Int)))
theorem wr_b (A : q_G) (m : Nat) : ∀ (k i n : Nat), i + k ≤ 16 → n < 2 ^ i → 0 ≤ s_wr A m k i (n : Int) ∧ s_wr A m k i (n : Int) < 65536 := by
  intro k
  induction k with
  | zero =>
    intro i n hi hn
    have : 2 ^ i ≤ 2 ^ 16 := Nat.pow_le_pow_right (by decide) (by omega)
    rw [s_wr]
    have e : (2 : Nat) ^ 16 = 65536 := by decide
    omega
  | succ k ih =>
    intro i n hi hn
    have h1 : 2 ^ (i + 1) = 2 * 2 ^ i := by rw [Nat.pow_succ]; omega
    have h2 : 2 ^ i ≤ 2 ^ 15 := Nat.pow_le_pow_right (by decide) (by omega)
    have e15 : (2 : Nat) ^ 15 = 32768 := by decide
    rw [s_wr]
    by_cases c : q_w (s_shadow A (A 138 (3 * i)) (A 138 (3 * i + 1)) m) = q_w (A 138 (3 * i + 2))
    · rw [if_pos c]
      exact ih (i + 1) n (by omega) (by omega)
    · rw [if_neg c]
      have hp : ((2 ^ i : Nat) : Int) = 2 ^ i := by rw [Int.natCast_pow]; rfl
      have e2 : q_shl 1 (i : Int) = ((2 ^ i : Nat) : Int) := by
        rw [n_shl (by decide) (by omega) (by omega) (by rw [Int.toNat_natCast, Int.one_mul, ← hp]; omega) (by decide), Int.toNat_natCast, Int.one_mul, hp]
      rw [e2, n_orN (by omega) (by omega)]
      exact ih (i + 1) (n ||| 2 ^ i) (by omega) (Nat.or_lt_two_pow (by omega) (by omega))
def s_seen (L A : q_G) : Prop := L 36 0 = A 94 62 ∧ (0 ≤ A 94 62 ∧ A 94 62 ≤ 16) ∧ ∀ k : Nat, (k : Int) < A 94 62 → (L 37 k = A 138 (3 * k) ∧ 0 ≤ A 138 (3 * k) ∧ A 138 (3 * k) < A 123 4) ∧ (L 38 k = A 138 (3 * k + 1) ∧ 0 ≤ A 138 (3 * k + 1) ∧ A 138 (3 * k + 1) < A 123 3) ∧ (L 39 k = A 138 (3 * k + 2) ∧ 0 ≤ A 138 (3 * k + 2) ∧ A 138 (3 * k + 2) ≤ 65535)
theorem c_wr {t : Nat} {L A : q_G} (hs : s_seen L A) {m : Nat} (hm : (m : Int) ≤ A 122 3) : ∀ (n k i : Nat) (acc : Int) (M : q_Mem), q_J t M L A → k = (A 94 62 - (i : Int)).toNat → k < n → (i : Int) ≤ A 94 62 → q_P (fX9_wrongRows_5 n (m : Int) acc (i : Int) M) (fun r M' => r = s_wr A m k i acc ∧ q_J t M' L A) := by
  obtain ⟨s1, s2, s3⟩ := hs
  intro n
  induction n with
  | zero => intro k i acc M _ _ h; omega
  | succ n ih =>
    intro k i acc M hJ hk hn hi
    rw [fX9_wrongRows_5, hJ.1 36 0 rfl, s1, n_w (a := (i : Int)) (by omega) (by omega), n_w (a := A 94 62) (by omega) (by omega)]
    by_cases c1 : (i : Int) < A 94 62
    · obtain ⟨k', rfl⟩ : ∃ k', k = k' + 1 := ⟨k - 1, by omega⟩
      obtain ⟨⟨a1, a2, a3⟩, ⟨b1, b2, b3⟩, d1, d2, d3⟩ := s3 i c1
      rw [if_pos c1, s_wr, b_ld (by omega) (by omega) (by decide), Option.bind_some, b_ld (by omega) (by omega) (by decide), Option.bind_some, Int.toNat_natCast, hJ.1 37 i rfl, hJ.1 38 i rfl, a1, b1]
      obtain ⟨c', hc', hc2⟩ := nat_of ⟨a2, a3⟩
      obtain ⟨s', hs', hs2⟩ := nat_of ⟨b2, b3⟩
      rw [hc', hs']
      refine w_call (c_len hJ hc2 hs2 hm) ?_
      rintro r M1 ⟨rfl, hJ1⟩
      rw [b_ld (by omega) (by omega) (by decide), Option.bind_some, Int.toNat_natCast, hJ1.1 39 i rfl, d1]
      unfold fX9_wrongRows_50
      have e : (i : Int) + 1 = ((i + 1 : Nat) : Int) := by omega
      rw [e]
      by_cases c2 : q_w (s_shadow A c' s' m) = q_w (A 138 (3 * i + 2))
      · rw [if_pos c2, if_pos c2]
        exact ih k' (i + 1) acc M1 hJ1 (by omega) (by omega) (by omega)
      · rw [if_neg c2, if_neg c2]
        exact ih k' (i + 1) _ M1 hJ1 (by omega) (by omega) (by omega)
    · have : k = 0 := by omega
      subst this
      rw [if_neg c1, s_wr]
      exact w_some.mpr ⟨rfl, hJ⟩
theorem r_wr {t : Nat} {L A : q_G} (hs : s_seen L A) {m : Nat} (hm : (m : Int) ≤ A 122 3) : ∀ (n k i : Nat) (acc : Int) (M : q_Mem), q_J t M L A → k = (A 94 62 - (i : Int)).toNat → k < n → (i : Int) ≤ A 94 62 → q_P (fX12_lampsIn_4 n (m : Int) acc (i : Int) M) (fun r M' => r = s_wr A m k i acc ∧ q_J t M' L A) := by
  obtain ⟨s1, s2, s3⟩ := hs
  intro n
  induction n with
  | zero => intro k i acc M _ _ h; omega
  | succ n ih =>
    intro k i acc M hJ hk hn hi
    have w := j_wf hJ
    rw [fX12_lampsIn_4, hJ.2.1 94 62 rfl, n_w (a := (i : Int)) (by omega) (by omega), n_w (a := A 94 62) (by omega) (by omega)]
    by_cases c1 : (i : Int) < A 94 62
    · obtain ⟨k', rfl⟩ : ∃ k', k = k' + 1 := ⟨k - 1, by omega⟩
      obtain ⟨⟨a1, a2, a3⟩, ⟨b1, b2, b3⟩, d1, d2, d3⟩ := s3 i c1
      rw [if_pos c1, s_wr, b_ld (by omega) (by omega) (by decide), Option.bind_some, b_ld (by omega) (by omega) (by decide), Option.bind_some, show ((3 : Int) * (i : Int)).toNat = 3 * i from by omega, show ((3 : Int) * (i : Int) + 1).toNat = 3 * i + 1 from by omega, hJ.2.1 138 _ rfl, hJ.2.1 138 _ rfl]
      obtain ⟨c', hc', hc2⟩ := nat_of ⟨a2, a3⟩
      obtain ⟨s', hs', hs2⟩ := nat_of ⟨b2, b3⟩
      rw [hc', hs']
      refine w_call (r_shadow hJ hc2 hs2 ⟨by omega, by omega⟩) ?_
      rintro r M1 ⟨rfl, hJ1⟩
      rw [b_ld (by omega) (by omega) (by decide), Option.bind_some, show ((3 : Int) * (i : Int) + 2).toNat = 3 * i + 2 from by omega, hJ1.2.1 138 _ rfl]
      unfold fX12_lampsIn_54
      have e : (i : Int) + 1 = ((i + 1 : Nat) : Int) := by omega
      rw [e]
      by_cases c2 : q_w (s_shadow A c' s' m) = q_w (A 138 (3 * i + 2))
      · rw [if_pos c2, if_pos c2]
        exact ih k' (i + 1) acc M1 hJ1 (by omega) (by omega) (by omega)
      · rw [if_neg c2, if_neg c2]
        exact ih k' (i + 1) _ M1 hJ1 (by omega) (by omega) (by omega)
    · have : k = 0 := by omega
      subst this
      rw [if_neg c1, s_wr]
      exact w_some.mpr ⟨rfl, hJ⟩
def s_wrong (A : q_G) (m : Nat) : Int := s_wr A m (A 94 62).toNat 0 0
theorem wrong_b {L A : q_G} (hs : s_seen L A) (m : Nat) : 0 ≤ s_wrong A m ∧ s_wrong A m < 65536 := wr_b A m _ 0 0 (by have := hs.2.1; omega) (by decide)
theorem c_wrong {t : Nat} {M : q_Mem} {L A : q_G} (hs : s_seen L A) (h : q_J t M L A) {m : Nat} (hm : (m : Int) ≤ A 122 3) : q_P (fX9_wrongRows (m : Int) M) (fun r M' => r = s_wrong A m ∧ q_J t M' L A) := c_wr hs hm q_FU _ 0 0 M h (by simp) (by have := hs.2.1; unfold q_FU; omega) (by have := hs.2.1; omega)
theorem r_wrong {t : Nat} {M : q_Mem} {L A : q_G} (hs : s_seen L A) (h : q_J t M L A) {m : Nat} (hm : (m : Int) ≤ A 122 3) : q_P (fX12_lampsIn (m : Int) M) (fun r M' => r = s_wrong A m ∧ q_J t M' L A) := r_wr hs hm q_FU _ 0 0 M h (by simp) (by have := hs.2.1; unfold q_FU; omega) (by have := hs.2.1; omega)
def s_min (g : Nat → Int) (wh : Int) : Nat → Int → Int → Int → Nat → Int
  | 0, x2, x3, x4, _ => if q_w wh = 0 then x2 else if q_w wh = q_w 1 then x3 else x4
  | k + 1, x2, x3, x4, m => if q_w (g m) = 0 then s_min g wh k (x2 + 1) (if q_w x3 = q_w (-1) then (m : Int) else x3) (m : Int) (m + 1) else s_min g wh k x2 x3 x4 (m + 1)
theorem c_min {t : Nat} {L A : q_G} (hs : s_seen L A) {wh : Int} : ∀ (n k m : Nat) (x2 x3 x4 : Int) (M : q_Mem), q_J t M L A → k = (A 122 3 + 1 - (m : Int)).toNat → k < n → (m : Int) ≤ A 122 3 + 1 → q_P (fX11_minutes_31 n wh x2 x3 x4 (m : Int) M) (fun r M' => r = s_min (s_wrong A) wh k x2 x3 x4 m ∧ q_J t M' L A) := by
  intro n
  induction n with
  | zero => intro k m x2 x3 x4 M _ _ h; omega
  | succ n ih =>
    intro k m x2 x3 x4 M hJ hk hn hm
    have w := j_wf hJ
    rw [fX11_minutes_31]
    simp only [q_let]
    rw [j_told hJ, (j_f hJ).1, n_w (a := (m : Int)) (by omega) (by omega), n_w (a := A 122 3) (by omega) (by omega)]
    by_cases c1 : A 122 3 < (m : Int)
    · have : k = 0 := by omega
      subst this
      rw [if_pos c1, s_min]
      refine w_ite (fun c => w_some.mpr ⟨by rw [if_pos c], hJ⟩) (fun c => ?_)
      exact w_ite (fun c2 => w_some.mpr ⟨by rw [if_neg c, if_pos c2], hJ⟩) (fun c2 => w_some.mpr ⟨by rw [if_neg c, if_neg c2], hJ⟩)
    · obtain ⟨k', rfl⟩ : ∃ k', k = k' + 1 := ⟨k - 1, by omega⟩
      rw [if_neg c1, s_min]
      refine w_call (c_wrong hs hJ (by omega)) ?_
      rintro r M1 ⟨rfl, hJ1⟩
      unfold fX11_minutes_73 fX11_minutes_78
      have e : (m : Int) + 1 = ((m + 1 : Nat) : Int) := by omega
      rw [e]
      by_cases c2 : q_w (s_wrong A m) = 0
      · rw [if_pos c2, if_pos c2]
        by_cases c3 : q_w x3 = q_w (-1)
        · rw [if_pos c3, if_pos c3]
          exact ih k' (m + 1) _ _ _ M1 hJ1 (by omega) (by omega) (by omega)
        · rw [if_neg c3, if_neg c3]
          exact ih k' (m + 1) _ _ _ M1 hJ1 (by omega) (by omega) (by omega)
      · rw [if_neg c2, if_neg c2]
        exact ih k' (m + 1) _ _ _ M1 hJ1 (by omega) (by omega) (by omega)
theorem r_min {t : Nat} {L A : q_G} (hs : s_seen L A) {wh : Int} : ∀ (n k m : Nat) (x2 x3 x4 : Int) (M : q_Mem), q_J t M L A → k = (A 122 3 + 1 - (m : Int)).toNat → k < n → (m : Int) ≤ A 122 3 + 1 → q_P (fX12_minutes_31 n wh x2 x3 x4 (m : Int) M) (fun r M' => r = s_min (s_wrong A) wh k x2 x3 x4 m ∧ q_J t M' L A) := by
  intro n
  induction n with
  | zero => intro k m x2 x3 x4 M _ _ h; omega
  | succ n ih =>
    intro k m x2 x3 x4 M hJ hk hn hm
    have w := j_wf hJ
    rw [fX12_minutes_31, r_fm hJ, b_some, n_w (a := (m : Int)) (by omega) (by omega), n_w (a := A 122 3) (by omega) (by omega)]
    by_cases c1 : A 122 3 < (m : Int)
    · have : k = 0 := by omega
      subst this
      rw [if_pos c1, s_min]
      refine w_ite (fun c => w_some.mpr ⟨by rw [if_pos c], hJ⟩) (fun c => ?_)
      exact w_ite (fun c2 => w_some.mpr ⟨by rw [if_neg c, if_pos c2], hJ⟩) (fun c2 => w_some.mpr ⟨by rw [if_neg c, if_neg c2], hJ⟩)
    · obtain ⟨k', rfl⟩ : ∃ k', k = k' + 1 := ⟨k - 1, by omega⟩
      rw [if_neg c1, s_min]
      refine w_call (r_wrong hs hJ (by omega)) ?_
      rintro r M1 ⟨rfl, hJ1⟩
      unfold fX12_minutes_63 fX12_minutes_67
      have e : (m : Int) + 1 = ((m + 1 : Nat) : Int) := by omega
      rw [e]
      by_cases c2 : q_w (s_wrong A m) = 0
      · rw [if_pos c2, if_pos c2]
        by_cases c3 : q_w x3 = q_w (-1)
        · rw [if_pos c3, if_pos c3]
          exact ih k' (m + 1) _ _ _ M1 hJ1 (by omega) (by omega) (by omega)
        · rw [if_neg c3, if_neg c3]
          exact ih k' (m + 1) _ _ _ M1 hJ1 (by omega) (by omega) (by omega)
      · rw [if_neg c2, if_neg c2]
        exact ih k' (m + 1) _ _ _ M1 hJ1 (by omega) (by omega) (by omega)
theorem st_minutes {M : q_Mem} (hS : q_St M) (x1 : Int) (h1 : q_R x1) : q_Step M (fX11_minutes x1 M) (fun M1 => fX12_minutes x1 M1) := by
  obtain ⟨t, L, A, hI⟩ := id hS
  have hs : s_seen L A := hI.2.1.2.2.2.2.2.1
  have w := j_wf hI.1
  have wf := j_fair hI.1
  have h1' := h1
  unfold q_R at h1'
  by_cases c : A 94 47 = 1 ∧ (0 ≤ x1 ∧ x1 ≤ 2)
  · refine st_q hI (s_min (s_wrong A) x1 (A 122 3 + 1 - ((0 : Nat) : Int)).toNat 0 (-1) (-1) 0) ?_ ?_
    · unfold fX11_minutes
      simp only [q_let]
      rw [j_told hI.1, (j_f hI.1).1, n_w h1'.1 h1'.2, n_w (a := A 122 3) (by omega) (by omega), show q_w 2 = 2 from rfl, if_neg (by omega), if_neg (by omega), if_neg (by omega)]
      exact c_min hs q_FU _ 0 0 (-1) (-1) M hI.1 rfl (by unfold q_FU; omega) (by omega)
    · intro M1 hJ
      unfold fX12_minutes
      rw [hJ.2.1 94 47 rfl, c.1, if_neg (by decide), f_isInW h1 (by decide) (by decide) (by decide) (by decide), b_some, f_ite, if_pos c.2]
      exact r_min hs q_FU _ 0 0 (-1) (-1) M1 hJ rfl (by unfold q_FU; omega) (by omega)
  · refine st_q hI (-1) ?_ ?_
    · unfold fX11_minutes
      simp only [q_let]
      rw [j_told hI.1, (j_f hI.1).1, n_w h1'.1 h1'.2, n_w (a := A 122 3) (by omega) (by omega), show q_w 2 = 2 from rfl]
      refine w_ite (fun _ => w_some.mpr ⟨rfl, hI.1⟩) (fun c2 => ?_)
      refine w_ite (fun _ => w_some.mpr ⟨rfl, hI.1⟩) (fun c3 => ?_)
      rw [if_pos (by omega)]
      exact w_some.mpr ⟨rfl, hI.1⟩
    · intro M1 hJ
      unfold fX12_minutes
      rw [hJ.2.1 94 47 rfl]
      refine w_ite (fun _ => w_some.mpr ⟨rfl, hJ⟩) (fun c2 => ?_)
      have c3 : A 94 47 = 1 := by
        rcases wf with wf | wf
        · rw [wf.1] at c2
          exact absurd rfl c2
        · exact wf.1
      rw [f_isInW h1 (by decide) (by decide) (by decide) (by decide), b_some, f_ite, if_neg (fun h => c ⟨c3, h⟩)]
      exact w_some.mpr ⟨rfl, hJ⟩
def s_lmp (g : Nat → Int) (wh : Int) : Nat → Int → Int → Nat → Int
  | 0, x2, x3, _ => if q_w wh = 0 then q_pc x2 else if q_w wh = q_w 1 then x2 else x3
  | k + 1, x2, x3, m => if q_pc (g m) < q_pc x2 then s_lmp g wh k (g m) (m : Int) (m + 1) else s_lmp g wh k x2 x3 (m + 1)
theorem c_lmp {t : Nat} {L A : q_G} (hs : s_seen L A) {wh : Int} : ∀ (n k m : Nat) (x2 x3 : Int) (M : q_Mem), q_J t M L A → k = (A 122 3 + 1 - (m : Int)).toNat → k < n → (m : Int) ≤ A 122 3 + 1 → 0 ≤ x2 ∧ x2 < 65536 → q_P (fX11_lamps_39 n wh x2 x3 (m : Int) M) (fun r M' => r = s_lmp (s_wrong A) wh k x2 x3 m ∧ q_J t M' L A) := by
  intro n
  induction n with
  | zero => intro k m x2 x3 M _ _ h; omega
  | succ n ih =>
    intro k m x2 x3 M hJ hk hn hm h2
    have w := j_wf hJ
    rw [fX11_lamps_39]
    simp only [q_let]
    rw [j_told hJ, (j_f hJ).1, n_w (a := (m : Int)) (by omega) (by omega), n_w (a := A 122 3) (by omega) (by omega)]
    by_cases c1 : A 122 3 < (m : Int)
    · have : k = 0 := by omega
      subst this
      rw [if_pos c1, s_lmp, c_bits h2.1 h2.2, b_some]
      refine w_ite (fun c => w_some.mpr ⟨by rw [if_pos c], hJ⟩) (fun c => ?_)
      exact w_ite (fun c2 => w_some.mpr ⟨by rw [if_neg c, if_pos c2], hJ⟩) (fun c2 => w_some.mpr ⟨by rw [if_neg c, if_neg c2], hJ⟩)
    · obtain ⟨k', rfl⟩ : ∃ k', k = k' + 1 := ⟨k - 1, by omega⟩
      rw [if_neg c1, s_lmp]
      refine w_call (c_wrong hs hJ (by omega)) ?_
      rintro r M1 ⟨rfl, hJ1⟩
      have hb := wrong_b hs m
      have p1 := pc_b hb.1 hb.2
      have p2 := pc_b h2.1 h2.2
      unfold fX11_lamps_84
      have e : (m : Int) + 1 = ((m + 1 : Nat) : Int) := by omega
      rw [e, c_bits hb.1 hb.2, b_some, c_bits h2.1 h2.2, b_some, n_w (by omega) (by omega), n_w (by omega) (by omega)]
      by_cases c2 : q_pc (s_wrong A m) < q_pc x2
      · rw [if_pos c2, if_pos c2]
        exact ih k' (m + 1) _ _ M1 hJ1 (by omega) (by omega) (by omega) hb
      · rw [if_neg c2, if_neg c2]
        exact ih k' (m + 1) _ _ M1 hJ1 (by omega) (by omega) (by omega) h2
theorem r_lmp {t : Nat} {L A : q_G} (hs : s_seen L A) {wh : Int} : ∀ (n k m : Nat) (x2 x3 : Int) (M : q_Mem), q_J t M L A → k = (A 122 3 + 1 - (m : Int)).toNat → k < n → (m : Int) ≤ A 122 3 + 1 → 0 ≤ x2 ∧ x2 < 65536 → q_P (fX12_lamps_28 n wh x2 x3 (m : Int) M) (fun r M' => r = s_lmp (s_wrong A) wh k x2 x3 m ∧ q_J t M' L A) := by
  intro n
  induction n with
  | zero => intro k m x2 x3 M _ _ h; omega
  | succ n ih =>
    intro k m x2 x3 M hJ hk hn hm h2
    have w := j_wf hJ
    rw [fX12_lamps_28, r_fm hJ, b_some, n_w (a := (m : Int)) (by omega) (by omega), n_w (a := A 122 3) (by omega) (by omega)]
    by_cases c1 : A 122 3 < (m : Int)
    · have : k = 0 := by omega
      subst this
      rw [if_pos c1, s_lmp, r_bits h2.1 h2.2, b_some]
      refine w_ite (fun c => w_some.mpr ⟨by rw [if_pos c], hJ⟩) (fun c => ?_)
      exact w_ite (fun c2 => w_some.mpr ⟨by rw [if_neg c, if_pos c2], hJ⟩) (fun c2 => w_some.mpr ⟨by rw [if_neg c, if_neg c2], hJ⟩)
    · obtain ⟨k', rfl⟩ : ∃ k', k = k' + 1 := ⟨k - 1, by omega⟩
      rw [if_neg c1, s_lmp]
      refine w_call (r_wrong hs hJ (by omega)) ?_
      rintro r M1 ⟨rfl, hJ1⟩
      have hb := wrong_b hs m
      have p1 := pc_b hb.1 hb.2
      have p2 := pc_b h2.1 h2.2
      unfold fX12_lamps_65 fX12_lamps_71
      have e : (m : Int) + 1 = ((m + 1 : Nat) : Int) := by omega
      rw [e, n_w (a := x2) (by omega) (by omega), show q_w (-1) = -1 from rfl, if_neg (by omega), r_bits hb.1 hb.2, b_some, r_bits h2.1 h2.2, b_some, n_w (by omega) (by omega), n_w (by omega) (by omega)]
      by_cases c2 : q_pc (s_wrong A m) < q_pc x2
      · rw [if_pos c2, if_pos c2]
        exact ih k' (m + 1) _ _ M1 hJ1 (by omega) (by omega) (by omega) hb
      · rw [if_neg c2, if_neg c2]
        exact ih k' (m + 1) _ _ M1 hJ1 (by omega) (by omega) (by omega) h2
theorem st_lamps {M : q_Mem} (hS : q_St M) (x1 : Int) (h1 : q_R x1) : q_Step M (fX11_lamps x1 M) (fun M1 => fX12_lamps x1 M1) := by
  obtain ⟨t, L, A, hI⟩ := id hS
  have hs : s_seen L A := hI.2.1.2.2.2.2.2.1
  have w := j_wf hI.1
  have wf := j_fair hI.1
  have h1' := h1
  unfold q_R at h1'
  by_cases c : A 94 47 = 1 ∧ (0 ≤ x1 ∧ x1 ≤ 2)
  · refine st_q hI (s_lmp (s_wrong A) x1 (A 122 3 + 1 - ((1 : Nat) : Int)).toNat (s_wrong A 0) 0 1) ?_ ?_
    · unfold fX11_lamps
      simp only [q_let]
      rw [j_told hI.1, (j_f hI.1).1, n_w h1'.1 h1'.2, n_w (a := A 122 3) (by omega) (by omega), show q_w 2 = 2 from rfl, if_neg (by omega), if_neg (by omega), if_neg (by omega)]
      refine w_call (c_wrong hs hI.1 (m := 0) (by omega)) ?_
      rintro r M1 ⟨rfl, hJ1⟩
      exact c_lmp hs q_FU _ 1 _ 0 M1 hJ1 rfl (by unfold q_FU; omega) (by omega) (wrong_b hs 0)
    · intro M1 hJ
      unfold fX12_lamps
      rw [hJ.2.1 94 47 rfl, c.1, if_neg (by decide), f_isInW h1 (by decide) (by decide) (by decide) (by decide), b_some, f_ite, if_pos c.2]
      rw [show q_FU = 99999 + 1 from rfl, fX12_lamps_28, r_fm hJ, b_some, n_w (a := A 122 3) (by omega) (by omega), show q_w 0 = 0 from rfl, if_neg (by omega)]
      refine w_call (r_wrong hs hJ (m := 0) (by omega)) ?_
      rintro r M2 ⟨rfl, hJ2⟩
      rw [if_pos rfl]
      exact r_lmp hs 99999 _ 1 _ 0 M2 hJ2 rfl (by omega) (by omega) (wrong_b hs 0)
  · refine st_q hI (-1) ?_ ?_
    · unfold fX11_lamps
      simp only [q_let]
      rw [j_told hI.1, (j_f hI.1).1, n_w h1'.1 h1'.2, n_w (a := A 122 3) (by omega) (by omega), show q_w 2 = 2 from rfl]
      refine w_ite (fun _ => w_some.mpr ⟨rfl, hI.1⟩) (fun c2 => ?_)
      refine w_ite (fun _ => w_some.mpr ⟨rfl, hI.1⟩) (fun c3 => ?_)
      rw [if_pos (by omega)]
      exact w_some.mpr ⟨rfl, hI.1⟩
    · intro M1 hJ
      unfold fX12_lamps
      rw [hJ.2.1 94 47 rfl]
      refine w_ite (fun _ => w_some.mpr ⟨rfl, hJ⟩) (fun c2 => ?_)
      have c3 : A 94 47 = 1 := by
        rcases wf with wf | wf
        · rw [wf.1] at c2
          exact absurd rfl c2
        · exact wf.1
      rw [f_isInW h1 (by decide) (by decide) (by decide) (by decide), b_some, f_ite, if_neg (fun h => c ⟨c3, h⟩)]
      exact w_some.mpr ⟨rfl, hJ⟩
