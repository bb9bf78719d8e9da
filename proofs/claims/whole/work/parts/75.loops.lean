/-! more queries with loops -/
def s_handy (g : Nat → Nat) : Nat → Int → Int → Nat → Int
  | 0, b, _, _ => b
  | k + 1, b, mo, c => if mo < (g c : Int) then s_handy g k (c : Int) (g c : Int) (c + 1) else s_handy g k b mo (c + 1)
theorem c_handy {t : Nat} {L A : q_G} {m : Nat} (hm : (m : Int) ≤ A 122 3) : ∀ (n k c : Nat) (b mo : Int) (M : q_Mem), q_J t M L A → k = (A 123 4 - (c : Int)).toNat → k < n → (c : Int) ≤ A 123 4 → -1 ≤ mo ∧ mo ≤ 6 → q_P (fX11_handy_17 n (m : Int) b mo (c : Int) M) (fun r M' => r = s_handy (fun c => s_np A c m) k b mo c ∧ q_J t M' L A) := by
  intro n
  induction n with
  | zero => intro k c b mo M _ _ h; omega
  | succ n ih =>
    intro k c b mo M hJ hk hn hc hmo
    have w := j_wf hJ
    rw [fX11_handy_17]
    simp only [q_let]
    rw [j_told hJ, (j_f hJ).2.2.1, n_w (by omega) (by omega), n_w (a := A 123 4) (by omega) (by omega)]
    by_cases c1 : (c : Int) < A 123 4
    · obtain ⟨k', rfl⟩ : ∃ k', k = k' + 1 := ⟨k - 1, by omega⟩
      rw [if_pos c1, s_handy]
      refine w_call (c_paying hJ c1 hm) ?_
      rintro r M1 ⟨rfl, hJ1⟩
      have hb := np_b hJ c m
      rw [n_w (by omega) (by omega), n_w (by omega) (by omega)]
      unfold fX11_handy_50
      have e : (c : Int) + 1 = ((c + 1 : Nat) : Int) := by omega
      rw [e]
      by_cases c2 : mo < (s_np A c m : Nat)
      · rw [if_pos c2, if_pos c2]
        exact ih k' (c + 1) _ _ M1 hJ1 (by omega) (by omega) (by omega) (by omega)
      · rw [if_neg c2, if_neg c2]
        exact ih k' (c + 1) _ _ M1 hJ1 (by omega) (by omega) (by omega) (by omega)
    · have : k = 0 := by omega
      subst this
      rw [if_neg c1, s_handy]
      exact w_some.mpr ⟨rfl, hJ⟩
theorem r_handy32 {t : Nat} {L A : q_G} {m c : Nat} (hm : (m : Int) ≤ A 122 3) (hc : (c : Int) < A 123 4) {K : Int → Int → Int → Int → q_Mem → Option (Int × q_Mem)} {b mo : Int} {Q : Int → q_Mem → Prop} {tot : Int} (hK : ∀ M', q_J t M' L A → q_P (if q_w b = q_w (-1) then (fX12_handy_76 K (m : Int) (c : Int) tot M') else (if q_w mo < q_w tot then (fX12_handy_76 K (m : Int) (c : Int) tot M') else (fX12_handy_82 K (m : Int) b mo (c : Int) M'))) Q) : ∀ (n k : Nat) (acc : Int) (M : q_Mem), q_J t M L A → (k : Int) ≤ A 123 3 → (A 123 3).toNat - k < n → tot = acc + ((((List.range (A 123 3).toNat).drop k).countP (fun s : Nat => s_buys A c s m) : Nat) : Int) → q_P (fX12_handy_32 K n (m : Int) b mo (c : Int) acc (k : Int) M) Q := by
  intro n
  induction n with
  | zero => intro k acc M _ _ h; omega
  | succ n ih =>
    intro k acc M hJ hk hn ht
    have w := j_wf hJ
    rw [fX12_handy_32, r_sm hJ, b_some, n_w (a := (k : Int)) (by omega) (by omega), n_w (a := A 123 3) (by omega) (by omega)]
    by_cases c1 : (k : Int) < A 123 3
    · rw [rng_drop (by omega), List.countP_cons] at ht
      rw [if_pos c1]
      refine w_call (r_buys hJ hc c1 ⟨by omega, hm⟩) ?_
      rintro r M1 ⟨rfl, hJ1⟩
      rw [f_ite]
      unfold fX12_handy_56
      have e : (k : Int) + 1 = ((k + 1 : Nat) : Int) := by omega
      rw [e]
      by_cases cb : s_buys A c k m = true
      · rw [if_pos cb] at ht ⊢
        exact ih (k + 1) (acc + 1) M1 hJ1 (by omega) (by omega) (by omega)
      · rw [if_neg cb] at ht ⊢
        exact ih (k + 1) acc M1 hJ1 (by omega) (by omega) (by omega)
    · rw [List.drop_eq_nil_of_le (by simp; omega)] at ht
      rw [if_neg c1]
      have : acc = tot := by simp at ht; omega
      rw [this]
      exact hK M hJ
theorem r_handy {t : Nat} {L A : q_G} {m : Nat} (hm : (m : Int) ≤ A 122 3) : ∀ (n k c : Nat) (b mo : Int) (M : q_Mem), q_J t M L A → k = (A 123 4 - (c : Int)).toNat → k < n → (c : Int) ≤ A 123 4 → 0 ≤ mo ∧ mo ≤ 6 → -1 ≤ b ∧ b ≤ 8 → q_P (fX12_handy_17 n (m : Int) b mo (c : Int) M) (fun r M' => r = s_handy (fun c => s_np A c m) k b (if b = -1 then -1 else mo) c ∧ q_J t M' L A) := by
  intro n
  induction n with
  | zero => intro k c b mo M _ _ h; omega
  | succ n ih =>
    intro k c b mo M hJ hk hn hc hmo hb
    have w := j_wf hJ
    rw [fX12_handy_17, r_cm hJ, b_some, n_w (by omega) (by omega), n_w (a := A 123 4) (by omega) (by omega)]
    by_cases c1 : (c : Int) < A 123 4
    · obtain ⟨k', rfl⟩ : ∃ k', k = k' + 1 := ⟨k - 1, by omega⟩
      rw [if_pos c1, s_handy]
      have hnp := np_b hJ c m
      have e : (c : Int) + 1 = ((c + 1 : Nat) : Int) := by omega
      refine r_handy32 (A := A) (tot := (s_np A c m : Nat)) hm c1 ?_ q_FU 0 0 M hJ (by omega) (by unfold q_FU; omega) (by unfold s_np; simp)
      intro M1 hJ1
      unfold fX12_handy_76 fX12_handy_82
      rw [e, n_w (a := b) (by omega) (by omega), show q_w (-1) = -1 from rfl, n_w (a := mo) (by omega) (by omega), n_w (a := (s_np A c m : Nat)) (by omega) (by omega)]
      have h1 := ih k' (c + 1) (c : Int) ((s_np A c m : Nat) : Int) M1 hJ1 (by omega) (by omega) (by omega) (by omega) (by omega)
      rw [if_neg (by omega : ¬ (c : Int) = -1)] at h1
      by_cases c2 : b = -1
      · rw [if_pos c2, if_pos c2, if_pos (by omega)]
        exact h1
      · rw [if_neg c2, if_neg c2]
        by_cases c3 : mo < (s_np A c m : Nat)
        · rw [if_pos c3, if_pos c3]
          exact h1
        · rw [if_neg c3, if_neg c3]
          have h2 := ih k' (c + 1) b mo M1 hJ1 (by omega) (by omega) (by omega) hmo hb
          rw [if_neg c2] at h2
          exact h2
    · have : k = 0 := by omega
      subst this
      rw [if_neg c1, s_handy]
      exact w_some.mpr ⟨rfl, hJ⟩
theorem st_handy {M : q_Mem} (hS : q_St M) (x1 : Int) (h1 : q_R x1) : q_Step M (fX11_handy x1 M) (fun M1 => fX12_handy x1 M1) := by
  obtain ⟨t, L, A, hI⟩ := id hS
  have w := j_wf hI.1
  have wf := j_fair hI.1
  by_cases c : 0 ≤ x1 ∧ x1 ≤ A 122 3
  · obtain ⟨m, rfl, hm⟩ := nat_of' c
    refine st_q hI (s_handy (fun c => s_np A c m) (A 123 4 - ((0 : Nat) : Int)).toNat (-1) (-1) 0) ?_ ?_
    · unfold fX11_handy
      rw [c_isMinute hI.1 h1, b_some, f_ite, if_pos c]
      exact c_handy hm q_FU _ 0 (-1) (-1) M hI.1 rfl (by unfold q_FU; omega) (by omega) (by decide)
    · intro M1 hJ
      unfold fX12_handy
      rw [r_isMinute hJ h1, b_some, f_ite]
      rcases wf with ⟨f0, -, -, f4, -⟩ | ⟨f1, -⟩
      · rw [if_neg (by omega), f4]
        exact w_some.mpr ⟨rfl, hJ⟩
      · rw [if_pos ⟨f1, c⟩]
        exact r_handy hm q_FU _ 0 (-1) 0 M1 hJ rfl (by unfold q_FU; omega) (by omega) (by decide) (by decide)
  · refine st_q hI (-1) ?_ ?_
    · unfold fX11_handy
      rw [c_isMinute hI.1 h1, b_some, f_ite, if_neg c]
      exact w_some.mpr ⟨rfl, hI.1⟩
    · intro M1 hJ
      unfold fX12_handy
      rw [r_isMinute hJ h1, b_some, f_ite, if_neg (fun h => c h.2)]
      exact w_some.mpr ⟨rfl, hJ⟩
def s_tog (f : Nat → Int) (set : Int) : Nat → Nat → Int → Int
  | 0, _, acc => acc
  | k + 1, c, acc => s_tog f set k (c + 1) (if q_w (q_and (q_shr set (c : Int)) 1) = q_w 1 then acc + f c else acc)
theorem c_tog {t : Nat} {L A : q_G} {s m : Nat} {set : Int} (hs : (s : Int) < A 123 3) (hm : (m : Int) ≤ A 122 3) : ∀ (n k c : Nat) (acc : Int) (M : q_Mem), q_J t M L A → k = (A 123 4 - (c : Int)).toNat → k < n → (c : Int) ≤ A 123 4 → q_P (fX11_lengthTogether_6 n set (s : Int) (m : Int) acc (c : Int) M) (fun r M' => r = s_tog (fun c => s_shadow A c s m) set k c acc ∧ q_J t M' L A) := by
  intro n
  induction n with
  | zero => intro k c acc M _ _ h; omega
  | succ n ih =>
    intro k c acc M hJ hk hn hc
    have w := j_wf hJ
    rw [fX11_lengthTogether_6]
    simp only [q_let]
    rw [j_told hJ, (j_f hJ).2.2.1, n_w (a := (c : Int)) (by omega) (by omega), n_w (a := A 123 4) (by omega) (by omega)]
    by_cases c1 : (c : Int) < A 123 4
    · obtain ⟨k', rfl⟩ : ∃ k', k = k' + 1 := ⟨k - 1, by omega⟩
      rw [if_pos c1, s_tog]
      unfold fX11_lengthTogether_44
      have e : (c : Int) + 1 = ((c + 1 : Nat) : Int) := by omega
      rw [e]
      by_cases c2 : q_w (q_and (q_shr set (c : Int)) 1) = q_w 1
      · rw [if_pos c2, if_pos c2]
        refine w_call (c_len hJ c1 hs hm) ?_
        rintro r M1 ⟨rfl, hJ1⟩
        exact ih k' (c + 1) _ M1 hJ1 (by omega) (by omega) (by omega)
      · rw [if_neg c2, if_neg c2]
        exact ih k' (c + 1) _ M hJ (by omega) (by omega) (by omega)
    · have : k = 0 := by omega
      subst this
      rw [if_neg c1, s_tog]
      exact w_some.mpr ⟨rfl, hJ⟩
def s_bri (g : Int → Int) (toll : Int) : Nat → Int → Nat → Int
  | 0, b, _ => b
  | k + 1, b, x => if b = -1 ∨ q_pc x < q_pc b then (if q_w (g x) < q_w toll then s_bri g toll k b (x + 1) else s_bri g toll k (x : Int) (x + 1)) else s_bri g toll k b (x + 1)
theorem p_two {C : Int} (h : 0 ≤ C ∧ C ≤ 8) : q_shl 1 C = 2 ^ C.toNat ∧ (2 : Int) ^ C.toNat ≤ 256 ∧ (0 : Int) < 2 ^ C.toNat := by
  obtain ⟨n, rfl⟩ := Int.eq_ofNat_of_zero_le h.1
  have hn : n = 0 ∨ n = 1 ∨ n = 2 ∨ n = 3 ∨ n = 4 ∨ n = 5 ∨ n = 6 ∨ n = 7 ∨ n = 8 := by omega
  rcases hn with rfl | rfl | rfl | rfl | rfl | rfl | rfl | rfl | rfl <;> decide
theorem c_bridge {t : Nat} {L A : q_G} {s m : Nat} (hs : (s : Int) < A 123 3) (hm : (m : Int) ≤ A 122 3) : ∀ (n k x : Nat) (b : Int) (M : q_Mem), q_J t M L A → k = (2 ^ (A 123 4).toNat - (x : Int)).toNat → k < n → (x : Int) ≤ 2 ^ (A 123 4).toNat → -1 ≤ b ∧ b ≤ 256 → q_P (fX11_bridge_23 n (s : Int) (m : Int) b (x : Int) M) (fun r M' => r = s_bri (fun set => s_tog (fun c => s_shadow A c s m) set (A 123 4).toNat 0 0) (A 122 4) k b x ∧ q_J t M' L A) := by
  intro n
  induction n with
  | zero => intro k x b M _ _ h; omega
  | succ n ih =>
    intro k x b M hJ hk hn hx hb
    have w := j_wf hJ
    obtain ⟨p1, p2, p3⟩ := p_two w.2.2.1
    rw [fX11_bridge_23]
    simp only [q_let]
    rw [j_told hJ, (j_f hJ).2.2.1, p1, n_w (a := (x : Int)) (by omega) (by omega), n_w (by omega) (by omega)]
    by_cases c1 : (x : Int) < 2 ^ (A 123 4).toNat
    · obtain ⟨k', rfl⟩ : ∃ k', k = k' + 1 := ⟨k - 1, by omega⟩
      rw [if_pos c1, s_bri, n_w (a := b) (by omega) (by omega), show q_w (-1) = -1 from rfl]
      have e : (x : Int) + 1 = ((x + 1 : Nat) : Int) := by omega
      have key : ∀ M', q_J t M' L A → q_P (fX11_bridge_54 (fX11_bridge_23 n) (s : Int) (m : Int) b (x : Int) M') (fun r M' => r = (if q_w (s_tog (fun c => s_shadow A c s m) (x : Int) (A 123 4).toNat 0 0) < q_w (A 122 4) then s_bri (fun set => s_tog (fun c => s_shadow A c s m) set (A 123 4).toNat 0 0) (A 122 4) k' b (x + 1) else s_bri (fun set => s_tog (fun c => s_shadow A c s m) set (A 123 4).toNat 0 0) (A 122 4) k' (x : Int) (x + 1)) ∧ q_J t M' L A) := by
        intro M' hJ'
        unfold fX11_bridge_54 fX11_bridge_59 fX11_bridge_87
        rw [if_neg (by decide), e]
        have := c_tog hs hm (set := (x : Int)) q_FU (A 123 4).toNat 0 0 M' hJ' (by omega) (by unfold q_FU; omega) (by omega)
        unfold fX11_lengthTogether
        refine w_call this ?_
        rintro r M2 ⟨rfl, hJ2⟩
        simp only [q_let]
        rw [j_told hJ2, (j_f hJ2).2.2.2.2.1]
        by_cases c3 : q_w (s_tog (fun c => s_shadow A c s m) (x : Int) (A 123 4).toNat 0 0) < q_w (A 122 4)
        · rw [if_pos c3, if_pos c3]
          exact ih k' (x + 1) _ M2 hJ2 (by omega) (by omega) (by omega) hb
        · rw [if_neg c3, if_neg c3]
          exact ih k' (x + 1) _ M2 hJ2 (by omega) (by omega) (by omega) (by omega)
      by_cases c2 : b = -1
      · rw [if_pos c2, if_pos (Or.inl c2)]
        exact key M hJ
      · have pb := pc_b (x := b) (by omega) (by omega)
        have px := pc_b (x := (x : Int)) (by omega) (by omega)
        rw [if_neg c2, c_bits (by omega) (by omega), b_some, c_bits (by omega) (by omega), b_some, n_w (by omega) (by omega), n_w (by omega) (by omega)]
        by_cases c3 : q_pc (x : Int) < q_pc b
        · rw [if_pos c3, if_pos (Or.inr c3)]
          exact key M hJ
        · rw [if_neg c3, if_neg (by omega)]
          unfold fX11_bridge_59 fX11_bridge_87
          rw [if_pos (by decide), e]
          exact ih k' (x + 1) _ M hJ (by omega) (by omega) (by omega) hb
    · have : k = 0 := by omega
      subst this
      rw [if_neg c1, s_bri]
      exact w_some.mpr ⟨rfl, hJ⟩
def r_lays (A : q_G) (s m : Nat) (M : q_Mem) : Prop := ∀ c : Nat, (c : Int) < A 123 4 → M.2 137 c = s_shadow A c s m
theorem r_lays2 {t : Nat} {L A : q_G} {s m : Nat} (hs : (s : Int) < A 123 3) (hm : (m : Int) ≤ A 122 3) : ∀ (n k : Nat) (M : q_Mem), q_J t M L A → (k : Int) ≤ A 123 4 → (A 123 4).toNat - k < n → (∀ c : Nat, c < k → M.2 137 c = s_shadow A c s m) → q_P (fX12_laysLengths_2 n (s : Int) (m : Int) (k : Int) M) (fun _ M' => r_lays A s m M' ∧ q_J t M' L A) := by
  intro n
  induction n with
  | zero => intro k M _ _ h; omega
  | succ n ih =>
    intro k M hJ hk hn hl
    have w := j_wf hJ
    rw [fX12_laysLengths_2, r_cm hJ, b_some, n_w (a := (k : Int)) (by omega) (by omega), n_w (a := A 123 4) (by omega) (by omega)]
    by_cases c1 : (k : Int) < A 123 4
    · rw [if_pos c1]
      refine w_call (N_P (r_shadow hJ c1 hs (m := (m : Int)) ⟨by omega, by omega⟩) (N_fX12_shadowOf S_refl)) ?_
      rintro r M1 ⟨⟨rfl, hJ1⟩, h1⟩
      rw [b_sto (by omega) (by omega) (by decide), Option.bind_some, Int.toNat_natCast]
      have e : (k : Int) + 1 = ((k + 1 : Nat) : Int) := by omega
      rw [e]
      refine ih (k + 1) _ (j_scr hJ1 rfl rfl rfl) (by omega) (by omega) ?_
      intro c hc
      rw [up_rd]
      by_cases cc : c = k
      · rw [if_pos ⟨rfl, cc⟩, cc]
      · rw [if_neg (fun h => cc h.2), h1 137 c (by unfold q_fr12; omega)]
        exact hl c (by omega)
    · rw [if_neg c1]
      exact w_some.mpr ⟨fun c hc => hl c (by omega), hJ⟩
theorem r_bri67 {t : Nat} {L A : q_G} {s m : Nat} {set b : Int} {K : Int → Int → q_Mem → Option (Int × q_Mem)} {Q : Int → q_Mem → Prop} {tot : Int} (hK : ∀ M', q_J t M' L A → r_lays A s m M' → q_P (if q_w tot < q_w (A 122 4) then (fX12_bridge_119 K b set M') else (fX12_bridge_119 K set set M')) Q) : ∀ (n k c : Nat) (acc : Int) (M : q_Mem), q_J t M L A → r_lays A s m M → k = (A 123 4 - (c : Int)).toNat → k < n → (c : Int) ≤ A 123 4 → tot = s_tog (fun c => s_shadow A c s m) set k c acc → q_P (fX12_bridge_67 K n b set acc (c : Int) M) Q := by
  intro n
  induction n with
  | zero => intro k c acc M _ _ _ h; omega
  | succ n ih =>
    intro k c acc M hJ hl hk hn hc ht
    have w := j_wf hJ
    rw [fX12_bridge_67, r_cm hJ, b_some, n_w (a := (c : Int)) (by omega) (by omega), n_w (a := A 123 4) (by omega) (by omega)]
    by_cases c1 : (c : Int) < A 123 4
    · obtain ⟨k', rfl⟩ : ∃ k', k = k' + 1 := ⟨k - 1, by omega⟩
      rw [s_tog] at ht
      rw [if_pos c1]
      unfold fX12_bridge_99
      have e : (c : Int) + 1 = ((c + 1 : Nat) : Int) := by omega
      rw [e]
      by_cases c2 : q_w (q_and (q_shr set (c : Int)) 1) = q_w 1
      · rw [if_pos c2] at ht ⊢
        rw [b_ld (by omega) (by omega) (by decide), Option.bind_some, Int.toNat_natCast, hl c c1]
        exact ih k' (c + 1) _ M hJ hl (by omega) (by omega) (by omega) ht
      · rw [if_neg c2] at ht ⊢
        exact ih k' (c + 1) _ M hJ hl (by omega) (by omega) (by omega) ht
    · have : k = 0 := by omega
      subst this
      rw [s_tog] at ht
      rw [if_neg c1, b_ld (by decide) (by decide) (by decide), Option.bind_some, show (4 : Int).toNat = 4 from rfl, hJ.2.1 122 4 rfl, ← ht]
      exact hK M hJ hl
theorem r_bridge {t : Nat} {L A : q_G} {s m : Nat} : ∀ (n k x : Nat) (b : Int) (M : q_Mem), q_J t M L A → r_lays A s m M → k = (2 ^ (A 123 4).toNat - (x : Int)).toNat → k < n → (x : Int) ≤ 2 ^ (A 123 4).toNat → -1 ≤ b ∧ b ≤ 256 → q_P (fX12_bridge_30 n b (x : Int) M) (fun r M' => r = s_bri (fun set => s_tog (fun c => s_shadow A c s m) set (A 123 4).toNat 0 0) (A 122 4) k b x ∧ q_J t M' L A) := by
  intro n
  induction n with
  | zero => intro k x b M _ _ _ h; omega
  | succ n ih =>
    intro k x b M hJ hl hk hn hx hb
    have w := j_wf hJ
    obtain ⟨p1, p2, p3⟩ := p_two w.2.2.1
    rw [fX12_bridge_30, r_cm hJ, b_some, p1, n_w (a := (x : Int)) (by omega) (by omega), n_w (by omega) (by omega)]
    by_cases c1 : (x : Int) < 2 ^ (A 123 4).toNat
    · obtain ⟨k', rfl⟩ : ∃ k', k = k' + 1 := ⟨k - 1, by omega⟩
      rw [if_pos c1, s_bri, n_w (a := b) (by omega) (by omega), show q_w (-1) = -1 from rfl]
      have e : (x : Int) + 1 = ((x + 1 : Nat) : Int) := by omega
      have key : q_P (fX12_bridge_61 (fX12_bridge_30 n) b (x : Int) M) (fun r M' => r = (if q_w (s_tog (fun c => s_shadow A c s m) (x : Int) (A 123 4).toNat 0 0) < q_w (A 122 4) then s_bri (fun set => s_tog (fun c => s_shadow A c s m) set (A 123 4).toNat 0 0) (A 122 4) k' b (x + 1) else s_bri (fun set => s_tog (fun c => s_shadow A c s m) set (A 123 4).toNat 0 0) (A 122 4) k' (x : Int) (x + 1)) ∧ q_J t M' L A) := by
        unfold fX12_bridge_61
        refine r_bri67 (A := A) (s := s) (m := m) (tot := s_tog (fun c => s_shadow A c s m) (x : Int) (A 123 4).toNat 0 0) ?_ q_FU (A 123 4).toNat 0 0 M hJ hl (by omega) (by unfold q_FU; omega) (by omega) rfl
        intro M' hJ' hl'
        unfold fX12_bridge_119
        rw [e]
        by_cases c3 : q_w (s_tog (fun c => s_shadow A c s m) (x : Int) (A 123 4).toNat 0 0) < q_w (A 122 4)
        · rw [if_pos c3, if_pos c3]
          exact ih k' (x + 1) _ M' hJ' hl' (by omega) (by omega) (by omega) hb
        · rw [if_neg c3, if_neg c3]
          exact ih k' (x + 1) _ M' hJ' hl' (by omega) (by omega) (by omega) (by omega)
      by_cases c2 : b = -1
      · rw [if_pos c2, if_pos (Or.inl c2)]
        exact key
      · have pb := pc_b (x := b) (by omega) (by omega)
        have px := pc_b (x := (x : Int)) (by omega) (by omega)
        rw [if_neg c2, r_bits (by omega) (by omega), b_some, r_bits (by omega) (by omega), b_some, n_w (by omega) (by omega), n_w (by omega) (by omega)]
        by_cases c3 : q_pc (x : Int) < q_pc b
        · rw [if_pos c3, if_pos (Or.inr c3)]
          exact key
        · rw [if_neg c3, if_neg (by omega)]
          unfold fX12_bridge_119
          rw [e]
          exact ih k' (x + 1) _ M hJ hl (by omega) (by omega) (by omega) hb
    · have : k = 0 := by omega
      subst this
      rw [if_neg c1, s_bri]
      exact w_some.mpr ⟨rfl, hJ⟩
theorem st_bridge {M : q_Mem} (hS : q_St M) (x1 x2 : Int) (h1 : q_R x1) (h2 : q_R x2) : q_Step M (fX11_bridge x1 x2 M) (fun M1 => fX12_bridge x1 x2 M1) := by
  obtain ⟨t, L, A, hI⟩ := id hS
  have w := j_wf hI.1
  have wf := j_fair hI.1
  obtain ⟨p1, p2, p3⟩ := p_two w.2.2.1
  by_cases c : (0 ≤ x1 ∧ x1 < A 123 3) ∧ (0 ≤ x2 ∧ x2 ≤ A 122 3)
  · obtain ⟨s, rfl, hs⟩ := nat_of c.1
    obtain ⟨m, rfl, hm⟩ := nat_of' c.2
    refine st_q hI (s_bri (fun set => s_tog (fun c => s_shadow A c s m) set (A 123 4).toNat 0 0) (A 122 4) (2 ^ (A 123 4).toNat - ((0 : Nat) : Int)).toNat (-1) 0) ?_ ?_
    · unfold fX11_bridge
      rw [c_isStall hI.1 h1, b_some, f_ite, if_pos c.1, c_isMinute hI.1 h2, b_some, f_ite, if_pos c.2]
      exact c_bridge hs hm q_FU _ 0 (-1) M hI.1 rfl (by unfold q_FU; omega) (by omega) (by decide)
    · intro M1 hJ
      unfold fX12_bridge
      rw [r_isStall hJ h1, b_some, f_ite, if_pos c.1, r_isMinute hJ h2, b_some, f_ite, if_pos ⟨by omega, c.2⟩]
      unfold fX12_laysLengths
      refine w_call (r_lays2 hs hm q_FU 0 M1 hJ (by omega) (by unfold q_FU; omega) (fun c hc => by omega)) ?_
      rintro r M2 ⟨hl, hJ2⟩
      exact r_bridge q_FU _ 0 (-1) M2 hJ2 hl rfl (by unfold q_FU; omega) (by omega) (by decide)
  · refine st_q hI (-1) ?_ ?_
    · unfold fX11_bridge
      rw [c_isStall hI.1 h1, b_some, f_ite]
      refine w_ite (fun c1 => ?_) (fun _ => w_some.mpr ⟨rfl, hI.1⟩)
      rw [c_isMinute hI.1 h2, b_some, f_ite, if_neg (fun h => c ⟨c1, h⟩)]
      exact w_some.mpr ⟨rfl, hI.1⟩
    · intro M1 hJ
      unfold fX12_bridge
      rw [r_isStall hJ h1, b_some, f_ite]
      refine w_ite (fun c1 => ?_) (fun _ => w_some.mpr ⟨rfl, hJ⟩)
      rw [r_isMinute hJ h2, b_some, f_ite, if_neg (fun h => c ⟨c1, h.2⟩)]
      exact w_some.mpr ⟨rfl, hJ⟩
def s_chi (f : Nat → Int) (mu : Int) (a : Nat) : Nat → Nat → Option Nat
  | 0, _ => none
  | k + 1, b => if a ≠ b ∧ q_w (f a - f b) = q_w mu then some b else s_chi f mu a k (b + 1)
def s_cho (f : Nat → Int) (mu wh : Int) (C : Nat) : Nat → Nat → Int
  | 0, _ => -1
  | k + 1, a => match s_chi f mu a C 0 with
    | some b => if q_w wh = 0 then (a : Int) else (b : Int)
    | none => s_cho f mu wh C k (a + 1)
theorem c_chi {t : Nat} {L A : q_G} {s m a : Nat} {mu wh : Int} (hs : (s : Int) < A 123 3) (hm : A 131 0 = (m : Int)) (ha : (a : Int) < A 123 4) {K : Int → Int → Int → Int → q_Mem → Option (Int × q_Mem)} {Q : Int → q_Mem → Prop} {z : Option Nat} (hK : z = none → ∀ M', q_J t M' L A → q_P (K (s : Int) mu wh ((a : Int) + 1) M') Q) (hK2 : ∀ b, z = some b → ∀ M', q_J t M' L A → Q (if q_w wh = 0 then (a : Int) else (b : Int)) M') : ∀ (n k b : Nat) (M : q_Mem), q_J t M L A → k = (A 123 4 - (b : Int)).toNat → k < n → (b : Int) ≤ A 123 4 → z = s_chi (fun c => s_shadow A c s m) mu a k b → q_P (fX11_change_67 K n (s : Int) mu wh (a : Int) (s_shadow A a s m) (b : Int) M) Q := by
  intro n
  induction n with
  | zero => intro k b M _ _ h; omega
  | succ n ih =>
    intro k b M hJ hk hn hb hz
    have w := j_wf hJ
    have db := j_db hJ
    rw [fX11_change_67]
    simp only [q_let]
    rw [j_told hJ, (j_f hJ).2.2.1, (j_d hJ).1, hm, n_w (a := (b : Int)) (by omega) (by omega), n_w (a := A 123 4) (by omega) (by omega), n_w (a := (a : Int)) (by omega) (by omega)]
    by_cases c1 : (b : Int) < A 123 4
    · obtain ⟨k', rfl⟩ : ∃ k', k = k' + 1 := ⟨k - 1, by omega⟩
      rw [s_chi] at hz
      rw [if_pos c1]
      unfold fX11_change_122
      have e : (b : Int) + 1 = ((b + 1 : Nat) : Int) := by omega
      rw [e]
      by_cases c2 : a = b
      · rw [if_neg (fun h => h.1 c2)] at hz
        rw [if_pos (by omega)]
        exact ih k' (b + 1) M hJ (by omega) (by omega) (by omega) hz
      · rw [if_neg (by omega)]
        refine w_call (c_len hJ c1 hs (by omega)) ?_
        rintro r M1 ⟨rfl, hJ1⟩
        by_cases c3 : q_w (s_shadow A a s m - s_shadow A b s m) = q_w mu
        · rw [if_pos ⟨c2, c3⟩] at hz
          rw [if_pos c3]
          have h2 := hK2 b hz M1 hJ1
          refine w_ite (fun c4 => w_some.mpr ?_) (fun c4 => w_some.mpr ?_)
          · rw [if_pos c4] at h2
            exact h2
          · rw [if_neg c4] at h2
            exact h2
        · rw [if_neg (fun h => c3 h.2)] at hz
          rw [if_neg c3]
          exact ih k' (b + 1) M1 hJ1 (by omega) (by omega) (by omega) hz
    · have : k = 0 := by omega
      subst this
      rw [s_chi] at hz
      rw [if_neg c1]
      exact hK hz M hJ
theorem c_cho {t : Nat} {L A : q_G} {s m : Nat} {mu wh : Int} (hs : (s : Int) < A 123 3) (hm : A 131 0 = (m : Int)) : ∀ (n k a : Nat) (M : q_Mem), q_J t M L A → k = (A 123 4 - (a : Int)).toNat → k < n → (a : Int) ≤ A 123 4 → q_P (fX11_change_33 n (s : Int) mu wh (a : Int) M) (fun r M' => r = s_cho (fun c => s_shadow A c s m) mu wh (A 123 4).toNat k a ∧ q_J t M' L A) := by
  intro n
  induction n with
  | zero => intro k a M _ _ h; omega
  | succ n ih =>
    intro k a M hJ hk hn ha
    have w := j_wf hJ
    have db := j_db hJ
    rw [fX11_change_33]
    simp only [q_let]
    rw [j_told hJ, (j_f hJ).2.2.1, (j_d hJ).1, hm, n_w (a := (a : Int)) (by omega) (by omega), n_w (a := A 123 4) (by omega) (by omega)]
    by_cases c1 : (a : Int) < A 123 4
    · obtain ⟨k', rfl⟩ : ∃ k', k = k' + 1 := ⟨k - 1, by omega⟩
      rw [if_pos c1]
      refine w_call (c_len hJ c1 hs (by omega)) ?_
      rintro r M1 ⟨rfl, hJ1⟩
      refine c_chi (A := A) hs hm c1 (z := s_chi (fun c => s_shadow A c s m) mu a (A 123 4).toNat 0) ?_ ?_ q_FU (A 123 4).toNat 0 M1 hJ1 (by omega) (by unfold q_FU; omega) (by omega) rfl
      · intro hz M' hJ'
        have e : (a : Int) + 1 = ((a + 1 : Nat) : Int) := by omega
        rw [e, s_cho, hz]
        exact ih k' (a + 1) M' hJ' (by omega) (by omega) (by omega)
      · intro b hz M' hJ'
        rw [s_cho, hz]
        exact ⟨rfl, hJ'⟩
    · have : k = 0 := by omega
      subst this
      rw [if_neg c1, s_cho]
      exact w_some.mpr ⟨rfl, hJ⟩
theorem r_chi {t : Nat} {L A : q_G} {s m a : Nat} {mu wh : Int} (ha : (a : Int) < A 123 4) {K : Int → Int → Int → q_Mem → Option (Int × q_Mem)} {Q : Int → q_Mem → Prop} {z : Option Nat} (hK : z = none → ∀ M', q_J t M' L A → r_lays A s m M' → q_P (K mu wh ((a : Int) + 1) M') Q) (hK2 : ∀ b, z = some b → ∀ M', q_J t M' L A → Q (if q_w wh = 0 then (a : Int) else (b : Int)) M') : ∀ (n k b : Nat) (M : q_Mem), q_J t M L A → r_lays A s m M → k = (A 123 4 - (b : Int)).toNat → k < n → (b : Int) ≤ A 123 4 → z = s_chi (fun c => s_shadow A c s m) mu a k b → q_P (fX12_change_59 K n mu wh (a : Int) (b : Int) M) Q := by
  intro n
  induction n with
  | zero => intro k b M _ _ _ h; omega
  | succ n ih =>
    intro k b M hJ hl hk hn hb hz
    have w := j_wf hJ
    rw [fX12_change_59, r_cm hJ, b_some, n_w (a := (b : Int)) (by omega) (by omega), n_w (a := A 123 4) (by omega) (by omega), n_w (a := (a : Int)) (by omega) (by omega)]
    by_cases c1 : (b : Int) < A 123 4
    · obtain ⟨k', rfl⟩ : ∃ k', k = k' + 1 := ⟨k - 1, by omega⟩
      rw [s_chi] at hz
      rw [if_pos c1]
      unfold fX12_change_106
      have e : (b : Int) + 1 = ((b + 1 : Nat) : Int) := by omega
      rw [e]
      by_cases c2 : a = b
      · rw [if_neg (fun h => h.1 c2)] at hz
        rw [if_pos (by omega)]
        exact ih k' (b + 1) M hJ hl (by omega) (by omega) (by omega) hz
      · rw [if_neg (by omega), b_ld (by omega) (by omega) (by decide), Option.bind_some, b_ld (by omega) (by omega) (by decide), Option.bind_some, Int.toNat_natCast, Int.toNat_natCast, hl a ha, hl b c1]
        by_cases c3 : q_w (s_shadow A a s m - s_shadow A b s m) = q_w mu
        · rw [if_pos ⟨c2, c3⟩] at hz
          rw [if_pos c3]
          have h2 := hK2 b hz M hJ
          refine w_ite (fun c4 => w_some.mpr ?_) (fun c4 => w_some.mpr ?_)
          · rw [if_pos c4] at h2
            exact h2
          · rw [if_neg c4] at h2
            exact h2
        · rw [if_neg (fun h => c3 h.2)] at hz
          rw [if_neg c3]
          exact ih k' (b + 1) M hJ hl (by omega) (by omega) (by omega) hz
    · have : k = 0 := by omega
      subst this
      rw [s_chi] at hz
      rw [if_neg c1]
      exact hK hz M hJ hl
theorem r_cho {t : Nat} {L A : q_G} {s m : Nat} {mu wh : Int} : ∀ (n k a : Nat) (M : q_Mem), q_J t M L A → r_lays A s m M → k = (A 123 4 - (a : Int)).toNat → k < n → (a : Int) ≤ A 123 4 → q_P (fX12_change_47 n mu wh (a : Int) M) (fun r M' => r = s_cho (fun c => s_shadow A c s m) mu wh (A 123 4).toNat k a ∧ q_J t M' L A) := by
  intro n
  induction n with
  | zero => intro k a M _ _ _ h; omega
  | succ n ih =>
    intro k a M hJ hl hk hn ha
    have w := j_wf hJ
    rw [fX12_change_47, r_cm hJ, b_some, n_w (a := (a : Int)) (by omega) (by omega), n_w (a := A 123 4) (by omega) (by omega)]
    by_cases c1 : (a : Int) < A 123 4
    · obtain ⟨k', rfl⟩ : ∃ k', k = k' + 1 := ⟨k - 1, by omega⟩
      rw [if_pos c1]
      refine r_chi (A := A) (s := s) (m := m) c1 (z := s_chi (fun c => s_shadow A c s m) mu a (A 123 4).toNat 0) ?_ ?_ q_FU (A 123 4).toNat 0 M hJ hl (by omega) (by unfold q_FU; omega) (by omega) rfl
      · intro hz M' hJ' hl'
        have e : (a : Int) + 1 = ((a + 1 : Nat) : Int) := by omega
        rw [e, s_cho, hz]
        exact ih k' (a + 1) M' hJ' hl' (by omega) (by omega) (by omega)
      · intro b hz M' hJ'
        rw [s_cho, hz]
        exact ⟨rfl, hJ'⟩
    · have : k = 0 := by omega
      subst this
      rw [if_neg c1, s_cho]
      exact w_some.mpr ⟨rfl, hJ⟩
theorem st_change {M : q_Mem} (hS : q_St M) (x1 x2 x3 : Int) (h1 : q_R x1) (h2 : q_R x2) (h3 : q_R x3) : q_Step M (fX11_change x1 x2 x3 M) (fun M1 => fX12_change x1 x2 x3 M1) := by
  obtain ⟨t, L, A, hI⟩ := id hS
  have w := j_wf hI.1
  have db := j_db hI.1
  have h2' := h2
  have h3' := h3
  unfold q_R at h2' h3'
  by_cases c : (0 ≤ x1 ∧ x1 < A 123 3) ∧ (0 ≤ x2 ∧ x2 ≤ 999) ∧ (0 ≤ x3 ∧ x3 ≤ 1)
  · obtain ⟨s, rfl, hs⟩ := nat_of c.1
    obtain ⟨m, hm, hm2⟩ := nat_of' db.1
    refine st_q hI (s_cho (fun c => s_shadow A c s m) x2 x3 (A 123 4).toNat (A 123 4 - ((0 : Nat) : Int)).toNat 0) ?_ ?_
    · unfold fX11_change
      rw [c_isStall hI.1 h1, b_some, f_ite, if_pos c.1, n_w h2'.1 h2'.2, n_w h3'.1 h3'.2, show q_w 999 = 999 from rfl, show q_w 1 = 1 from rfl, if_neg (by omega), if_neg (by omega), if_neg (by omega), if_neg (by omega)]
      exact c_cho hs hm q_FU _ 0 M hI.1 rfl (by unfold q_FU; omega) (by omega)
    · intro M1 hJ
      unfold fX12_change
      rw [r_isStall hJ h1, b_some, f_ite, if_pos c.1, f_isInW h2 (by decide) (by decide) (by decide) (by decide), b_some, f_ite, if_pos c.2.1, f_isInW h3 (by decide) (by decide) (by decide) (by decide), b_some, f_ite, if_pos c.2.2, r_ld131 hJ (by decide) (by decide), Option.bind_some, show (0 : Int).toNat = 0 from rfl, hm]
      unfold fX12_laysLengths
      refine w_call (r_lays2 hs (by omega) q_FU 0 M1 hJ (by omega) (by unfold q_FU; omega) (fun c hc => by omega)) ?_
      rintro r M2 ⟨hl, hJ2⟩
      exact r_cho q_FU _ 0 M2 hJ2 hl rfl (by unfold q_FU; omega) (by omega)
  · refine st_q hI (-1) ?_ ?_
    · unfold fX11_change
      rw [c_isStall hI.1 h1, b_some, f_ite]
      refine w_ite (fun c1 => ?_) (fun _ => w_some.mpr ⟨rfl, hI.1⟩)
      rw [n_w h2'.1 h2'.2, n_w h3'.1 h3'.2, show q_w 999 = 999 from rfl, show q_w 1 = 1 from rfl]
      refine w_ite (fun _ => w_some.mpr ⟨rfl, hI.1⟩) (fun c2 => ?_)
      refine w_ite (fun _ => w_some.mpr ⟨rfl, hI.1⟩) (fun c3 => ?_)
      refine w_ite (fun _ => w_some.mpr ⟨rfl, hI.1⟩) (fun c4 => ?_)
      refine w_ite (fun _ => w_some.mpr ⟨rfl, hI.1⟩) (fun c5 => ?_)
      exact absurd ⟨c1, by omega, by omega⟩ c
    · intro M1 hJ
      unfold fX12_change
      rw [r_isStall hJ h1, b_some, f_ite]
      refine w_ite (fun c1 => ?_) (fun _ => w_some.mpr ⟨rfl, hJ⟩)
      rw [f_isInW h2 (by decide) (by decide) (by decide) (by decide), b_some, f_ite]
      refine w_ite (fun c2 => ?_) (fun _ => w_some.mpr ⟨rfl, hJ⟩)
      rw [f_isInW h3 (by decide) (by decide) (by decide) (by decide), b_some, f_ite]
      exact w_ite (fun c3 => absurd ⟨c1, c2, c3⟩ c) (fun _ => w_some.mpr ⟨rfl, hJ⟩)
