/-! rounds: the class's plan -/
def e_X (A : q_G) (c s : Nat) (h : Int) : Int := s_find (fun m => s_buys A c s m) (A 122 3 + 1 - h).toNat h.toNat
theorem find_b (g : Nat → Bool) : ∀ k m, s_find g k m = -1 ∨ ((m : Int) ≤ s_find g k m ∧ s_find g k m < (m : Int) + (k : Int)) := by
  intro k
  induction k with
  | zero => intro m; exact Or.inl rfl
  | succ k ih =>
    intro m
    rw [s_find]
    by_cases c : g m = true
    · rw [if_pos c]; omega
    · rw [if_neg c]
      have := ih (m + 1)
      omega
theorem X_b (A : q_G) (c s i : Nat) (hi : (i : Int) ≤ A 122 3) : e_X A c s i = -1 ∨ ((i : Int) ≤ e_X A c s i ∧ e_X A c s i ≤ A 122 3) := by
  unfold e_X
  rw [Int.toNat_natCast]
  have := find_b (fun m => s_buys A c s m) (A 122 3 + 1 - (i : Int)).toNat i
  omega
theorem X_st (A : q_G) (c s i : Nat) (hi : (i : Int) ≤ A 122 3) : e_X A c s i = if s_buys A c s i = true then (i : Int) else e_X A c s ((i + 1 : Nat) : Int) := by
  unfold e_X
  rw [Int.toNat_natCast, Int.toNat_natCast, show (A 122 3 + 1 - (i : Int)).toNat = (A 122 3 + 1 - ((i + 1 : Nat) : Int)).toNat + 1 from by omega, s_find]
theorem X_end (A : q_G) (c s i : Nat) (hi : (i : Int) = A 122 3 + 1) : e_X A c s i = -1 := by
  unfold e_X
  rw [show (A 122 3 + 1 - (i : Int)).toNat = 0 from by omega, s_find]
theorem j_pl {t : Nat} {M M' : q_Mem} {L A : q_G} (h : q_J t M L A) (hk : ∀ a j, ¬ (40 ≤ a ∧ a ≤ 51) → M'.2 a j = M.2 a j) : q_J t M' L A := by
  refine j_frame h (fun a k ha => hk a k ?_)
  rintro ⟨h1, h2⟩
  have hx : a = 40 ∨ a = 41 ∨ a = 42 ∨ a = 43 ∨ a = 44 ∨ a = 45 ∨ a = 46 ∨ a = 47 ∨ a = 48 ∨ a = 49 ∨ a = 50 ∨ a = 51 := by omega
  rcases ha with ha | ha | ha
  · rcases hx with rfl | rfl | rfl | rfl | rfl | rfl | rfl | rfl | rfl | rfl | rfl | rfl <;> cases ha
  · rcases hx with rfl | rfl | rfl | rfl | rfl | rfl | rfl | rfl | rfl | rfl | rfl | rfl <;> cases ha
  · omega
theorem c_p91 {t : Nat} {L A : q_G} {c s lo : Nat} (hc : (c : Int) < A 123 4) (hs : (s : Int) < A 123 3) (hlo : A 131 0 = (lo : Int)) {M0 : q_Mem} {K : Int → Int → q_Mem → Option (Int × q_Mem)} {Q : Int → q_Mem → Prop} (hK : ∀ M', q_J t M' L A → (∀ a j, 40 ≤ a → a ≤ 51 → a ≠ 43 + s → M'.2 a j = M0.2 a j) → (∀ i : Nat, lo ≤ i → (i : Int) ≤ A 122 3 → M'.2 (43 + s) i = e_X A c s i) → q_P (K (c : Int) ((s : Int) + 1) M') Q) : ∀ (n k : Nat) (M : q_Mem), q_J t M L A → (∀ a j, 40 ≤ a → a ≤ 51 → a ≠ 43 + s → M.2 a j = M0.2 a j) → (∀ i : Nat, lo + k ≤ i → (i : Int) ≤ A 122 3 → M.2 (43 + s) i = e_X A c s i) → k < n → ((lo + k : Nat) : Int) ≤ A 122 3 + 1 → q_P (fX6_plan_91 t K n (c : Int) (s : Int) (e_X A c s ((lo + k : Nat) : Int)) (((lo + k : Nat) : Int) - 1) M) Q := by
  intro n
  induction n with
  | zero => intro k M _ _ _ h; omega
  | succ n ih =>
    intro k M hJ g1 g2 hn hk
    have w := j_wf hJ
    have db := j_db hJ
    rw [fX6_plan_91, (j_d hJ).1, hlo, n_w (by omega) (by omega), n_w (a := (lo : Int)) (by omega) (by omega)]
    cases k with
    | zero =>
      rw [if_pos (by omega)]
      unfold fX6_plan_140
      exact hK M hJ g1 (fun i h1 h2 => g2 i (by omega) h2)
    | succ k =>
      rw [if_neg (by omega), show ((lo + (k + 1) : Nat) : Int) - 1 = ((lo + k : Nat) : Int) from by omega]
      refine w_call (N_P (c_pays hJ hc hs (by omega)) (N_fX5_paysAt S_refl)) ?_
      rintro r M1 ⟨⟨rfl, hJ1⟩, hf⟩
      rw [f_ite]
      have e42 : q_ldr 42 6 (s : Int) = some (43 + s) := by
        unfold q_ldr
        rw [n_w (by omega) (by omega), if_pos (by omega), Int.toNat_natCast, e_42 ⟨s, by omega⟩]
      have fin : q_P (fX6_plan_120 t K (fX6_plan_91 t K n) (c : Int) (s : Int) ((lo + k : Nat) : Int) (e_X A c s ((lo + k : Nat) : Int)) M1) Q := by
        unfold fX6_plan_120
        rw [e42, Option.bind_some, b_sto (by omega) (by omega) (by decide), Option.bind_some, Int.toNat_natCast, show ((lo + k : Nat) : Int) + -1 = ((lo + k : Nat) : Int) - 1 from by omega]
        refine ih k _ (j_pl hJ1 (fun a j ha => up_ne (by omega))) ?_ ?_ (by omega) (by omega)
        · intro a j h1 h2 h3
          rw [up_ne (by omega), hf a j (by unfold q_fr11; omega)]
          exact g1 a j h1 h2 h3
        · intro i h1 h2
          rw [up_rd]
          by_cases ci : i = lo + k
          · rw [if_pos ⟨rfl, ci⟩, ci]
          · rw [if_neg (by omega), hf _ i (by unfold q_fr11; omega)]
            exact g2 i (by omega) h2
      rw [X_st A c s (lo + k) (by omega)] at fin
      by_cases cb : s_buys A c s ((lo + k : Nat) : Int) = true
      · rw [if_pos cb] at fin ⊢
        exact fin
      · rw [if_neg cb] at fin ⊢
        exact fin
def e_wn (b k : Nat) : Nat := (2 ^ k - 1) &&& (63 ^^^ b)
theorem e_wnb : ∀ (b : Fin 64) (k : Fin 7), e_wn b.val k.val < 64 ∧ e_wn b.val k.val < 2 ^ k.val ∧ q_and ((q_shl 1 (k.val : Int)) - 1) (q_xor (b.val : Int) (-1)) = ((e_wn b.val k.val : Nat) : Int) ∧ ∀ s : Fin 6, ((e_wn b.val k.val).testBit s.val = true ↔ s.val < k.val ∧ b.val.testBit s.val = false) := by decide +kernel
theorem e_wns : ∀ (b : Fin 64) (k : Fin 6), (b.val.testBit k.val = false → q_or ((e_wn b.val k.val : Nat) : Int) (q_shl 1 (k.val : Int)) = ((e_wn b.val (k.val + 1) : Nat) : Int)) ∧ (b.val.testBit k.val = true → e_wn b.val (k.val + 1) = e_wn b.val k.val) := by decide +kernel
theorem e_w0 (b : Nat) : e_wn b 0 = 0 := by unfold e_wn; simp
def e_pl (A : q_G) (s : Nat) : Int := A 125 (24 + 4 * s)
theorem tb6 {x s : Nat} (hx : x < 64) (h : x.testBit s = true) : s < 6 := by
  apply Classical.byContradiction
  intro hc
  have h6 : 2 ^ 6 ≤ 2 ^ s := Nat.pow_le_pow_right (by decide) (by omega)
  have e6 : (2 : Nat) ^ 6 = 64 := by decide
  rw [Nat.testBit_lt_two_pow (by omega)] at h
  cases h
theorem c_p37 {t : Nat} {L A : q_G} {c lo b S F : Nat} (hc : (c : Int) < A 123 4) (hlo : A 131 0 = (lo : Int)) (hb : A 131 2 = (b : Int)) (hb2 : b < 64) (hS : A 123 3 = (S : Int)) (hS2 : S ≤ 6) (hF : A 122 3 = (F : Int)) (hF2 : F ≤ 400) {Q : Int → q_Mem → Prop} (hK : ∀ M', q_J t M' L A → e_H M' (e_wn b S) S F (lo : Int) (e_pl A) (e_X A c) → M'.2 40 8 = -1 → (∀ i, i < 64 → M'.2 49 i = 0) → q_P (q_bd (fV q_VD 0 (M'.2 10 1) (M'.2 10 0) 0 M') fun _ M1 => some (0, M1)) Q) : ∀ (n k : Nat) (M : q_Mem), q_J t M L A → k ≤ S → S - k < n → M.2 40 0 = (S : Int) → M.2 40 1 = (F : Int) → M.2 40 6 = ((e_wn b k : Nat) : Int) → M.2 40 8 = -1 → (∀ i, i < 64 → M.2 49 i = 0) → (∀ s, s < k → b.testBit s = false → M.2 41 s = e_pl A s ∧ ∀ i : Nat, lo ≤ i → i ≤ F → M.2 (43 + s) i = e_X A c s i) → q_P (fX6_plan_37 t n (c : Int) (k : Int) M) Q := by
  intro n
  induction n with
  | zero => intro k M _ _ h; omega
  | succ n ih =>
    intro k M hJ hk hn m0 m1 m6 m8 m49 mr
    have w := j_wf hJ
    have db := j_db hJ
    obtain ⟨ht, -, hT, -, hL⟩ := j_t hJ
    obtain ⟨-, -, -, -, -, -, -, -, -, rs, -⟩ := hJ.2.2.1
    obtain ⟨-, -, -, -, -, ws, -⟩ := hJ.2.2.2.1
    rw [fX6_plan_37, m0, n_w (by omega) (by omega), n_w (a := (S : Int)) (by omega) (by omega)]
    by_cases ck : k < S
    · have et := e_tst ⟨b, hb2⟩ ⟨k, by omega⟩
      simp only at et
      rw [show q_w 1 = 1 from rfl] at et
      have ew := e_wns ⟨b, hb2⟩ ⟨k, by omega⟩
      simp only at ew
      rw [if_pos (by omega), c_bought hJ, b_some, f_ite, hb]
      unfold fX6_plan_140
      rw [show (k : Int) + 1 = ((k + 1 : Nat) : Int) from by omega]
      by_cases cb : b.testBit k = true
      · rw [if_pos (et.mpr cb)]
        refine ih (k + 1) M hJ (by omega) (by omega) m0 m1 (by rw [m6, ew.2 cb]) m8 m49 ?_
        intro s hs hbs
        have : s ≠ k := by
          rintro rfl
          rw [cb] at hbs
          cases hbs
        exact mr s (by omega) hbs
      · have cb' : b.testBit k = false := by simpa using cb
        obtain ⟨r1, -⟩ := rs k (by omega)
        obtain ⟨p1, -⟩ := ws k (by omega)
        rw [if_neg (fun h => cb (et.mp h)), q_le, m6, ew.1 cb', fq3 ht, b_ld (by omega) (by omega) (by decide), Option.bind_some, Int.toNat_natCast, up_ne (by omega), hL 2 k (by decide), r1, b_sto (by omega) (by omega) (by decide), Option.bind_some, Int.toNat_natCast, q_le, up_ne (by omega), up_ne (by omega), m1]
        have hJ2 : q_J t (q_up (q_up M 40 6 ((e_wn b (k + 1) : Nat) : Int)) 41 k (A 125 (24 + 4 * k))) L A := j_pl hJ (fun a j ha => by rw [up_ne (by omega), up_ne (by omega)])
        have o1 : ∀ a j, ¬ ((a = 40 ∧ j = 6) ∨ (a = 41 ∧ j = k)) → (q_up (q_up M 40 6 ((e_wn b (k + 1) : Nat) : Int)) 41 k (A 125 (24 + 4 * k))).2 a j = M.2 a j := fun a j ha => by rw [up_ne (by omega), up_ne (by omega)]
        have o2 : (q_up (q_up M 40 6 ((e_wn b (k + 1) : Nat) : Int)) 41 k (A 125 (24 + 4 * k))).2 40 6 = ((e_wn b (k + 1) : Nat) : Int) := by rw [up_ne (by omega), up_rd, if_pos ⟨rfl, rfl⟩]
        have o3 : (q_up (q_up M 40 6 ((e_wn b (k + 1) : Nat) : Int)) 41 k (A 125 (24 + 4 * k))).2 41 k = A 125 (24 + 4 * k) := by rw [up_rd, if_pos ⟨rfl, rfl⟩]
        generalize q_up (q_up M 40 6 ((e_wn b (k + 1) : Nat) : Int)) 41 k (A 125 (24 + 4 * k)) = N at hJ2 o1 o2 o3
        have key := c_p91 (t := t) (L := L) (A := A) (c := c) (s := k) (lo := lo) hc (by omega) hlo (M0 := N) (K := fX6_plan_37 t n) (Q := Q) (by
          intro M' hJ' f1 f2
          rw [show (k : Int) + 1 = ((k + 1 : Nat) : Int) from by omega]
          refine ih (k + 1) M' hJ' (by omega) (by omega) ?_ ?_ ?_ ?_ ?_ ?_
          · rw [f1 40 0 (by decide) (by decide) (by omega), o1 40 0 (by omega), m0]
          · rw [f1 40 1 (by decide) (by decide) (by omega), o1 40 1 (by omega), m1]
          · rw [f1 40 6 (by decide) (by decide) (by omega), o2]
          · rw [f1 40 8 (by decide) (by decide) (by omega), o1 40 8 (by omega), m8]
          · intro i hi
            rw [f1 49 i (by decide) (by decide) (by omega), o1 49 i (by omega), m49 i hi]
          · intro s hs hbs
            by_cases cs : s = k
            · subst cs
              refine ⟨by rw [f1 41 s (by decide) (by decide) (by omega), o3]; rfl, fun i h1 h2 => f2 i h1 (by omega)⟩
            · obtain ⟨z1, z2⟩ := mr s (by omega) hbs
              refine ⟨by rw [f1 41 s (by decide) (by decide) (by omega), o1 41 s (by omega), z1], fun i h1 h2 => ?_⟩
              rw [f1 (43 + s) i (by omega) (by omega) (by omega), o1 (43 + s) i (by omega), z2 i h1 h2]) q_FU (F + 1 - lo) N hJ2 (fun _ _ _ _ _ => rfl) (fun i h1 h2 => by omega) (by unfold q_FU; omega) (by omega)
        rw [X_end A c k (lo + (F + 1 - lo)) (by omega), show ((lo + (F + 1 - lo) : Nat) : Int) - 1 = (F : Int) from by omega] at key
        exact key
    · have hk' : k = S := by omega
      subst hk'
      rw [if_neg (by omega)]
      have ew := e_wnb ⟨b, hb2⟩ ⟨k, by omega⟩
      simp only at ew
      refine hK M hJ ⟨hS2, ew.1, ew.2.1, hF2, by omega, m0, m1, m6, ?_⟩ m8 m49
      intro s hs
      have hs6 := tb6 ew.1 hs
      have hb' := (ew.2.2.2 ⟨s, hs6⟩).mp hs
      simp only at hb'
      obtain ⟨z1, z2⟩ := mr s hb'.1 hb'.2
      obtain ⟨p1, -⟩ := ws s (by omega)
      refine ⟨z1, p1, fun i h1 h2 => ⟨z2 i (by omega) h2, ?_⟩⟩
      have := X_b A c s i (by omega)
      rw [hF] at this
      exact this
theorem perms_st : ∀ (n r : Nat), r < 64 → e_card r ≤ n → e_perms (n + 1) r = e_perms n r := by
  intro n
  induction n with
  | zero =>
    intro r hr hc
    have h0 : r = 0 := ((e_c0 ⟨r, hr⟩).1).mp (by show e_card r = 0; omega)
    subst h0
    rfl
  | succ n ih =>
    intro r hr hc
    rw [e_perms, e_perms]
    by_cases h0 : r = 0
    · rw [if_pos h0, if_pos h0]
    · rw [if_neg h0, if_neg h0]
      have : ∀ s ∈ e_bits r, (e_perms (n + 1) (e_clr r s)).map (fun l => s :: l) = (e_perms n (e_clr r s)).map (fun l => s :: l) := by
        intro s hs
        obtain ⟨c1, c2, c3⟩ := e_cc ⟨r, hr⟩ s hs
        simp only at c1 c2 c3
        rw [ih _ c2 (by omega)]
      generalize e_bits r = l at this
      induction l with
      | nil => rfl
      | cons a l ihl => rw [List.flatMap_cons, List.flatMap_cons, this a List.mem_cons_self, ihl (fun s hs => this s (List.mem_cons_of_mem _ hs))]
theorem perms_96 {r : Nat} (hr : r < 64) : e_perms 9 r = e_perms 6 r := by
  have h6 := (e_c0 ⟨r, hr⟩).2
  simp only at h6
  rw [perms_st 8 r hr (by omega), perms_st 7 r hr (by omega), perms_st 6 r hr (by omega)]
/-- what a round comes to -/
def e_best (A : q_G) (c r : Nat) : e_S := e_fold (A 122 3) (e_pl A) (e_X A c) (A 131 1) (A 131 0) [] (-1, []) (e_perms 6 r)
def e_ok (A : q_G) (c W t : Nat) : Bool := e_rch (A 122 3) (e_pl A) (e_X A c) 9 W 0 (A 131 1) (A 131 0) t
theorem c_plan {t : Nat} {M : q_Mem} {L A : q_G} (h : q_J t M L A) {c b S : Nat} (hc : (c : Int) < A 123 4) (hb : A 131 2 = (b : Int)) (hS : A 123 3 = (S : Int)) : q_P (fX6_plan t (c : Int) M) (fun _ M' => q_J t M' L A ∧ M'.2 40 6 = ((e_wn b S : Nat) : Int) ∧ M'.2 40 8 = (e_best A c (e_wn b S)).1 ∧ ((e_best A c (e_wn b S)).1 ≠ -1 → (e_best A c (e_wn b S)).2.length = e_card (e_wn b S) ∧ ∀ j, j < e_card (e_wn b S) → M'.2 51 j = (((e_best A c (e_wn b S)).2.getD j 0 : Nat) : Int)) ∧ (-1 ≤ (e_best A c (e_wn b S)).1 ∧ (e_best A c (e_wn b S)).1 ≤ 400) ∧ ∀ i, i < 64 → M'.2 49 i = if e_ok A c (e_wn b S) i = true then 1 else 0) := by
  have w := j_wf h
  have db := j_db h
  have jf := j_f h
  obtain ⟨F, hF, hF2⟩ := nat_of' w.1
  obtain ⟨lo, hlo, hlo2⟩ := nat_of' db.1
  have ht : t = 57 ∨ t = 72 := (j_t h).1
  unfold fX6_plan
  rw [q_le, q_le, q_le, q_le, jf.2.1, up_ne (by omega), jf.1, hS, hF]
  refine w_call (c_fill0 (r0 := 49) (n0 := 64) (by omega) 0 _) ?_
  rintro _ M5 ⟨f1, f2⟩
  have o : ∀ a j, ¬ ((a = 40 ∧ (j = 0 ∨ j = 1 ∨ j = 6 ∨ j = 8)) ∨ a = 49) → M5.2 a j = M.2 a j := fun a j ha => by rw [f1 a j (by omega), up_ne (by omega), up_ne (by omega), up_ne (by omega), up_ne (by omega)]
  have hJ5 : q_J t M5 L A := j_pl h (fun a j ha => o a j (by omega))
  have ew := e_wnb ⟨b, by omega⟩ ⟨S, by omega⟩
  simp only at ew
  have key := c_p37 (t := t) (L := L) (A := A) (c := c) (lo := lo) (b := b) (S := S) (F := F) hc hlo hb (by omega) hS (by omega) hF (by omega) (Q := fun _ M' => q_J t M' L A ∧ M'.2 40 6 = ((e_wn b S : Nat) : Int) ∧ M'.2 40 8 = (e_best A c (e_wn b S)).1 ∧ ((e_best A c (e_wn b S)).1 ≠ -1 → (e_best A c (e_wn b S)).2.length = e_card (e_wn b S) ∧ ∀ j, j < e_card (e_wn b S) → M'.2 51 j = (((e_best A c (e_wn b S)).2.getD j 0 : Nat) : Int)) ∧ (-1 ≤ (e_best A c (e_wn b S)).1 ∧ (e_best A c (e_wn b S)).1 ≤ 400) ∧ ∀ i, i < 64 → M'.2 49 i = if e_ok A c (e_wn b S) i = true then 1 else 0) (by
    intro M' hJ' hH m8 m49
    have jd := j_d hJ'
    have hW6 := (e_c0 ⟨e_wn b S, ew.1⟩).2
    simp only at hW6
    have h63 : e_wn b S &&& (63 ^^^ 0) = e_wn b S := by
      have : ∀ r : Fin 64, r.val &&& (63 ^^^ 0) = r.val := by decide +kernel
      exact this ⟨e_wn b S, ew.1⟩
    have hV : e_V M' (e_wn b S) [] (-1, []) (fun _ => false) M' := ⟨fun _ _ _ => rfl, fun j hj => by simp at hj, m8, fun hne => absurd rfl hne, by decide, fun i hi => m49 i hi⟩
    have := c_visit hH 9 0 [] (A 131 1) (A 131 0) (-1, []) (fun _ => false) M' (by decide) (Nat.and_zero _) (by decide) (by rw [h63]; omega) db.2.1 (by omega) hV
    rw [h63] at this
    rw [jd.1, jd.2.1]
    refine w_call this ?_
    intro _ M2 hV2
    obtain ⟨v1, v2, v3, v4, v5, v6⟩ := hV2
    rw [← hF, dfs_fold _ _ _ 9 _ _ _ _ _ ew.1 (by omega), perms_96 ew.1] at v3 v4 v5
    refine w_some.mpr ⟨j_pl hJ' (fun a j ha => v1 a j (by omega)), ?_, v3, v4, v5, ?_⟩
    · rw [v1 40 6 (by omega), hH.2.2.2.2.2.2.2.1]
    · intro i hi
      have h6 := v6 i hi
      simp only [Bool.false_or] at h6
      unfold e_ok
      rw [h6, hF]) q_FU 0 M5 hJ5 (by omega) (by unfold q_FU; omega) (by rw [f1 40 0 (by decide), up_ne (by omega), up_ne (by omega), up_ne (by omega), up_rd, if_pos ⟨rfl, rfl⟩]) (by rw [f1 40 1 (by decide), up_ne (by omega), up_ne (by omega), up_rd, if_pos ⟨rfl, rfl⟩]) (by rw [f1 40 6 (by decide), up_ne (by omega), up_rd, if_pos ⟨rfl, rfl⟩, e_w0]; rfl) (by rw [f1 40 8 (by decide), up_rd, if_pos ⟨rfl, rfl⟩]) f2 (fun s hs _ => by omega)
  exact key
