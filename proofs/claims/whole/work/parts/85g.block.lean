/-! blocked -/
theorem tb_lt {i : Nat} (h : i < 6) : (63 : Nat).testBit i = true := by
  have : i = 0 ∨ i = 1 ∨ i = 2 ∨ i = 3 ∨ i = 4 ∨ i = 5 := by omega
  rcases this with rfl | rfl | rfl | rfl | rfl | rfl <;> decide
theorem tb_clr {r s i : Nat} (h : i < 6) : (e_clr r s).testBit i = (r.testBit i && !decide (s = i)) := by
  unfold e_clr
  rw [Nat.testBit_and, Nat.testBit_xor, tb_lt h, Nat.testBit_two_pow, Bool.true_xor]
theorem tb_sub {x y i : Nat} (h : i < 6) : (x &&& (63 ^^^ y)).testBit i = (x.testBit i && !y.testBit i) := by
  rw [Nat.testBit_and, Nat.testBit_xor, tb_lt h, Bool.true_xor]
theorem tb_or {d s i : Nat} : (d ||| 2 ^ s).testBit i = (d.testBit i || decide (s = i)) := by
  rw [Nat.testBit_or, Nat.testBit_two_pow]
theorem eq64 {x y : Nat} (hx : x < 64) (hy : y < 64) (h : ∀ i, i < 6 → x.testBit i = y.testBit i) : x = y := by
  apply Nat.eq_of_testBit_eq
  intro i
  by_cases c : i < 6
  · exact h i c
  · have h6 : 2 ^ 6 ≤ 2 ^ i := Nat.pow_le_pow_right (by decide) (by omega)
    have e6 : (2 : Nat) ^ 6 = 64 := by decide
    rw [Nat.testBit_lt_two_pow (by omega), Nat.testBit_lt_two_pow (by omega)]
def e_ex (F : Int) (P : Nat → Int) (X : Nat → Int → Int) (n T : Nat) (p m : Int) : Prop := ∃ l ∈ e_perms n T, e_end F P X l p m ≠ -1
theorem ex_0 {F : Int} {P : Nat → Int} {X : Nat → Int → Int} {n : Nat} {p m : Int} (hm : m ≠ -1) : e_ex F P X n 0 p m := by
  refine ⟨[], ?_, hm⟩
  cases n with
  | zero => exact List.mem_cons_self
  | succ n => rw [e_perms, if_pos rfl]; exact List.mem_cons_self
theorem ex_s {F : Int} {P : Nat → Int} {X : Nat → Int → Int} {n T : Nat} {p m : Int} (hT : T ≠ 0) : e_ex F P X (n + 1) T p m ↔ ∃ s ∈ e_bits T, e_ft F P X p m s ≠ -1 ∧ e_ex F P X n (e_clr T s) (P s) (e_ft F P X p m s) := by
  unfold e_ex
  rw [e_perms, if_neg hT]
  constructor
  · rintro ⟨l, hl, he⟩
    obtain ⟨s, hs, hl2⟩ := List.mem_flatMap.mp hl
    obtain ⟨l', hl', rfl⟩ := List.mem_map.mp hl2
    rw [e_end] at he
    by_cases c : e_ft F P X p m s = -1
    · rw [if_pos c] at he
      exact absurd rfl he
    · rw [if_neg c] at he
      exact ⟨s, hs, c, l', hl', he⟩
  · rintro ⟨s, hs, hne, l', hl', he⟩
    refine ⟨s :: l', List.mem_flatMap.mpr ⟨s, hs, List.mem_map.mpr ⟨l', hl', rfl⟩⟩, ?_⟩
    rw [e_end, if_neg hne]
    exact he
theorem or64 : ∀ (d : Fin 64) (s : Fin 6), d.val ||| 2 ^ s.val < 64 := by decide +kernel
theorem sub64 {t d : Nat} (ht : t < 64) : t &&& (63 ^^^ d) < 64 := Nat.lt_of_le_of_lt Nat.and_le_left ht
theorem rch_iff {F : Int} {P : Nat → Int} {X : Nat → Int → Int} : ∀ (n r d : Nat) (p m : Int) (t : Nat), r < 64 → d < 64 → t < 64 → (∀ i, i < 6 → r.testBit i = true → d.testBit i = false) → e_card r ≤ n → m ≠ -1 → (e_rch F P X n r d p m t = true ↔ (∀ i, i < 6 → d.testBit i = true → t.testBit i = true) ∧ (∀ i, i < 6 → t.testBit i = true → d.testBit i = true ∨ r.testBit i = true) ∧ e_ex F P X n (t &&& (63 ^^^ d)) p m) := by
  intro n
  induction n with
  | zero =>
    intro r d p m t hr hd ht hrd hc hm
    have h0 : r = 0 := ((e_c0 ⟨r, hr⟩).1).mp (by show e_card r = 0; omega)
    subst h0
    rw [e_rch, beq_iff_eq]
    constructor
    · rintro rfl
      refine ⟨fun _ _ h => h, fun _ _ h => Or.inl h, ?_⟩
      have : t &&& (63 ^^^ t) = 0 := eq64 (sub64 ht) (by decide) (fun i hi => by rw [tb_sub hi]; simp)
      rw [this]
      exact ex_0 hm
    · rintro ⟨h1, h2, -⟩
      apply eq64 ht hd
      intro i hi
      cases hti : t.testBit i with
      | true =>
        rcases h2 i hi hti with h | h
        · exact h.symm
        · simp at h
      | false =>
        cases hdi : d.testBit i with
        | true => rw [h1 i hi hdi] at hti; cases hti
        | false => rfl
  | succ n ih =>
    intro r d p m t hr hd ht hrd hc hm
    rw [e_rch, Bool.or_eq_true, beq_iff_eq, List.any_eq_true]
    have step : ∀ s, s ∈ e_bits r → s < 6 ∧ r.testBit s = true ∧ d.testBit s = false ∧ (e_ft F P X p m s ≠ -1 → (e_rch F P X n (e_clr r s) (d ||| 2 ^ s) (P s) (e_ft F P X p m s) t = true ↔ (∀ i, i < 6 → (d ||| 2 ^ s).testBit i = true → t.testBit i = true) ∧ (∀ i, i < 6 → t.testBit i = true → (d ||| 2 ^ s).testBit i = true ∨ (e_clr r s).testBit i = true) ∧ e_ex F P X n (t &&& (63 ^^^ (d ||| 2 ^ s))) (P s) (e_ft F P X p m s))) := by
      intro s hs
      obtain ⟨c1, c2, c3⟩ := e_cc ⟨r, hr⟩ s hs
      simp only at c1 c2 c3
      have hrs := (e_bt ⟨r, hr⟩ ⟨s, c3⟩).mp hs
      simp only at hrs
      refine ⟨c3, hrs, hrd s c3 hrs, fun hne => ?_⟩
      refine ih (e_clr r s) (d ||| 2 ^ s) _ _ t c2 (or64 ⟨d, hd⟩ ⟨s, c3⟩) ht ?_ (by omega) hne
      intro i hi h
      rw [tb_clr hi, Bool.and_eq_true, Bool.not_eq_true', decide_eq_false_iff_not] at h
      rw [tb_or, hrd i hi h.1, Bool.false_or, decide_eq_false h.2]
    have teq : ∀ s, t &&& (63 ^^^ (d ||| 2 ^ s)) = e_clr (t &&& (63 ^^^ d)) s := by
      intro s
      refine eq64 (sub64 ht) (Nat.lt_of_le_of_lt Nat.and_le_left (sub64 ht)) (fun i hi => ?_)
      rw [tb_sub hi, tb_clr hi, tb_sub hi, tb_or]
      cases t.testBit i <;> cases d.testBit i <;> cases decide (s = i) <;> rfl
    constructor
    · rintro (rfl | ⟨s, hs, hs2⟩)
      · refine ⟨fun _ _ h => h, fun _ _ h => Or.inl h, ?_⟩
        have : t &&& (63 ^^^ t) = 0 := eq64 (sub64 ht) (by decide) (fun i hi => by rw [tb_sub hi]; simp)
        rw [this]
        exact ex_0 hm
      · rw [Bool.and_eq_true, Bool.not_eq_true', beq_eq_false_iff_ne] at hs2
        obtain ⟨q1, q2, q3, q4⟩ := step s hs
        obtain ⟨g1, g2, g3⟩ := (q4 hs2.1).mp hs2.2
        have hts : t.testBit s = true := g1 s q1 (by rw [tb_or]; simp)
        refine ⟨fun i hi h => g1 i hi (by rw [tb_or, h]; rfl), ?_, ?_⟩
        · intro i hi h
          rcases g2 i hi h with h' | h'
          · rw [tb_or, Bool.or_eq_true, decide_eq_true_eq] at h'
            rcases h' with h' | rfl
            · exact Or.inl h'
            · exact Or.inr q2
          · rw [tb_clr hi, Bool.and_eq_true] at h'
            exact Or.inr h'.1
        · have hTs : (t &&& (63 ^^^ d)).testBit s = true := by rw [tb_sub q1, hts, q3]; rfl
          have hT0 : t &&& (63 ^^^ d) ≠ 0 := by
            intro h
            rw [h] at hTs
            simp at hTs
          rw [ex_s hT0]
          refine ⟨s, (e_bt ⟨_, sub64 ht⟩ ⟨s, q1⟩).mpr hTs, hs2.1, ?_⟩
          rw [← teq s]
          exact g3
    · rintro ⟨h1, h2, h3⟩
      by_cases hT0 : t &&& (63 ^^^ d) = 0
      · left
        apply eq64 ht hd
        intro i hi
        have hz : (t &&& (63 ^^^ d)).testBit i = false := by rw [hT0]; simp
        rw [tb_sub hi] at hz
        cases hti : t.testBit i with
        | true =>
          rw [hti, Bool.true_and, Bool.not_eq_false'] at hz
          exact hz.symm
        | false =>
          cases hdi : d.testBit i with
          | true => rw [h1 i hi hdi] at hti; cases hti
          | false => rfl
      · right
        obtain ⟨s, hs, hne, hex⟩ := (ex_s hT0).mp h3
        obtain ⟨-, -, c3⟩ := e_cc ⟨_, sub64 ht⟩ s hs
        have hTs := (e_bt ⟨_, sub64 ht⟩ ⟨s, c3⟩).mp hs
        simp only at hTs
        rw [tb_sub c3, Bool.and_eq_true, Bool.not_eq_true'] at hTs
        have hrs : r.testBit s = true := by
          rcases h2 s c3 hTs.1 with h | h
          · rw [hTs.2] at h; cases h
          · exact h
        have hsr : s ∈ e_bits r := (e_bt ⟨r, hr⟩ ⟨s, c3⟩).mpr hrs
        obtain ⟨q1, q2, q3, q4⟩ := step s hsr
        refine ⟨s, hsr, ?_⟩
        rw [Bool.and_eq_true, Bool.not_eq_true', beq_eq_false_iff_ne]
        refine ⟨hne, (q4 hne).mpr ⟨?_, ?_, ?_⟩⟩
        · intro i hi h
          rw [tb_or, Bool.or_eq_true, decide_eq_true_eq] at h
          rcases h with h | rfl
          · exact h1 i hi h
          · exact hTs.1
        · intro i hi h
          by_cases ci : s = i
          · left
            rw [tb_or, decide_eq_true ci, Bool.or_true]
          · rcases h2 i hi h with h' | h'
            · left
              rw [tb_or, h', Bool.true_or]
            · right
              rw [tb_clr hi, h', decide_eq_false ci]
              rfl
        · rw [teq s]
          exact hex
theorem fold_ne {F : Int} {P : Nat → Int} {X : Nat → Int → Int} {p m : Int} {pre : List Nat} : ∀ (Ls : List (List Nat)) (st : e_S), (e_fold F P X p m pre st Ls).1 ≠ -1 ↔ st.1 ≠ -1 ∨ ∃ l ∈ Ls, e_end F P X l p m ≠ -1 := by
  intro Ls
  induction Ls with
  | nil => intro st; simp [e_fold]
  | cons l Ls ih =>
    intro st
    unfold e_fold at ih ⊢
    rw [List.foldl_cons, ih]
    have hup : (e_up st (e_end F P X l p m) (pre ++ l)).1 ≠ -1 ↔ st.1 ≠ -1 ∨ e_end F P X l p m ≠ -1 := by
      unfold e_up
      by_cases c : e_end F P X l p m ≠ -1 ∧ (st.1 = -1 ∨ e_end F P X l p m < st.1)
      · rw [if_pos c]
        exact ⟨fun h => Or.inr h, fun _ => c.1⟩
      · rw [if_neg c]
        constructor
        · intro h; exact Or.inl h
        · rintro (h | h)
          · exact h
          · intro h2
            exact c ⟨h, Or.inl h2⟩
    rw [hup]
    constructor
    · rintro ((h | h) | ⟨l', h1, h2⟩)
      · exact Or.inl h
      · exact Or.inr ⟨l, List.mem_cons_self, h⟩
      · exact Or.inr ⟨l', List.mem_cons_of_mem _ h1, h2⟩
    · rintro (h | ⟨l', h1, h2⟩)
      · exact Or.inl (Or.inl h)
      · rcases List.mem_cons.mp h1 with rfl | h1
        · exact Or.inl (Or.inr h2)
        · exact Or.inr ⟨l', h1, h2⟩
theorem ok_iff {A : q_G} {c W t : Nat} (hW : W < 64) (ht : t < 64) (hm : A 131 0 ≠ -1) : e_ok A c W t = true ↔ (∀ i, i < 6 → t.testBit i = true → W.testBit i = true) ∧ (e_best A c t).1 ≠ -1 := by
  have h6 := (e_c0 ⟨W, hW⟩).2
  simp only at h6
  unfold e_ok
  rw [rch_iff 9 W 0 _ _ t hW (by decide) ht (fun i _ _ => by simp) (by omega) hm]
  have e0 : t &&& (63 ^^^ 0) = t := eq64 (sub64 ht) ht (fun i hi => by rw [tb_sub hi]; simp)
  rw [e0]
  unfold e_best
  rw [fold_ne, ← perms_96 ht]
  constructor
  · rintro ⟨-, h2, h3⟩
    refine ⟨fun i hi h => ?_, Or.inr h3⟩
    rcases h2 i hi h with h' | h'
    · simp at h'
    · exact h'
  · rintro ⟨h1, h2⟩
    refine ⟨fun i _ h => by simp at h, fun i hi h => Or.inr (h1 i hi h), ?_⟩
    rcases h2 with h | h
    · exact absurd rfl h
    · exact h
def s_le2 (x y : Nat) : Prop := e_card x < e_card y ∨ (e_card x = e_card y ∧ x ≤ y)
def s_few (re : Nat → Bool) (W : Nat) : Nat → Nat → Nat → Nat
  | 0, _, x => x
  | n + 1, k, x => if re k = true ∧ (e_card (W &&& (63 ^^^ k)) < e_card x ∨ (e_card (W &&& (63 ^^^ k)) = e_card x ∧ W &&& (63 ^^^ k) < x)) then s_few re W n (k + 1) (W &&& (63 ^^^ k)) else s_few re W n (k + 1) x
theorem few_ok (re : Nat → Bool) (W : Nat) : ∀ (n k x : Nat), (s_few re W n k x = x ∨ ∃ j, k ≤ j ∧ j < k + n ∧ re j = true ∧ s_few re W n k x = W &&& (63 ^^^ j)) ∧ s_le2 (s_few re W n k x) x ∧ ∀ j, k ≤ j → j < k + n → re j = true → s_le2 (s_few re W n k x) (W &&& (63 ^^^ j)) := by
  intro n
  induction n with
  | zero => intro k x; exact ⟨Or.inl rfl, Or.inr ⟨rfl, Nat.le_refl _⟩, fun j h1 h2 => by omega⟩
  | succ n ih =>
    intro k x
    rw [s_few]
    by_cases c : re k = true ∧ (e_card (W &&& (63 ^^^ k)) < e_card x ∨ (e_card (W &&& (63 ^^^ k)) = e_card x ∧ W &&& (63 ^^^ k) < x))
    · rw [if_pos c]
      obtain ⟨i1, i2, i3⟩ := ih (k + 1) (W &&& (63 ^^^ k))
      refine ⟨?_, ?_, ?_⟩
      · rcases i1 with i1 | ⟨j, h1, h2, h3, h4⟩
        · exact Or.inr ⟨k, by omega, by omega, c.1, i1⟩
        · exact Or.inr ⟨j, by omega, by omega, h3, h4⟩
      · clear i1 i3
        unfold s_le2 at i2 ⊢
        omega
      · intro j h1 h2 h3
        by_cases cj : j = k
        · rw [cj]; exact i2
        · exact i3 j (by omega) (by omega) h3
    · rw [if_neg c]
      obtain ⟨i1, i2, i3⟩ := ih (k + 1) x
      refine ⟨?_, i2, ?_⟩
      · rcases i1 with i1 | ⟨j, h1, h2, h3, h4⟩
        · exact Or.inl i1
        · exact Or.inr ⟨j, by omega, by omega, h3, h4⟩
      · intro j h1 h2 h3
        by_cases cj : j = k
        · rw [cj]
          rw [cj] at h3
          clear i1 i3
          unfold s_le2 at i2 ⊢
          have : ¬ (e_card (W &&& (63 ^^^ k)) < e_card x ∨ (e_card (W &&& (63 ^^^ k)) = e_card x ∧ W &&& (63 ^^^ k) < x)) := fun h => c ⟨h3, h⟩
          omega
        · exact i3 j (by omega) (by omega) h3
def s_few1 (k : Nat) : Option Nat → Bool
  | none => true
  | some y => decide (e_card k < e_card y)
def s_blk (g : Nat → Bool) (W : Nat) : Nat → Nat → Option Nat → Option Nat
  | 0, _, b => b
  | n + 1, k, b => if (k &&& (63 ^^^ W) = 0 ∧ s_few1 k b = true) ∧ g (W &&& (63 ^^^ k)) = true then s_blk g W n (k + 1) (some k) else s_blk g W n (k + 1) b
def s_Cb (g : Nat → Bool) (W j : Nat) : Prop := j &&& (63 ^^^ W) = 0 ∧ g (W &&& (63 ^^^ j)) = true
theorem blk_ok (g : Nat → Bool) (W : Nat) : ∀ (n k : Nat) (b : Option Nat), (∀ y, b = some y → y < k) → (∀ x, s_blk g W n k b = some x → (b = some x ∨ (x < k + n ∧ s_Cb g W x)) ∧ (∀ y, b = some y → s_le2 x y) ∧ ∀ y, k ≤ y → y < k + n → s_Cb g W y → s_le2 x y) ∧ (s_blk g W n k b = none → b = none ∧ ∀ y, k ≤ y → y < k + n → ¬ s_Cb g W y) := by
  intro n
  induction n with
  | zero =>
    intro k b hb
    refine ⟨fun x hx => ⟨Or.inl hx, fun y hy => ?_, fun y h1 h2 => by omega⟩, fun h => ⟨h, fun y h1 h2 => by omega⟩⟩
    have : s_blk g W 0 k b = b := rfl
    rw [this, hy] at hx
    cases hx
    exact Or.inr ⟨rfl, Nat.le_refl _⟩
  | succ n ih =>
    intro k b hb
    rw [s_blk]
    by_cases c : (k &&& (63 ^^^ W) = 0 ∧ s_few1 k b = true) ∧ g (W &&& (63 ^^^ k)) = true
    · rw [if_pos c]
      obtain ⟨i1, i2⟩ := ih (k + 1) (some k) (fun y hy => by cases hy; omega)
      refine ⟨fun x hx => ?_, fun h => absurd (i2 h).1 (by simp)⟩
      obtain ⟨j1, j2, j3⟩ := i1 x hx
      have jk := j2 k rfl
      refine ⟨?_, ?_, ?_⟩
      · rcases j1 with j1 | j1
        · cases j1
          exact Or.inr ⟨by omega, c.1.1, c.2⟩
        · exact Or.inr ⟨by omega, j1.2⟩
      · intro y hy
        have h1 := c.1.2
        rw [hy] at h1
        have h2 := of_decide_eq_true h1
        unfold s_le2 at jk ⊢
        omega
      · intro y h1 h2 h3
        by_cases cy : y = k
        · rw [cy]; exact jk
        · exact j3 y (by omega) (by omega) h3
    · rw [if_neg c]
      obtain ⟨i1, i2⟩ := ih (k + 1) b (fun y hy => by have := hb y hy; omega)
      refine ⟨fun x hx => ?_, fun h => ?_⟩
      · obtain ⟨j1, j2, j3⟩ := i1 x hx
        refine ⟨?_, j2, ?_⟩
        · rcases j1 with j1 | j1
          · exact Or.inl j1
          · exact Or.inr ⟨by omega, j1.2⟩
        · intro y h1 h2 h3
          by_cases cy : y = k
          · rw [cy] at h3 ⊢
            cases b with
            | none => exact absurd ⟨⟨h3.1, rfl⟩, h3.2⟩ c
            | some z =>
              have hz := j2 z rfl
              have hzk := hb z rfl
              have : ¬ e_card k < e_card z := fun h => c ⟨⟨h3.1, decide_eq_true h⟩, h3.2⟩
              unfold s_le2 at hz ⊢
              omega
          · exact j3 y (by omega) (by omega) h3
      · obtain ⟨h1, h2⟩ := i2 h
        refine ⟨h1, fun y q1 q2 q3 => ?_⟩
        by_cases cy : y = k
        · rw [cy] at q3
          rw [h1] at c
          exact c ⟨⟨q3.1, rfl⟩, q3.2⟩
        · exact h2 y (by omega) (by omega) q3
theorem le2_eq {x y : Nat} (h1 : s_le2 x y) (h2 : s_le2 y x) : x = y := by
  unfold s_le2 at h1 h2
  omega
theorem sub_sub {W j : Nat} (hW : W < 64) (hj : j < 64) (h : ∀ i, i < 6 → j.testBit i = true → W.testBit i = true) : W &&& (63 ^^^ (W &&& (63 ^^^ j))) = j := by
  refine eq64 (sub64 hW) hj (fun i hi => ?_)
  rw [tb_sub hi, tb_sub hi]
  cases hji : j.testBit i with
  | true => rw [h i hi hji]; rfl
  | false => cases W.testBit i <;> rfl
theorem sub_z {W j : Nat} (hW : W < 64) (hj : j < 64) : j &&& (63 ^^^ W) = 0 ↔ ∀ i, i < 6 → j.testBit i = true → W.testBit i = true := by
  constructor
  · intro h i hi hji
    have : (j &&& (63 ^^^ W)).testBit i = false := by rw [h]; simp
    rw [tb_sub hi, hji, Bool.true_and, Bool.not_eq_false'] at this
    exact this
  · intro h
    refine eq64 (sub64 hj) (by decide) (fun i hi => ?_)
    rw [tb_sub hi]
    cases hji : j.testBit i with
    | true => rw [h i hi hji]; simp
    | false => simp
theorem blk_few {g re : Nat → Bool} {W S : Nat} (hW : W < 64) (hWS : W < 2 ^ S) (hS : 2 ^ S ≤ 64) (hre : ∀ t, t < 64 → (re t = true ↔ (∀ i, i < 6 → t.testBit i = true → W.testBit i = true) ∧ g t = true)) (h0 : g 0 = true) : s_blk g W (2 ^ S) 0 none = some (s_few re W 64 0 W) := by
  obtain ⟨f1, f2, f3⟩ := few_ok re W 64 0 W
  obtain ⟨b1, b2⟩ := blk_ok g W (2 ^ S) 0 none (fun y h => by cases h)
  have hx1 : s_few re W 64 0 W < 2 ^ S ∧ s_Cb g W (s_few re W 64 0 W) := by
    have hWW : W &&& (63 ^^^ W) = 0 := (sub_z hW hW).mpr (fun _ _ h => h)
    rcases f1 with f1 | ⟨j, -, hj, hrj, f1⟩
    · rw [f1]
      exact ⟨hWS, hWW, by rw [hWW]; exact h0⟩
    · obtain ⟨q1, q2⟩ := (hre j (by omega)).mp hrj
      rw [f1]
      refine ⟨Nat.lt_of_le_of_lt Nat.and_le_left hWS, (sub_z hW (sub64 hW)).mpr (fun i hi h => ?_), ?_⟩
      · rw [tb_sub hi, Bool.and_eq_true] at h
        exact h.1
      · rw [sub_sub hW (by omega) q1]
        exact q2
  cases hb : s_blk g W (2 ^ S) 0 none with
  | none => exact absurd hx1.2 ((b2 hb).2 _ (Nat.zero_le _) (by omega))
  | some x2 =>
    obtain ⟨j1, -, j3⟩ := b1 x2 hb
    rcases j1 with j1 | ⟨j1, j2⟩
    · cases j1
    · have l21 := j3 _ (Nat.zero_le _) (by omega) hx1.2
      have hx2 : x2 < 64 := by omega
      have hsub := (sub_z hW hx2).mp j2.1
      have hd : re (W &&& (63 ^^^ x2)) = true := (hre _ (sub64 hW)).mpr ⟨fun i hi h => by rw [tb_sub hi, Bool.and_eq_true] at h; exact h.1, j2.2⟩
      have l12 := f3 _ (Nat.zero_le _) (by have := sub64 (t := W) (d := x2) hW; omega) hd
      rw [sub_sub hW hx2 hsub] at l12
      rw [le2_eq l21 l12]
theorem c_few {W : Nat} (hW : W < 64) {re : Nat → Bool} {M : q_Mem} (h6 : M.2 40 6 = (W : Int)) (h49 : ∀ i, i < 64 → M.2 49 i = if re i = true then 1 else 0) : ∀ (n k v x : Nat), k + v = 64 → v < n → x < 64 → fX6_fewestLeftOut_7 n (x : Int) (k : Int) M = some (((s_few re W v k x : Nat) : Int), M) := by
  intro n
  induction n with
  | zero => intro k v x _ h; omega
  | succ n ih =>
    intro k v x hk hn hx
    rw [fX6_fewestLeftOut_7, n_w (by omega) (by omega), show q_w ((64 : Nat) : Int) = 64 from rfl]
    cases v with
    | zero => rw [if_neg (by omega), s_few]
    | succ v =>
      have eL := e_left ⟨W, hW⟩ ⟨k, by omega⟩
      simp only at eL
      have p1 := pc_card ⟨W &&& (63 ^^^ k), eL.2⟩
      have p2 := pc_card ⟨x, hx⟩
      simp only at p1 p2
      have c1 := (e_c0 ⟨W &&& (63 ^^^ k), eL.2⟩).2
      have c2 := (e_c0 ⟨x, hx⟩).2
      simp only at c1 c2
      rw [if_pos (by omega), h6, q_le, eL.1, c_bits (by omega) (by omega), b_some, c_bits (by omega) (by omega), b_some, q_le, b_ld (by omega) (by omega) (by decide), Option.bind_some, Int.toNat_natCast, h49 k (by omega), p1, p2, s_few]
      unfold fX6_fewestLeftOut_61 fX6_fewestLeftOut_63
      rw [show (k : Int) + 1 = ((k + 1 : Nat) : Int) from by omega, n_w (a := ((e_card (W &&& (63 ^^^ k)) : Nat) : Int) - ((e_card x : Nat) : Int)) (by omega) (by omega), n_w (a := ((W &&& (63 ^^^ k) : Nat) : Int)) (by omega) (by omega), n_w (a := (x : Int)) (by omega) (by omega), ih (k + 1) v x (by omega) (by omega) hx, ih (k + 1) v _ (by omega) (by omega) eL.2]
      by_cases cr : re k = true
      · rw [if_pos cr, if_pos (by decide)]
        by_cases d1 : e_card (W &&& (63 ^^^ k)) < e_card x
        · rw [if_pos (by omega), if_pos ⟨cr, Or.inl d1⟩]
        · rw [if_neg (by omega)]
          by_cases d2 : e_card (W &&& (63 ^^^ k)) = e_card x
          · rw [if_pos (by omega)]
            by_cases d3 : W &&& (63 ^^^ k) < x
            · rw [if_pos (by omega), if_pos ⟨cr, Or.inr ⟨d2, d3⟩⟩]
            · rw [if_neg (by omega), if_neg (by omega)]
          · rw [if_neg (by omega), if_neg (by omega)]
      · rw [if_neg cr, if_neg (by decide), if_neg (fun h => cr h.1)]
def s_on (b : Option Nat) : Int := match b with
  | none => -1
  | some x => (x : Int)
theorem r_blk {t : Nat} {L A : q_G} {c S F W : Nat} (hS : A 123 3 = (S : Int)) (hS2 : S ≤ 6) (hF : A 122 3 = (F : Int)) (hF2 : F ≤ 400) (hW : W < 64) (hWS : W < 2 ^ S) : ∀ (n k v : Nat) (b : Option Nat) (M : q_Mem), q_J t M L A → e_N A c S F M → k + v = 2 ^ S → v < n → (∀ y, b = some y → y < 64) → q_P (fX12_blocked_25 n (W : Int) (s_on b) (k : Int) M) (fun r M' => r = s_on (s_blk (fun t => decide ((e_best A c t).1 ≠ -1)) W v k b) ∧ q_J t M' L A) := by
  have hS64 : 2 ^ S ≤ 64 := Nat.pow_le_pow_right (n := 2) (by decide) hS2
  have ps := p_two6 (C := (S : Int)) ⟨by omega, by omega⟩
  rw [Int.toNat_natCast] at ps
  have hpS : ((2 ^ S : Nat) : Int) = 2 ^ S := by rw [Int.natCast_pow]; rfl
  intro n
  induction n with
  | zero => intro k v b M _ _ _ h; omega
  | succ n ih =>
    intro k v b M hJ hN hk hn hb
    rw [fX12_blocked_25, r_sm hJ, b_some, hS, ps.1, ← hpS, n_w (by omega) (by omega), n_w (by omega) (by omega)]
    cases v with
    | zero =>
      rw [if_neg (by omega), s_blk]
      exact w_some.mpr ⟨rfl, hJ⟩
    | succ v =>
      have eL := e_left ⟨k, by omega⟩ ⟨W, hW⟩
      have eL2 := e_left ⟨W, hW⟩ ⟨k, by omega⟩
      simp only at eL eL2
      have pk := pc_card ⟨k, by omega⟩
      simp only at pk
      have ck := (e_c0 ⟨k, by omega⟩).2
      simp only at ck
      rw [if_pos (by omega), eL.1, n_w (by omega) (by omega), s_blk]
      unfold fX12_blocked_86
      rw [show (k : Int) + 1 = ((k + 1 : Nat) : Int) from by omega]
      have skip : ¬ ((k &&& (63 ^^^ W) = 0 ∧ s_few1 k b = true) ∧ decide ((e_best A c (W &&& (63 ^^^ k))).1 ≠ -1) = true) → ∀ M', q_J t M' L A → e_N A c S F M' → q_P (fX12_blocked_25 n (W : Int) (s_on b) ((k + 1 : Nat) : Int) M') (fun r M' => r = s_on (if (k &&& (63 ^^^ W) = 0 ∧ s_few1 k b = true) ∧ decide ((e_best A c (W &&& (63 ^^^ k))).1 ≠ -1) = true then s_blk (fun t => decide ((e_best A c t).1 ≠ -1)) W v (k + 1) (some k) else s_blk (fun t => decide ((e_best A c t).1 ≠ -1)) W v (k + 1) b) ∧ q_J t M' L A) := by
        intro hnc M' hJ' hN'
        rw [if_neg hnc]
        exact ih (k + 1) v b M' hJ' hN' (by omega) (by omega) hb
      have look : (k &&& (63 ^^^ W) = 0 ∧ s_few1 k b = true) → q_P (fX12_blocked_65 (fX12_blocked_25 n) (W : Int) (s_on b) (k : Int) M) (fun r M' => r = s_on (if (k &&& (63 ^^^ W) = 0 ∧ s_few1 k b = true) ∧ decide ((e_best A c (W &&& (63 ^^^ k))).1 ≠ -1) = true then s_blk (fun t => decide ((e_best A c t).1 ≠ -1)) W v (k + 1) (some k) else s_blk (fun t => decide ((e_best A c t).1 ≠ -1)) W v (k + 1) b) ∧ q_J t M' L A) := by
        intro hc
        unfold fX12_blocked_65 fX12_blocked_86
        rw [eL2.1, show (k : Int) + 1 = ((k + 1 : Nat) : Int) from by omega]
        refine w_call (r_lround hJ hS hS2 hF hF2 hN eL2.2 (Nat.lt_of_le_of_lt Nat.and_le_left hWS)) ?_
        rintro _ M1 ⟨l', -, hJ1, hN1, -, -, h60, -, hbb⟩
        rw [h60, n_w (by omega) (by omega), show q_w (-1) = -1 from rfl]
        by_cases c3 : (e_best A c (W &&& (63 ^^^ k))).1 = -1
        · rw [if_pos c3]
          exact skip (fun h => (of_decide_eq_true h.2) c3) M1 hJ1 hN1
        · rw [if_neg c3, if_pos ⟨hc, decide_eq_true c3⟩]
          exact ih (k + 1) v (some k) M1 hJ1 hN1 (by omega) (by omega) (fun y hy => by cases hy; omega)
      by_cases c1 : k &&& (63 ^^^ W) = 0
      · rw [if_pos (by omega)]
        cases b with
        | none =>
          rw [show q_w (s_on none) = q_w (-1) from rfl, if_pos rfl]
          exact look ⟨c1, rfl⟩
        | some y =>
          have hy := hb y rfl
          have py := pc_card ⟨y, hy⟩
          simp only at py
          have cy := (e_c0 ⟨y, hy⟩).2
          simp only at cy
          rw [show s_on (some y) = (y : Int) from rfl, n_w (a := (y : Int)) (by omega) (by omega), show q_w (-1) = -1 from rfl, if_neg (by omega), r_bits (by omega) (by omega), b_some, r_bits (by omega) (by omega), b_some, pk, py, n_w (by omega) (by omega), n_w (by omega) (by omega)]
          by_cases c2 : e_card k < e_card y
          · rw [if_pos (by omega)]
            exact look ⟨c1, decide_eq_true c2⟩
          · rw [if_neg (by omega)]
            exact skip (fun h => c2 (of_decide_eq_true h.1.2)) M hJ hN
      · rw [if_neg (by omega)]
        exact skip (fun h => c1 h.1.1) M hJ hN
theorem st_blocked {M : q_Mem} (hS : q_St M) (x1 : Int) (h1 : q_R x1) : q_Step M (fX11_blocked x1 M) (fun M1 => fX12_blocked x1 M1) := by
  obtain ⟨t, L, A, hI⟩ := id hS
  have w := j_wf hI.1
  have db := j_db hI.1
  by_cases c : 0 ≤ x1 ∧ x1 < A 123 4
  · obtain ⟨a, rfl, ha⟩ := nat_of c
    obtain ⟨b, hb, hb2⟩ := nat_of (x := A 131 2) (b := 64) ⟨by omega, by omega⟩
    obtain ⟨S, hSt, hSt2⟩ := nat_of' w.2.1
    obtain ⟨F, hF, hF2⟩ := nat_of' w.1
    have ew := e_wnb ⟨b, by omega⟩ ⟨S, by omega⟩
    simp only at ew
    have hS64 : 2 ^ S ≤ 64 := (show 2 ^ S ≤ 2 ^ 6 from Nat.pow_le_pow_right (by decide) (by omega))
    have hbf := blk_few (g := fun t => decide ((e_best A a t).1 ≠ -1)) (re := e_ok A a (e_wn b S)) (W := e_wn b S) (S := S) ew.1 ew.2.1 hS64 (fun t ht => by rw [ok_iff ew.1 ht (by omega), decide_eq_true_eq]) (decide_eq_true (by
      unfold e_best
      rw [fold_ne]
      exact Or.inr (ex_0 (n := 6) (by omega))))
    refine st_q hI (((s_few (e_ok A a (e_wn b S)) (e_wn b S) 64 0 (e_wn b S) : Nat) : Int)) ?_ ?_
    · unfold fX11_blocked
      rw [c_isCoin hI.1 h1, b_some, f_ite, if_pos c, q_le, j_told hI.1]
      refine w_call (c_plan hI.1 ha hb hSt) ?_
      rintro _ M1 ⟨hJ1, e6, -, -, -, e49⟩
      unfold fX6_fewestLeftOut
      rw [q_le, e6]
      have := c_few ew.1 e6 e49 q_FU 0 64 (e_wn b S) (by omega) (by unfold q_FU; omega) ew.1
      rw [show ((0 : Nat) : Int) = 0 from rfl] at this
      rw [this, b_some]
      exact w_some.mpr ⟨rfl, hJ1⟩
    · intro M1 hJ
      unfold fX12_blocked
      rw [r_isCoin hJ h1, b_some, f_ite, if_pos c]
      refine w_call (r_nexts hJ ha hSt hF (by omega)) ?_
      rintro _ M2 ⟨hJ2, hN2⟩
      rw [r_unb hJ2 hb (by omega) hSt (by omega), b_some]
      have := r_blk (t := t) (L := L) (A := A) (c := a) (S := S) (F := F) (W := e_wn b S) hSt (by omega) hF (by omega) ew.1 ew.2.1 q_FU 0 (2 ^ S) none M2 hJ2 hN2 (by omega) (by unfold q_FU; omega) (fun y h => by cases h)
      rw [hbf] at this
      exact this
  · refine st_q hI (-1) ?_ ?_
    · unfold fX11_blocked
      rw [c_isCoin hI.1 h1, b_some, f_ite, if_neg c]
      exact w_some.mpr ⟨rfl, hI.1⟩
    · intro M1 hJ
      unfold fX12_blocked
      rw [r_isCoin hJ h1, b_some, f_ite, if_neg c]
      exact w_some.mpr ⟨rfl, hJ⟩
