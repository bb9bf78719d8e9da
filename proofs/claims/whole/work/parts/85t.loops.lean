/-! texts: the other side's loops over its stack -/
def k_br (base : Nat) : List Int → Int
  | [] => -1
  | v :: T => if T.length < base then -1 else if 20 ≤ v ∧ v ≤ 24 then v else k_br base T
theorem br_1 {base : Nat} {T : List Int} {v : Int} (hv : 20 ≤ v ∧ v ≤ 24) (hb : base ≤ T.length) : ∀ pend : List Int, (∀ u ∈ pend, 1 ≤ u ∧ u ≤ 4) → k_br base (pend ++ v :: T) = v := by
  intro pend
  induction pend with
  | nil => intro _; rw [List.nil_append, k_br, if_neg (by omega), if_pos hv]
  | cons u pend ih =>
    intro h
    have := h u List.mem_cons_self
    rw [List.cons_append, k_br, if_neg (by rw [List.length_append, List.length_cons]; omega), if_neg (by omega)]
    exact ih (fun x hx => h x (List.mem_cons_of_mem _ hx))
theorem br_0 {base : Nat} {T : List Int} (hb : T.length = base) : ∀ pend : List Int, (∀ u ∈ pend, 1 ≤ u ∧ u ≤ 4) → k_br base (pend ++ T) = -1 := by
  intro pend
  induction pend with
  | nil =>
    intro _
    cases T with
    | nil => rfl
    | cons v T =>
      rw [List.length_cons] at hb
      rw [List.nil_append, k_br, if_pos (by omega)]
  | cons u pend ih =>
    intro h
    have := h u List.mem_cons_self
    rw [List.cons_append, k_br, if_neg (by rw [List.length_append]; omega), if_neg (by omega)]
    exact ih (fun x hx => h x (List.mem_cons_of_mem _ hx))
theorem isBr {v : Int} (h : 0 ≤ v ∧ v ≤ 100) (M : q_Mem) : fX12_qIsBracket v M = some (if 20 ≤ v ∧ v ≤ 24 then 1 else 0, M) := by
  unfold fX12_qIsBracket
  rw [n_w (by omega) (by omega), show q_w 20 = 20 from rfl, show q_w 24 = 24 from rfl]
  by_cases c1 : v < 20
  · rw [if_pos c1, if_neg (by omega)]
  · rw [if_neg c1]
    by_cases c2 : 24 < v
    · rw [if_pos c2, if_neg (by omega)]
    · rw [if_neg c2, if_pos (by omega)]
theorem ld_n {M : q_Mem} {a n k : Nat} {i : Int} (hi : i = (k : Int)) (hk : k < n) (hn : n ≤ 2147483647) : q_ld M a n i = some (M.2 a k) := by
  rw [hi, b_ld (by omega) (by omega) hn, Int.toNat_natCast]
theorem C_br7 {base : Nat} {M : q_Mem} (h5 : M.2 94 95 = (base : Int)) (hb : base ≤ 1700) : ∀ (T : List Int) (n : Nat), z_stk (M.2 163) T → T.length ≤ 1700 → T.length < n → (∀ v ∈ T, 0 ≤ v ∧ v ≤ 100) → fX12_qBracket_7 n ((T.length : Int) - 1) M = some (k_br base T, M) := by
  intro T
  induction T with
  | nil =>
    intro n _ _ hn _
    cases n with
    | zero => omega
    | succ n =>
      rw [fX12_qBracket_7, h5, List.length_nil, show q_w (((0 : Nat) : Int) - 1) = -1 from rfl, n_w (a := (base : Int)) (by omega) (by omega), if_pos (by omega)]
      unfold fX12_qBracket_33
      rw [h5, show q_w (((0 : Nat) : Int) - 1) = -1 from rfl, n_w (a := (base : Int)) (by omega) (by omega), if_pos (by omega)]
      rfl
  | cons v T ih =>
    intro n hs hl hn hv
    rw [List.length_cons] at hl hn
    have e : ((((v :: T).length : Nat) : Int) - 1) = (T.length : Int) := by rw [List.length_cons]; omega
    rw [e]
    cases n with
    | zero => omega
    | succ n =>
      have hv0 := hv v List.mem_cons_self
      rw [fX12_qBracket_7, h5, n_w (a := (T.length : Int)) (by omega) (by omega), n_w (a := (base : Int)) (by omega) (by omega), k_br]
      have e33 : fX12_qBracket_33 (T.length : Int) M = if T.length < base then some (-1, M) else some (v, M) := by
        unfold fX12_qBracket_33
        rw [h5, n_w (a := (T.length : Int)) (by omega) (by omega), n_w (a := (base : Int)) (by omega) (by omega)]
        by_cases c : T.length < base
        · rw [if_pos (by omega), if_pos c]
        · rw [if_neg (by omega), if_neg c, ld_n rfl (by omega) (by omega), Option.bind_some, hs.1]
      by_cases c : T.length < base
      · rw [if_pos (by omega), e33, if_pos c, if_pos c]
      · rw [if_neg (by omega), if_neg c, ld_n rfl (by omega) (by omega), Option.bind_some, hs.1, isBr hv0, b_some, f_ite, e33, if_neg c]
        by_cases c2 : 20 ≤ v ∧ v ≤ 24
        · rw [if_pos c2, if_pos c2]
        · rw [if_neg c2, if_neg c2, show (T.length : Int) + (-1) = (T.length : Int) - 1 from by omega]
          exact ih n hs.2 (by omega) (by omega) (fun x hx => hv x (List.mem_cons_of_mem _ hx))
theorem C_br {b : Nat → Int} {N w base : Nat} {M0 : q_Mem} {p : Nat} {j : Bool} {T R : List Int} {o d : Int} {M : q_Mem} (h : z_C b N w base M0 (.inl (p, j)) T o d R M) (hd : -50 ≤ d) (hb : base ≤ 1700) : fX12_qBracket M = some (k_br base T, M) := by
  have hp := C_pN h
  unfold fX12_qBracket
  rw [q_le, h.2.2.1.1]
  exact C_br7 h.2.2.1.2.2.1 hb T q_FU h.2.2.2.1.1 (by omega) (by unfold q_FU; omega) h.2.2.2.1.2.2
theorem C_dtb {b : Nat → Int} {N w base : Nat} {M0 : q_Mem} {p : Nat} {j : Bool} {v : Int} {T : List Int} {o d : Int} (hd : -50 ≤ d) (hv : 20 ≤ v ∧ v ≤ 24) (hb : base ≤ T.length) : ∀ (pend : List Int) (n : Nat) (R : List Int) (M : q_Mem), (∀ u ∈ pend, 1 ≤ u ∧ u ≤ 4) → pend.length < n → z_C b N w base M0 (.inl (p, j)) (pend ++ v :: T) o d R M → ∃ M', fX12_qDropsToBracket_0 n M = some (0, M') ∧ z_C b N w base M0 (.inl (p, j)) (v :: T) o d (pend.reverse ++ R) M' := by
  intro pend
  induction pend with
  | nil =>
    intro n R M _ hn h
    cases n with
    | zero => omega
    | succ n =>
      have hp := C_pN h
      rw [List.nil_append, List.length_cons] at hp
      rw [fX12_qDropsToBracket_0, C_top h (by omega), h.2.2.1.2.2.1, h.2.2.1.1, List.nil_append, List.length_cons, n_w (by omega) (by omega), n_w (by omega) (by omega), if_pos (by omega), Option.bind_some, isBr (by omega), b_some, f_ite, if_pos hv]
      exact ⟨M, rfl, h⟩
  | cons u pend ih =>
    intro n R M hu hn h
    have h1 := hu u List.mem_cons_self
    cases n with
    | zero => omega
    | succ n =>
      have hp := C_pN h
      rw [List.cons_append, List.length_cons, List.length_append, List.length_cons] at hp
      rw [List.length_cons] at hn
      rw [List.cons_append] at h
      rw [fX12_qDropsToBracket_0, C_top h (by rw [List.length_append, List.length_cons]; omega), h.2.2.1.2.2.1, h.2.2.1.1, List.length_cons, List.length_append, List.length_cons, n_w (by omega) (by omega), n_w (by omega) (by omega), if_pos (by omega), Option.bind_some, isBr (by omega), b_some, f_ite, if_neg (by omega)]
      obtain ⟨M1, g1, g2⟩ := C_drop h (by rw [List.length_append, List.length_cons]; omega) (by omega)
      rw [g1, b_some]
      obtain ⟨M', g3, g4⟩ := ih n (u :: R) M1 (fun x hx => hu x (List.mem_cons_of_mem _ hx)) (by omega) g2
      refine ⟨M', g3, ?_⟩
      rw [List.reverse_cons, List.append_assoc]
      exact g4
theorem C_s53 {b : Nat → Int} {N w base : Nat} {M0 : q_Mem} {p : Nat} {j : Bool} {T : List Int} {o d x : Int} (hd : -50 ≤ d) (hb : T.length = base) : ∀ (pend : List Int) (n : Nat) (R : List Int) (M : q_Mem), pend.length < n → z_C b N w base M0 (.inl (p, j)) (pend ++ T) o d R M → ∃ M', fX12_qSums_53 n x M = fX12_qSums_78 x M' ∧ z_C b N w base M0 (.inl (p, j)) T o d (pend.reverse ++ R) M' := by
  intro pend
  induction pend with
  | nil =>
    intro n R M hn h
    cases n with
    | zero => omega
    | succ n =>
      have hp := C_pN h
      rw [List.nil_append] at hp
      rw [fX12_qSums_53, show M.2 94 5 = 0 from h.2.1.1, show q_w 0 = 0 from rfl, if_pos rfl, h.2.2.1.2.2.1, h.2.2.1.1, List.nil_append, n_w (by omega) (by omega), n_w (by omega) (by omega), if_neg (by omega)]
      exact ⟨M, rfl, h⟩
  | cons u pend ih =>
    intro n R M hn h
    cases n with
    | zero => omega
    | succ n =>
      have hp := C_pN h
      rw [List.cons_append, List.length_cons, List.length_append] at hp
      rw [List.length_cons] at hn
      rw [List.cons_append] at h
      rw [fX12_qSums_53, show M.2 94 5 = 0 from h.2.1.1, show q_w 0 = 0 from rfl, if_pos rfl, h.2.2.1.2.2.1, h.2.2.1.1, List.length_cons, List.length_append, n_w (by omega) (by omega), n_w (by omega) (by omega), if_pos (by omega)]
      obtain ⟨M1, g1, g2⟩ := C_drop h (by rw [List.length_append]; omega) (by omega)
      rw [g1, b_some]
      obtain ⟨M', g3, g4⟩ := ih n (u :: R) M1 (by omega) g2
      refine ⟨M', g3, ?_⟩
      rw [List.reverse_cons, List.append_assoc]
      exact g4
def k_es (base : Nat) : List Int → Int → List Int → List Int × Int × List Int
  | [], o, R => ([], o, R)
  | v :: T, o, R => if base ≤ T.length ∧ 60 ≤ v then k_es base T (o - 1) (v :: R) else (v :: T, o, R)
theorem C_ends {b : Nat → Int} {N w base : Nat} {M0 : q_Mem} {p : Nat} {j : Bool} {d : Int} (hd : -50 ≤ d) (hb : base ≤ 1700) : ∀ (T : List Int) (n : Nat) (o : Int) (R : List Int) (M : q_Mem), T.length < n → z_C b N w base M0 (.inl (p, j)) T o d R M → ∃ M', fX12_qEndsPart_0 n M = some (0, M') ∧ z_C b N w base M0 (.inl (p, j)) (k_es base T o R).1 (k_es base T o R).2.1 d (k_es base T o R).2.2 M' := by
  intro T
  induction T with
  | nil =>
    intro n o R M hn h
    cases n with
    | zero => omega
    | succ n =>
      rw [fX12_qEndsPart_0, show M.2 94 5 = 0 from h.2.1.1, show q_w 0 = 0 from rfl, if_pos rfl, h.2.2.1.2.2.1, h.2.2.1.1, List.length_nil, n_w (by omega) (by omega), n_w (by omega) (by omega), if_neg (by omega)]
      exact ⟨M, rfl, h⟩
  | cons v T ih =>
    intro n o R M hn h
    cases n with
    | zero => omega
    | succ n =>
      have hp := C_pN h
      rw [List.length_cons] at hp hn
      have hv := h.2.2.2.1.2.2 v List.mem_cons_self
      rw [fX12_qEndsPart_0, C_top h (by omega), show M.2 94 5 = 0 from h.2.1.1, show q_w 0 = 0 from rfl, if_pos rfl, h.2.2.1.2.2.1, h.2.2.1.1, List.length_cons, n_w (by omega) (by omega), n_w (by omega) (by omega), k_es, Option.bind_some, n_w (a := v) (by omega) (by omega), show q_w 60 = 60 from rfl, q_le]
      by_cases c1 : base ≤ T.length
      · rw [if_pos (by omega)]
        by_cases c2 : 60 ≤ v
        · rw [if_neg (by omega), if_pos ⟨c1, c2⟩, h.2.2.1.2.1]
          obtain ⟨M1, g1, g2⟩ := C_drop (C_94o (o' := o - 1) (z := o - 1) h rfl) (by omega) (by omega)
          rw [g1, b_some]
          exact ih n (o - 1) (v :: R) M1 (by omega) g2
        · rw [if_pos (by omega), if_neg (fun g => c2 g.2)]
          exact ⟨M, rfl, h⟩
      · rw [if_neg (by omega), if_neg (fun g => c1 g.1)]
        exact ⟨M, rfl, h⟩
theorem C_on {b : Nat → Int} {N w base : Nat} {M0 : q_Mem} {p : Nat} {j : Bool} {T R : List Int} {o d : Int} {M : q_Mem} (h : z_C b N w base M0 (.inl (p, j)) T o d R M) (hd : -50 ≤ d) {x : Int} (hx : 0 ≤ x ∧ x ≤ 100) : fX12_qIsOn x M = some (if T.head? = some x then 1 else 0, M) := by
  have hp := C_pN h
  unfold fX12_qIsOn
  cases T with
  | nil =>
    rw [h.2.2.1.1, List.length_nil, show q_w ((0 : Nat) : Int) = 0 from rfl, if_neg (by decide), if_neg (by simp)]
  | cons v T =>
    rw [List.length_cons] at hp
    have hv := h.2.2.2.1.2.2 v List.mem_cons_self
    rw [C_top h (by omega), h.2.2.1.1, List.length_cons, n_w (by omega) (by omega), if_pos (by omega), Option.bind_some, n_w (a := v) (by omega) (by omega), n_w (a := x) (by omega) (by omega), List.head?_cons]
    by_cases c : v = x
    · rw [if_pos c, if_pos (by rw [c])]
    · rw [if_neg c, if_neg (by simpa using c)]
theorem C_162 {b : Nat → Int} {N w base : Nat} {M0 : q_Mem} {p : Nat} {j : Bool} {T : List Int} {o d : Int} {v : Int} (hd : -50 ≤ d) (hv : 0 ≤ v ∧ v ≤ 100) (hT : ¬ T.head? = some 3 ∧ ¬ T.head? = some 4) : ∀ (pend : List Int) (n : Nat) (R : List Int) (M : q_Mem), (∀ u ∈ pend, u = 3 ∨ u = 4) → pend.length < n → z_C b N w base M0 (.inl (p, j)) (pend ++ T) o d R M → ∃ M', fX12_qGoesOn_162 n v M = some (1, M') ∧ z_C b N w base M0 (.inl (p, j)) (v :: T) o (d - 1) (pend.reverse ++ R) M' := by
  intro pend
  induction pend with
  | nil =>
    intro n R M _ hn h
    cases n with
    | zero => omega
    | succ n =>
      have hp := C_pN h
      rw [List.nil_append] at hp h
      rw [fX12_qGoesOn_162, C_on h hd (x := 3) (by omega), b_some, f_ite, if_neg hT.1, C_on h hd (x := 4) (by omega), b_some, f_ite, if_neg hT.2]
      obtain ⟨g1, g2, g3⟩ := C_push (x := v) h (by omega) hv
      rw [g1, Option.bind_some, q_le, g2]
      exact ⟨_, rfl, g3⟩
  | cons u pend ih =>
    intro n R M hu hn h
    have h1 := hu u List.mem_cons_self
    cases n with
    | zero => omega
    | succ n =>
      have hp := C_pN h
      rw [List.cons_append, List.length_cons, List.length_append] at hp
      rw [List.length_cons] at hn
      rw [List.cons_append] at h
      obtain ⟨M1, g1, g2⟩ := C_drop h (by rw [List.length_append]; omega) (by omega)
      obtain ⟨M', g3, g4⟩ := ih n (u :: R) M1 (fun x hx => hu x (List.mem_cons_of_mem _ hx)) (by omega) g2
      rw [List.reverse_cons, List.append_assoc]
      refine ⟨M', ?_, g4⟩
      rw [← g3, fX12_qGoesOn_162]
      rw [C_on h hd (x := 3) (by omega), b_some, f_ite, List.head?_cons]
      by_cases c0 : u = 3
      · rw [if_pos (by rw [c0]), fX12_qGoesOn_178, g1, b_some]
      rw [if_neg (by simpa using c0)]
      rw [C_on h hd (x := 4) (by omega), b_some, f_ite, List.head?_cons]
      rw [if_pos (by rw [show u = 4 from by omega]), fX12_qGoesOn_178, g1, b_some]
theorem C_247 {b : Nat → Int} {N w base : Nat} {M0 : q_Mem} {p : Nat} {j : Bool} {T : List Int} {o d : Int} {v : Int} (hd : -50 ≤ d) (hv : 0 ≤ v ∧ v ≤ 100) (hT : ¬ T.head? = some 3 ∧ ¬ T.head? = some 4 ∧ ¬ T.head? = some 1 ∧ ¬ T.head? = some 2) : ∀ (pend : List Int) (n : Nat) (R : List Int) (M : q_Mem), (∀ u ∈ pend, 1 ≤ u ∧ u ≤ 4) → pend.length < n → z_C b N w base M0 (.inl (p, j)) (pend ++ T) o d R M → ∃ M', fX12_qGoesOn_247 n v M = some (1, M') ∧ z_C b N w base M0 (.inl (p, j)) (v :: T) o (d - 1) (pend.reverse ++ R) M' := by
  intro pend
  induction pend with
  | nil =>
    intro n R M _ hn h
    cases n with
    | zero => omega
    | succ n =>
      have hp := C_pN h
      rw [List.nil_append] at hp h
      rw [fX12_qGoesOn_247, C_on h hd (x := 3) (by omega), b_some, f_ite, if_neg hT.1, C_on h hd (x := 4) (by omega), b_some, f_ite, if_neg hT.2.1, C_on h hd (x := 1) (by omega), b_some, f_ite, if_neg hT.2.2.1, C_on h hd (x := 2) (by omega), b_some, f_ite, if_neg hT.2.2.2]
      obtain ⟨g1, g2, g3⟩ := C_push (x := v) h (by omega) hv
      rw [g1, Option.bind_some, q_le, g2]
      exact ⟨_, rfl, g3⟩
  | cons u pend ih =>
    intro n R M hu hn h
    have h1 := hu u List.mem_cons_self
    cases n with
    | zero => omega
    | succ n =>
      have hp := C_pN h
      rw [List.cons_append, List.length_cons, List.length_append] at hp
      rw [List.length_cons] at hn
      rw [List.cons_append] at h
      obtain ⟨M1, g1, g2⟩ := C_drop h (by rw [List.length_append]; omega) (by omega)
      obtain ⟨M', g3, g4⟩ := ih n (u :: R) M1 (fun x hx => hu x (List.mem_cons_of_mem _ hx)) (by omega) g2
      rw [List.reverse_cons, List.append_assoc]
      refine ⟨M', ?_, g4⟩
      rw [← g3, fX12_qGoesOn_247]
      rw [C_on h hd (x := 3) (by omega), b_some, f_ite, List.head?_cons]
      by_cases c0 : u = 3
      · rw [if_pos (by rw [c0]), fX12_qGoesOn_279, g1, b_some]
      rw [if_neg (by simpa using c0)]
      rw [C_on h hd (x := 4) (by omega), b_some, f_ite, List.head?_cons]
      by_cases c1 : u = 4
      · rw [if_pos (by rw [c1]), fX12_qGoesOn_279, g1, b_some]
      rw [if_neg (by simpa using c1)]
      rw [C_on h hd (x := 1) (by omega), b_some, f_ite, List.head?_cons]
      by_cases c2 : u = 1
      · rw [if_pos (by rw [c2]), fX12_qGoesOn_279, g1, b_some]
      rw [if_neg (by simpa using c2)]
      rw [C_on h hd (x := 2) (by omega), b_some, f_ite, List.head?_cons]
      rw [if_pos (by rw [show u = 2 from by omega]), fX12_qGoesOn_279, g1, b_some]
theorem wm_7 : (152, t_W.getD 7 []) ∈ a_words ∧ 7 < 31 ∧ 5 = (t_W.getD 7 []).length ∧ (7 : Int) = ((7 : Nat) : Int) := by decide +kernel
theorem wm_8 : (153, t_W.getD 8 []) ∈ a_words ∧ 8 < 31 ∧ 4 = (t_W.getD 8 []).length ∧ (8 : Int) = ((8 : Nat) : Int) := by decide +kernel
theorem wm_3 : (154, t_W.getD 3 []) ∈ a_words ∧ 3 < 31 ∧ 4 = (t_W.getD 3 []).length ∧ (3 : Int) = ((3 : Nat) : Int) := by decide +kernel
theorem wm_16 : (155, t_W.getD 16 []) ∈ a_words ∧ 16 < 31 ∧ 6 = (t_W.getD 16 []).length ∧ (16 : Int) = ((16 : Nat) : Int) := by decide +kernel
theorem wm_15 : (156, t_W.getD 15 []) ∈ a_words ∧ 15 < 31 ∧ 4 = (t_W.getD 15 []).length ∧ (15 : Int) = ((15 : Nat) : Int) := by decide +kernel
theorem wm_4 : (157, t_W.getD 4 []) ∈ a_words ∧ 4 < 31 ∧ 5 = (t_W.getD 4 []).length ∧ (4 : Int) = ((4 : Nat) : Int) := by decide +kernel
theorem wm_17 : (158, t_W.getD 17 []) ∈ a_words ∧ 17 < 31 ∧ 6 = (t_W.getD 17 []).length ∧ (17 : Int) = ((17 : Nat) : Int) := by decide +kernel
theorem wm_18 : (159, t_W.getD 18 []) ∈ a_words ∧ 18 < 31 ∧ 4 = (t_W.getD 18 []).length ∧ (18 : Int) = ((18 : Nat) : Int) := by decide +kernel
theorem wm_11 : (160, t_W.getD 11 []) ∈ a_words ∧ 11 < 31 ∧ 5 = (t_W.getD 11 []).length ∧ (11 : Int) = ((11 : Nat) : Int) := by decide +kernel
theorem wm_2 : (161, t_W.getD 2 []) ∈ a_words ∧ 2 < 31 ∧ 2 = (t_W.getD 2 []).length ∧ (2 : Int) = ((2 : Nat) : Int) := by decide +kernel
theorem wm_21 : (146, t_W.getD 21 []) ∈ a_words ∧ 21 < 31 ∧ 3 = (t_W.getD 21 []).length ∧ (21 : Int) = ((21 : Nat) : Int) := by decide +kernel
theorem wm_20 : (147, t_W.getD 20 []) ∈ a_words ∧ 20 < 31 ∧ 3 = (t_W.getD 20 []).length ∧ (20 : Int) = ((20 : Nat) : Int) := by decide +kernel
theorem wm_19 : (148, t_W.getD 19 []) ∈ a_words ∧ 19 < 31 ∧ 2 = (t_W.getD 19 []).length ∧ (19 : Int) = ((19 : Nat) : Int) := by decide +kernel
theorem wm_22 : (149, t_W.getD 22 []) ∈ a_words ∧ 22 < 31 ∧ 3 = (t_W.getD 22 []).length ∧ (22 : Int) = ((22 : Nat) : Int) := by decide +kernel
theorem wm_23 : (150, t_W.getD 23 []) ∈ a_words ∧ 23 < 31 ∧ 3 = (t_W.getD 23 []).length ∧ (23 : Int) = ((23 : Nat) : Int) := by decide +kernel
theorem wm_24 : (151, t_W.getD 24 []) ∈ a_words ∧ 24 < 31 ∧ 3 = (t_W.getD 24 []).length ∧ (24 : Int) = ((24 : Nat) : Int) := by decide +kernel
def k_wh (b : Nat → Int) (N : Nat) (σ : t_S) : Int := if u_isW b N 7 σ = true then 0 else if u_isW b N 8 σ = true then 1 else if u_isW b N 3 σ = true then 2 else if u_isW b N 16 σ = true then 3 else if u_isW b N 15 σ = true then 4 else if u_isW b N 4 σ = true then 5 else if u_isW b N 17 σ = true then 6 else if u_isW b N 18 σ = true then 7 else if u_isW b N 11 σ = true then 8 else if u_isW b N 2 σ = true then 9 else -1
theorem C_wh {b : Nat → Int} {N w base : Nat} {M0 : q_Mem} {σ : t_S} {T R : List Int} {o d : Int} {M : q_Mem} (hw0 : r_words M0.2) (h : z_C b N w base M0 σ T o d R M) : ∃ M', fX12_qWordHere M = some (k_wh b N σ, M') ∧ z_C b N w base M0 σ T o d R M' ∧ z_Q b N σ M' := by
  unfold fX12_qWordHere k_wh
  obtain ⟨M0, a0, b0, d0⟩ := C_isH hw0 h wm_7
  rw [a0, b_some, f_ite]
  by_cases e0 : u_isW b N 7 σ = true
  · rw [if_pos e0, if_pos e0]
    exact ⟨M0, rfl, b0, d0⟩
  rw [if_neg e0, if_neg e0]
  obtain ⟨M1, a1, b1, d1⟩ := C_isH hw0 b0 wm_8
  rw [a1, b_some, f_ite]
  by_cases e1 : u_isW b N 8 σ = true
  · rw [if_pos e1, if_pos e1]
    exact ⟨M1, rfl, b1, d1⟩
  rw [if_neg e1, if_neg e1]
  obtain ⟨M2, a2, b2, d2⟩ := C_isH hw0 b1 wm_3
  rw [a2, b_some, f_ite]
  by_cases e2 : u_isW b N 3 σ = true
  · rw [if_pos e2, if_pos e2]
    exact ⟨M2, rfl, b2, d2⟩
  rw [if_neg e2, if_neg e2]
  obtain ⟨M3, a3, b3, d3⟩ := C_isH hw0 b2 wm_16
  rw [a3, b_some, f_ite]
  by_cases e3 : u_isW b N 16 σ = true
  · rw [if_pos e3, if_pos e3]
    exact ⟨M3, rfl, b3, d3⟩
  rw [if_neg e3, if_neg e3]
  obtain ⟨M4, a4, b4, d4⟩ := C_isH hw0 b3 wm_15
  rw [a4, b_some, f_ite]
  by_cases e4 : u_isW b N 15 σ = true
  · rw [if_pos e4, if_pos e4]
    exact ⟨M4, rfl, b4, d4⟩
  rw [if_neg e4, if_neg e4]
  obtain ⟨M5, a5, b5, d5⟩ := C_isH hw0 b4 wm_4
  rw [a5, b_some, f_ite]
  by_cases e5 : u_isW b N 4 σ = true
  · rw [if_pos e5, if_pos e5]
    exact ⟨M5, rfl, b5, d5⟩
  rw [if_neg e5, if_neg e5]
  obtain ⟨M6, a6, b6, d6⟩ := C_isH hw0 b5 wm_17
  rw [a6, b_some, f_ite]
  by_cases e6 : u_isW b N 17 σ = true
  · rw [if_pos e6, if_pos e6]
    exact ⟨M6, rfl, b6, d6⟩
  rw [if_neg e6, if_neg e6]
  obtain ⟨M7, a7, b7, d7⟩ := C_isH hw0 b6 wm_18
  rw [a7, b_some, f_ite]
  by_cases e7 : u_isW b N 18 σ = true
  · rw [if_pos e7, if_pos e7]
    exact ⟨M7, rfl, b7, d7⟩
  rw [if_neg e7, if_neg e7]
  obtain ⟨M8, a8, b8, d8⟩ := C_isH hw0 b7 wm_11
  rw [a8, b_some, f_ite]
  by_cases e8 : u_isW b N 11 σ = true
  · rw [if_pos e8, if_pos e8]
    exact ⟨M8, rfl, b8, d8⟩
  rw [if_neg e8, if_neg e8]
  obtain ⟨M9, a9, b9, d9⟩ := C_isH hw0 b8 wm_2
  rw [a9, b_some, f_ite]
  by_cases e9 : u_isW b N 2 σ = true
  · rw [if_pos e9, if_pos e9]
    exact ⟨M9, rfl, b9, d9⟩
  rw [if_neg e9, if_neg e9]
  exact ⟨M9, rfl, b9, d9⟩
theorem C_al {w : Nat} {M : q_Mem} (hw : M.2 94 48 = (w : Int)) (hw2 : w ≤ 2) {k : Int} (hk : 0 ≤ k ∧ k ≤ 9) : fX12_isAllowed k M = some (if q_may w k = true then 1 else 0, M) := by
  unfold fX12_isAllowed fX12_isAllowed_57
  rw [hw, n_w (a := (w : Int)) (by omega) (by omega), n_w (a := k) (by omega) (by omega), show q_w 1 = 1 from rfl, show q_w 4 = 4 from rfl, show q_w 6 = 6 from rfl, show q_w 2 = 2 from rfl, show q_w 3 = 3 from rfl, show q_w 5 = 5 from rfl]
  have hm : w = 0 ∨ w = 1 ∨ w = 2 := by omega
  rcases hm with rfl | rfl | rfl
  · rw [if_pos (show ((0 : Nat) : Int) = 0 from rfl)]
    show _ = some (if decide (k < 4) = true then 1 else 0, M)
    by_cases c : k < 4
    · rw [if_pos c, if_pos (decide_eq_true c)]
    · rw [if_neg c, if_neg (by simpa using c)]
  · rw [if_neg (by decide), if_pos (show ((1 : Nat) : Int) = 1 from rfl)]
    show _ = some (if decide (k < 6) = true then 1 else 0, M)
    by_cases c : k < 6
    · rw [if_pos c, if_pos (decide_eq_true c)]
    · rw [if_neg c, if_neg (by simpa using c)]
  · rw [if_neg (by decide), if_neg (by decide)]
    show _ = some (if (decide (k < 2) || k == 3 || decide (5 < k)) = true then 1 else 0, M)
    by_cases c : k < 2
    · rw [if_pos c, if_pos (by simp [c])]
    · rw [if_neg c]
      by_cases c3 : k = 3
      · rw [if_pos c3, if_pos (by simp [c3])]
      · rw [if_neg c3]
        by_cases c5 : 5 < k
        · rw [if_pos c5, if_pos (by simp [c5])]
        · rw [if_neg c5, if_neg (by simp [c, c3, c5])]
theorem wh_b (b : Nat → Int) (N : Nat) (σ : t_S) : -1 ≤ k_wh b N σ ∧ k_wh b N σ ≤ 9 := by
  unfold k_wh
  repeat' split
  all_goals omega
theorem C_wo {b : Nat → Int} {N w base : Nat} {M0 : q_Mem} {σ : t_S} {T R : List Int} {o d : Int} {M : q_Mem} (hw0 : r_words M0.2) (hw2 : w ≤ 2) (h : z_C b N w base M0 σ T o d R M) {x y : Int} (hx : 0 ≤ x ∧ x ≤ 100) (hy : 0 ≤ y ∧ y ≤ 100) : ∃ M', fX12_qWordOf x y M = some (if x ≤ k_wh b N σ ∧ k_wh b N σ < y ∧ q_may w (k_wh b N σ) = true then k_wh b N σ else -1, M') ∧ z_C b N w base M0 σ T o d R M' ∧ z_Q b N σ M' := by
  unfold fX12_qWordOf
  obtain ⟨M1, g1, g2, g3⟩ := C_wh hw0 h
  have hb := wh_b b N σ
  rw [g1, b_some, n_w (a := k_wh b N σ) (by omega) (by omega), n_w (a := x) (by omega) (by omega), n_w (a := y) (by omega) (by omega)]
  refine ⟨M1, ?_, g2, g3⟩
  by_cases c1 : k_wh b N σ < x
  · rw [if_pos c1, if_neg (by omega)]
  · rw [if_neg c1]
    by_cases c2 : k_wh b N σ < y
    · rw [if_pos c2, C_al g2.2.2.1.2.2.2.2 hw2 (by omega), b_some, f_ite]
      by_cases c3 : q_may w (k_wh b N σ) = true
      · rw [if_pos c3, if_pos ⟨by omega, c2, c3⟩]
      · rw [if_neg c3, if_neg (fun g => c3 g.2.2)]
    · rw [if_neg c2, if_neg (by omega)]
theorem isW_u {b : Nat → Int} {N : Nat} {σ : t_S} {c c' : Int} (h : u_isW b N c σ = true) (hc : c ≠ c') : ¬ u_isW b N c' σ = true := by
  intro h'
  rcases σ with ⟨p, j⟩ | ⟨k, pl⟩
  · have h1 := of_decide_eq_true (Bool.and_eq_true_iff.mp h).2
    have h2 := of_decide_eq_true (Bool.and_eq_true_iff.mp h').2
    exact hc (by rw [← h1, ← h2])
  · cases h
theorem isS_W {b : Nat → Int} {N : Nat} {σ : t_S} {c c' : Int} (h : u_isS b N c σ = true) : ¬ u_isW b N c' σ = true := by
  intro h'
  rcases σ with ⟨p, j⟩ | ⟨k, pl⟩
  · have h1 := of_decide_eq_true (Bool.and_eq_true_iff.mp h).1
    have h2 := of_decide_eq_true (Bool.and_eq_true_iff.mp h').1
    omega
  · cases h
theorem isS_u {b : Nat → Int} {N : Nat} {σ : t_S} {c c' : Int} (h : u_isS b N c σ = true) (hc : c ≠ c') : ¬ u_isS b N c' σ = true := by
  intro h'
  rcases σ with ⟨p, j⟩ | ⟨k, pl⟩
  · have h1 := of_decide_eq_true (Bool.and_eq_true_iff.mp h).2
    have h2 := of_decide_eq_true (Bool.and_eq_true_iff.mp h').2
    exact hc (by rw [← h1, ← h2])
  · cases h
theorem isN_WS {b : Nat → Int} {N : Nat} {σ : t_S} (h : u_isN b N σ = true) (c : Int) : (¬ u_isW b N c σ = true) ∧ ¬ u_isS b N c σ = true := by
  rcases σ with ⟨p, j⟩ | ⟨k, pl⟩
  · have h1 := of_decide_eq_true h
    constructor
    · intro h'
      have h2 := of_decide_eq_true (Bool.and_eq_true_iff.mp h').1
      omega
    · intro h'
      have h2 := of_decide_eq_true (Bool.and_eq_true_iff.mp h').1
      omega
  · cases h
theorem wh_of {b : Nat → Int} {N : Nat} {σ : t_S} : (8 ≤ k_wh b N σ ∧ k_wh b N σ < 10 ∧ q_may 2 (k_wh b N σ) = true ↔ u_isW b N 11 σ = true ∨ u_isW b N 2 σ = true) ∧ (u_isW b N 11 σ = true → k_wh b N σ = 8) ∧ (u_isW b N 2 σ = true → k_wh b N σ = 9) := by
  have hu : ∀ c c' : Int, c ≠ c' → u_isW b N c σ = true → ¬ u_isW b N c' σ = true := fun c c' hc h => isW_u h hc
  have e11 : u_isW b N 11 σ = true → k_wh b N σ = 8 := by
    intro h
    unfold k_wh
    rw [if_neg (hu 11 7 (by decide) h), if_neg (hu 11 8 (by decide) h), if_neg (hu 11 3 (by decide) h), if_neg (hu 11 16 (by decide) h), if_neg (hu 11 15 (by decide) h), if_neg (hu 11 4 (by decide) h), if_neg (hu 11 17 (by decide) h), if_neg (hu 11 18 (by decide) h), if_pos h]
  have e2 : u_isW b N 2 σ = true → k_wh b N σ = 9 := by
    intro h
    unfold k_wh
    rw [if_neg (hu 2 7 (by decide) h), if_neg (hu 2 8 (by decide) h), if_neg (hu 2 3 (by decide) h), if_neg (hu 2 16 (by decide) h), if_neg (hu 2 15 (by decide) h), if_neg (hu 2 4 (by decide) h), if_neg (hu 2 17 (by decide) h), if_neg (hu 2 18 (by decide) h), if_neg (hu 2 11 (by decide) h), if_pos h]
  refine ⟨⟨?_, ?_⟩, e11, e2⟩
  · rintro ⟨h1, h2, _⟩
    unfold k_wh at h1 h2
    by_cases c11 : u_isW b N 11 σ = true
    · exact Or.inl c11
    by_cases c2 : u_isW b N 2 σ = true
    · exact Or.inr c2
    rw [if_neg c11, if_neg c2] at h1
    exfalso
    revert h1
    repeat' split
    all_goals omega
  · rintro (h | h)
    · rw [e11 h]; decide
    · rw [e2 h]; decide
theorem wh_vl {b : Nat → Int} {N w : Nat} {σ : t_S} (hw2 : w ≤ 2) : (if 0 ≤ k_wh b N σ ∧ k_wh b N σ < 8 ∧ q_may w (k_wh b N σ) = true then k_wh b N σ else -1) = if u_vl b N w σ = 0 then -1 else u_vl b N w σ - 40 := by
  have hm : w = 0 ∨ w = 1 ∨ w = 2 := by omega
  unfold k_wh u_vl u_may
  by_cases e0 : u_isW b N 7 σ = true
  · simp only [e0, if_true]
    rcases hm with rfl | rfl | rfl <;> decide
  by_cases e1 : u_isW b N 8 σ = true
  · simp only [e0, e1, if_true, if_false, Bool.false_eq_true]
    rcases hm with rfl | rfl | rfl <;> decide
  by_cases e2 : u_isW b N 3 σ = true
  · simp only [e0, e1, e2, if_true, if_false, Bool.false_eq_true]
    rcases hm with rfl | rfl | rfl <;> decide
  by_cases e3 : u_isW b N 16 σ = true
  · simp only [e0, e1, e2, e3, if_true, if_false, Bool.false_eq_true]
    rcases hm with rfl | rfl | rfl <;> decide
  by_cases e4 : u_isW b N 15 σ = true
  · simp only [e0, e1, e2, e3, e4, if_true, if_false, Bool.false_eq_true]
    rcases hm with rfl | rfl | rfl <;> decide
  by_cases e5 : u_isW b N 4 σ = true
  · simp only [e0, e1, e2, e3, e4, e5, if_true, if_false, Bool.false_eq_true]
    rcases hm with rfl | rfl | rfl <;> decide
  by_cases e6 : u_isW b N 17 σ = true
  · simp only [e0, e1, e2, e3, e4, e5, e6, if_true, if_false, Bool.false_eq_true]
    rcases hm with rfl | rfl | rfl <;> decide
  by_cases e7 : u_isW b N 18 σ = true
  · simp only [e0, e1, e2, e3, e4, e5, e6, e7, if_true, if_false, Bool.false_eq_true]
    rcases hm with rfl | rfl | rfl <;> decide
  simp only [e0, e1, e2, e3, e4, e5, e6, e7, if_false, Bool.false_eq_true]
  rw [if_pos trivial]
  rw [if_neg]
  rintro ⟨h1, h2, _⟩
  revert h1 h2
  repeat' split
  all_goals omega
theorem C_aw {b : Nat → Int} {N w base : Nat} {M0 : q_Mem} {σ : t_S} {T R : List Int} {o d : Int} {M : q_Mem} (hw0 : r_words M0.2) (h : z_C b N w base M0 σ T o d R M) {k : Int} (hk : 0 ≤ k) (he : k_wh b N σ = k) : ∃ M', fX12_qAsksWord k M = some (0, M') ∧ z_C b N w base M0 (u_st b N σ) T o (d + 1) R M' := by
  subst he
  unfold fX12_qAsksWord
  have hb := wh_b b N σ
  rw [n_w (by omega) (by omega)]
  revert hk hb
  unfold k_wh
  by_cases e0 : u_isW b N 7 σ = true
  · rw [if_pos e0]
    intro _ _
    obtain ⟨M1, g1, g2⟩ := C_asks hw0 h wm_7 e0
    rw [if_pos rfl, g1, b_some]
    exact ⟨M1, rfl, g2⟩
  rw [if_neg e0]
  by_cases e1 : u_isW b N 8 σ = true
  · rw [if_pos e1]
    intro _ _
    obtain ⟨M1, g1, g2⟩ := C_asks hw0 h wm_8 e1
    rw [if_neg (by decide), if_pos rfl, g1, b_some]
    exact ⟨M1, rfl, g2⟩
  rw [if_neg e1]
  by_cases e2 : u_isW b N 3 σ = true
  · rw [if_pos e2]
    intro _ _
    obtain ⟨M1, g1, g2⟩ := C_asks hw0 h wm_3 e2
    rw [if_neg (by decide), if_neg (by decide), if_pos rfl, g1, b_some]
    exact ⟨M1, rfl, g2⟩
  rw [if_neg e2]
  by_cases e3 : u_isW b N 16 σ = true
  · rw [if_pos e3]
    intro _ _
    obtain ⟨M1, g1, g2⟩ := C_asks hw0 h wm_16 e3
    rw [if_neg (by decide), if_neg (by decide), if_neg (by decide), if_pos rfl, g1, b_some]
    exact ⟨M1, rfl, g2⟩
  rw [if_neg e3]
  by_cases e4 : u_isW b N 15 σ = true
  · rw [if_pos e4]
    intro _ _
    obtain ⟨M1, g1, g2⟩ := C_asks hw0 h wm_15 e4
    rw [if_neg (by decide), if_neg (by decide), if_neg (by decide), if_neg (by decide), if_pos rfl, g1, b_some]
    exact ⟨M1, rfl, g2⟩
  rw [if_neg e4]
  by_cases e5 : u_isW b N 4 σ = true
  · rw [if_pos e5]
    intro _ _
    obtain ⟨M1, g1, g2⟩ := C_asks hw0 h wm_4 e5
    rw [if_neg (by decide), if_neg (by decide), if_neg (by decide), if_neg (by decide), if_neg (by decide), if_pos rfl, g1, b_some]
    exact ⟨M1, rfl, g2⟩
  rw [if_neg e5]
  by_cases e6 : u_isW b N 17 σ = true
  · rw [if_pos e6]
    intro _ _
    obtain ⟨M1, g1, g2⟩ := C_asks hw0 h wm_17 e6
    rw [if_neg (by decide), if_neg (by decide), if_neg (by decide), if_neg (by decide), if_neg (by decide), if_neg (by decide), if_pos rfl, g1, b_some]
    exact ⟨M1, rfl, g2⟩
  rw [if_neg e6]
  by_cases e7 : u_isW b N 18 σ = true
  · rw [if_pos e7]
    intro _ _
    obtain ⟨M1, g1, g2⟩ := C_asks hw0 h wm_18 e7
    rw [if_neg (by decide), if_neg (by decide), if_neg (by decide), if_neg (by decide), if_neg (by decide), if_neg (by decide), if_neg (by decide), if_pos rfl, g1, b_some]
    exact ⟨M1, rfl, g2⟩
  rw [if_neg e7]
  by_cases e8 : u_isW b N 11 σ = true
  · rw [if_pos e8]
    intro _ _
    obtain ⟨M1, g1, g2⟩ := C_asks hw0 h wm_11 e8
    rw [if_neg (by decide), if_neg (by decide), if_neg (by decide), if_neg (by decide), if_neg (by decide), if_neg (by decide), if_neg (by decide), if_neg (by decide), if_pos rfl, g1, b_some]
    exact ⟨M1, rfl, g2⟩
  rw [if_neg e8]
  by_cases e9 : u_isW b N 2 σ = true
  · rw [if_pos e9]
    intro _ _
    obtain ⟨M1, g1, g2⟩ := C_asks hw0 h wm_2 e9
    rw [if_neg (by decide), if_neg (by decide), if_neg (by decide), if_neg (by decide), if_neg (by decide), if_neg (by decide), if_neg (by decide), if_neg (by decide), if_neg (by decide), g1, b_some]
    exact ⟨M1, rfl, g2⟩
  rw [if_neg e9]
  intro g
  omega
