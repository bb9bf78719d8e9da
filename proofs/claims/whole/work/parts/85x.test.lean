/-! texts: the other side reads a TEST -/
def r_U (n1 n2 : Nat) (M : q_Mem) : Option (Int × q_Mem) := q_bd (fX12_qGoesOnTest_0 n1 M) fun x23 M5 => if q_w x23 = 0 then ((fX12_qTest_105 (fX12_qTest_2 n2) M5)) else ((fX12_qTest_106 (fX12_qTest_2 n2) 1 M5))
def t_F (b : Nat → Int) (N : Nat) (M0 : q_Mem) (Q : Int → q_Mem → Prop) (σ : t_S) : Prop := ∀ M, z_F b N M0 2 σ M → Q 0 M
def t_A (b : Nat → Int) (N w : Nat) (M0 : q_Mem) (Q : Int → q_Mem → Prop) (σ : t_S) (T : List Int) (o : Int) (R : List Int) : Prop := (u_ok σ = false → t_F b N M0 Q σ) ∧ ∀ p j, σ = .inl (p, j) → ∀ n M, N + 2 ≤ p + n → z_C b N w 0 M0 σ T o 0 R M → q_P (fX12_qTest_2 n 1 M) Q
def t_B (b : Nat → Int) (N w : Nat) (M0 : q_Mem) (Q : Int → q_Mem → Prop) (σ : t_S) (T : List Int) (o : Int) (R : List Int) : Prop := (u_ok σ = false → t_F b N M0 Q σ) ∧ ∀ p j, σ = .inl (p, j) → ∀ n1 n2 M, N + 2 ≤ p + n1 → N + 1 ≤ p + n2 → z_C b N w 0 M0 σ T o 0 R M → q_P (r_U n1 n2 M) Q
theorem tA_flt {b : Nat → Int} {N w : Nat} {M0 : q_Mem} {Q : Int → q_Mem → Prop} {σ : t_S} {T R : List Int} {o : Int} (hf : u_ok σ = false) (h : t_F b N M0 Q σ) : t_A b N w M0 Q σ T o R := ⟨fun _ => h, fun p j e => (by rw [e] at hf; cases hf)⟩
theorem tB_flt {b : Nat → Int} {N w : Nat} {M0 : q_Mem} {Q : Int → q_Mem → Prop} {σ : t_S} {T R : List Int} {o : Int} (hf : u_ok σ = false) (h : t_F b N M0 Q σ) : t_B b N w M0 Q σ T o R := ⟨fun _ => h, fun p j e => (by rw [e] at hf; cases hf)⟩
theorem t2_F {b : Nat → Int} {N : Nat} {M0 M : q_Mem} {e : Int} {Q : Int → q_Mem → Prop} {σ : t_S} {n : Nat} {x1 : Int} (hF : t_F b N M0 Q σ) (hz : z_F b N M0 e σ M) (he : e ≤ 2) (hn : 0 < n) : q_P (fX12_qTest_2 n x1 M) Q := by
  have e1 : fX12_qTest_110 q_FU M = some (0, M) := by
    rw [show q_FU = 99999 + 1 from rfl, fX12_qTest_110, if_neg (F_bad hz)]
  cases n with
  | zero => omega
  | succ n =>
    rw [fX12_qTest_2, e1, if_neg (F_bad hz)]
    have : (if q_w x1 = 0 then (some (0, M) : Option (Int × q_Mem)) else some (0, M)) = some (0, M) := by split <;> rfl
    rw [this]
    exact w_some.mpr (hF M (F_w hz he))
def k_ns : List Int → Int → List Int → List Int × Int × List Int
  | [], o, R => ([], o, R)
  | v :: T, o, R => if v = 12 then k_ns T (o - 1) (12 :: R) else (v :: T, o, R)
theorem C_nots {b : Nat → Int} {N w : Nat} {M0 : q_Mem} {p : Nat} {j : Bool} : ∀ (T : List Int) (n : Nat) (o : Int) (d : Int) (R : List Int) (M : q_Mem), -50 ≤ d → T.length < n → z_C b N w 0 M0 (.inl (p, j)) T o d R M → ∃ M', fX12_qDropsNots_0 n M = some (0, M') ∧ z_C b N w 0 M0 (.inl (p, j)) (k_ns T o R).1 (k_ns T o R).2.1 d (k_ns T o R).2.2 M' := by
  intro T
  induction T with
  | nil =>
    intro n o d R M hd hn h
    cases n with
    | zero => omega
    | succ n =>
      rw [fX12_qDropsNots_0, show M.2 94 5 = 0 from h.2.1.1, show q_w 0 = 0 from rfl, if_pos rfl, C_on h hd (by omega), b_some, f_ite, if_neg (by simp)]
      exact ⟨M, rfl, h⟩
  | cons v T ih =>
    intro n o d R M hd hn h
    cases n with
    | zero => omega
    | succ n =>
      have hp := C_pN h
      rw [List.length_cons] at hp hn
      rw [fX12_qDropsNots_0, show M.2 94 5 = 0 from h.2.1.1, show q_w 0 = 0 from rfl, if_pos rfl, C_on h hd (by omega), b_some, f_ite, List.head?_cons, k_ns]
      by_cases c : v = 12
      · rw [if_pos (by rw [c]), if_pos c, q_le, h.2.2.1.2.1]
        obtain ⟨M1, g1, g2⟩ := C_drop (C_94o (o' := o - 1) (z := o - 1) h rfl) (by omega) (by omega)
        rw [g1, b_some]
        rw [c] at g2
        exact ih n (o - 1) d (12 :: R) M1 hd (by omega) g2
      · rw [if_neg (by simpa using c), if_neg c]
        exact ⟨M, rfl, h⟩
theorem stk_mem {f : Nat → Int} {v : Int} : ∀ {T : List Int}, z_stk f T → ((∃ k, k < T.length ∧ f k = v) ↔ v ∈ T) := by
  intro T
  induction T with
  | nil =>
    intro _
    constructor
    · rintro ⟨k, hk, _⟩
      exact absurd hk (by simp)
    · intro h
      exact absurd h List.not_mem_nil
  | cons u T ih =>
    intro hs
    have h1 := ih hs.2
    constructor
    · rintro ⟨k, hk, hv⟩
      rw [List.length_cons] at hk
      by_cases c : k = T.length
      · rw [c, hs.1] at hv
        rw [hv]
        exact List.mem_cons_self
      · exact List.mem_cons_of_mem _ (h1.mp ⟨k, by omega, hv⟩)
    · intro h
      rcases List.mem_cons.mp h with e | e
      · exact ⟨T.length, by rw [List.length_cons]; omega, by rw [hs.1, e]⟩
      · obtain ⟨k, hk, hv⟩ := h1.mpr e
        exact ⟨k, by rw [List.length_cons]; omega, hv⟩
theorem C_hs2 {M : q_Mem} {L : Nat} (h93 : M.2 94 93 = (L : Int)) (hL : L ≤ 1700) (hv : ∀ k, k < L → 0 ≤ M.2 163 k ∧ M.2 163 k ≤ 100) : ∀ (m i n : Nat), i + m = L → m < n → ((∃ k, i ≤ k ∧ k < L ∧ M.2 163 k = 25) → fX12_qHasSquare_2 n (i : Int) M = some (1, M)) ∧ ((¬ ∃ k, i ≤ k ∧ k < L ∧ M.2 163 k = 25) → fX12_qHasSquare_2 n (i : Int) M = some (0, M)) := by
  intro m
  induction m with
  | zero =>
    intro i n hi hn
    cases n with
    | zero => omega
    | succ n =>
      rw [fX12_qHasSquare_2, h93, n_w (by omega) (by omega), n_w (by omega) (by omega), if_neg (by omega)]
      exact ⟨fun ⟨k, h1, h2, _⟩ => absurd h1 (by omega), fun _ => rfl⟩
  | succ m ih =>
    intro i n hi hn
    cases n with
    | zero => omega
    | succ n =>
      have h1 := ih (i + 1) n (by omega) (by omega)
      have hb := hv i (by omega)
      rw [fX12_qHasSquare_2, h93, n_w (a := (i : Int)) (by omega) (by omega), n_w (a := (L : Int)) (by omega) (by omega), if_pos (by omega), ld_n rfl (by omega) (by omega), Option.bind_some, n_w (a := M.2 163 i) (by omega) (by omega), show q_w 25 = 25 from rfl]
      by_cases c : M.2 163 i = 25
      · rw [if_pos c]
        exact ⟨fun _ => rfl, fun g => absurd ⟨i, Nat.le_refl _, by omega, c⟩ g⟩
      · rw [if_neg c, show (i : Int) + 1 = ((i + 1 : Nat) : Int) from by omega]
        refine ⟨fun ⟨k, g1, g2, g3⟩ => h1.1 ⟨k, ?_, g2, g3⟩, fun g => h1.2 (fun ⟨k, g1, g2, g3⟩ => g ⟨k, by omega, g2, g3⟩)⟩
        have : k ≠ i := fun e => c (by rw [← e]; exact g3)
        omega
theorem stk_b {f : Nat → Int} : ∀ {T : List Int}, z_stk f T → (∀ v ∈ T, 0 ≤ v ∧ v ≤ 100) → ∀ k, k < T.length → 0 ≤ f k ∧ f k ≤ 100 := by
  intro T
  induction T with
  | nil => intro _ _ k hk; exact absurd hk (by simp)
  | cons u T ih =>
    intro hs hv k hk
    rw [List.length_cons] at hk
    by_cases c : k = T.length
    · rw [c, hs.1]
      exact hv u List.mem_cons_self
    · exact ih hs.2 (fun v h => hv v (List.mem_cons_of_mem _ h)) k (by omega)
theorem C_hs {b : Nat → Int} {N w : Nat} {M0 : q_Mem} {p : Nat} {j : Bool} {T R : List Int} {o : Int} {d : Int} {M : q_Mem} (hd : -50 ≤ d) (h : z_C b N w 0 M0 (.inl (p, j)) T o d R M) : (25 ∈ T → fX12_qHasSquare M = some (1, M)) ∧ (¬ 25 ∈ T → fX12_qHasSquare M = some (0, M)) := by
  have hp := C_pN h
  have h1 := C_hs2 h.2.2.1.1 (by omega) (stk_b h.2.2.2.1.1 h.2.2.2.1.2.2) T.length 0 q_FU (by omega) (by unfold q_FU; omega)
  have h2 := stk_mem (v := 25) h.2.2.2.1.1
  unfold fX12_qHasSquare
  constructor
  · intro g
    obtain ⟨k, k1, k2⟩ := h2.mpr g
    exact h1.1 ⟨k, by omega, k1, k2⟩
  · intro g
    exact h1.2 (fun ⟨k, _, k1, k2⟩ => g (h2.mp ⟨k, k1, k2⟩))
theorem C_87 {b : Nat → Int} {N w : Nat} {M0 : q_Mem} {p : Nat} {j : Bool} {T : List Int} {o : Int} (hT : ¬ T.head? = some 10) : ∀ (pend : List Int) (n : Nat) (R : List Int) (M : q_Mem), (∀ u ∈ pend, u = 10) → pend.length < n → z_C b N w 0 M0 (.inl (p, j)) (pend ++ T) o 1 R M → ∃ M', fX12_qGoesOnTest_87 n M = some (1, M') ∧ z_C b N w 0 M0 (.inl (p, j)) (10 :: T) o 0 (pend.reverse ++ R) M' := by
  intro pend
  induction pend with
  | nil =>
    intro n R M _ hn h
    cases n with
    | zero => omega
    | succ n =>
      have hp := C_pN h
      rw [List.nil_append] at hp h
      rw [fX12_qGoesOnTest_87, C_on h (by omega) (by omega), b_some, f_ite, if_neg hT]
      obtain ⟨g1, g2, g3⟩ := C_push (x := 10) h (by omega) (by omega)
      rw [g1, Option.bind_some, q_le, g2]
      exact ⟨_, rfl, g3⟩
  | cons u pend ih =>
    intro n R M hu hn h
    have h1 := hu u List.mem_cons_self
    cases n with
    | zero => omega
    | succ n =>
      have hp := C_pN h
      rw [List.cons_append, List.length_cons, List.length_append] at hp
      rw [List.length_cons] at hn
      rw [List.cons_append] at h
      obtain ⟨M1, g1, g2⟩ := C_drop h (by rw [List.length_append]; omega) (by omega)
      obtain ⟨M', g3, g4⟩ := ih n (u :: R) M1 (fun x hx => hu x (List.mem_cons_of_mem _ hx)) (by omega) g2
      rw [List.reverse_cons, List.append_assoc]
      refine ⟨M', ?_, g4⟩
      rw [fX12_qGoesOnTest_87, C_on h (by omega) (by omega), b_some, f_ite, List.head?_cons, if_pos (by rw [h1]), g1, b_some]
      exact g3
theorem C_137 {b : Nat → Int} {N w : Nat} {M0 : q_Mem} {p : Nat} {j : Bool} {T : List Int} {o : Int} (hT : ¬ T.head? = some 10 ∧ ¬ T.head? = some 11) : ∀ (pend : List Int) (n : Nat) (R : List Int) (M : q_Mem), (∀ u ∈ pend, u = 10 ∨ u = 11) → pend.length < n → z_C b N w 0 M0 (.inl (p, j)) (pend ++ T) o 1 R M → ∃ M', fX12_qGoesOnTest_137 n M = some (1, M') ∧ z_C b N w 0 M0 (.inl (p, j)) (11 :: T) o 0 (pend.reverse ++ R) M' := by
  intro pend
  induction pend with
  | nil =>
    intro n R M _ hn h
    cases n with
    | zero => omega
    | succ n =>
      have hp := C_pN h
      rw [List.nil_append] at hp h
      rw [fX12_qGoesOnTest_137, C_on h (by omega) (by omega), b_some, f_ite, if_neg hT.1, C_on h (by omega) (by omega), b_some, f_ite, if_neg hT.2]
      obtain ⟨g1, g2, g3⟩ := C_push (x := 11) h (by omega) (by omega)
      rw [g1, Option.bind_some, q_le, g2]
      exact ⟨_, rfl, g3⟩
  | cons u pend ih =>
    intro n R M hu hn h
    have h1 := hu u List.mem_cons_self
    cases n with
    | zero => omega
    | succ n =>
      have hp := C_pN h
      rw [List.cons_append, List.length_cons, List.length_append] at hp
      rw [List.length_cons] at hn
      rw [List.cons_append] at h
      obtain ⟨M1, g1, g2⟩ := C_drop h (by rw [List.length_append]; omega) (by omega)
      obtain ⟨M', g3, g4⟩ := ih n (u :: R) M1 (fun x hx => hu x (List.mem_cons_of_mem _ hx)) (by omega) g2
      rw [List.reverse_cons, List.append_assoc]
      refine ⟨M', ?_, g4⟩
      rw [fX12_qGoesOnTest_137, C_on h (by omega) (by omega), b_some, f_ite, List.head?_cons]
      unfold fX12_qGoesOnTest_155
      by_cases c : u = 10
      · rw [if_pos (by rw [c]), g1, b_some]
        exact g3
      · rw [if_neg (by simpa using c), C_on h (by omega) (by omega), b_some, f_ite, List.head?_cons, if_pos (by rw [show u = 11 from by omega]), g1, b_some]
        exact g3
theorem C_33 {b : Nat → Int} {N w : Nat} {M0 : q_Mem} {p : Nat} {j : Bool} {T : List Int} {o : Int} {K0 : q_Mem → Option (Int × q_Mem)} : ∀ (pend : List Int) (n : Nat) (R : List Int) (M : q_Mem), (∀ u ∈ pend, u = 10 ∨ u = 11) → pend.length < n → z_C b N w 0 M0 (.inl (p, j)) (pend ++ 25 :: T) o 1 R M → ∃ M', fX12_qGoesOnTest_33 K0 n M = K0 M' ∧ z_C b N w 0 M0 (.inl (p, j)) (k_ns T (o - 1) (pend.reverse ++ R)).1 (k_ns T (o - 1) (pend.reverse ++ R)).2.1 0 (k_ns T (o - 1) (pend.reverse ++ R)).2.2 M' := by
  intro pend
  induction pend with
  | nil =>
    intro n R M _ hn h
    cases n with
    | zero => omega
    | succ n =>
      have hp := C_pN h
      rw [List.nil_append] at hp h
      rw [List.length_cons] at hp
      rw [fX12_qGoesOnTest_33, C_on h (by omega) (by omega), b_some, f_ite, List.head?_cons, if_pos rfl, q_le, q_le]
      have hl : M.2 94 93 - 1 = (T.length : Int) := by rw [h.2.2.1.1, List.length_cons]; omega
      have e94 : (q_up M 94 93 (M.2 94 93 - 1)).2 94 94 - 1 = o - 1 := by rw [up_ne (by omega), h.2.2.1.2.1]
      have d3 := C_94o (z := (q_up M 94 93 (M.2 94 93 - 1)).2 94 94 - 1) (C_93 h hl) e94
      unfold fX12_qDropsNots
      obtain ⟨M2, k1, k2⟩ := C_nots T q_FU (o - 1) _ R _ (by omega) (by unfold q_FU; omega) d3
      rw [k1, b_some]
      exact ⟨M2, rfl, C_w k2 (by omega)⟩
  | cons u pend ih =>
    intro n R M hu hn h
    have h1 := hu u List.mem_cons_self
    cases n with
    | zero => omega
    | succ n =>
      have hp := C_pN h
      rw [List.cons_append, List.length_cons, List.length_append] at hp
      rw [List.length_cons] at hn
      rw [List.cons_append] at h
      obtain ⟨M1, g1, g2⟩ := C_drop h (by rw [List.length_append]; omega) (by omega)
      obtain ⟨M', g3, g4⟩ := ih n (u :: R) M1 (fun x hx => hu x (List.mem_cons_of_mem _ hx)) (by omega) g2
      rw [List.reverse_cons, List.append_assoc]
      refine ⟨M', ?_, g4⟩
      rw [fX12_qGoesOnTest_33, C_on h (by omega) (by omega), b_some, f_ite, List.head?_cons, if_neg (by intro e; cases e; omega), g1, b_some]
      exact g3
theorem C_110 {b : Nat → Int} {N w : Nat} {M0 : q_Mem} {p : Nat} {j : Bool} {o : Int} : ∀ (T : List Int) (n : Nat) (R : List Int) (M : q_Mem), T.length < n → z_C b N w 0 M0 (.inl (p, j)) T o 0 R M → ∃ M', fX12_qTest_110 n M = some (0, M') ∧ z_C b N w 0 M0 (.inl (p, j)) [] o 0 (T.reverse ++ R) M' := by
  intro T
  induction T with
  | nil =>
    intro n R M hn h
    cases n with
    | zero => omega
    | succ n =>
      rw [fX12_qTest_110, show M.2 94 5 = 0 from h.2.1.1, show q_w 0 = 0 from rfl, if_pos rfl, h.2.2.1.1, List.length_nil, show q_w ((0 : Nat) : Int) = 0 from rfl, if_neg (by decide)]
      exact ⟨M, rfl, h⟩
  | cons v T ih =>
    intro n R M hn h
    cases n with
    | zero => omega
    | succ n =>
      have hp := C_pN h
      rw [List.length_cons] at hp hn
      rw [fX12_qTest_110, show M.2 94 5 = 0 from h.2.1.1, show q_w 0 = 0 from rfl, if_pos rfl, h.2.2.1.1, List.length_cons, n_w (by omega) (by omega), if_pos (by omega)]
      obtain ⟨M1, g1, g2⟩ := C_drop h (by omega) (by omega)
      rw [g1, b_some]
      obtain ⟨M', g3, g4⟩ := ih n (v :: R) M1 (by omega) g2
      refine ⟨M', g3, ?_⟩
      rw [List.reverse_cons, List.append_assoc]
      exact g4
theorem tA_sq {b : Nat → Int} {N w : Nat} {M0 : q_Mem} {Q : Int → q_Mem → Prop} {σ : t_S} {T R : List Int} {o : Nat} (c : u_isS b N 91 σ = true) (ho : o ≤ 6) (h : t_A b N w M0 Q (u_en b N o σ) (25 :: T) ((o : Int) + 1) R) : t_A b N w M0 Q σ T (o : Int) R := by
  refine ⟨fun hf => (by rw [ok_isS c] at hf; cases hf), ?_⟩
  rintro p j rfl n1 M hn1 hC
  have hpN := C_pN hC
  have hat : t_at b N p ≠ -1 := isS_nz c
  have hlt := at_lt hat
  cases n1 with
  | zero => omega
  | succ n =>
    obtain ⟨M1, g1, g2, g3⟩ := C_look hC
    rw [fX12_qTest_2, show q_w 1 = 1 from rfl, if_neg (by decide), show M.2 94 5 = 0 from hC.2.1.1, show q_w 0 = 0 from rfl, if_pos rfl, g1, b_some, (at_S zc_b.2.2.2.2.2.2.2.2.2.2.1).mpr c, if_pos rfl, show M1.2 94 2 = (p : Int) from g3.2.2.1]
    obtain ⟨M7, o1, o2, o3⟩ := C_opens (x := 25) (pl := (p : Int)) g2 (by omega) (by omega) (by omega)
    rw [o1, b_some, q_le]
    unfold u_en at h
    by_cases c6 : o < 6
    · obtain ⟨q1, q2⟩ := o2 (by omega)
      have hP := P_fr g3 q2
      have hadv := C_adv q1 hP c (z := M7.2 94 2 + 1) (by rw [hP.2.2.1])
      rw [if_pos c6] at h
      obtain ⟨p', j', e1, e2, e3⟩ := st_x (j := j) hpN.2.1 hat
      exact h.2 p' j' e1 n _ (by omega) (C_w hadv (by omega))
    · rw [if_neg c6] at h
      exact t2_F (h.1 ok_fl) (F_2 (C_F rfl (by omega) (o3 (by omega)))) (by omega) (by omega)
theorem tA_not {b : Nat → Int} {N w : Nat} {M0 : q_Mem} {Q : Int → q_Mem → Prop} {σ : t_S} {T R : List Int} {o : Nat} (hw0 : r_words M0.2) (c : u_isW b N 21 σ = true) (ho : o ≤ 6) (h : t_A b N w M0 Q (u_en b N o σ) (12 :: T) ((o : Int) + 1) R) : t_A b N w M0 Q σ T (o : Int) R := by
  refine ⟨fun hf => (by rw [ok_isW c] at hf; cases hf), ?_⟩
  rintro p j rfl n1 M hn1 hC
  have hpN := C_pN hC
  have hat : t_at b N p ≠ -1 := isW_nz c
  have hlt := at_lt hat
  have n91 : ¬ u_isS b N 91 (.inl (p, j)) = true := fun g => isS_W g c
  cases n1 with
  | zero => omega
  | succ n =>
    obtain ⟨M1, g1, g2, g3⟩ := C_look hC
    rw [fX12_qTest_2, show q_w 1 = 1 from rfl, if_neg (by decide), show M.2 94 5 = 0 from hC.2.1.1, show q_w 0 = 0 from rfl, if_pos rfl, g1, b_some, if_neg (at_40 hC.1 zc_b.2.2.2.2.2.2.2.2.2.2.1 n91)]
    obtain ⟨M2, a1, a2, a3⟩ := C_isH hw0 g2 wm_21
    rw [a1, b_some, f_ite, if_pos c, show M2.2 94 2 = (p : Int) from a3.2.2.1]
    obtain ⟨M7, o1, o2, o3⟩ := C_opens (x := 12) (pl := (p : Int)) a2 (by omega) (by omega) (by omega)
    rw [o1, b_some]
    unfold u_en at h
    by_cases c6 : o < 6
    · obtain ⟨q1, q2⟩ := o2 (by omega)
      rw [if_pos c6] at h
      obtain ⟨M8, s1, s2⟩ := C_asks hw0 q1 wm_21 c
      rw [s1, b_some]
      obtain ⟨p', j', e1, e2, e3⟩ := st_x (j := j) hpN.2.1 hat
      exact h.2 p' j' e1 n _ (by omega) (C_w s2 (by omega))
    · rw [if_neg c6] at h
      have hF := C_F rfl (by omega) (o3 (by omega))
      have e5 : fX12_asks 146 3 M7 = some (0, M7) := by
        unfold fX12_asks
        rw [if_neg (F_bad hF)]
      rw [e5, b_some]
      exact t2_F (h.1 ok_fl) hF (by omega) (by omega)
/-- what a fact comes to that is neither not nor a bracket -/
def s_Fa (b : Nat → Int) (N w k o : Nat) (r : t_R) : t_R := if u_isW b N 22 r.1 = true then (u_st b N r.1, 13 :: r.2)
      else if u_cmp b N (s_G b N w k 3 o r).1 = 0 then (u_fl 1 (u_p (s_G b N w k 3 o r).1) (s_G b N w k 3 o r).1, [])
      else u_pu (u_cmp b N (s_G b N w k 3 o r).1) (s_G b N w k 3 o (u_st b N (s_G b N w k 3 o r).1, (s_G b N w k 3 o r).2))
theorem c_fact {b : Nat → Int} {N w : Nat} {M0 : q_Mem} {p : Nat} {j : Bool} {T R : List Int} {o k : Nat} {M : q_Mem} (hw0 : r_words M0.2) (hw2 : w ≤ 2) (hT : ∀ u ∈ T, 10 ≤ u ∧ u < 60) (hD : h_D o 3 k (.inl (p, j))) (hC : z_C b N w 0 M0 (.inl (p, j)) T (o : Int) 0 R M) : q_P (fX12_qFact M) (fun _ M' => z_E b N w 0 M0 (s_Fa b N w k o (.inl (p, j), R)) T (o : Int) 0 2 M') := by
  have hpN := C_pN hC
  have hT' : ∀ u, T.head? = some u → 5 ≤ u ∧ u < 60 := fun u hu => by
    have := hT u (List.mem_of_mem_head? hu)
    omega
  unfold fX12_qFact s_Fa
  obtain ⟨M1, a1, a2, a3⟩ := C_takes hw0 hC wm_22
  rw [a1, b_some, f_ite]
  by_cases c : u_isW b N 22 (.inl (p, j)) = true
  · rw [if_pos c, if_pos c]
    obtain ⟨M2, g1, g2⟩ := C_code (x := 13) (a2 c) (by omega)
    rw [g1, b_some]
    exact w_some.mpr ⟨fun _ => C_w g2 (by omega), fun g => (by rw [ok_st] at g; cases g)⟩
  rw [if_neg c, if_neg c]
  refine w_call (c_sums hw0 hw2 (by omega) k hD hT' (a3 c).1) ?_
  intro _ M2 hE
  have hDq : h_D o 3 k (s_G b N w k 3 o (.inl (p, j), R)).1 := D_G (t2 := 0) hD
  generalize s_G b N w k 3 o (.inl (p, j), R) = q at hE hDq
  obtain ⟨hE1, hE2⟩ := hE
  by_cases hok : u_ok q.1 = true
  · have h2 := hE1 hok
    rcases hq : q.1 with ⟨p', j'⟩ | ⟨k', pl⟩
    · rw [hq] at h2 hDq
      have hpN' := C_pN h2
      obtain ⟨M3, g1, g2, g3⟩ := C_look h2
      have hb := at_b2 h2.1 p'
      rw [show M2.2 94 5 = 0 from h2.2.1.1, show q_w 0 = 0 from rfl, if_pos rfl, g1, b_some]
      have go : ∀ cc v : Int, z_c cc → ((cc = 60 ∧ v = 7) ∨ (cc = 62 ∧ v = 8) ∨ (cc = 61 ∧ v = 9)) → u_isS b N cc (.inl (p', j')) = true → u_cmp b N (.inl (p', j')) = v → q_P (fX12_qFact_63 (t_at b N p') M3) (fun _ M' => z_E b N w 0 M0 (if u_cmp b N (.inl (p', j')) = 0 then (u_fl 1 (u_p (.inl (p', j'))) (.inl (p', j')), []) else u_pu (u_cmp b N (.inl (p', j'))) (s_G b N w k 3 o (u_st b N (.inl (p', j')), q.2))) T (o : Int) 0 2 M') := by
        intro cc v hz hcv hc hu
        rw [if_neg (by rw [hu]; omega), hu]
        unfold fX12_qFact_63 fX12_qFact_102
        have hadv := C_adv g2 g3 hc (z := M3.2 94 2 + 1) (by rw [g3.2.2.1])
        obtain ⟨p2, j2, e1, e2, e3⟩ := st_x (j := j') hpN'.2.1 (isS_nz hc)
        have hD2 : h_D o 3 k (u_st b N (.inl (p', j'))) := D_st hDq
        rw [e1] at hadv hD2 ⊢
        rw [q_le]
        refine w_call (c_sums hw0 hw2 (δ := 0 + 1) (by omega) k hD2 hT' hadv) ?_
        intro _ M4 hE4
        generalize s_G b N w k 3 o (.inl (p2, j2), q.2) = q2 at hE4
        obtain ⟨i1, i2⟩ := hE4
        rw [(at_S hz).mpr hc]
        have fin : q_P (q_bd (fX12_qCode v M4) fun _ M1 => some (0, M1)) (fun _ M' => z_E b N w 0 M0 (u_pu v q2) T (o : Int) 0 2 M') := by
          by_cases hok2 : u_ok q2.1 = true
          · have h5 := i1 hok2
            rcases hq2 : q2.1 with ⟨p3, j3⟩ | ⟨k3, pl3⟩
            · have h6 := h5
              rw [hq2] at h6
              have := C_pN h6
              obtain ⟨M5, s1, s2⟩ := C_code (x := v) h5 (by omega)
              rw [s1, b_some]
              exact w_some.mpr ⟨fun _ => C_w s2 (by omega), fun g => (by rw [show u_ok (u_pu v q2).1 = u_ok q2.1 from rfl, hok2] at g; cases g)⟩
            · rw [hq2] at hok2; cases hok2
          · have hf : u_ok q2.1 = false := Bool.eq_false_iff.mpr hok2
            obtain ⟨M5, s1, s2⟩ := F_code (x := v) (i2 hf) (by omega)
            rw [s1, b_some]
            exact w_some.mpr ⟨fun g => absurd g hok2, fun _ => F_w s2 (by omega)⟩
        rcases hcv with ⟨rfl, rfl⟩ | ⟨rfl, rfl⟩ | ⟨rfl, rfl⟩
        · rw [if_pos rfl]
          exact fin
        · rw [show q_w 62 = 62 from rfl, show q_w 60 = 60 from rfl, if_neg (by decide), if_pos rfl]
          exact fin
        · rw [show q_w 61 = 61 from rfl, show q_w 62 = 62 from rfl, show q_w 60 = 60 from rfl, if_neg (by decide), if_neg (by decide)]
          exact fin
      by_cases c1 : u_isS b N 60 (.inl (p', j')) = true
      · rw [(at_S zc_b.2.2.2.2.2.2.2.1).mpr c1, if_pos rfl]
        have := go 60 7 zc_b.2.2.2.2.2.2.2.1 (Or.inl ⟨rfl, rfl⟩) c1 (by unfold u_cmp; rw [if_pos c1])
        rw [(at_S zc_b.2.2.2.2.2.2.2.1).mpr c1] at this
        exact this
      rw [if_neg (at_40 h2.1 zc_b.2.2.2.2.2.2.2.1 c1)]
      by_cases c2 : u_isS b N 62 (.inl (p', j')) = true
      · rw [(at_S zc_b.2.2.2.2.2.2.2.2.2.1).mpr c2, if_pos rfl]
        have := go 62 8 zc_b.2.2.2.2.2.2.2.2.2.1 (Or.inr (Or.inl ⟨rfl, rfl⟩)) c2 (by unfold u_cmp; rw [if_neg c1, if_pos c2])
        rw [(at_S zc_b.2.2.2.2.2.2.2.2.2.1).mpr c2] at this
        exact this
      rw [if_neg (at_40 h2.1 zc_b.2.2.2.2.2.2.2.2.2.1 c2)]
      by_cases c3 : u_isS b N 61 (.inl (p', j')) = true
      · rw [(at_S zc_b.2.2.2.2.2.2.2.2.1).mpr c3, if_pos rfl]
        have := go 61 9 zc_b.2.2.2.2.2.2.2.2.1 (Or.inr (Or.inr ⟨rfl, rfl⟩)) c3 (by unfold u_cmp; rw [if_neg c1, if_neg c2, if_pos c3])
        rw [(at_S zc_b.2.2.2.2.2.2.2.2.1).mpr c3] at this
        exact this
      rw [if_neg (at_40 h2.1 zc_b.2.2.2.2.2.2.2.2.1 c3), if_pos (show u_cmp b N (.inl (p', j')) = 0 by unfold u_cmp; rw [if_neg c1, if_neg c2, if_neg c3]), show M3.2 94 2 = (p' : Int) from g3.2.2.1]
      obtain ⟨M4, s1, s2⟩ := C_fail (k := 1) (pl := (p' : Int)) g2 (by omega)
      rw [s1, b_some]
      exact w_some.mpr ⟨fun g => (by cases g), fun _ => F_w (C_F rfl (by omega) s2) (by omega)⟩
    · rw [hq] at hok; cases hok
  · have hf : u_ok q.1 = false := Bool.eq_false_iff.mpr hok
    have hF := hE2 hf
    rw [if_neg (F_bad hF)]
    have hu : u_cmp b N q.1 = 0 ∧ u_fl 1 (u_p q.1) q.1 = q.1 := by
      rcases hq : q.1 with ⟨p', j'⟩ | ⟨k', pl⟩
      · rw [hq] at hf; cases hf
      · exact ⟨rfl, rfl⟩
    rw [if_pos hu.1, hu.2]
    exact w_some.mpr ⟨fun g => absurd g hok, fun _ => F_w hF (by omega)⟩
theorem tA_fact {b : Nat → Int} {N w : Nat} {M0 : q_Mem} {Q : Int → q_Mem → Prop} {σ : t_S} {T R : List Int} {o k : Nat} (hw0 : r_words M0.2) (hw2 : w ≤ 2) (hok : u_ok σ = true) (n21 : ¬ u_isW b N 21 σ = true) (n91 : ¬ u_isS b N 91 σ = true) (hT : ∀ u ∈ T, 10 ≤ u ∧ u < 60) (hin : u_in N σ) (hD : h_D o 3 k σ) (h : t_B b N w M0 Q (s_Fa b N w k o (σ, R)).1 (k_ns T (o : Int) (s_Fa b N w k o (σ, R)).2).1 (k_ns T (o : Int) (s_Fa b N w k o (σ, R)).2).2.1 (k_ns T (o : Int) (s_Fa b N w k o (σ, R)).2).2.2) : t_A b N w M0 Q σ T (o : Int) R := by
  refine ⟨fun hf => (by rw [hok] at hf; cases hf), ?_⟩
  rintro p j rfl n1 M hn1 hC
  have hpN := C_pN hC
  cases n1 with
  | zero => omega
  | succ n =>
    obtain ⟨M1, g1, g2, g3⟩ := C_look hC
    rw [fX12_qTest_2, show q_w 1 = 1 from rfl, if_neg (by decide), show M.2 94 5 = 0 from hC.2.1.1, show q_w 0 = 0 from rfl, if_pos rfl, g1, b_some, if_neg (at_40 hC.1 zc_b.2.2.2.2.2.2.2.2.2.2.1 n91)]
    obtain ⟨M2, a1, a2, a3⟩ := C_isH hw0 g2 wm_21
    rw [a1, b_some, f_ite, if_neg n21]
    have hle : u_le N (.inl (p, j)) (s_Fa b N w k o (.inl (p, j), R)).1 := by
      unfold s_Fa
      split
      · exact le_st hin
      have h1 := le_G (b := b) (w := w) k 3 o (.inl (p, j), R) hin
      split
      · exact le_t h1 le_fl
      · have h2 := le_st (b := b) (le_in h1)
        exact le_t h1 (le_t h2 (le_G k 3 o (u_st b N (s_G b N w k 3 o (.inl (p, j), R)).1, (s_G b N w k 3 o (.inl (p, j), R)).2) (le_in h2)))
    refine w_call (c_fact hw0 hw2 hT hD a2) ?_
    intro _ M3 hE
    generalize s_Fa b N w k o (.inl (p, j), R) = q at hE h hle
    obtain ⟨i1, i2⟩ := hE
    unfold fX12_qDropsNots
    by_cases hok2 : u_ok q.1 = true
    · have h3 := i1 hok2
      rcases hq : q.1 with ⟨p', j'⟩ | ⟨k', pl⟩
      · rw [hq] at h3 h hle
        have hpN' := C_pN h3
        obtain ⟨_, _, _, e0, hge⟩ := hle p' j' rfl
        cases e0
        obtain ⟨M4, k1, k2⟩ := C_nots T q_FU (o : Int) 0 q.2 M3 (by omega) (by unfold q_FU; omega) h3
        rw [k1, b_some, show M4.2 94 5 = 0 from k2.2.1.1, show q_w 0 = 0 from rfl, if_pos rfl]
        exact h.2 p' j' rfl q_FU n M4 (by unfold q_FU; omega) (by omega) k2
      · rw [hq] at hok2; cases hok2
    · have hf : u_ok q.1 = false := Bool.eq_false_iff.mpr hok2
      have hF := i2 hf
      rw [show q_FU = 99999 + 1 from rfl, fX12_qDropsNots_0, if_neg (F_bad hF), b_some, if_neg (F_bad hF)]
      unfold fX12_qTest_105 fX12_qTest_106
      exact t2_F (h.1 hf) hF (by omega) (by omega)
theorem tB_76 {b : Nat → Int} {N w : Nat} {M0 : q_Mem} {p n : Nat} {j : Bool} {T R : List Int} {o : Int} {M : q_Mem} (hC : z_C b N w 0 M0 (.inl (p, j)) T o 0 R M) (hno : u_isS b N 93 (.inl (p, j)) = true → ¬ 25 ∈ T) : ∃ M', fX12_qGoesOnTest_0 (n + 1) M = fX12_qGoesOnTest_76 M' ∧ z_C b N w 0 M0 (.inl (p, j)) T o 0 R M' := by
  obtain ⟨M1, g1, g2, g3⟩ := C_look hC
  rw [fX12_qGoesOnTest_0, show M.2 94 5 = 0 from hC.2.1.1, show q_w 0 = 0 from rfl, if_pos rfl, g1, b_some]
  by_cases c : u_isS b N 93 (.inl (p, j)) = true
  · rw [(at_S zc_b.2.2.2.2.2.2.2.2.2.2.2).mpr c, if_pos rfl, (C_hs (by omega) g2).2 (hno c), b_some, show q_w 0 = 0 from rfl, if_pos rfl]
    exact ⟨M1, rfl, g2⟩
  · rw [if_neg (at_40 hC.1 zc_b.2.2.2.2.2.2.2.2.2.2.2 c)]
    exact ⟨M1, rfl, g2⟩
theorem tB_and {b : Nat → Int} {N w : Nat} {M0 : q_Mem} {Q : Int → q_Mem → Prop} {σ : t_S} {pm T R : List Int} {o : Int} (hw0 : r_words M0.2) (c : u_isW b N 20 σ = true) (hpm : ∀ u ∈ pm, u = 10) (hT : ¬ T.head? = some 10) (h : t_A b N w M0 Q (u_st b N σ) (10 :: T) o (pm.reverse ++ R)) : t_B b N w M0 Q σ (pm ++ T) o R := by
  refine ⟨fun hf => (by rw [ok_isW c] at hf; cases hf), ?_⟩
  rintro p j rfl n1 n2 M hn1 hn2 hC
  have hpN := C_pN hC
  rw [List.length_append] at hpN
  have hat : t_at b N p ≠ -1 := isW_nz c
  cases n1 with
  | zero => omega
  | succ n =>
    unfold r_U
    obtain ⟨M1, g1, g2⟩ := tB_76 (n := n) hC (fun g => absurd c (isS_W g))
    rw [g1]
    unfold fX12_qGoesOnTest_76
    obtain ⟨p', j', e1, e2, e3⟩ := st_x (j := j) hpN.2.1 hat
    rw [e1] at h
    obtain ⟨M2, t1, t2, t3⟩ := C_takes hw0 g2 wm_20
    have t4 := t2 c
    rw [e1] at t4
    rw [t1, b_some, f_ite, if_pos c]
    obtain ⟨M3, k1, k2⟩ := C_87 hT pm q_FU R M2 hpm (by unfold q_FU; omega) t4
    rw [k1, b_some, show q_w 1 = 1 from rfl, if_neg (by decide)]
    exact h.2 p' j' rfl n2 M3 (by omega) k2
theorem tB_or {b : Nat → Int} {N w : Nat} {M0 : q_Mem} {Q : Int → q_Mem → Prop} {σ : t_S} {pm T R : List Int} {o : Int} (hw0 : r_words M0.2) (c : u_isW b N 19 σ = true) (hpm : ∀ u ∈ pm, u = 10 ∨ u = 11) (hT : ¬ T.head? = some 10 ∧ ¬ T.head? = some 11) (h : t_A b N w M0 Q (u_st b N σ) (11 :: T) o (pm.reverse ++ R)) : t_B b N w M0 Q σ (pm ++ T) o R := by
  refine ⟨fun hf => (by rw [ok_isW c] at hf; cases hf), ?_⟩
  rintro p j rfl n1 n2 M hn1 hn2 hC
  have hpN := C_pN hC
  rw [List.length_append] at hpN
  have hat : t_at b N p ≠ -1 := isW_nz c
  have n20 : ¬ u_isW b N 20 (.inl (p, j)) = true := isW_u c (by decide)
  cases n1 with
  | zero => omega
  | succ n =>
    unfold r_U
    obtain ⟨M1, g1, g2⟩ := tB_76 (n := n) hC (fun g => absurd c (isS_W g))
    rw [g1]
    unfold fX12_qGoesOnTest_76
    obtain ⟨p', j', e1, e2, e3⟩ := st_x (j := j) hpN.2.1 hat
    rw [e1] at h
    obtain ⟨M2, t1, t2, t3⟩ := C_takes hw0 g2 wm_20
    rw [t1, b_some, f_ite, if_neg n20]
    obtain ⟨M3, s1, s2, s3⟩ := C_takes hw0 (t3 n20).1 wm_19
    have t4 := s2 c
    rw [e1] at t4
    rw [s1, b_some, f_ite, if_pos c]
    obtain ⟨M4, k1, k2⟩ := C_137 hT pm q_FU R M3 hpm (by unfold q_FU; omega) t4
    rw [k1, b_some, show q_w 1 = 1 from rfl, if_neg (by decide)]
    exact h.2 p' j' rfl n2 M4 (by omega) k2
theorem or_0 {b : Nat → Int} {N : Nat} {σ : t_S} (h : u_or b N σ = 0) : ¬ u_isW b N 19 σ = true := by
  intro c
  unfold u_or at h
  rw [if_pos c] at h
  cases h
theorem and_0 {b : Nat → Int} {N : Nat} {σ : t_S} (h : u_and b N σ = 0) : ¬ u_isW b N 20 σ = true := by
  intro c
  unfold u_and at h
  rw [if_pos c] at h
  cases h
theorem tB_close {b : Nat → Int} {N w : Nat} {M0 : q_Mem} {Q : Int → q_Mem → Prop} {p : Nat} {j : Bool} {pend T R : List Int} {o : Int} (c : u_isS b N 93 (.inl (p, j)) = true) (hpe : ∀ u ∈ pend, u = 10 ∨ u = 11) (h : t_B b N w M0 Q (u_st b N (.inl (p, j))) (k_ns T (o - 1) (pend.reverse ++ R)).1 (k_ns T (o - 1) (pend.reverse ++ R)).2.1 (k_ns T (o - 1) (pend.reverse ++ R)).2.2) : t_B b N w M0 Q (.inl (p, j)) (pend ++ 25 :: T) o R := by
  refine ⟨fun hf => (by cases hf), ?_⟩
  rintro p' j' e n1 n2 M hn1 hn2 hC
  cases e
  have hpN := C_pN hC
  rw [List.length_append, List.length_cons] at hpN
  have hat : t_at b N p ≠ -1 := isS_nz c
  obtain ⟨p', j', e1, e2, e3⟩ := st_x (j := j) hpN.2.1 hat
  rw [e1] at h
  cases n1 with
  | zero => omega
  | succ n =>
    unfold r_U
    obtain ⟨M1, g1, g2, g3⟩ := C_look hC
    have hadv := C_adv g2 g3 c (z := M1.2 94 2 + 1) (by rw [g3.2.2.1])
    rw [e1] at hadv
    rw [fX12_qGoesOnTest_0, show M.2 94 5 = 0 from hC.2.1.1, show q_w 0 = 0 from rfl, if_pos rfl, g1, b_some, (at_S zc_b.2.2.2.2.2.2.2.2.2.2.2).mpr c, if_pos rfl, (C_hs (by omega) g2).1 (List.mem_append_right _ List.mem_cons_self), b_some, show q_w 1 = 1 from rfl, if_neg (by decide), q_le]
    obtain ⟨M2, k1, k2⟩ := C_33 (K0 := fX12_qGoesOnTest_0 n) pend q_FU R _ hpe (by unfold q_FU; omega) hadv
    rw [k1]
    exact h.2 p' j' rfl n n2 M2 (by omega) (by omega) k2
theorem tB_bad {b : Nat → Int} {N w : Nat} {M0 : q_Mem} {Q : Int → q_Mem → Prop} {p : Nat} {j : Bool} {pend T R : List Int} {o : Int} (hw0 : r_words M0.2) (ha : u_and b N (.inl (p, j)) = 0) (ho : u_or b N (.inl (p, j)) = 0) (hc : ¬ u_isS b N 93 (.inl (p, j)) = true) (hF : t_F b N M0 Q (.inr (1, (p : Int)))) : t_B b N w M0 Q (.inl (p, j)) (pend ++ 25 :: T) o R := by
  refine ⟨fun hf => (by cases hf), ?_⟩
  rintro p' j' e n1 n2 M hn1 hn2 hC
  cases e
  have hpN := C_pN hC
  have n19 := or_0 ho
  have n20 := and_0 ha
  cases n1 with
  | zero => omega
  | succ n =>
    unfold r_U
    obtain ⟨M1, g1, g2⟩ := tB_76 (n := n) hC (fun g => absurd g hc)
    rw [g1]
    unfold fX12_qGoesOnTest_76
    obtain ⟨M2, t1, t2, t3⟩ := C_takes hw0 g2 wm_20
    rw [t1, b_some, f_ite, if_neg n20]
    obtain ⟨M3, s1, s2, s3⟩ := C_takes hw0 (t3 n20).1 wm_19
    obtain ⟨s4, s5⟩ := s3 n19
    rw [s1, b_some, f_ite, if_neg n19, show M3.2 94 5 = 0 from s4.2.1.1, show q_w 0 = 0 from rfl, if_pos rfl, (C_hs (by omega) s4).1 (List.mem_append_right _ List.mem_cons_self), b_some, show q_w 1 = 1 from rfl, if_neg (by decide), show M3.2 94 2 = (p : Int) from s5.2.2.1]
    obtain ⟨M4, u1, u2⟩ := C_fail (k := 1) (pl := (p : Int)) s4 (by omega)
    rw [u1, b_some, b_some, show q_w 0 = 0 from rfl, if_pos rfl]
    unfold fX12_qTest_105 fX12_qTest_106
    exact t2_F hF (C_F rfl (by omega) u2) (by omega) (by omega)
theorem tB_end {b : Nat → Int} {N w : Nat} {M0 : q_Mem} {Q : Int → q_Mem → Prop} {p : Nat} {j : Bool} {pend R : List Int} {o : Int} (hw0 : r_words M0.2) (ha : u_and b N (.inl (p, j)) = 0) (ho : u_or b N (.inl (p, j)) = 0) (hpe : ∀ u ∈ pend, u = 10 ∨ u = 11) (hE : ∀ M, z_C b N w 0 M0 (.inl (p, j)) [] o 0 (pend.reverse ++ R) M → Q 0 M) : t_B b N w M0 Q (.inl (p, j)) (pend ++ []) o R := by
  refine ⟨fun hf => (by cases hf), ?_⟩
  rintro p' j' e n1 n2 M hn1 hn2 hC
  cases e
  rw [List.append_nil] at hC
  have hpN := C_pN hC
  have n19 := or_0 ho
  have n20 := and_0 ha
  have hsq : ¬ 25 ∈ pend := fun g => by have := hpe 25 g; omega
  cases n1 with
  | zero => omega
  | succ n =>
    unfold r_U
    obtain ⟨M1, g1, g2⟩ := tB_76 (n := n) hC (fun _ => hsq)
    rw [g1]
    unfold fX12_qGoesOnTest_76
    obtain ⟨M2, t1, t2, t3⟩ := C_takes hw0 g2 wm_20
    rw [t1, b_some, f_ite, if_neg n20]
    obtain ⟨M3, s1, s2, s3⟩ := C_takes hw0 (t3 n20).1 wm_19
    obtain ⟨s4, s5⟩ := s3 n19
    rw [s1, b_some, f_ite, if_neg n19, show M3.2 94 5 = 0 from s4.2.1.1, show q_w 0 = 0 from rfl, if_pos rfl, (C_hs (by omega) s4).2 hsq, b_some, show q_w 0 = 0 from rfl, if_pos rfl, b_some, show q_w 0 = 0 from rfl, if_pos rfl]
    unfold fX12_qTest_105 fX12_qTest_106
    cases n2 with
    | zero => omega
    | succ n2 =>
      rw [fX12_qTest_2, show q_w 0 = 0 from rfl, if_pos rfl]
      obtain ⟨M4, q1, q2⟩ := C_110 pend q_FU R M3 (by unfold q_FU; omega) s4
      rw [q1]
      exact w_some.mpr (hE M4 q2)
