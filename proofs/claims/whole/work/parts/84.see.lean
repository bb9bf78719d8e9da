/-! see, on -/
theorem j_tape {t : Nat} {M : q_Mem} {L A : q_G} (h : q_I t M L A) : ∃ N : Nat, N ≤ 1600 ∧ A 94 1 = (N : Int) ∧ M.2 1 1 = (N : Int) ∧ M.2 94 1 = (N : Int) ∧ (∀ k, M.2 2 k = A 95 k) ∧ (∀ k, M.2 95 k = A 95 k) ∧ ∀ k, 0 ≤ A 95 k ∧ A 95 k ≤ 255 := by
  obtain ⟨⟨k1, k2, k3, k4⟩, -⟩ := h.2.1
  obtain ⟨N, hN, hN2⟩ := nat_of' k3
  refine ⟨N, by omega, hN, ?_, ?_, ?_, ?_, k4⟩
  · rw [h.1.1 1 1 rfl, k1, hN]
  · rw [h.1.2.1 94 1 rfl, hN]
  · intro k
    rw [h.1.1 2 k rfl, k2]
  · intro k
    exact h.1.2.1 95 k rfl
theorem c_at1 {M : q_Mem} {f : Nat → Int} {N k : Nat} (hN : N ≤ 1600) (h1 : M.2 1 1 = (N : Int)) (h2 : ∀ k, M.2 2 k = f k) (hk : k < N) : fX10_at 1 (k : Int) M = some (f k, M) := by
  rw [f_at (by unfold q_R; omega) (by unfold q_R; omega) (by rfl) 1600 (by rfl) (by decide), if_pos (by omega), Int.toNat_natCast, h2]
theorem c_two1 {M : q_Mem} {f : Nat → Int} {N k : Nat} (hN : N ≤ 1600) (h1 : M.2 1 1 = (N : Int)) (h2 : ∀ k, M.2 2 k = f k) (hf : ∀ k, 0 ≤ f k ∧ f k ≤ 255) (hk : k + 1 < N) : fX10_twoAt 1 (k : Int) M = some (256 * f k + f (k + 1), M) := by
  have g1 := hf k
  have g2 := hf (k + 1)
  unfold fX10_twoAt
  rw [c_at1 hN h1 h2 (by omega), b_some, show (k : Int) + 1 = ((k + 1 : Nat) : Int) from by omega, c_at1 hN h1 h2 hk, b_some, n_two (by omega) (by omega) (by omega) (by omega)]
theorem u_tref {M M2 : q_Mem} (hS : q_St M) (k : Nat) (h : ∀ a j, M2.2 a j = if a = 96 ∧ j = k then M.2 96 k + 1 else if a = 94 ∧ j = 1 then 0 else if a = 56 ∧ j = k then M.2 56 k + 1 else if a = 1 ∧ j = 1 then 0 else M.2 a j) : q_St M2 := by
  obtain ⟨t, L, A, hI⟩ := id hS
  obtain ⟨N, hN, n1, n2, n3, n4, n5, n6⟩ := j_tape hI
  have hT : q_St (q_up (q_up M 1 1 0) 94 1 0) := by
    refine u_tape hI (fun a j ha => by rw [up_ne (by omega), up_ne (by omega)]) (by rw [up_ne (by omega), up_rd, if_pos ⟨rfl, rfl⟩, up_rd, if_pos ⟨rfl, rfl⟩]) (fun k => by rw [up_ne (by omega), up_ne (by omega), up_ne (by omega), up_ne (by omega), n4, n5]) (by rw [up_rd, if_pos ⟨rfl, rfl⟩]; decide) (fun k => by rw [up_ne (by omega), up_ne (by omega), n5]; exact n6 k)
  have hT1 : ∀ a j, (q_up (q_up M 1 1 0) 94 1 0).2 a j = if a = 94 ∧ j = 1 then 0 else if a = 1 ∧ j = 1 then 0 else M.2 a j := fun a j => by rw [up_rd, up_rd]
  generalize q_up (q_up M 1 1 0) 94 1 0 = T at hT hT1
  refine u_ext ?_ (u_ref hT k)
  intro a j
  rw [h a j]
  by_cases c1 : a = 96 ∧ j = k
  · rw [if_pos c1, up_rd, if_pos c1, up_ne (by omega), hT1 96 k, if_neg (by omega), if_neg (by omega)]
  · rw [if_neg c1, up_ne c1]
    by_cases c3 : a = 56 ∧ j = k
    · rw [if_neg (by omega), if_pos c3, up_rd, if_pos c3, hT1 56 k, if_neg (by omega), if_neg (by omega)]
    · rw [up_ne c3, hT1 a j]
      by_cases c2 : a = 94 ∧ j = 1
      · rw [if_pos c2, if_pos c2]
      · rw [if_neg c2, if_neg c3, if_neg c2]
theorem k_tp {t : Nat} {M : q_Mem} {L A : q_G} (h : q_K t M L A) (v : Int) : q_K t (q_up M 94 1 v) L (u_2 A 94 1 v) := by
  have hA : e_fair A (u_2 A 94 1 v) := ⟨by rw [u_rd, if_neg (by omega)], fun a k h1 h2 => by rw [u_rd, if_neg (by omega)]⟩
  have e131 : u_2 A 94 1 v 131 = A 131 := funext (fun k => by rw [u_rd, if_neg (by omega)])
  obtain ⟨h1, h2, h3, h4, h5, h6, h7⟩ := h
  refine ⟨trivial, ?_, e_fairL (L := L) hA rfl rfl rfl (fun _ _ _ _ => rfl) h3, e_wf hA h4, e_day (L := L) hA e131 (fun _ _ => rfl) rfl rfl h5, trivial, ?_⟩
  · intro a k ha
    rw [up_rd, u_rd]
    by_cases c : a = 94 ∧ k = 1
    · rw [if_pos c, if_pos c]
    · rw [if_neg c, if_neg c]
      exact h2 a k ha
  · rw [e131]
    exact (e_dv hA).mpr h7
def s_row (A : q_G) (k : Nat) : Bool := decide (A 95 (4 * k) < A 123 4) && decide (A 95 (4 * k + 1) < A 123 3)
def s_such (A : q_G) (N : Nat) : Bool := decide (0 < N) && decide (N % 4 = 0) && decide (N ≤ 64) && (List.range (N / 4)).all (s_row A)
theorem c_such29 {t : Nat} {M : q_Mem} {L A : q_G} (h : q_J t M L A) {N R : Nat} (hNR : N = 4 * R) (hN : N ≤ 64) (h1 : M.2 1 1 = (N : Int)) (h2 : ∀ k, M.2 2 k = A 95 k) (hf : ∀ k, 0 ≤ A 95 k ∧ A 95 k ≤ 255) : ∀ (n k : Nat), k ≤ R → R - k < n → fX9_isSuch_29 1 t n ((4 * k : Nat) : Int) M = some (if ((List.range R).drop k).all (s_row A) = true then 1 else 0, M) := by
  have w := j_wf h
  intro n
  induction n with
  | zero => intro k _ h; omega
  | succ n ih =>
    intro k hk hn
    have g1 := hf (4 * k)
    have g2 := hf (4 * k + 1)
    rw [fX9_isSuch_29, h1, n_w (by omega) (by omega), n_w (by omega) (by omega)]
    by_cases c : k < R
    · rw [if_pos (by omega), c_at1 (by omega) h1 h2 (by omega), b_some, (j_f h).2.2.1, n_w (by omega) (by omega), n_w (by omega) (by omega), rng_drop c, List.all_cons]
      unfold s_row
      by_cases c1 : A 95 (4 * k) < A 123 4
      · rw [if_pos c1, decide_eq_true c1, Bool.true_and, show ((4 * k : Nat) : Int) + 1 = ((4 * k + 1 : Nat) : Int) from by omega, c_at1 (by omega) h1 h2 (by omega), b_some, (j_f h).2.1, n_w (by omega) (by omega), n_w (by omega) (by omega)]
        by_cases c2 : A 95 (4 * k + 1) < A 123 3
        · rw [if_pos c2, decide_eq_true c2, Bool.true_and, show ((4 * k : Nat) : Int) + 4 = ((4 * (k + 1) : Nat) : Int) from by omega, ih (k + 1) (by omega) (by omega)]
          rfl
        · rw [if_neg c2, decide_eq_false c2]
          rfl
      · rw [if_neg c1, decide_eq_false c1]
        rfl
    · rw [if_neg (by omega), List.drop_eq_nil_of_le (by simp; omega)]
      rfl
theorem c_such {t : Nat} {M : q_Mem} {L A : q_G} (h : q_J t M L A) {N : Nat} (hN : N ≤ 1600) (h1 : M.2 1 1 = (N : Int)) (h2 : ∀ k, M.2 2 k = A 95 k) (hf : ∀ k, 0 ≤ A 95 k ∧ A 95 k ≤ 255) : fX9_isSuch 1 t M = some (if s_such A N = true then 1 else 0, M) := by
  unfold fX9_isSuch s_such
  rw [h1, n_w (a := (N : Int)) (by omega) (by omega), n_rem (by omega) (by omega) (by decide) (by decide), n_tm (by omega), n_w (a := (N : Int) % 4) (by omega) (by omega), show q_w 64 = 64 from rfl]
  by_cases c1 : N = 0
  · rw [if_pos (by omega), decide_eq_false (by omega : ¬ 0 < N)]
    rfl
  rw [if_neg (by omega), decide_eq_true (by omega : 0 < N), Bool.true_and]
  by_cases c2 : N % 4 = 0
  · rw [if_pos (by omega), decide_eq_true c2, Bool.true_and]
    by_cases c3 : 64 < N
    · rw [if_pos (by omega), decide_eq_false (by omega : ¬ N ≤ 64)]
      rfl
    · rw [if_neg (by omega), decide_eq_true (by omega : N ≤ 64), Bool.true_and]
      exact c_such29 h (N := N) (R := N / 4) (by omega) (by omega) h1 h2 hf q_FU 0 (by omega) (by unfold q_FU; omega)
  · rw [if_neg (by omega), decide_eq_false c2]
    rfl
theorem c_take17 {M0 : q_Mem} {f : Nat → Int} {N R : Nat} (hNR : N = 4 * R) (hN : N ≤ 64) (h1 : M0.2 1 1 = (N : Int)) (h2 : ∀ k, M0.2 2 k = f k) (hf : ∀ k, 0 ≤ f k ∧ f k ≤ 255) (hR : M0.2 36 0 = (R : Int)) : ∀ (n k : Nat) (M : q_Mem), k ≤ R → R - k < n → (∀ a j, ¬ (37 ≤ a ∧ a ≤ 39) → M.2 a j = M0.2 a j) → (∀ j, j < k → M.2 37 j = f (4 * j) ∧ M.2 38 j = f (4 * j + 1) ∧ M.2 39 j = 256 * f (4 * j + 2) + f (4 * j + 3)) → q_P (fX9_take_17 1 n (k : Int) M) (fun _ M' => (∀ a j, ¬ (37 ≤ a ∧ a ≤ 39) → M'.2 a j = M0.2 a j) ∧ ∀ j, j < R → M'.2 37 j = f (4 * j) ∧ M'.2 38 j = f (4 * j + 1) ∧ M'.2 39 j = 256 * f (4 * j + 2) + f (4 * j + 3)) := by
  intro n
  induction n with
  | zero => intro k M _ h; omega
  | succ n ih =>
    intro k M hk hn g1 g2
    rw [fX9_take_17, g1 36 0 (by omega), hR, n_w (by omega) (by omega), n_w (by omega) (by omega)]
    by_cases c : k < R
    · have t1 : ∀ M' : q_Mem, (∀ a j, ¬ (37 ≤ a ∧ a ≤ 39) → M'.2 a j = M0.2 a j) → M'.2 1 1 = (N : Int) ∧ ∀ k, M'.2 2 k = f k := fun M' h => ⟨by rw [h 1 1 (by omega), h1], fun k => by rw [h 2 k (by omega), h2]⟩
      rw [if_pos (by omega), show (4 : Int) * (k : Int) = ((4 * k : Nat) : Int) from by omega, c_at1 (by omega) (t1 M g1).1 (t1 M g1).2 (by omega), b_some, b_sto (by omega) (by omega) (by decide), Option.bind_some, Int.toNat_natCast]
      have g1' : ∀ a j, ¬ (37 ≤ a ∧ a ≤ 39) → (q_up M 37 k (f (4 * k))).2 a j = M0.2 a j := fun a j ha => by rw [up_ne (by omega)]; exact g1 a j ha
      rw [show ((4 * k : Nat) : Int) + 1 = ((4 * k + 1 : Nat) : Int) from by omega, c_at1 (by omega) (t1 _ g1').1 (t1 _ g1').2 (by omega), b_some, b_sto (by omega) (by omega) (by decide), Option.bind_some, Int.toNat_natCast]
      have g1'' : ∀ a j, ¬ (37 ≤ a ∧ a ≤ 39) → (q_up (q_up M 37 k (f (4 * k))) 38 k (f (4 * k + 1))).2 a j = M0.2 a j := fun a j ha => by rw [up_ne (by omega)]; exact g1' a j ha
      rw [show ((4 * k : Nat) : Int) + 2 = ((4 * k + 2 : Nat) : Int) from by omega, c_two1 (by omega) (t1 _ g1'').1 (t1 _ g1'').2 hf (by omega), b_some, b_sto (by omega) (by omega) (by decide), Option.bind_some, Int.toNat_natCast, show (k : Int) + 1 = ((k + 1 : Nat) : Int) from by omega]
      refine ih (k + 1) _ (by omega) (by omega) ?_ ?_
      · intro a j ha
        rw [up_ne (by omega)]
        exact g1'' a j ha
      · intro j hj
        by_cases cj : j = k
        · subst cj
          refine ⟨?_, ?_, ?_⟩
          · rw [up_ne (by omega), up_ne (by omega), up_rd, if_pos ⟨rfl, rfl⟩]
          · rw [up_ne (by omega), up_rd, if_pos ⟨rfl, rfl⟩]
          · rw [up_rd, if_pos ⟨rfl, rfl⟩]
        · rw [up_ne (by omega), up_ne (by omega), up_ne (by omega), up_ne (by omega), up_ne (by omega), up_ne (by omega), up_ne (by omega), up_ne (by omega), up_ne (by omega)]
          exact g2 j (by omega)
    · rw [if_neg (by omega)]
      exact w_some.mpr ⟨g1, fun j hj => g2 j (by omega)⟩
theorem r_see43 {t : Nat} {M : q_Mem} {L A : q_G} (h : q_K t M L A) {N R : Nat} (hNR : N = 4 * R) (hN : N ≤ 64) (h2 : ∀ k, M.2 95 k = A 95 k) (hf : ∀ k, 0 ≤ A 95 k ∧ A 95 k ≤ 255) : ∀ (n k : Nat), k ≤ R → R - k < n → fX12_see_43 (n + 1) (N : Int) 1 ((4 * k : Nat) : Int) M = fX12_see_93 (N : Int) (if ((List.range R).drop k).all (s_row A) = true then 1 else 0) M := by
  have zero : ∀ (n : Nat) (x : Int), fX12_see_43 (n + 1) (N : Int) 0 x M = fX12_see_93 (N : Int) 0 M := by
    intro n x
    rw [fX12_see_43, if_pos (show q_w 0 = 0 from rfl)]
    by_cases c : q_w x < q_w (N : Int)
    · rw [if_pos c]
    · rw [if_neg c]
  intro n
  induction n with
  | zero => intro k _ h; omega
  | succ n ih =>
    intro k hk hn
    have g1 := hf (4 * k)
    have g2 := hf (4 * k + 1)
    rw [fX12_see_43, n_w (a := ((4 * k : Nat) : Int)) (by omega) (by omega), n_w (a := (N : Int)) (by omega) (by omega)]
    by_cases c : k < R
    · rw [if_pos (by omega), if_neg (by decide), b_ld (by omega) (by omega) (by decide), Option.bind_some, Int.toNat_natCast, h2, y_r_isCoin h (by unfold q_R; omega), b_some, f_ite, rng_drop c, List.all_cons]
      unfold fX12_see_85 fX12_see_86 s_row
      rw [show ((4 * k : Nat) : Int) + 4 = ((4 * (k + 1) : Nat) : Int) from by omega]
      by_cases c1 : A 95 (4 * k) < A 123 4
      · rw [if_pos (by omega), decide_eq_true c1, Bool.true_and, b_ld (by omega) (by omega) (by decide), Option.bind_some, show (((4 * k : Nat) : Int) + 1).toNat = 4 * k + 1 from by omega, h2, y_r_isStall h (by unfold q_R; omega), b_some, f_ite]
        by_cases c2 : A 95 (4 * k + 1) < A 123 3
        · rw [if_pos (by omega), decide_eq_true c2, Bool.true_and, ih (k + 1) (by omega) (by omega)]
          rfl
        · rw [if_neg (by omega), decide_eq_false c2, Bool.false_and, if_neg (by decide)]
          exact zero n _
      · rw [if_neg (by omega), decide_eq_false c1, Bool.false_and, Bool.false_and, if_neg (by decide)]
        exact zero n _
    · rw [if_neg (by omega), List.drop_eq_nil_of_le (by simp; omega)]
      rfl
theorem r_see112 {M0 : q_Mem} {f : Nat → Int} {R : Nat} (hR2 : R ≤ 16) (h2 : ∀ k, M0.2 95 k = f k) (hR : M0.2 94 62 = (R : Int)) : ∀ (n k : Nat) (M : q_Mem), k ≤ R → R - k < n → (∀ a j, a ≠ 138 → M.2 a j = M0.2 a j) → (∀ j, j < k → M.2 138 (3 * j) = f (4 * j) ∧ M.2 138 (3 * j + 1) = f (4 * j + 1) ∧ M.2 138 (3 * j + 2) = 256 * f (4 * j + 2) + f (4 * j + 3)) → q_P (fX12_see_112 n (k : Int) M) (fun r M' => r = (R : Int) ∧ (∀ a j, a ≠ 138 → M'.2 a j = M0.2 a j) ∧ ∀ j, j < R → M'.2 138 (3 * j) = f (4 * j) ∧ M'.2 138 (3 * j + 1) = f (4 * j + 1) ∧ M'.2 138 (3 * j + 2) = 256 * f (4 * j + 2) + f (4 * j + 3)) := by
  intro n
  induction n with
  | zero => intro k M _ h; omega
  | succ n ih =>
    intro k M hk hn g1 g2
    rw [fX12_see_112, g1 94 62 (by decide), hR, n_w (by omega) (by omega), n_w (by omega) (by omega)]
    by_cases c : k < R
    · rw [if_pos (by omega), b_ld (by omega) (by omega) (by decide), Option.bind_some, b_sto (by omega) (by omega) (by decide), Option.bind_some, b_ld (by omega) (by omega) (by decide), Option.bind_some, b_sto (by omega) (by omega) (by decide), Option.bind_some, b_ld (by omega) (by omega) (by decide), Option.bind_some, b_ld (by omega) (by omega) (by decide), Option.bind_some, b_sto (by omega) (by omega) (by decide), Option.bind_some]
      rw [show ((4 : Int) * (k : Int)).toNat = 4 * k from by omega, show ((4 : Int) * (k : Int) + 1).toNat = 4 * k + 1 from by omega, show ((4 : Int) * (k : Int) + 2).toNat = 4 * k + 2 from by omega, show ((4 : Int) * (k : Int) + 3).toNat = 4 * k + 3 from by omega, show ((3 : Int) * (k : Int)).toNat = 3 * k from by omega, show ((3 : Int) * (k : Int) + 1).toNat = 3 * k + 1 from by omega, show ((3 : Int) * (k : Int) + 2).toNat = 3 * k + 2 from by omega]
      have e95 : ∀ (v v' : Int) (j : Nat), (q_up (q_up M 138 (3 * k) v) 138 (3 * k + 1) v').2 95 j = f j := fun v v' j => by rw [up_ne (by omega), up_ne (by omega), g1 95 j (by decide), h2]
      have e95' : ∀ (v : Int) (j : Nat), (q_up M 138 (3 * k) v).2 95 j = f j := fun v j => by rw [up_ne (by omega), g1 95 j (by decide), h2]
      rw [e95, e95, e95', g1 95 _ (by decide), h2, show (k : Int) + 1 = ((k + 1 : Nat) : Int) from by omega]
      refine ih (k + 1) _ (by omega) (by omega) ?_ ?_
      · intro a j ha
        rw [up_ne (by omega), up_ne (by omega), up_ne (by omega)]
        exact g1 a j ha
      · intro j hj
        by_cases cj : j = k
        · subst cj
          refine ⟨?_, ?_, ?_⟩
          · rw [up_ne (by omega), up_ne (by omega), up_rd, if_pos ⟨rfl, rfl⟩]
          · rw [up_ne (by omega), up_rd, if_pos ⟨rfl, rfl⟩]
          · rw [up_rd, if_pos ⟨rfl, rfl⟩]
        · rw [up_ne (by omega), up_ne (by omega), up_ne (by omega), up_ne (by omega), up_ne (by omega), up_ne (by omega), up_ne (by omega), up_ne (by omega), up_ne (by omega)]
          exact g2 j (by omega)
    · rw [if_neg (by omega)]
      exact w_some.mpr ⟨rfl, g1, fun j hj => g2 j (by omega)⟩
def v_see (a j : Nat) : Prop := (a = 1 ∧ j = 1) ∨ (a = 36 ∧ j = 0) ∨ (37 ≤ a ∧ a ≤ 39) ∨ (a = 94 ∧ (j = 1 ∨ j = 62)) ∨ a = 138
theorem u_see {t : Nat} {M M' : q_Mem} {L A : q_G} (h : q_I t M L A) (hk : ∀ a j, ¬ v_see a j → M'.2 a j = M.2 a j) (h1 : M'.2 1 1 = 0) (h2 : M'.2 94 1 = 0) (h3 : s_seen M'.2 M'.2) : q_St M' := by
  obtain ⟨hJ, hR, hW⟩ := h
  have h0 : M'.2 0 11 = M.2 0 11 := hk _ _ (by unfold v_see; omega)
  have hL : ∀ a j, ¬ v_see a j → m_L L M' a j = L a j := fun a j h1 => m_Le hJ h0 (hk a j h1)
  have hA : ∀ a j, ¬ v_see a j → m_A A M' a j = A a j := fun a j h1 => m_Ae hJ (hk a j h1)
  have hLc : ∀ a, (∀ j, ¬ v_see a j) → m_L L M' a = L a := fun a h1 => funext (fun j => hL a j (h1 j))
  have hAc : ∀ a, (∀ j, ¬ v_see a j) → m_A A M' a = A a := fun a h1 => funext (fun j => hA a j (h1 j))
  have hF := u_fair hJ hW (fun a j hv => hk a j (by unfold v_fair at hv; unfold v_see; omega))
  refine u_St hF (u_day hJ hF.2.2.2.2 h0 (fun a j hv => hk a j (by unfold v_day at hv; unfold v_see; omega))) ?_
  have hr := u_ring hJ hR.2.2.2.2.2.2.2 hF.2.2.2.2 h0 (fun a j hv => hk a j (by unfold v_ring at hv; unfold v_see; omega))
  obtain ⟨j1, j2, j3, j4, j5, j6, j7, j8⟩ := hR
  refine ⟨⟨?_, ?_, ?_, ?_⟩, ?_, ?_, ?_, ?_, h3, ?_, hr⟩
  · show M'.2 1 1 = M'.2 94 1
    rw [h1, h2]
  · intro k
    rw [hLc 2 (by unfold v_see; omega), hAc 95 (by unfold v_see; omega)]
    exact j1.2.1 k
  · show 0 ≤ M'.2 94 1 ∧ M'.2 94 1 ≤ 1600
    rw [h2]
    decide
  · intro k
    rw [hAc 95 (by unfold v_see; omega)]
    exact j1.2.2.2 k
  · rw [hLc 56 (by unfold v_see; omega), hAc 96 (by unfold v_see; omega)]
    exact j2
  · rw [hLc 0 (by unfold v_see; omega), hA 94 7 (by unfold v_see; omega), hA 94 8 (by unfold v_see; omega)]
    exact j3
  · rw [hLc 3 (by unfold v_see; omega), hLc 4 (by unfold v_see; omega), hA 94 101 (by unfold v_see; omega), hAc 165 (by unfold v_see; omega)]
    exact j4
  · rw [hLc 10 (by unfold v_see; omega), hA 94 67 (by unfold v_see; omega)]
    exact j5
  · rw [hLc 10 (by unfold v_see; omega), hAc 131 (by unfold v_see; omega)]
    exact j7
theorem st_see {M : q_Mem} (hS : q_St M) : q_Step M (fX11_see M) (fun M1 => fX12_see M1) := by
  obtain ⟨t, L, A, hI⟩ := id hS
  have w := j_wf hI.1
  have wf := j_fair hI.1
  obtain ⟨N, hN, n1, n2, n3, n4, n5, n6⟩ := j_tape hI
  have eref : ∀ M, fX12_refuses 1 M = some (-1, q_up M 96 1 (M.2 96 1 + 1)) := fun M => f_refused (by decide) (by decide)
  -- the other side: what its test comes to
  have key : ∀ M1 : q_Mem, q_K t (q_up M1 94 1 0) L (u_2 A 94 1 0) → M1.2 94 1 = (N : Int) → (∀ k, M1.2 95 k = A 95 k) → fX12_see M1 = fX12_see_93 (N : Int) (if s_such A N = true then 1 else 0) (q_up M1 94 1 0) := by
    intro M1 hK h1 h2
    have z43 : ∀ M : q_Mem, fX12_see_43 q_FU (N : Int) 0 0 M = fX12_see_93 (N : Int) 0 M := by
      intro M
      rw [show q_FU = 99999 + 1 from rfl, fX12_see_43, if_pos (show q_w 0 = 0 from rfl)]
      by_cases c : q_w 0 < q_w (N : Int)
      · rw [if_pos c]
      · rw [if_neg c]
    unfold fX12_see
    rw [q_le, q_le, h1, hK.2.1 94 47 rfl, show u_2 A 94 1 0 94 47 = A 94 47 from rfl]
    unfold fX12_see_39 fX12_see_40
    rw [z43]
    rcases wf with ⟨f1, f2, f3, f4, f5⟩ | ⟨f1, f2⟩
    · rw [f1, if_pos (by decide)]
      have : s_such A N = false := by
        unfold s_such
        by_cases c1 : 0 < N
        · by_cases c2 : N % 4 = 0
          · have : (List.range (N / 4)).all (s_row A) = false := by
              rw [List.all_eq_false]
              refine ⟨0, List.mem_range.mpr (by omega), ?_⟩
              unfold s_row
              rw [f4, decide_eq_false (by have := n6 (4 * 0); omega)]
              simp
            rw [this, Bool.and_false]
          · rw [decide_eq_false c2, Bool.and_false]
            rfl
        · rw [decide_eq_false c1]
          rfl
      rw [this, if_neg (by decide)]
    · rw [f1, if_neg (by decide), n_w (a := (N : Int)) (by omega) (by omega), n_rem (by omega) (by omega) (by decide) (by decide), n_tm (by omega), n_w (a := (N : Int) % 4) (by omega) (by omega), n_div (by omega) (by omega) (by decide) (by decide), n_td (by omega), n_w (a := (N : Int) / 4) (by omega) (by omega), show q_w 16 = 16 from rfl]
      unfold s_such
      by_cases c1 : 0 < N
      · rw [if_pos (by omega), decide_eq_true c1, Bool.true_and]
        by_cases c2 : N % 4 = 0
        · rw [if_pos (by omega), decide_eq_true c2, Bool.true_and]
          by_cases c3 : N ≤ 64
          · rw [if_neg (by omega), decide_eq_true c3, Bool.true_and]
            have := r_see43 hK (N := N) (R := N / 4) (by omega) c3 (fun k => by rw [up_ne (by omega), h2]; rfl) n6 99999 0 (by omega) (by omega)
            have e : s_row (u_2 A 94 1 0) = s_row A := rfl
            rw [e] at this
            exact this
          · rw [if_pos (by omega), decide_eq_false c3, Bool.false_and, if_neg (by decide)]
        · rw [if_neg (by omega), decide_eq_false c2, Bool.false_and, Bool.false_and, if_neg (by decide)]
      · rw [if_neg (by omega), decide_eq_false c1, Bool.false_and, Bool.false_and, Bool.false_and, if_neg (by decide)]
  by_cases c : s_such A N = true
  · have cc := c
    unfold s_such at cc
    simp only [Bool.and_eq_true, decide_eq_true_eq] at cc
    obtain ⟨⟨⟨d1, d2⟩, d3⟩, d4⟩ := cc
    obtain ⟨R, hR⟩ : ∃ R, N = 4 * R := ⟨N / 4, by omega⟩
    have hRd : N / 4 = R := by omega
    rw [hRd] at d4
    have hrow : ∀ k, k < R → A 95 (4 * k) < A 123 4 ∧ A 95 (4 * k + 1) < A 123 3 := by
      intro k hk
      have := List.all_eq_true.mp d4 k (List.mem_range.mpr hk)
      unfold s_row at this
      simp only [Bool.and_eq_true, decide_eq_true_eq] at this
      exact this
    have e36 : q_min 16 (q_div (N : Int) 4) = (R : Int) := by
      rw [n_div (by omega) (by omega) (by decide) (by decide), n_td (by omega), n_min (by decide) (by decide) (by omega) (by omega)]
      by_cases c5 : (N : Int) / 4 < 16
      · rw [if_pos c5]; omega
      · rw [if_neg c5]; omega
    obtain ⟨_, Ma, ea, a1, a2⟩ := c_take17 (M0 := q_up M 36 0 (R : Int)) (f := A 95) hR d3 (by rw [up_ne (by omega), n2]) (fun k => by rw [up_ne (by omega), n4]) n6 (by rw [up_rd, if_pos ⟨rfl, rfl⟩]) q_FU 0 (q_up M 36 0 (R : Int)) (by omega) (by unfold q_FU; omega) (fun _ _ _ => rfl) (fun j hj => by omega)
    have eM1 : fX11_see M = some ((R : Int), q_up Ma 1 1 0) := by
      unfold fX11_see
      rw [q_le, j_told hI.1, c_such hI.1 hN n2 n4 n6, b_some, f_ite, if_pos c]
      unfold fX9_take
      rw [q_le, n2, e36]
      rw [show fX9_take_17 1 q_FU 0 (q_up M 36 0 (R : Int)) = fX9_take_17 1 q_FU ((0 : Nat) : Int) (q_up M 36 0 (R : Int)) from rfl, ea, b_some]
      unfold fX11_see_31
      rw [q_le, if_pos c, if_neg (by decide), up_ne (by omega), a1 36 0 (by omega), up_rd, if_pos ⟨rfl, rfl⟩]
    have c1 : ∀ a j, ¬ ((a = 1 ∧ j = 1) ∨ (a = 36 ∧ j = 0) ∨ (37 ≤ a ∧ a ≤ 39)) → (q_up Ma 1 1 0).2 a j = M.2 a j := fun a j ha => by rw [up_ne (by omega), a1 a j (by omega), up_ne (by omega)]
    have g1 : (q_up Ma 1 1 0).2 1 1 = 0 := by rw [up_rd, if_pos ⟨rfl, rfl⟩]
    have g2 : (q_up Ma 1 1 0).2 36 0 = (R : Int) := by rw [up_ne (by omega), a1 36 0 (by omega), up_rd, if_pos ⟨rfl, rfl⟩]
    have g3 : ∀ j, j < R → (q_up Ma 1 1 0).2 37 j = A 95 (4 * j) ∧ (q_up Ma 1 1 0).2 38 j = A 95 (4 * j + 1) ∧ (q_up Ma 1 1 0).2 39 j = 256 * A 95 (4 * j + 2) + A 95 (4 * j + 3) := fun j hj => by rw [up_ne (by omega), up_ne (by omega), up_ne (by omega)]; exact a2 j hj
    generalize q_up Ma 1 1 0 = M1 at eM1 c1 g1 g2 g3
    have e93 := key M1 (k_tp (k_lt (k_of hI.1) (fun a k ha => c1 a k (by omega))) 0) (by rw [c1 94 1 (by omega), n3]) (fun k => by rw [c1 95 k (by omega), n5])
    rw [if_pos c] at e93
    unfold fX12_see_93 at e93
    rw [if_neg (by decide), q_le, show q_div (N : Int) 4 = (R : Int) from by rw [n_div (by omega) (by omega) (by decide) (by decide), n_td (by omega)]; omega] at e93
    obtain ⟨r2, M2, em, hr2, b1, b2⟩ := r_see112 (M0 := q_up (q_up M1 94 1 0) 94 62 (R : Int)) (f := A 95) (R := R) (by omega) (fun k => by rw [up_ne (by omega), up_ne (by omega), c1 95 k (by omega), n5]) (by rw [up_rd, if_pos ⟨rfl, rfl⟩]) q_FU 0 (q_up (q_up M1 94 1 0) 94 62 (R : Int)) (by omega) (by unfold q_FU; omega) (fun _ _ _ => rfl) (fun j hj => by omega)
    have c2 : ∀ a j, ¬ (a = 138 ∨ (a = 94 ∧ (j = 1 ∨ j = 62))) → M2.2 a j = M1.2 a j := fun a j ha => by rw [b1 a j (by omega), up_ne (by omega), up_ne (by omega)]
    refine ⟨(R : Int), M1, r2, M2, eM1, ?_, by rw [hr2], ?_⟩
    · show fX12_see M1 = _
      rw [e93]
      exact em
    · have e62 : M2.2 94 62 = (R : Int) := by rw [b1 94 62 (by decide), up_rd, if_pos ⟨rfl, rfl⟩]
      have e123 : ∀ k, M2.2 123 k = M.2 123 k := fun k => by rw [c2 123 k (by omega), c1 123 k (by omega)]
      refine u_see hI ?_ ?_ ?_ ⟨?_, ?_, ?_⟩
      · intro a j ha
        unfold v_see at ha
        rw [c2 a j (by omega), c1 a j (by omega)]
      · rw [c2 1 1 (by omega), g1]
      · rw [b1 94 1 (by decide), up_ne (by omega), up_rd, if_pos ⟨rfl, rfl⟩]
      · rw [c2 36 0 (by omega), g2, e62]
      · rw [e62]; omega
      · intro k hk
        rw [e62] at hk
        obtain ⟨x1, x2, x3⟩ := g3 k (by omega)
        obtain ⟨y1, y2, y3⟩ := b2 k (by omega)
        have z1 := hrow k (by omega)
        have q1 := n6 (4 * k)
        have q2 := n6 (4 * k + 1)
        have q3 := n6 (4 * k + 2)
        have q4 := n6 (4 * k + 3)
        rw [c2 37 k (by omega), c2 38 k (by omega), c2 39 k (by omega), x1, x2, x3, y1, y2, y3, e123, e123, hI.1.2.1 123 4 rfl, hI.1.2.1 123 3 rfl]
        omega
  · have e0 : fX11_see M = some (-1, q_up (q_up M 1 1 0) 56 1 (M.2 56 1 + 1)) := by
      unfold fX11_see
      rw [q_le, j_told hI.1, c_such hI.1 hN n2 n4 n6, b_some, f_ite, if_neg c]
      unfold fX11_see_31
      rw [q_le, if_neg c, if_pos (by decide), f_refuse (by decide) (by decide), b_some, show (1 : Int).toNat = 1 from rfl, up_ne (by omega)]
    have hM1 : ∀ a j, ¬ ((a = 1 ∧ j = 1) ∨ (a = 56 ∧ j = 1)) → (q_up (q_up M 1 1 0) 56 1 (M.2 56 1 + 1)).2 a j = M.2 a j := fun a j ha => by rw [up_ne (by omega), up_ne (by omega)]
    have e93 := key (q_up (q_up M 1 1 0) 56 1 (M.2 56 1 + 1)) (k_tp (k_lt (k_of hI.1) (fun a k ha => hM1 a k (by omega))) 0) (by rw [hM1 94 1 (by omega), n3]) (fun k => by rw [hM1 95 k (by omega), n5])
    rw [if_neg c] at e93
    unfold fX12_see_93 at e93
    rw [if_pos (by decide), eref, b_some] at e93
    refine ⟨-1, _, -1, _, e0, e93, rfl, ?_⟩
    refine u_tref hS 1 ?_
    intro a j
    have e96 : (q_up (q_up (q_up M 1 1 0) 56 1 (M.2 56 1 + 1)) 94 1 0).2 96 1 = M.2 96 1 := by rw [up_ne (by omega), hM1 96 1 (by omega)]
    rw [e96, up_rd, up_rd, up_rd, up_rd]
