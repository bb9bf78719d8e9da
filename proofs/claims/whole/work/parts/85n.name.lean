/-! texts: names -/
theorem n_or5 {a b : Int} (h1 : 0 ≤ a) (h2 : a ≤ 33554431) (h3 : 0 ≤ b) (h4 : b ≤ 31) : q_or (q_shl a 5) b = 32 * a + b := by
  rw [n_shl h1 (by decide) (by decide) (by show a * 32 ≤ _; omega) (by omega)]
  obtain ⟨n, rfl⟩ := Int.eq_ofNat_of_zero_le h1
  obtain ⟨m, rfl⟩ := Int.eq_ofNat_of_zero_le h3
  have e : (n : Int) * (2 : Int) ^ (5 : Int).toNat = ((n <<< 5 : Nat) : Int) := by
    rw [Nat.shiftLeft_eq, Int.natCast_mul]
    rfl
  rw [e, n_orN (by rw [Nat.shiftLeft_eq]; omega) (by omega), ← Nat.shiftLeft_add_eq_or_of_lt (by omega : m < 2 ^ 5), Nat.shiftLeft_eq]
  omega
/-- a name's letters, 1 to 26 -/
def t_ls (b : Nat → Int) : Nat → Nat → List Int
  | 0, _ => []
  | n + 1, p => (b p - 96) :: t_ls b n (p + 1)
theorem ls_len (b : Nat → Int) : ∀ n p, (t_ls b n p).length = n := by
  intro n
  induction n with
  | zero => intro p; rfl
  | succ n ih => intro p; rw [t_ls, List.length_cons, ih]
theorem ls_snoc (b : Nat → Int) : ∀ n p, t_ls b (n + 1) p = t_ls b n p ++ [b (p + n) - 96] := by
  intro n
  induction n with
  | zero => intro p; rfl
  | succ n ih =>
    intro p
    rw [t_ls, ih (p + 1), t_ls, List.cons_append, show p + 1 + n = p + (n + 1) from by omega]
theorem ls_in (b : Nat → Int) : ∀ n p, (∀ k, k < n → t_lt (b (p + k)) = true) → ∀ c ∈ t_ls b n p, 1 ≤ c ∧ c ≤ 26 := by
  intro n
  induction n with
  | zero => intro p _ c hc; exact absurd hc (by rw [t_ls]; exact List.not_mem_nil)
  | succ n ih =>
    intro p hl c hc
    rw [t_ls] at hc
    rcases List.mem_cons.mp hc with h | h
    · have := hl 0 (by omega)
      unfold t_lt at this
      have h1 := Bool.and_eq_true_iff.mp this
      have h2 := of_decide_eq_true h1.1
      have h3 := of_decide_eq_true h1.2
      rw [Nat.add_zero] at h2 h3
      omega
    · exact ih (p + 1) (fun k hk => by rw [show p + 1 + k = p + (k + 1) from by omega]; exact hl (k + 1) (by omega)) c h
theorem n32_b : ∀ l : List Int, (∀ c ∈ l, 1 ≤ c ∧ c ≤ 26) → 0 ≤ q_n32 l ∧ q_n32 l < 32 ^ l.length := by
  intro l
  induction l with
  | nil => intro _; rw [q_n32]; decide
  | cons c l ih =>
    intro h
    have h1 := ih (fun x hx => h x (List.mem_cons_of_mem _ hx))
    have h2 := h c List.mem_cons_self
    rw [q_n32, List.length_cons, Int.pow_succ]
    omega
theorem c_n72 {b : Nat → Int} {N p L r : Nat} (hL : L ≤ 6) (hN : p + L ≤ N) (hs : ∀ k, k < L → t_lt (b (p + k)) = true) {M : q_Mem} (hT : z_tp b N M) (hp : M.2 5 1 = (p : Int)) : ∀ n v : Nat, v ≤ L → v < n → fX8_takeName_72 r n (q_n32 (t_ls b (L - v) (p + v))) ((p : Int) + (v : Int) - 1) M = (q_bd (fX2_hasName r (q_n32 (t_ls b L p)) M) fun x21 M1 => if q_w x21 = 0 then ((fX8_takeName_121 r (q_n32 (t_ls b L p)) M1)) else (q_bd (fX8_fail 3 (M1.2 5 1) M1) fun _ M2 => (fX8_takeName_121 r (q_n32 (t_ls b L p)) M2))) := by
  have hN2 := hT.2.2.2
  intro n
  induction n with
  | zero => intro v _ h; omega
  | succ n ih =>
    intro v hv hn
    rw [fX8_takeName_72, hp, n_w (a := (p : Int) + (v : Int) - 1) (by omega) (by omega), n_w (a := (p : Int)) (by omega) (by omega)]
    cases v with
    | zero => rw [if_pos (by omega), Nat.sub_zero, Nat.add_zero]
    | succ v =>
      have hb := hT.2.2.1 (p + v)
      have hl := hs v (by omega)
      unfold t_lt at hl
      have h1 := Bool.and_eq_true_iff.mp hl
      have h2 := of_decide_eq_true h1.1
      have h3 := of_decide_eq_true h1.2
      have hb2 := n32_b (t_ls b (L - (v + 1)) (p + (v + 1))) (ls_in b _ _ (fun k hk => by rw [show p + (v + 1) + k = p + (v + 1 + k) from by omega]; exact hs _ (by omega)))
      rw [ls_len] at hb2
      have hpw : (32 : Int) ^ (L - (v + 1)) ≤ 33554432 := by
        have h5 : L - (v + 1) ≤ 5 := by omega
        generalize L - (v + 1) = m at h5
        match m, h5 with
        | 0, _ => decide
        | 1, _ => decide
        | 2, _ => decide
        | 3, _ => decide
        | 4, _ => decide
        | 5, _ => decide
      rw [if_neg (by omega), show (p : Int) + ((v + 1 : Nat) : Int) - 1 = ((p + v : Nat) : Int) from by omega, tp_at hT (by omega), b_some, at_in (by omega), q_le, n_or5 hb2.1 (by omega) (by omega) (by omega), show ((p + v : Nat) : Int) + (-1) = (p : Int) + (v : Int) - 1 from by omega]
      have e : 32 * q_n32 (t_ls b (L - (v + 1)) (p + (v + 1))) + (b (p + v) - 97 + 1) = q_n32 (t_ls b (L - v) (p + v)) := by
        rw [show L - v = (L - (v + 1)) + 1 from by omega, t_ls, q_n32, show p + v + 1 = p + (v + 1) from by omega]
        omega
      rw [e]
      exact ih v (by omega) (by omega)
