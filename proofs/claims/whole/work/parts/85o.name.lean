/-! texts: names on the other side -/
theorem o_n58 {b : Nat → Int} {N p : Nat} : ∀ (n v a : Nat) (M : q_Mem), z_ot b N M → a + v = N → v < n → p ≤ a → a - p ≤ 6 → M.2 94 2 = (a : Int) → M.2 94 35 = (p : Int) → M.2 94 5 = 0 → if 6 < t_run t_lt b v a - p then (∃ M', fX12_name_58 n (q_n27 (t_ls b (a - p) p).reverse) M = some (0, M') ∧ z_94 M M' ∧ M'.2 94 5 = 1 ∧ M'.2 94 6 = (p : Int) + 6) else (∃ M', fX12_name_58 n (q_n27 (t_ls b (a - p) p).reverse) M = some (q_n27 (t_ls b (t_run t_lt b v a - p) p).reverse, M') ∧ z_94 M M' ∧ M'.2 94 2 = ((t_run t_lt b v a : Nat) : Int) ∧ M'.2 94 4 = ((t_run t_lt b v a : Nat) : Int) ∧ M'.2 94 5 = 0) := by
  intro n
  induction n with
  | zero => intro v a M _ _ h; omega
  | succ n ih =>
    intro v a M hT hv hn hpa ha6 ha h35 h5
    have hN := hT.2.2.2
    have hend : ∀ x : Int, ∃ M', fX12_name_145 x M = some (x, M') ∧ z_94 M M' ∧ M'.2 94 2 = (a : Int) ∧ M'.2 94 4 = (a : Int) ∧ M'.2 94 5 = 0 := by
      intro x
      unfold fX12_name_145
      rw [q_le, ha]
      exact ⟨_, rfl, fun y k hy => up_ne (by omega), by rw [up_ne (by omega), ha], by rw [up_rd, if_pos ⟨rfl, rfl⟩], by rw [up_ne (by omega), h5]⟩
    rw [fX12_name_58, ha, hT.1, n_w (a := (a : Int)) (by omega) (by omega), n_w (a := (N : Int)) (by omega) (by omega)]
    cases v with
    | zero =>
      rw [if_neg (show ¬ (a : Int) < (N : Int) by omega), t_run, if_neg (by omega)]
      exact hend _
    | succ v =>
      have hb := hT.2.2.1 a
      have hrb := run_b t_lt b v (a + 1)
      rw [if_pos (show (a : Int) < (N : Int) by omega), o_ld hT (by omega), Option.bind_some, (c_letr (by omega) _).2, b_some, f_ite, t_run, ha, h35, n_w (a := (a : Int) - (p : Int)) (by omega) (by omega), show q_w 6 = 6 from rfl]
      by_cases c : t_lt (b a) = true
      · rw [if_pos c, if_pos c]
        by_cases c6 : a - p = 6
        · rw [if_pos (show (a : Int) - (p : Int) = 6 by omega), if_pos (by omega)]
          unfold fX12_fail
          rw [h5, show q_w 0 = 0 from rfl, if_pos rfl, q_le, q_le, b_some]
          exact ⟨_, rfl, fun y k hy => by rw [up_ne (by omega), up_ne (by omega)], by rw [up_ne (by omega), up_rd, if_pos ⟨rfl, rfl⟩], by rw [up_rd, if_pos ⟨rfl, rfl⟩]; omega⟩
        · rw [if_neg (show ¬ (a : Int) - (p : Int) = 6 by omega), o_ld hT (by omega), Option.bind_some, q_le, q_le, n_w (a := b a) (by omega) (by omega)]
          have e : 27 * q_n27 (t_ls b (a - p) p).reverse + b a - 97 + 1 = q_n27 (t_ls b (a + 1 - p) p).reverse := by
            rw [show a + 1 - p = (a - p) + 1 from by omega, ls_snoc, List.reverse_append, List.reverse_singleton, List.singleton_append, q_n27, show p + (a - p) = a from by omega]
            omega
          rw [e]
          have := ih v (a + 1) (q_up M 94 2 ((a : Int) + 1)) (z94_T hT (fun y k hy => up_ne (by omega))) (by omega) (by omega) (by omega) (by omega) (by rw [up_rd, if_pos ⟨rfl, rfl⟩]; omega) (by rw [up_ne (by omega), h35]) (by rw [up_ne (by omega), h5])
          by_cases cD : 6 < t_run t_lt b v (a + 1) - p
          · rw [if_pos cD] at this ⊢
            obtain ⟨M', g1, g2, g3⟩ := this
            exact ⟨M', g1, fun y k hy => by rw [g2 y k hy, up_ne (by omega)], g3⟩
          · rw [if_neg cD] at this ⊢
            obtain ⟨M', g1, g2, g3⟩ := this
            exact ⟨M', g1, fun y k hy => by rw [g2 y k hy, up_ne (by omega)], g3⟩
      · rw [if_neg c, if_neg c, if_neg (by omega)]
        exact hend _
