/-! texts: numbers on the other side -/
theorem val_o {b : Nat → Int} {N : Nat} {M : q_Mem} (hT : z_ot b N M) (p : Nat) : -100000 ≤ t_val b N p ∧ t_val b N p ≤ 1000000 := val_b (M := (M.1, fun a k => if a = 1 then (N : Int) else b k)) ⟨rfl, fun _ => rfl, hT.2.2.1, hT.2.2.2⟩ p
theorem o_n49 {b : Nat → Int} {N p : Nat} {lo hi : Int} : ∀ (n v a : Nat) (x : Int) (M : q_Mem), z_ot b N M → a + v = N → v < n → p ≤ a → a - p ≤ 4 → M.2 94 2 = (a : Int) → M.2 94 5 = 0 → if 4 < t_run t_dg b v a - p then (∃ M', fX12_number_49 n lo hi (p : Int) x M = some (0, M') ∧ z_94 M M' ∧ M'.2 94 5 = 1 ∧ M'.2 94 6 = (p : Int) + 4) else (∃ M', fX12_number_49 n lo hi (p : Int) x M = fX12_number_129 lo hi (p : Int) (t_nv b (t_run t_dg b v a - a) a x) M' ∧ (∀ y k, ¬ (y = 94 ∧ k = 2) → M'.2 y k = M.2 y k) ∧ M'.2 94 2 = ((t_run t_dg b v a : Nat) : Int)) := by
  intro n
  induction n with
  | zero => intro v a x M _ _ h; omega
  | succ n ih =>
    intro v a x M hT hv hn hpa ha4 ha h5
    have hN := hT.2.2.2
    rw [fX12_number_49, ha, hT.1, n_w (a := (a : Int)) (by omega) (by omega), n_w (a := (N : Int)) (by omega) (by omega)]
    cases v with
    | zero =>
      rw [if_neg (show ¬ (a : Int) < (N : Int) by omega), t_run, if_neg (by omega), Nat.sub_self, t_nv]
      exact ⟨M, rfl, fun _ _ _ => rfl, ha⟩
    | succ v =>
      have hb := hT.2.2.1 a
      have hrb := run_b t_dg b v (a + 1)
      rw [if_pos (show (a : Int) < (N : Int) by omega), o_ld hT (by omega), Option.bind_some, (c_digt (by omega) _).2, b_some, f_ite, t_run, ha, n_w (a := (a : Int) - (p : Int)) (by omega) (by omega), show q_w 4 = 4 from rfl]
      by_cases c : t_dg (b a) = true
      · rw [if_pos c, if_pos c]
        by_cases c4 : a - p = 4
        · rw [if_pos (show (a : Int) - (p : Int) = 4 by omega), if_pos (by omega)]
          unfold fX12_fail
          rw [h5, show q_w 0 = 0 from rfl, if_pos rfl, q_le, q_le, b_some]
          exact ⟨_, rfl, fun y k hy => by rw [up_ne (by omega), up_ne (by omega)], by rw [up_ne (by omega), up_rd, if_pos ⟨rfl, rfl⟩], by rw [up_rd, if_pos ⟨rfl, rfl⟩]; omega⟩
        · rw [if_neg (show ¬ (a : Int) - (p : Int) = 4 by omega), o_ld hT (by omega), Option.bind_some, q_le, q_le]
          have := ih v (a + 1) (10 * x + b a - 48) (q_up M 94 2 ((a : Int) + 1)) (z94_T hT (fun y k hy => up_ne (by omega))) (by omega) (by omega) (by omega) (by omega) (by rw [up_rd, if_pos ⟨rfl, rfl⟩]; omega) (by rw [up_ne (by omega), h5])
          by_cases cD : 4 < t_run t_dg b v (a + 1) - p
          · rw [if_pos cD] at this ⊢
            obtain ⟨M', g1, g2, g3⟩ := this
            exact ⟨M', g1, fun y k hy => by rw [g2 y k hy, up_ne (by omega)], g3⟩
          · rw [if_neg cD] at this ⊢
            obtain ⟨M', g1, g2, g3⟩ := this
            refine ⟨M', ?_, fun y k hy => by rw [g2 y k hy, up_ne hy], g3⟩
            rw [g1, show t_run t_dg b v (a + 1) - a = (t_run t_dg b v (a + 1) - (a + 1)) + 1 from by omega, t_nv]
      · rw [if_neg c, if_neg c, if_neg (by omega), Nat.sub_self, t_nv]
        exact ⟨M, rfl, fun _ _ _ => rfl, ha⟩
theorem o_isIn {x lo hi : Int} (hx : -2147483648 ≤ x ∧ x ≤ 2147483647) (hl : 0 ≤ lo ∧ lo ≤ 100000) (hh : 0 ≤ hi ∧ hi ≤ 100000) (M : q_Mem) : fX12_isIn x lo hi M = some (if lo ≤ x ∧ x ≤ hi then 1 else 0, M) := by
  unfold fX12_isIn
  rw [n_lcmp (by omega) (by omega) (by omega) (by omega), n_lcmp (by omega) (by omega) (by omega) (by omega)]
  by_cases c1 : lo < x
  · rw [if_pos c1, show q_w 1 = 1 from rfl, if_neg (by decide)]
    by_cases c2 : hi < x
    · rw [if_pos c2, show q_w 1 = 1 from rfl, if_pos (by decide), if_neg (by omega)]
    · rw [if_neg c2]
      by_cases c3 : x = hi
      · rw [if_pos c3, show q_w 0 = 0 from rfl, if_neg (by decide), if_pos (by omega)]
      · rw [if_neg c3, show q_w (-1) = -1 from rfl, if_neg (by decide), if_pos (by omega)]
  · rw [if_neg c1]
    by_cases c4 : x = lo
    · rw [if_pos c4, show q_w 0 = 0 from rfl, if_neg (by decide)]
      by_cases c2 : hi < x
      · rw [if_pos c2, show q_w 1 = 1 from rfl, if_pos (by decide), if_neg (by omega)]
      · rw [if_neg c2]
        by_cases c3 : x = hi
        · rw [if_pos c3, show q_w 0 = 0 from rfl, if_neg (by decide), if_pos (by omega)]
        · rw [if_neg c3, show q_w (-1) = -1 from rfl, if_neg (by decide), if_pos (by omega)]
    · rw [if_neg c4, show q_w (-1) = -1 from rfl, if_pos (by decide), if_neg (by omega)]
def u_ok : t_S → Bool
  | .inl _ => true
  | .inr _ => false
theorem o_num {b : Nat → Int} {N : Nat} {σ : t_S} {M : q_Mem} (hT : z_ot b N M) (hz : z_O b N σ M) {lo hi : Int} (hl : 0 ≤ lo ∧ lo ≤ 100000) (hh : 0 ≤ hi ∧ hi ≤ 100000) : ∃ r M', fX12_number lo hi M = some (r, M') ∧ z_94 M M' ∧ z_O b N (u_N b N lo hi σ).2 M' ∧ (u_ok (u_N b N lo hi σ).2 = true → r = (u_N b N lo hi σ).1) := by
  unfold fX12_number fX12_number_30
  rcases σ with ⟨p, j⟩ | ⟨k, pl⟩
  · have h5 : M.2 94 5 = 0 := hz.1
    rw [h5, show q_w 0 = 0 from rfl, if_pos rfl]
    obtain ⟨M1, g1, g2, g3⟩ := o_look hT hz
    have hf : z_94 M M1 := fun a k ha => g2 a k (by omega)
    have hT1 := z94_T hT hf
    have hN := hT.2.2.2
    have hat : -1 ≤ t_at b N p ∧ t_at b N p ≤ 255 := by
      have := hT.2.2.1 p
      unfold t_at
      by_cases c : p < N
      · rw [if_pos c]; omega
      · rw [if_neg c]; omega
    have g3' := g3
    obtain ⟨k5, kp, k2, ks, k41, k42, kj⟩ := g3
    have bad : ¬ t_kind b N p j = 2 → ∃ r M', (q_bd (fX12_fail 1 (p : Int) M1) fun _ M1 => some (0, M1)) = some (r, M') ∧ z_94 M M' ∧ z_O b N (u_N b N lo hi (.inl (p, j))).2 M' ∧ (u_ok (u_N b N lo hi (.inl (p, j))).2 = true → r = (u_N b N lo hi (.inl (p, j))).1) := by
      intro hk
      obtain ⟨M2, m1, m2, m3⟩ := o_fail (k := 1) (pl := (p : Int)) (P_O g3') (by omega)
      rw [m1, b_some, u_N, if_neg hk]
      exact ⟨0, M2, rfl, z94_t hf m2, m3, fun _ => rfl⟩
    rw [g1, b_some, (c_digt hat _).2, b_some, f_ite, q_le, k2, n_w (a := (p : Int)) (by omega) (by omega), n_w (a := M1.2 94 4) (by omega) (by omega)]
    by_cases c1 : t_dg (t_at b N p) = true
    · rw [if_pos c1]
      by_cases c2 : M1.2 94 4 = (p : Int)
      · rw [if_pos c2.symm]
        rw [decide_eq_true c2] at kj
        exact bad (fun h => by
          have := (kd_2.mp h).2.2
          rw [kj] at this
          exact absurd this (by decide))
      · rw [if_neg (fun g => c2 g.symm)]
        rw [decide_eq_false c2] at kj
        have hl0 : t_lt (t_at b N p) = false := by
          unfold t_dg at c1
          unfold t_lt
          have h1 := Bool.and_eq_true_iff.mp c1
          have h2 := of_decide_eq_true h1.2
          rw [decide_eq_false (by omega : ¬ 97 ≤ t_at b N p)]
          rfl
        have hk : t_kind b N p j = 2 := kd_2.mpr ⟨hl0, c1, kj⟩
        have hend : t_end b N p = t_run t_dg b (N - p) p := by unfold t_end t_de; rw [if_neg (by rw [hl0]; decide), if_pos c1]
        have hval : t_val b N p = t_num b p (t_end b N p) := by unfold t_val; rw [if_neg (by rw [hl0]; decide), if_pos c1, hend]; rfl
        have he := te_b (b := b) kp
        have hv := val_o hT p
        have hq := o_n49 (b := b) (N := N) (p := p) (lo := lo) (hi := hi) q_FU (N - p) p 0 M1 hT1 (by omega) (by unfold q_FU; omega) (Nat.le_refl _) (by omega) k2 k5
        rw [u_N, if_pos hk]
        rw [← hend] at hq
        by_cases cD : 4 < t_end b N p - p
        · rw [if_pos cD] at hq ⊢
          obtain ⟨M2, m1, m2, m3, m4⟩ := hq
          exact ⟨0, M2, m1, z94_t hf m2, ⟨m3, m4, by omega, by omega⟩, fun _ => rfl⟩
        · rw [if_neg cD] at hq ⊢
          obtain ⟨M2, m1, m2, m3⟩ := hq
          have hx : t_nv b (t_end b N p - p) p 0 = t_val b N p := by rw [hval]; unfold t_num; rw [Nat.min_eq_left (by omega)]
          rw [m1, hx]
          unfold fX12_number_129
          rw [q_le, m3, n_w (a := t_val b N p) (by omega) (by omega), n_w (a := lo) (by omega) (by omega), n_w (a := hi) (by omega) (by omega), o_isIn (by omega) hl hh, b_some, f_ite]
          have hf2 : z_94 M (q_up M2 94 4 (t_end b N p : Int)) := fun y k hy => by rw [up_ne (by omega), m2 y k (by omega), hf y k hy]
          have hO : z_O b N (u_st b N (.inl (p, j))) (q_up M2 94 4 (t_end b N p : Int)) := O_st hN kp (Or.inr hk) (by rw [up_ne (by omega), m2 94 5 (by omega), k5]) (by rw [up_ne (by omega), m3]) (by rw [up_rd, if_pos ⟨rfl, rfl⟩])
          by_cases c3 : lo ≤ t_val b N p ∧ t_val b N p ≤ hi
          · rw [if_pos c3, if_neg (by omega)]
            exact ⟨_, _, rfl, hf2, hO, fun _ => rfl⟩
          · rw [if_neg c3, if_pos (by omega)]
            obtain ⟨M3, n1, n2, n3⟩ := o_fail (k := 2) (pl := (p : Int)) hO (by omega)
            rw [n1, b_some]
            exact ⟨_, M3, rfl, z94_t hf2 n2, n3, fun h => absurd (show false = true from h) (by decide)⟩
    · rw [if_neg c1]
      exact bad (fun h => c1 (kd_2.mp h).2.1)
  · have hz' := hz
    obtain ⟨h1, h2, h4⟩ := hz
    rw [h1, n_w (by omega) (by omega), if_neg (by omega)]
    exact ⟨0, M, rfl, z94_r M, hz', fun _ => rfl⟩
