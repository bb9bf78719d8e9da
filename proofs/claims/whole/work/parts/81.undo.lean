/-! undo, buy -/
theorem c_take {M : q_Mem} {p : Nat} (hp : p < 20) (h1 : M.2 10 10 = (p : Int)) : q_P (fX1_takeBack M) (fun _ M1 => (∀ a j, ¬ (a = 10 ∧ (j < 4 ∨ j = 5 ∨ j = 10 ∨ j = 11)) → M1.2 a j = M.2 a j) ∧ M1.2 10 10 = (((p + 19) % 20 : Nat) : Int) ∧ M1.2 10 11 = M.2 10 11 - 1 ∧ (∀ k, k < 4 → M1.2 10 k = M.2 (16 + (p + 19) % 20) k) ∧ M1.2 10 5 = M.2 (16 + (p + 19) % 20) 4) := by
  unfold fX1_takeBack
  simp only [q_let]
  have e0 : q_rem (M.2 10 10 + 20 - 1) 20 = (((p + 19) % 20 : Nat) : Int) := by
    rw [h1, n_rem (by omega) (by omega) (by decide) (by decide), n_tm (by omega)]
    omega
  rw [e0]
  have hr : (p + 19) % 20 < 20 := by omega
  generalize (p + 19) % 20 = r at hr ⊢
  have e1 : (q_up (q_up M 10 10 (r : Int)) 10 11 ((q_up M 10 10 (r : Int)).2 10 11 - 1)).2 10 10 = (r : Int) := by rw [up_ne (by omega), up_rd, if_pos ⟨rfl, rfl⟩]
  have e2 : (q_up M 10 10 (r : Int)).2 10 11 = M.2 10 11 := up_ne (by omega)
  rw [e1, e2]
  have e3 : q_ldr 15 20 (r : Int) = some (16 + r) := by
    unfold q_ldr
    rw [n_w (by omega) (by omega), if_pos (by omega), Int.toNat_natCast, f_15 ⟨r, hr⟩]
  rw [e3, Option.bind_some, b_ld (by decide) (by decide) (by decide), Option.bind_some, b_ld (by decide) (by decide) (by decide), Option.bind_some, b_ld (by decide) (by decide) (by decide), Option.bind_some, b_ld (by decide) (by decide) (by decide), Option.bind_some, b_ld (by decide) (by decide) (by decide), Option.bind_some]
  rw [show (0 : Int).toNat = 0 from rfl, show (1 : Int).toNat = 1 from rfl, show (2 : Int).toNat = 2 from rfl, show (3 : Int).toNat = 3 from rfl, show (4 : Int).toNat = 4 from rfl]
  have g : ∀ (M' : q_Mem) (v : Int) (j k : Nat), (q_up M' 10 j v).2 (16 + r) k = M'.2 (16 + r) k := fun M' v j k => up_ne (by omega)
  simp only [g]
  refine w_some.mpr ⟨?_, ?_, ?_, ?_, ?_⟩
  · intro a j ha
    rw [up_ne (by omega), up_ne (by omega), up_ne (by omega), up_ne (by omega), up_ne (by omega), up_ne (by omega), up_ne (by omega)]
  · rw [up_ne (by omega), up_ne (by omega), up_ne (by omega), up_ne (by omega), up_ne (by omega), up_ne (by omega), up_rd, if_pos ⟨rfl, rfl⟩]
  · rw [up_ne (by omega), up_ne (by omega), up_ne (by omega), up_ne (by omega), up_ne (by omega), up_rd, if_pos ⟨rfl, rfl⟩]
  · intro k hk
    rw [up_ne (by omega)]
    have hk' : k = 0 ∨ k = 1 ∨ k = 2 ∨ k = 3 := by omega
    rcases hk' with rfl | rfl | rfl | rfl
    · rw [up_ne (by omega), up_ne (by omega), up_ne (by omega), up_rd, if_pos ⟨rfl, rfl⟩]
    · rw [up_ne (by omega), up_ne (by omega), up_rd, if_pos ⟨rfl, rfl⟩]
    · rw [up_ne (by omega), up_rd, if_pos ⟨rfl, rfl⟩]
    · rw [up_rd, if_pos ⟨rfl, rfl⟩]
  · rw [up_rd, if_pos ⟨rfl, rfl⟩]
theorem r_undo21 {M0 : q_Mem} {q : Nat} (hq : q < 20) (h66 : M0.2 94 66 = (q : Int)) : ∀ (n i : Nat) (M : q_Mem), i ≤ 141 → 141 - i < n → (∀ a j, a ≠ 131 → M.2 a j = M0.2 a j) → (∀ k, k < i → M.2 131 k = M0.2 139 (141 * q + k)) → q_P (fX12_undo_21 n (i : Int) M) (fun r M1 => r = 1 ∧ (∀ a j, a ≠ 131 → ¬ (a = 94 ∧ (j = 65 ∨ j = 66)) → M1.2 a j = M0.2 a j) ∧ (∀ k, k < 141 → M1.2 131 k = M0.2 139 (141 * q + k)) ∧ M1.2 94 66 = (((q + 19) % 20 : Nat) : Int) ∧ M1.2 94 65 = M0.2 94 65 - 1) := by
  intro n
  induction n with
  | zero => intro i M _ h; omega
  | succ n ih =>
    intro i M hi hn g1 g2
    rw [fX12_undo_21, n_w (by omega) (by omega), show q_w 141 = 141 from rfl]
    by_cases c : i < 141
    · rw [if_pos (by omega), g1 94 66 (by decide), h66, b_ld (by omega) (by omega) (by decide), Option.bind_some, show ((141 : Int) * (q : Int) + (i : Int)).toNat = 141 * q + i from by omega, g1 139 _ (by decide), b_sto (by omega) (by omega) (by decide), Option.bind_some, Int.toNat_natCast, show (i : Int) + 1 = ((i + 1 : Nat) : Int) from by omega]
      refine ih (i + 1) _ (by omega) (by omega) ?_ ?_
      · intro a j ha
        rw [up_ne (by omega)]
        exact g1 a j ha
      · intro k hk
        rw [up_rd]
        by_cases ck : k = i
        · rw [if_pos ⟨rfl, ck⟩, ck]
        · rw [if_neg (by omega)]
          exact g2 k (by omega)
    · have hi' : i = 141 := by omega
      subst hi'
      rw [if_neg (by omega), g1 94 66 (by decide), h66, q_le, q_le, n_rem (by omega) (by omega) (by decide) (by decide), n_tm (by omega), show ((q : Int) + 20 - 1) % 20 = (((q + 19) % 20 : Nat) : Int) from by omega]
      refine w_some.mpr ⟨rfl, ?_, ?_, ?_, ?_⟩
      · intro a j ha hb
        rw [up_ne (by omega), up_ne (by omega)]
        exact g1 a j ha
      · intro k hk
        rw [up_ne (by omega), up_ne (by omega)]
        exact g2 k hk
      · rw [up_ne (by omega), up_rd, if_pos ⟨rfl, rfl⟩]
      · rw [up_rd, if_pos ⟨rfl, rfl⟩, up_ne (by omega), g1 94 65 (by decide)]
theorem st_undo {M : q_Mem} (hS : q_St M) : q_Step M (fX11_undo M) (fun M1 => fX12_undo M1) := by
  obtain ⟨t, L, A, hI⟩ := id hS
  have w := j_wf hI.1
  have jf := j_f hI.1
  have jcl := j_cl hI.1
  obtain ⟨ht, -, hT, hT0, hL⟩ := j_t hI.1
  obtain ⟨i1, i2, i3, i4⟩ := i_self hI
  have rg := i_rg hI
  have e11 : M.2 10 11 = M.2 94 65 := i1.1
  by_cases c : M.2 94 65 = 0
  · refine ⟨0, q_up M 56 4 (M.2 56 4 + 1), 0, _, ?_, ?_, rfl, u_ref hS 4⟩
    · unfold fX11_undo
      rw [e11, c, if_pos (by decide), f_refuse (by decide) (by decide)]
      rfl
    · show fX12_undo _ = _
      unfold fX12_undo
      rw [up_ne (by omega), c, if_pos (by decide)]
      exact f_refused (by decide) (by decide)
  · obtain ⟨p, hp, hp2⟩ := nat_of rg.1
    obtain ⟨q, hq, hq2⟩ := nat_of rg.2.2.1
    obtain ⟨_, Ma, ea, a1, a2, a3, a4, a5⟩ := c_take (M := M) (p := p) (by omega) hp
    obtain ⟨g1, g2, g3, g4, g5, g6⟩ := id i1
    obtain ⟨x1, x2, x3⟩ := g5 1 (by omega)
    obtain ⟨-, -, z3, z4⟩ := g6 0 (by omega)
    rw [hp, Int.toNat_natCast, Nat.sub_zero] at z3 z4
    have sat : ∀ k, s_at M.2 1 k = M.2 139 (141 * q + k) := by
      intro k
      show M.2 139 (141 * (((M.2 94 66).toNat + 20 - 0) % 20) + k) = _
      rw [hq, Int.toNat_natCast, show (q + 20 - 0) % 20 = q from by omega]
    have efA : ∀ d, r_dv M.2 d ↔ r_dv A d := by
      intro d
      unfold r_dv
      rw [hI.1.2.1 122 3 rfl, hI.1.2.1 123 3 rfl, hI.1.2.1 123 5 rfl]
    obtain ⟨v1, v2, v3, v4, v5, v6⟩ := (efA _).mp x1
    have e3 : Ma.2 10 3 = s_at M.2 1 3 := by rw [a4 3 (by decide), z3 3 (by decide)]
    have ac : ∀ a j, a ≠ 10 → Ma.2 a j = M.2 a j := fun a j ha => a1 a j (by omega)
    have ct : ∀ i k, i ≤ 14 → Ma.2 (t + i) k = M.2 (t + i) k := fun i k hi => ac _ k (by omega)
    have ct0 : Ma.2 t 11 = A 123 5 := by rw [ac t 11 (by omega)]; exact jf.2.2.2.1
    obtain ⟨r, M1, em, hm1, hm2⟩ := c_marks (M := Ma) ht (by rw [ac 87 0 (by decide)]; exact hT) (by rw [ct0]; exact w.2.2.2) (fun k hk => by rw [ct0] at hk; rw [ct 9 k (by decide), ct 10 k (by decide), (jcl k hk).1.1, (jcl k hk).1.2]; exact (jcl k hk).2) (by rw [e3]; omega) (fun k hk => by rw [e3] at hk; rw [ac 11 k (by decide), x2 k hk]; exact v5 k hk)
    have n1 : ∀ a j, a ≠ 10 → a ≠ 89 → M1.2 a j = M.2 a j := fun a j ha hb => by rw [hm1 a j hb, ac a j ha]
    have n2 : ∀ j, ¬ (j < 4 ∨ j = 5 ∨ j = 10 ∨ j = 11) → M1.2 10 j = M.2 10 j := fun j hj => by rw [hm1 10 j (by decide), a1 10 j (by omega)]
    have r0 := r_undo21 (M0 := M1) (q := q) (by omega) (by rw [n1 94 66 (by decide) (by decide)]; exact hq) q_FU 0 M1 (by omega) (by unfold q_FU; omega) (fun _ _ _ => rfl) (fun k hk => by omega)
    obtain ⟨r2, M2, er, hr2, b1, b2, b3, b4⟩ := r0
    have h131 : ∀ k, k < 141 → M2.2 131 k = s_at M.2 1 k := fun k hk => by rw [b2 k hk, n1 139 _ (by decide) (by decide), sat]
    have c12 : ∀ a j, a < 94 → M2.2 a j = M1.2 a j := fun a j ha => b1 a j (by omega) (by omega)
    refine ⟨1, M1, r2, M2, ?_, ?_, by rw [hr2], ?_⟩
    · unfold fX11_undo
      rw [e11, n_w (by omega) (by omega), if_neg c, ea, b_some, em, b_some]
    · show fX12_undo _ = _
      unfold fX12_undo
      rw [n1 94 65 (by decide) (by decide), n_w (by omega) (by omega), if_neg c]
      exact er
    · have e122 : M2.2 122 3 = M.2 122 3 := by rw [b1 122 3 (by decide) (by decide), n1 122 3 (by decide) (by decide)]
      have e123 : ∀ k, M2.2 123 k = M.2 123 k := fun k => by rw [b1 123 k (by decide) (by omega), n1 123 k (by decide) (by decide)]
      have ef : ∀ d, r_dv M2.2 d ↔ r_dv M.2 d := by
        intro d
        unfold r_dv
        rw [e122, e123, e123]
      refine u_dc hI ?_ ?_ ?_ ?_ ?_ ?_ ?_ ?_ ?_
      · intro a j ha
        unfold v_dc at ha
        rw [b1 a j (by omega) (by omega), n1 a j (by omega) (by omega)]
      · rw [c12 10 0 (by decide), hm1 10 0 (by decide), a4 0 (by decide), z3 0 (by decide), h131 0 (by decide)]
      · rw [c12 10 1 (by decide), hm1 10 1 (by decide), a4 1 (by decide), z3 1 (by decide), h131 1 (by decide)]
      · rw [c12 10 2 (by decide), hm1 10 2 (by decide), a4 2 (by decide), z3 2 (by decide), h131 2 (by decide)]
      · rw [c12 10 3 (by decide), hm1 10 3 (by decide), a4 3 (by decide), z3 3 (by decide), h131 3 (by decide)]
      · intro m hm
        rw [c12 89 m (by decide), hm2 m hm, mk_cloud (M2 := M2)]
        · rw [ct0, e123, hI.1.2.1 123 5 rfl]
        · intro k hk
          rw [ct0] at hk
          rw [ct 9 k (by decide), ct 10 k (by decide), (jcl k hk).1.1, (jcl k hk).1.2, b1 127 _ (by decide) (by omega), b1 127 _ (by decide) (by omega), n1 127 _ (by decide) (by decide), n1 127 _ (by decide) (by decide), hI.1.2.1 127 _ (decide_eq_true (by omega)), hI.1.2.1 127 _ (decide_eq_true (by omega))]
          exact ⟨rfl, rfl⟩
        · rw [e3, h131 3 (by decide)]
        · intro k hk
          rw [h131 3 (by decide)] at hk
          rw [ac 11 k (by decide), x2 k hk, h131 _ (by omega)]
      · rw [c12 10 12 (by decide), n2 12 (by decide), b1 94 67 (by decide) (by decide), n1 94 67 (by decide) (by decide)]
        exact i2
      · rw [c12 10 5 (by decide), hm1 10 5 (by decide), a5, z4, h131 20 (by decide)]
      · refine ring_pop i1 (by rw [e123, hI.1.2.1 123 5 rfl]; omega) (fun d hd => (ef d).mpr hd) (by omega) hp hq b3 (by rw [b4, n1 94 65 (by decide) (by decide)]) (fun k hk => by rw [h131 k hk, sat]) (funext fun k => by rw [b1 139 k (by decide) (by omega), n1 139 k (by decide) (by decide)]) ?_ ?_ ?_
        · rw [c12 10 10 (by decide), hm1 10 10 (by decide), a2]
        · rw [c12 10 11 (by decide), hm1 10 11 (by decide), a3, e11]
        · intro a k h1 h2 h3
          rw [c12 a k (by omega), n1 a k (by omega) (by omega)]
theorem k_or : ∀ (d : Fin 64) (s : Fin 6), (q_w (q_and (q_shr (d.val : Int) (s.val : Int)) 1) = 1 ∨ (0 ≤ q_or (d.val : Int) (q_shl 1 (s.val : Int)) ∧ (q_pc6 (q_or (d.val : Int) (q_shl 1 (s.val : Int))) = q_pc6 (d.val : Int) + 1) ∧ q_pc6 (d.val : Int) ≤ 5)) ∧ (∀ S : Fin 7, s.val < S.val → d.val < 2 ^ S.val → q_or (d.val : Int) (q_shl 1 (s.val : Int)) < 2 ^ S.val) := by decide +kernel
