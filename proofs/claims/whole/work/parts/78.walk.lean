/-! acts -/
theorem any_cg {l : List Nat} {f g : Nat → Bool} (h : ∀ k ∈ l, f k = g k) : l.any f = l.any g := by
  induction l with
  | nil => rfl
  | cons a l ih => rw [List.any_cons, List.any_cons, h a List.mem_cons_self, ih (fun k hk => h k (List.mem_cons_of_mem _ hk))]
theorem cloud_cg {A B : q_G} (h1 : B 123 5 = A 123 5) (h2 : ∀ k, 16 ≤ k → B 127 k = A 127 k) (h3 : B 131 3 = A 131 3) (h4 : ∀ k : Nat, (k : Int) < A 131 3 → B 131 (4 + k) = A 131 (4 + k)) (m : Int) : s_cloud B m = s_cloud A m := by
  unfold s_cloud
  rw [h1, h3]
  congr 1
  · apply any_cg
    intro k _
    rw [h2 _ (by omega), h2 _ (by omega)]
  · apply any_cg
    intro k hk
    rw [List.mem_range] at hk
    rw [h4 k (by omega)]
theorem st_scr {M M' : q_Mem} (hS : q_St M) (hk : q_S q_fr12 M M') : q_St M' := by
  obtain ⟨t, L, A, hJ, hR, hW⟩ := hS
  refine ⟨t, L, A, j_frame hJ ?_, hR, hW⟩
  intro a k ha
  apply hk
  unfold q_fr12
  rcases ha with ha | ha | ha
  · refine ⟨?_, ?_⟩
    · rintro ⟨rfl, -⟩
      cases ha
    · rintro rfl
      cases ha
  · refine ⟨?_, ?_⟩
    · rintro ⟨rfl, h⟩
      rcases h with rfl | rfl | rfl | rfl | rfl <;> cases ha
    · rintro rfl
      cases ha
  · omega
theorem f_15 : ∀ p : Fin 20, q_fr 15 p.val = 16 + p.val := by decide +kernel
def z_rem (M M1 : q_Mem) : Prop := ∃ p : Nat, p < 20 ∧ M.2 10 10 = (p : Int) ∧ (∀ a j, ¬ (a = 16 + p ∧ j < 5) → ¬ (a = 10 ∧ (j = 10 ∨ j = 11)) → M1.2 a j = M.2 a j) ∧ (∀ k, k < 4 → M1.2 (16 + p) k = M.2 10 k) ∧ M1.2 (16 + p) 4 = M.2 10 5 ∧ M1.2 10 10 = (((p + 1) % 20 : Nat) : Int) ∧ M1.2 10 11 = (if M.2 10 11 < 20 then M.2 10 11 + 1 else M.2 10 11)
theorem c_rem {M : q_Mem} (h1 : 0 ≤ M.2 10 10 ∧ M.2 10 10 < 20) (h2 : 0 ≤ M.2 10 11 ∧ M.2 10 11 ≤ 20) : q_P (fX1_remember M) (fun _ M1 => z_rem M M1) := by
  obtain ⟨p, hp, hp2⟩ := nat_of h1
  have hp3 : p < 20 := by omega
  unfold fX1_remember
  have e : q_ldr 15 20 (M.2 10 10) = some (16 + p) := by
    unfold q_ldr
    rw [hp, n_w (by omega) (by omega), if_pos (by omega), Int.toNat_natCast, f_15 ⟨p, hp3⟩]
  rw [e, Option.bind_some, b_sto (by decide) (by decide) (by decide), Option.bind_some, b_sto (by decide) (by decide) (by decide), Option.bind_some, b_sto (by decide) (by decide) (by decide), Option.bind_some, b_sto (by decide) (by decide) (by decide), Option.bind_some, b_sto (by decide) (by decide) (by decide), Option.bind_some]
  simp only [q_let]
  rw [show (0 : Int).toNat = 0 from rfl, show (1 : Int).toNat = 1 from rfl, show (2 : Int).toNat = 2 from rfl, show (3 : Int).toNat = 3 from rfl, show (4 : Int).toNat = 4 from rfl]
  refine w_some.mpr ⟨p, hp3, hp, ?_, ?_, ?_, ?_, ?_⟩
  · intro a j ha hb
    rw [up_ne (by omega), up_ne (by omega), up_ne (by omega), up_ne (by omega), up_ne (by omega), up_ne (by omega), up_ne (by omega)]
  · intro k hk
    rw [up_ne (by omega), up_ne (by omega), up_ne (by omega)]
    have hk' : k = 0 ∨ k = 1 ∨ k = 2 ∨ k = 3 := by omega
    rcases hk' with rfl | rfl | rfl | rfl
    · rw [up_ne (by omega), up_ne (by omega), up_ne (by omega), up_rd, if_pos ⟨rfl, rfl⟩]
    · rw [up_ne (by omega), up_ne (by omega), up_rd, if_pos ⟨rfl, rfl⟩, up_ne (by omega)]
    · rw [up_ne (by omega), up_rd, if_pos ⟨rfl, rfl⟩, up_ne (by omega), up_ne (by omega)]
    · rw [up_rd, if_pos ⟨rfl, rfl⟩, up_ne (by omega), up_ne (by omega), up_ne (by omega)]
  · rw [up_ne (by omega), up_ne (by omega), up_rd, if_pos ⟨rfl, rfl⟩, up_ne (by omega), up_ne (by omega), up_ne (by omega), up_ne (by omega)]
  · rw [up_ne (by omega), up_rd, if_pos ⟨rfl, rfl⟩, up_ne (by omega), up_ne (by omega), up_ne (by omega), up_ne (by omega), up_ne (by omega), hp, n_rem (by omega) (by omega) (by decide) (by decide), n_tm (by omega)]
    omega
  · rw [up_rd, if_pos ⟨rfl, rfl⟩, up_ne (by omega), up_ne (by omega), up_ne (by omega), up_ne (by omega), up_ne (by omega), up_ne (by omega), n_min (by decide) (by decide) (by omega) (by omega)]
    by_cases c : M.2 10 11 < 20
    · rw [if_pos c]
      by_cases c2 : M.2 10 11 + 1 < 20
      · rw [if_pos c2]
      · rw [if_neg c2]; omega
    · rw [if_neg c, if_neg (by omega)]; omega
def z_keep (M M1 : q_Mem) : Prop := ∃ q : Nat, q < 20 ∧ M.2 94 66 = (q : Int) ∧ (∀ a j, a ≠ 139 → ¬ (a = 94 ∧ (j = 65 ∨ j = 66)) → M1.2 a j = M.2 a j) ∧ M1.2 94 66 = (((q + 1) % 20 : Nat) : Int) ∧ M1.2 94 65 = (if M.2 94 65 < 20 then M.2 94 65 + 1 else M.2 94 65) ∧ (∀ k, k < 141 → M1.2 139 (141 * ((q + 1) % 20) + k) = M.2 131 k) ∧ (∀ r k, r < 20 → r ≠ (q + 1) % 20 → k < 141 → M1.2 139 (141 * r + k) = M.2 139 (141 * r + k))
theorem r_keep15 {M0 : q_Mem} {q : Nat} (hq : q < 20) (h66 : M0.2 94 66 = (q : Int)) (h65 : 0 ≤ M0.2 94 65 ∧ M0.2 94 65 ≤ 20) : ∀ (n i : Nat) (M : q_Mem), i ≤ 141 → 141 - i < n → (∀ a j, a ≠ 139 → M.2 a j = M0.2 a j) → (∀ k, k < i → M.2 139 (141 * q + k) = M0.2 131 k) → (∀ r k, r < 20 → r ≠ q → k < 141 → M.2 139 (141 * r + k) = M0.2 139 (141 * r + k)) → q_P (fX12_keeps_15 n (i : Int) M) (fun _ M1 => (∀ a j, a ≠ 139 → ¬ (a = 94 ∧ j = 65) → M1.2 a j = M0.2 a j) ∧ M1.2 94 65 = (if M0.2 94 65 < 20 then M0.2 94 65 + 1 else M0.2 94 65) ∧ (∀ k, k < 141 → M1.2 139 (141 * q + k) = M0.2 131 k) ∧ (∀ r k, r < 20 → r ≠ q → k < 141 → M1.2 139 (141 * r + k) = M0.2 139 (141 * r + k))) := by
  intro n
  induction n with
  | zero => intro i M _ h; omega
  | succ n ih =>
    intro i M hi hn g1 g2 g3
    rw [fX12_keeps_15, n_w (by omega) (by omega), show q_w 141 = 141 from rfl]
    by_cases c : i < 141
    · rw [if_pos (by omega), b_ld (by omega) (by omega) (by decide), Option.bind_some, Int.toNat_natCast, g1 94 66 (by decide), h66, b_sto (by omega) (by omega) (by decide), Option.bind_some, show ((141 : Int) * (q : Int) + (i : Int)).toNat = 141 * q + i from by omega, g1 131 i (by decide)]
      have e : (i : Int) + 1 = ((i + 1 : Nat) : Int) := by omega
      rw [e]
      refine ih (i + 1) _ (by omega) (by omega) ?_ ?_ ?_
      · intro a j ha
        rw [up_ne (by omega)]
        exact g1 a j ha
      · intro k hk
        rw [up_rd]
        by_cases ck : k = i
        · rw [if_pos ⟨rfl, by omega⟩, ck]
        · rw [if_neg (by omega)]
          exact g2 k (by omega)
      · intro r k hr hrq hk
        rw [up_ne (by omega)]
        exact g3 r k hr hrq hk
    · have hi' : i = 141 := by omega
      subst hi'
      rw [if_neg (by omega), g1 94 65 (by decide), n_w (by omega) (by omega), show q_w 20 = 20 from rfl]
      by_cases c2 : M0.2 94 65 < 20
      · rw [if_pos c2, if_pos c2]
        simp only [q_let]
        refine w_some.mpr ⟨?_, ?_, ?_, ?_⟩
        · intro a j ha hb
          rw [up_ne (by omega)]
          exact g1 a j ha
        · rw [up_rd, if_pos ⟨rfl, rfl⟩]
        · intro k hk
          rw [up_ne (by omega)]
          exact g2 k hk
        · intro r k hr hrq hk
          rw [up_ne (by omega)]
          exact g3 r k hr hrq hk
      · rw [if_neg c2, if_neg c2]
        exact w_some.mpr ⟨fun a j ha _ => g1 a j ha, g1 94 65 (by decide), g2, g3⟩
theorem r_keeps {M : q_Mem} (h1 : 0 ≤ M.2 94 66 ∧ M.2 94 66 < 20) (h2 : 0 ≤ M.2 94 65 ∧ M.2 94 65 ≤ 20) : q_P (fX12_keeps M) (fun _ M1 => z_keep M M1) := by
  obtain ⟨q, hq, hq2⟩ := nat_of h1
  have hq3 : q < 20 := by omega
  unfold fX12_keeps
  simp only [q_let]
  rw [hq, n_rem (by omega) (by omega) (by decide) (by decide), n_tm (by omega), show ((q : Int) + 1) % 20 = (((q + 1) % 20 : Nat) : Int) from by omega]
  have := r_keep15 (M0 := q_up M 94 66 (((q + 1) % 20 : Nat) : Int)) (q := (q + 1) % 20) (by omega) (by rw [up_rd, if_pos ⟨rfl, rfl⟩]) (by rw [up_ne (by omega)]; exact h2) q_FU 0 _ (by omega) (by unfold q_FU; omega) (fun _ _ _ => rfl) (fun k hk => by omega) (fun _ _ _ _ _ => rfl)
  refine w_mono this ?_
  rintro r M1 ⟨g1, g2, g3, g4⟩
  refine ⟨q, hq3, hq, ?_, ?_, ?_, ?_, ?_⟩
  · intro a j ha hb
    rw [g1 a j ha (by omega), up_ne (by omega)]
  · rw [g1 94 66 (by decide) (by decide), up_rd, if_pos ⟨rfl, rfl⟩]
  · rw [g2, up_ne (by omega)]
  · intro k hk
    rw [g3 k hk, up_ne (by omega)]
  · intro r k hr hrq hk
    rw [g4 r k hr hrq hk, up_ne (by omega)]
theorem u_act {t : Nat} {M Ma M1 Mx Mb M2 : q_Mem} {L A : q_G} (hI : q_I t M L A) (hr : z_rem M Ma) (h1 : ∀ a j, ¬ ((a = 10 ∧ (j < 4 ∨ j = 5 ∨ j = 12)) ∨ (11 ≤ a ∧ a ≤ 14) ∨ a = 89) → M1.2 a j = Ma.2 a j) (hx : q_S q_fr12 M1 Mx) (hk : z_keep Mx Mb) (h2 : ∀ a j, ¬ (a = 131 ∨ (a = 94 ∧ j = 67)) → M2.2 a j = Mb.2 a j)
    (d1 : ∀ k, k < 4 → M1.2 10 k = M2.2 131 k) (k1 : M1.2 10 5 = M2.2 131 20) (s1 : M1.2 10 12 = M2.2 94 67 ∧ 0 ≤ M2.2 94 67 ∧ M2.2 94 67 < 2147483648)
    (dv : r_sj M1.2 A (M2.2 131)) (m3 : M.2 131 3 ≤ M2.2 131 3) (m20 : M.2 131 20 ≤ M2.2 131 20)
    (o1 : ∀ k : Nat, (k : Int) < M.2 131 3 → M1.2 11 k = M.2 11 k) (o2 : ∀ k : Nat, (k : Int) < M.2 131 20 → M1.2 12 k = M.2 12 k ∧ M1.2 13 k = M.2 13 k ∧ M1.2 14 k = M.2 14 k)
    (d6 : ∀ m : Nat, m ≤ 400 → M1.2 89 m = if s_cloud M2.2 m then 1 else 0) : q_St M2 := by
  obtain ⟨rg, -, e5, -⟩ := i_self hI
  have w := j_wf hI.1
  have jd := j_d hI.1
  obtain ⟨p, hp, hp1, r1, r2, r3, r4, r5⟩ := hr
  obtain ⟨q, hq, hq1, q1, q2, q3, q4, q5⟩ := hk
  have c12 : ∀ a j, a < 94 → M2.2 a j = M1.2 a j := fun a j ha => by rw [h2 a j (by omega), q1 a j (by omega) (by omega), hx a j (by unfold q_fr12; omega)]
  have c94 : ∀ a j, ¬ v_dc a j → M2.2 a j = M.2 a j := by
    intro a j ha
    unfold v_dc at ha
    rw [h2 a j (by omega), q1 a j (by omega) (by omega), hx a j (by unfold q_fr12; omega), h1 a j (by omega), r1 a j (by omega) (by omega)]
  have cM1 : ∀ a j, 90 ≤ a → q_fr12 a j → Mx.2 a j = M.2 a j := fun a j ha hf => by rw [hx a j hf, h1 a j (by omega), r1 a j (by omega) (by omega)]
  have e123 : ∀ k, M2.2 123 k = M.2 123 k := fun k => c94 123 k (by unfold v_dc; omega)
  have e122 : ∀ k, M2.2 122 k = M.2 122 k := fun k => c94 122 k (by unfold v_dc; omega)
  have ef : ∀ d, r_dv M2.2 d ↔ r_dv M.2 d := by
    intro d
    unfold r_dv
    rw [e123, e123, e122]
  have efA : ∀ d, r_dv M.2 d ↔ r_dv A d := by
    intro d
    unfold r_dv
    rw [hI.1.2.1 122 3 rfl, hI.1.2.1 123 3 rfl, hI.1.2.1 123 5 rfl]
  have now : ∀ k, k < 4 → M.2 10 k = M.2 131 k := by
    intro k hk
    have hk' : k = 0 ∨ k = 1 ∨ k = 2 ∨ k = 3 := by omega
    rcases hk' with rfl | rfl | rfl | rfl
    · rw [jd.1, hI.1.2.1 131 0 rfl]
    · rw [jd.2.1, hI.1.2.1 131 1 rfl]
    · rw [jd.2.2.1, hI.1.2.1 131 2 rfl]
    · rw [jd.2.2.2, hI.1.2.1 131 3 rfl]
  refine u_dc hI c94 ?_ ?_ ?_ ?_ ?_ ?_ ?_ ?_
  · rw [c12 10 0 (by decide)]; exact d1 0 (by decide)
  · rw [c12 10 1 (by decide)]; exact d1 1 (by decide)
  · rw [c12 10 2 (by decide)]; exact d1 2 (by decide)
  · rw [c12 10 3 (by decide)]; exact d1 3 (by decide)
  · intro m hm
    rw [c12 89 m (by decide)]
    exact d6 m hm
  · rw [c12 10 12 (by decide)]; exact s1
  · rw [c12 10 5 (by decide)]; exact k1
  · have e66 : M.2 94 66 = (q : Int) := by rw [← cM1 94 66 (by decide) (by unfold q_fr12; omega), hq1]
    refine ring_push rg (by rw [e123, hI.1.2.1 123 5 rfl]; omega) (fun d hd => (ef d).mpr hd) hp1 e66 ?_ ?_ ?_ ?_ ?_ ?_ ?_ ?_ ?_ ?_ m3 m20 ?_ ?_
    · rw [h2 94 66 (by decide), q2]
    · rw [h2 94 65 (by decide), q3, cM1 94 65 (by decide) (by unfold q_fr12; omega)]
    · intro k hk
      rw [h2 139 _ (by omega), q4 k hk, cM1 131 k (by decide) (by unfold q_fr12; omega)]
    · intro r k hr hrq hk
      rw [h2 139 _ (by omega), q5 r k hr hrq hk, cM1 139 _ (by decide) (by unfold q_fr12; omega)]
    · rw [c12 10 10 (by decide), h1 10 10 (by decide), r4]
    · rw [c12 10 11 (by decide), h1 10 11 (by decide), r5, h2 94 65 (by decide), q3, cM1 94 65 (by decide) (by unfold q_fr12; omega), rg.1]
    · intro k hk
      rw [c12 _ k (by omega), h1 _ k (by omega), r2 k hk, now k hk]
    · rw [c12 _ 4 (by omega), h1 _ 4 (by omega), r3, e5]
    · intro r k hr hrp
      rw [c12 _ k (by omega), h1 _ k (by omega), r1 _ k (by omega) (by omega)]
    · obtain ⟨x1, x2, x3⟩ := dv
      refine ⟨(ef _).mpr ((efA _).mpr x1), ?_, ?_⟩
      · intro k hk
        rw [c12 11 k (by decide)]
        exact x2 k hk
      · intro k hk
        rw [c12 12 k (by decide), c12 13 k (by decide), c12 14 k (by decide)]
        exact x3 k hk
    · intro k hk
      rw [c12 11 k (by decide)]
      exact o1 k hk
    · intro k hk
      rw [c12 12 k (by decide), c12 13 k (by decide), c12 14 k (by decide)]
      exact o2 k hk
theorem r_place {t : Nat} {M : q_Mem} {L A : q_G} (h : q_K t M L A) {s : Nat} (hs : (s : Int) < A 123 3) : fX12_placeOf (s : Int) M = some (A 125 (24 + 4 * s), M) := by
  have w := y_j_wf h
  unfold fX12_placeOf
  rw [b_ld (by omega) (by omega) (by decide), Option.bind_some, show ((24 : Int) + 4 * (s : Int)).toNat = 24 + 4 * s from by omega, h.2.1 125 _ (decide_eq_true (by omega))]
theorem k_lt {t : Nat} {M M' : q_Mem} {L A : q_G} (h : q_K t M L A) (hk : ∀ a k, 94 ≤ a → M'.2 a k = M.2 a k) : q_K t M' L A := by
  refine k_mv h (fun a k ha => hk a k ?_)
  apply Classical.byContradiction
  intro hc
  have hx : a < 94 := by omega
  unfold a_core at ha
  split at ha <;> first | omega | (simp at ha; omega)
theorem i_rg {t : Nat} {M : q_Mem} {L A : q_G} (hI : q_I t M L A) : (0 ≤ M.2 10 10 ∧ M.2 10 10 < 20) ∧ (0 ≤ M.2 10 11 ∧ M.2 10 11 ≤ 20) ∧ (0 ≤ M.2 94 66 ∧ M.2 94 66 < 20) ∧ (0 ≤ M.2 94 65 ∧ M.2 94 65 ≤ 20) := by
  obtain ⟨g1, g2, g3, g4, -⟩ := (i_self hI).1
  exact ⟨g3, by rw [g1]; exact g2, g4, g2⟩
theorem sj_self {t : Nat} {M : q_Mem} {L A : q_G} (hI : q_I t M L A) : r_sj M.2 A (A 131) := by
  have hg := (i_self hI).1
  obtain ⟨x1, x2, x3⟩ := hg.2.2.2.2.1 0 (by have := hg.2.1; omega)
  refine ⟨hI.1.2.2.2.2.2.2, ?_, ?_⟩
  · intro k hk
    have := x2 k (by show (k : Int) < M.2 131 3; rw [hI.1.2.1 131 3 rfl]; exact hk)
    rw [this]
    exact hI.1.2.1 131 _ rfl
  · intro k hk
    have := x3 k (by show (k : Int) < M.2 131 20; rw [hI.1.2.1 131 20 rfl]; exact hk)
    rw [this.1, this.2.1, this.2.2]
    exact ⟨hI.1.2.1 131 _ rfl, hI.1.2.1 131 _ rfl, hI.1.2.1 131 _ rfl⟩
theorem st_walk {M : q_Mem} (hS : q_St M) (x1 : Int) (h1 : q_R x1) : q_Step M (fX11_walk x1 M) (fun M1 => fX12_walk x1 M1) := by
  obtain ⟨t, L, A, hI⟩ := id hS
  have w := j_wf hI.1
  have db := j_db hI.1
  have jd := j_d hI.1
  obtain ⟨ht, -, hT, -, hL⟩ := j_t hI.1
  obtain ⟨-, -, -, -, -, -, -, -, -, rs, -⟩ := hI.1.2.2.1
  obtain ⟨-, -, -, -, -, ws, -⟩ := hI.1.2.2.2.1
  have hKr : ∀ v, q_K t (q_up M 56 2 v) L A := fun v => k_lt (k_of hI.1) (fun a k ha => up_ne (by omega))
  have eref : ∀ M, fX12_refuses 2 M = some (-1, q_up M 96 2 (M.2 96 2 + 1)) := fun M => f_refused (by decide) (by decide)
  by_cases c : 0 ≤ x1 ∧ x1 < A 123 3
  · obtain ⟨s, rfl, hs⟩ := nat_of c
    obtain ⟨r1, -⟩ := rs s hs
    obtain ⟨⟨p1, p2⟩, -⟩ := ws s hs
    obtain ⟨W, hW, hW0, hW1, hW2⟩ : ∃ W : Int, q_abs (A 125 (24 + 4 * s) - A 131 1) = W ∧ (∀ M, fX12_apart (A 131 1) (A 125 (24 + 4 * s)) M = some (W, M)) ∧ 0 ≤ W ∧ W ≤ 99 := by
      refine ⟨if 0 ≤ A 125 (24 + 4 * s) - A 131 1 then A 125 (24 + 4 * s) - A 131 1 else -(A 125 (24 + 4 * s) - A 131 1), n_abs (by omega) (by omega), ?_, ?_, ?_⟩
      · intro M
        unfold fX12_apart
        rw [n_w (by omega) (by omega), n_w (by omega) (by omega)]
        by_cases cc : A 131 1 < A 125 (24 + 4 * s)
        · rw [if_pos cc, if_pos (by omega)]
        · rw [if_neg cc]
          by_cases c3 : 0 ≤ A 125 (24 + 4 * s) - A 131 1
          · rw [if_pos c3, show A 131 1 - A 125 (24 + 4 * s) = A 125 (24 + 4 * s) - A 131 1 from by omega]
          · rw [if_neg c3, show A 131 1 - A 125 (24 + 4 * s) = -(A 125 (24 + 4 * s) - A 131 1) from by omega]
      · by_cases c3 : 0 ≤ A 125 (24 + 4 * s) - A 131 1
        · rw [if_pos c3]; omega
        · rw [if_neg c3]; omega
      · by_cases c3 : 0 ≤ A 125 (24 + 4 * s) - A 131 1
        · rw [if_pos c3]; omega
        · rw [if_neg c3]; omega
    by_cases c2 : W = 0 ∨ A 122 3 < A 131 0 + W
    · refine ⟨-1, q_up M 56 2 (M.2 56 2 + 1), -1, _, ?_, ?_, rfl, u_ref hS 2⟩
      · unfold fX11_walk
        rw [c_isStall hI.1 h1, b_some, f_ite, if_pos c]
        simp only [q_let]
        rw [j_told hI.1, fq3 ht, b_ld (by omega) (by omega) (by decide), Option.bind_some, Int.toNat_natCast, hL 2 s (by decide), r1, jd.2.1, hW, jd.1, (j_f hI.1).1, n_w (a := W) (by omega) (by omega), n_w (a := A 122 3) (by omega) (by omega), n_w (a := A 131 0 + W) (by omega) (by omega)]
        unfold fX11_walk_58
        rw [f_refuse (by decide) (by decide), b_some]
        by_cases c3 : W = 0
        · rw [if_pos c3]; rfl
        · rw [if_neg c3, if_pos (by omega)]; rfl
      · show fX12_walk _ _ = _
        unfold fX12_walk
        rw [y_r_isStall (hKr _) h1, b_some, f_ite, if_pos c, y_r_ld131 (hKr _) (by decide) (by decide), Option.bind_some, show (1 : Int).toNat = 1 from rfl, r_place (hKr _) hs, b_some, hW0, b_some, y_r_ld131 (hKr _) (by decide) (by decide), Option.bind_some, show (0 : Int).toNat = 0 from rfl, y_r_fm (hKr _), b_some, n_w (a := W) (by omega) (by omega), n_w (a := A 122 3) (by omega) (by omega), n_w (a := A 131 0 + W) (by omega) (by omega)]
        unfold fX12_walk_49
        rw [eref, b_some]
        by_cases c3 : W = 0
        · rw [if_pos c3]
        · rw [if_neg c3, if_pos (by omega)]
    · have rg := i_rg hI
      obtain ⟨_, Ma, ea, hza⟩ := c_rem rg.1 rg.2.1
      have hza' := hza
      obtain ⟨p, hp, hp1, z1, z2, z3, z4, z5⟩ := hza
      have ma : ∀ a j, ¬ (16 ≤ a ∧ a ≤ 35) → ¬ (a = 10 ∧ (j = 10 ∨ j = 11)) → Ma.2 a j = M.2 a j := fun a j ha hb => z1 a j (by omega) hb
      have hM1 : ∀ a j, ¬ (a = 10 ∧ j < 2) → (q_up (q_up Ma 10 0 (A 131 0 + W)) 10 1 (A 125 (24 + 4 * s))).2 a j = Ma.2 a j := fun a j ha => by rw [up_ne (by omega), up_ne (by omega)]
      have v0 : (q_up (q_up Ma 10 0 (A 131 0 + W)) 10 1 (A 125 (24 + 4 * s))).2 10 0 = A 131 0 + W := rfl
      have v1 : (q_up (q_up Ma 10 0 (A 131 0 + W)) 10 1 (A 125 (24 + 4 * s))).2 10 1 = A 125 (24 + 4 * s) := rfl
      have eM1 : fX11_walk (s : Int) M = some (A 131 0 + W, q_up (q_up Ma 10 0 (A 131 0 + W)) 10 1 (A 125 (24 + 4 * s))) := by
        unfold fX11_walk
        rw [c_isStall hI.1 h1, b_some, f_ite, if_pos c]
        simp only [q_let]
        rw [j_told hI.1, fq3 ht, b_ld (by omega) (by omega) (by decide), Option.bind_some, Int.toNat_natCast, hL 2 s (by decide), r1, jd.2.1, hW, jd.1, (j_f hI.1).1, n_w (a := W) (by omega) (by omega), n_w (a := A 122 3) (by omega) (by omega), n_w (a := A 131 0 + W) (by omega) (by omega), if_neg (by omega), if_neg (by omega), ea, b_some]
        have e1 : Ma.2 10 0 = A 131 0 := by rw [ma 10 0 (by omega) (by omega), jd.1]
        have e2 : ((q_up Ma 10 0 (A 131 0 + W)).2 0 11).toNat = t := by rw [up_ne (by omega), ma 0 11 (by omega) (by omega), j_told hI.1]
        have e3 : (q_up Ma 10 0 (A 131 0 + W)).2 (t + 2) s = A 125 (24 + 4 * s) := by rw [up_ne (by omega), ma (t + 2) s (by omega) (by omega), hL 2 s (by decide), r1]
        rw [e1, e2, fq3 ht, b_ld (by omega) (by omega) (by decide), Option.bind_some, Int.toNat_natCast, e3]
        rfl
      generalize hgM1 : q_up (q_up Ma 10 0 (A 131 0 + W)) 10 1 (A 125 (24 + 4 * s)) = M1 at hM1 v0 v1 eM1
      have hK1 : q_K t M1 L A := k_lt (k_of hI.1) (fun a k ha => by rw [hM1 a k (by omega), ma a k (by omega) (by omega)])
      have c1 : ∀ a j, 90 ≤ a → M1.2 a j = M.2 a j := fun a j ha => by rw [hM1 a j (by omega), ma a j (by omega) (by omega)]
      obtain ⟨_, Mb, eb, hzb⟩ := r_keeps (M := M1) (by rw [c1 94 66 (by decide)]; exact rg.2.2.1) (by rw [c1 94 65 (by decide)]; exact rg.2.2.2)
      have hzb' := hzb
      obtain ⟨q, hq, hq1, y1, y2, y3, y4, y5⟩ := hzb
      have hb131 : ∀ k, Mb.2 131 k = A 131 k := fun k => by rw [y1 131 k (by decide) (by omega), c1 131 k (by decide), hI.1.2.1 131 k rfl]
      have hb125 : ∀ k, Mb.2 125 k = M.2 125 k := fun k => by rw [y1 125 k (by decide) (by omega), c1 125 k (by decide)]
      refine ⟨A 131 0 + W, M1, A 131 0 + W, q_up (q_up Mb 131 0 (A 131 0 + W)) 131 1 (A 125 (24 + 4 * s)), eM1, ?_, rfl, ?_⟩
      · show fX12_walk _ _ = _
        unfold fX12_walk
        rw [y_r_isStall hK1 h1, b_some, f_ite, if_pos c, y_r_ld131 hK1 (by decide) (by decide), Option.bind_some, show (1 : Int).toNat = 1 from rfl, r_place hK1 hs, b_some, hW0, b_some, y_r_ld131 hK1 (by decide) (by decide), Option.bind_some, show (0 : Int).toNat = 0 from rfl, y_r_fm hK1, b_some, n_w (a := W) (by omega) (by omega), n_w (a := A 122 3) (by omega) (by omega), n_w (a := A 131 0 + W) (by omega) (by omega), if_neg (by omega), if_neg (by omega), eb, b_some, b_ld (by decide) (by decide) (by decide), Option.bind_some, b_sto (by decide) (by decide) (by decide), Option.bind_some, show (0 : Int).toNat = 0 from rfl, hb131]
        unfold fX12_placeOf
        rw [b_ld (by omega) (by omega) (by decide), Option.bind_some, b_some, show ((24 : Int) + 4 * (s : Int)).toNat = 24 + 4 * s from by omega, up_ne (by omega), hb125, hI.1.2.1 125 _ (decide_eq_true (by omega)), b_sto (by decide) (by decide) (by decide), Option.bind_some, b_ld (by decide) (by decide) (by decide), Option.bind_some]
        rfl
      · have h131 : ∀ k, 2 ≤ k → (q_up (q_up Mb 131 0 (A 131 0 + W)) 131 1 (A 125 (24 + 4 * s))).2 131 k = A 131 k := fun k hk => by rw [up_ne (by omega), up_ne (by omega), hb131]
        have u0 : (q_up (q_up Mb 131 0 (A 131 0 + W)) 131 1 (A 125 (24 + 4 * s))).2 131 0 = A 131 0 + W := rfl
        have u1 : (q_up (q_up Mb 131 0 (A 131 0 + W)) 131 1 (A 125 (24 + 4 * s))).2 131 1 = A 125 (24 + 4 * s) := rfl
        have u2 : ∀ a j, a ≠ 131 → (q_up (q_up Mb 131 0 (A 131 0 + W)) 131 1 (A 125 (24 + 4 * s))).2 a j = Mb.2 a j := fun a j ha => by rw [up_ne (by omega), up_ne (by omega)]
        generalize q_up (q_up Mb 131 0 (A 131 0 + W)) 131 1 (A 125 (24 + 4 * s)) = M2 at h131 u0 u1 u2
        obtain ⟨i1, i2, i3, i4⟩ := i_self hI
        have m131 : ∀ k, M.2 131 k = A 131 k := fun k => hI.1.2.1 131 k rfl
        have sj := sj_self hI
        refine u_act hI hza' (fun a j ha => hM1 a j (by omega)) (fun _ _ _ => rfl) hzb' (fun a j ha => u2 a j (by omega)) ?_ ?_ ?_ ?_ ?_ ?_ ?_ ?_ ?_
        · intro k hk
          have hk' : k = 0 ∨ k = 1 ∨ k = 2 ∨ k = 3 := by omega
          rcases hk' with rfl | rfl | rfl | rfl
          · rw [v0, u0]
          · rw [v1, u1]
          · rw [h131 2 (by decide), hM1 10 2 (by omega), ma 10 2 (by omega) (by omega), jd.2.2.1]
          · rw [h131 3 (by decide), hM1 10 3 (by omega), ma 10 3 (by omega) (by omega), jd.2.2.2]
        · rw [h131 20 (by decide), hM1 10 5 (by omega), ma 10 5 (by omega) (by omega), i3, m131]
        · rw [u2 94 67 (by decide), y1 94 67 (by decide) (by decide), c1 94 67 (by decide), hM1 10 12 (by omega), ma 10 12 (by omega) (by omega)]
          exact i2
        · obtain ⟨⟨x1, x2, x3, x4, x5, x6⟩, s2, s3⟩ := sj
          refine ⟨⟨by rw [u0]; omega, by rw [u1]; omega, by rw [h131 2 (by decide)]; exact x3, by rw [h131 3 (by decide)]; exact x4, ?_, by rw [h131 20 (by decide), h131 2 (by decide)]; exact x6⟩, ?_, ?_⟩
          · intro k hk
            rw [h131 3 (by decide)] at hk
            rw [h131 _ (by omega)]
            exact x5 k hk
          · intro k hk
            rw [h131 3 (by decide)] at hk
            rw [h131 _ (by omega), hM1 11 k (by omega), ma 11 k (by omega) (by omega)]
            exact s2 k hk
          · intro k hk
            rw [h131 20 (by decide)] at hk
            rw [h131 _ (by omega), h131 _ (by omega), h131 _ (by omega), hM1 12 k (by omega), ma 12 k (by omega) (by omega), hM1 13 k (by omega), ma 13 k (by omega) (by omega), hM1 14 k (by omega), ma 14 k (by omega) (by omega)]
            exact s3 k hk
        · rw [h131 3 (by decide), m131]; exact Int.le_refl _
        · rw [h131 20 (by decide), m131]; exact Int.le_refl _
        · intro k _
          rw [hM1 11 k (by omega), ma 11 k (by omega) (by omega)]
        · intro k _
          rw [hM1 12 k (by omega), ma 12 k (by omega) (by omega), hM1 13 k (by omega), ma 13 k (by omega) (by omega), hM1 14 k (by omega), ma 14 k (by omega) (by omega)]
          exact ⟨rfl, rfl, rfl⟩
        · intro m hm
          rw [hM1 89 m (by omega), ma 89 m (by omega) (by omega), i4 m hm, cloud_cg (A := M.2) (B := M2.2)]
          · rw [u2 123 5 (by decide), y1 123 5 (by decide) (by decide), c1 123 5 (by decide)]
          · intro k _
            rw [u2 127 k (by decide), y1 127 k (by decide) (by omega), c1 127 k (by decide)]
          · rw [h131 3 (by decide), m131]
          · intro k _
            rw [h131 _ (by omega), m131]
  · refine ⟨-1, q_up M 56 2 (M.2 56 2 + 1), -1, _, ?_, ?_, rfl, u_ref hS 2⟩
    · unfold fX11_walk
      rw [c_isStall hI.1 h1, b_some, f_ite, if_neg c, f_refuse (by decide) (by decide)]
      rfl
    · show fX12_walk _ _ = _
      unfold fX12_walk
      rw [y_r_isStall (hKr _) h1, b_some, f_ite, if_neg c, eref]
      rfl
