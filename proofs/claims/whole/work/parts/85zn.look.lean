/-! ask: what a question can tell of a coin; the class lays it out -/
def h_ix (A : q_G) : Nat → Int → Int
  | 0, x => x
  | n + 1, x => h_ix A n (if A 125 (24 + 4 * n) = A 131 1 then (n : Int) else x)
def h_val (A : q_G) (c : Nat) (x : Int) : Int := if x = -1 then -1 else s_shadow A c x (A 131 0)
def a_env (A : q_G) (c : Nat) (k : Int) : Int := if k = 0 then A 126 (16 + 2 * c) else if k = 1 then A 126 (17 + 2 * c) else if k = 3 then A 131 0 else if k = 6 then (c : Int) else if k = 7 then h_val A c (h_ix A (A 123 3).toNat (-1)) else 0
def a_ofs (A : q_G) (c : Nat) (k a : Int) : Int := if 0 ≤ a ∧ a < A 123 3 then (if k = 0 then s_shadow A c a (A 131 0) else if s_buys A c a (A 131 0) = true then 1 else 0) else 0
def a_v (A : q_G) (cs : List Int) (c : Nat) : Int := (s_ev (a_env A c) (a_ofs A c) cs []).headD 0
theorem ix_b (A : q_G) {S : Int} : ∀ (n : Nat) (x : Int), (n : Int) ≤ S → -1 ≤ x ∧ x < S → -1 ≤ h_ix A n x ∧ h_ix A n x < S := by
  intro n
  induction n with
  | zero => intro x _ h; exact h
  | succ n ih =>
    intro x hn h
    rw [h_ix]
    refine ih _ (by omega) ?_
    split <;> omega
theorem env_b {t : Nat} {M : q_Mem} {L A : q_G} (h : q_J t M L A) {c : Nat} (hc : (c : Int) < A 123 4) (k : Int) : -1000000 ≤ a_env A c k ∧ a_env A c k ≤ 1000000 := by
  have w := j_wf h
  have db := j_db h
  have wc := h.2.2.2.1.2.2.2.2.2.2.1 c hc
  unfold a_env h_val
  split
  · omega
  split
  · omega
  split
  · omega
  split
  · omega
  split
  · split
    · omega
    · have := shad_b h hc (h_ix A (A 123 3).toNat (-1)) (A 131 0)
      omega
  · omega
theorem ofs_b {t : Nat} {M : q_Mem} {L A : q_G} (h : q_J t M L A) {c : Nat} (hc : (c : Int) < A 123 4) (k a : Int) : -1000000 ≤ a_ofs A c k a ∧ a_ofs A c k a ≤ 1000000 := by
  unfold a_ofs
  split
  · split
    · have := shad_b h hc a (A 131 0)
      omega
    · split <;> omega
  · omega
theorem f52 : q_fr 52 0 = 52 + 1 ∧ q_fr 52 11 = 52 + 2 ∧ q_fr 52 12 = 52 + 3 ∧ q_fr 6 0 = 6 + 1 := by decide
def z_lk (M M' : q_Mem) : Prop := ∀ a k, ¬ (a = 52 ∧ (k = 2 ∨ k = 3 ∨ k = 4 ∨ k = 6 ∨ k = 9 ∨ k = 10)) → a ≠ 54 → a ≠ 55 → a ≠ 88 → a ≠ 90 → a ≠ 91 → M'.2 a k = M.2 a k
theorem c_lk86 {t : Nat} {L A : q_G} {c : Nat} (hc : (c : Int) < A 123 4) : ∀ (n f : Nat) (x : Int) (M : q_Mem), q_J t M L A → (n : Int) ≤ A 123 3 → n < f → M.2 52 9 = h_val A c x → (∀ s : Nat, n ≤ s → (s : Int) < A 123 3 → M.2 54 s = s_shadow A c s (A 131 0) ∧ M.2 55 s = if s_buys A c s (A 131 0) = true then 1 else 0) → q_P (fX11_lookAt_86 f (c : Int) ((n : Int) - 1) M) (fun _ M' => q_J t M' L A ∧ M'.2 52 9 = h_val A c (h_ix A n x) ∧ (∀ s : Nat, (s : Int) < A 123 3 → M'.2 54 s = s_shadow A c s (A 131 0) ∧ M'.2 55 s = if s_buys A c s (A 131 0) = true then 1 else 0) ∧ ∀ a k, ¬ (a = 52 ∧ k = 9) → a ≠ 54 → a ≠ 55 → a ≠ 88 → a ≠ 90 → a ≠ 91 → M'.2 a k = M.2 a k) := by
  intro n
  induction n with
  | zero =>
    intro f x M h hn hf h9 hs
    cases f with
    | zero => omega
    | succ f =>
      rw [fX11_lookAt_86, show q_w (((0 : Nat) : Int) - 1) = -1 from rfl, if_pos (by decide), h_ix]
      exact w_some.mpr ⟨h, h9, fun s hs' => hs s (by omega) hs', fun _ _ _ _ _ _ _ _ => rfl⟩
  | succ n ih =>
    intro f x M h hn hf h9 hs
    have w := j_wf h
    have db := j_db h
    have jd := j_d h
    have jt := j_t h
    obtain ⟨m0, hm0, hm1⟩ := nat_of' db.1
    cases f with
    | zero => omega
    | succ f =>
      have hS : (n : Int) < A 123 3 := by omega
      rw [show ((n + 1 : Nat) : Int) - 1 = (n : Int) from by omega, fX11_lookAt_86, n_w (a := (n : Int)) (by omega) (by omega), if_neg (by omega), jd.1, hm0]
      refine w_call (N_P (c_len h hc hS (m := m0) (by omega)) (N_fX5_lengthAt S_refl)) ?_
      rintro v1 M1 ⟨⟨e1, h1⟩, g1⟩
      rw [f52.2.1, f52.2.2.1, sto_n rfl (by omega) (by omega), Option.bind_some]
      have h2 : q_J t (q_up M1 54 n v1) L A := j_scr h1 rfl rfl rfl
      have jd2 := j_d h2
      rw [jd2.1, hm0]
      refine w_call (N_P (c_pays h2 hc hS (m := m0) (by omega)) (N_fX5_paysAt S_refl)) ?_
      rintro v2 M3 ⟨⟨e2, h3⟩, g3⟩
      have fr3 : ∀ a k, a ≠ 54 → a ≠ 88 → a ≠ 90 → a ≠ 91 → M3.2 a k = M.2 a k := fun a k q1 q2 q3 q4 => by rw [g3 a k ⟨q2, q3, q4⟩, up_ne (by omega), g1 a k ⟨q2, q3, q4⟩]
      have v54 : M3.2 54 n = v1 := by rw [g3 54 n ⟨by decide, by decide, by decide⟩, up_rd, if_pos ⟨rfl, rfl⟩]
      have fr54 : ∀ k, k ≠ n → M3.2 54 k = M.2 54 k := fun k hk => by rw [g3 54 k ⟨by decide, by decide, by decide⟩, up_ne (by omega), g1 54 k ⟨by decide, by decide, by decide⟩]
      have go : ∀ z : Int, z = v2 → q_P (fX11_lookAt_147 (fX11_lookAt_86 f) (c : Int) (n : Int) z (n : Int) 55 M3) (fun _ M' => q_J t M' L A ∧ M'.2 52 9 = h_val A c (h_ix A (n + 1) x) ∧ (∀ s : Nat, (s : Int) < A 123 3 → M'.2 54 s = s_shadow A c s (A 131 0) ∧ M'.2 55 s = if s_buys A c s (A 131 0) = true then 1 else 0) ∧ ∀ a k, ¬ (a = 52 ∧ k = 9) → a ≠ 54 → a ≠ 55 → a ≠ 88 → a ≠ 90 → a ≠ 91 → M'.2 a k = M.2 a k) := by
        intro z hz
        unfold fX11_lookAt_147 fX11_lookAt_183
        rw [sto_n rfl (by omega) (by omega), Option.bind_some]
        have h4 : q_J t (q_up M3 55 n z) L A := j_scr h3 rfl rfl rfl
        have jt4 := j_t h4
        have jd4 := j_d h4
        have wf := h.2.2.2.1.2.2.2.2.2.1 n hS
        have hfair := h.2.2.1.2.2.2.2.2.2.2.2.2.1 n hS
        have hpl : (q_up M3 55 n z).2 (t + 2) n = A 125 (24 + 4 * n) := by rw [jt4.2.2.2.2 2 n (by omega)]; exact hfair.1
        rw [q_le, j_told h4, fq3 jt.1, ld_n rfl (by omega) (by omega), Option.bind_some, hpl, jd4.2.1, n_w (a := A 125 (24 + 4 * n)) (by omega) (by omega), n_w (a := A 131 1) (by omega) (by omega), h_ix, show (n : Int) + (-1) = (n : Int) - 1 from by omega]
        by_cases cp : A 125 (24 + 4 * n) = A 131 1
        · rw [if_pos cp, if_pos cp, f52.2.1, ld_n rfl (by omega) (by omega), Option.bind_some, q_le, up_ne (by omega), v54]
          have h5 : q_J t (q_up (q_up M3 55 n z) 52 9 v1) L A := j_scr h4 rfl rfl rfl
          have e1' : v1 = h_val A c (n : Int) := by
            unfold h_val
            rw [if_neg (by omega), e1, hm0]
          refine w_mono (ih f (n : Int) _ h5 (by omega) (by omega) (by rw [up_rd, if_pos ⟨rfl, rfl⟩, e1']) ?_) ?_
          · intro s hs1 hs2
            by_cases cs : s = n
            · rw [cs, up_ne (by omega), up_ne (by omega), v54, up_ne (by omega), up_rd, if_pos ⟨rfl, rfl⟩, e1, hz, e2, hm0]
              exact ⟨rfl, rfl⟩
            · rw [up_ne (by omega), up_ne (by omega), fr54 s cs, up_ne (by omega), up_ne (by omega), fr3 55 s (by omega) (by omega) (by omega) (by omega)]
              exact hs s (by omega) hs2
          · rintro _ M' ⟨q1, q2, q3, q4⟩
            exact ⟨q1, q2, q3, fun a k y1 y2 y3 y4 y5 y6 => by rw [q4 a k y1 y2 y3 y4 y5 y6, up_ne y1, up_ne (by omega), fr3 a k y2 y4 y5 y6]⟩
        · rw [if_neg cp, if_neg cp]
          refine w_mono (ih f x _ h4 (by omega) (by omega) (by rw [up_ne (by omega), fr3 52 9 (by omega) (by omega) (by omega) (by omega), h9]) ?_) ?_
          · intro s hs1 hs2
            by_cases cs : s = n
            · rw [cs, up_ne (by omega), v54, up_rd, if_pos ⟨rfl, rfl⟩, e1, hz, e2, hm0]
              exact ⟨rfl, rfl⟩
            · rw [up_ne (by omega), fr54 s cs, up_ne (by omega), fr3 55 s (by omega) (by omega) (by omega) (by omega)]
              exact hs s (by omega) hs2
          · rintro _ M' ⟨q1, q2, q3, q4⟩
            exact ⟨q1, q2, q3, fun a k y1 y2 y3 y4 y5 y6 => by rw [q4 a k y1 y2 y3 y4 y5 y6, up_ne (by omega), fr3 a k y2 y4 y5 y6]⟩
      rw [e2, f_ite]
      by_cases cb : s_buys A c n m0 = true
      · rw [if_pos cb]
        have := go 1 (by rw [e2, if_pos cb])
        rw [hm0] at this
        exact this
      · rw [if_neg cb]
        have := go 0 (by rw [e2, if_neg cb])
        rw [hm0] at this
        exact this
theorem c_look {t : Nat} {M : q_Mem} {L A : q_G} (h : q_J t M L A) {c : Nat} (hc : (c : Int) < A 123 4) : q_P (fX11_lookAt (c : Int) M) (fun _ M' => q_J t M' L A ∧ z_lk M M' ∧ (∀ k, 0 ≤ k → k ≤ 7 → q_may 2 k = true → k_env 52 M' k = a_env A c k) ∧ M'.2 52 10 = A 123 3 ∧ (∀ s : Nat, (s : Int) < A 123 3 → M'.2 54 s = s_shadow A c s (A 131 0) ∧ M'.2 55 s = if s_buys A c s (A 131 0) = true then 1 else 0)) := by
  have w := j_wf h
  have jt := j_t h
  have jf := j_f h
  have jd := j_d h
  have wc := h.2.2.2.1.2.2.2.2.2.2.1 c hc
  have hfc := h.2.2.1.2.2.2.2.2.2.2.2.2.2.1 c hc
  unfold fX11_lookAt
  have h1 : q_J t (q_up M 52 2 (c : Int)) L A := j_scr h rfl rfl rfl
  have e7 : (q_up M 52 2 (c : Int)).2 (t + 7) c = A 126 (16 + 2 * c) := by rw [(j_t h1).2.2.2.2 7 c (by omega)]; exact hfc.1
  rw [q_le, q_le, j_told h1, fq9 jt.1, ld_n rfl (by omega) (by omega), Option.bind_some, e7, q_le, q_le]
  have h2 : q_J t (q_up (q_up M 52 2 (c : Int)) 52 3 (A 126 (16 + 2 * c))) L A := j_scr h1 rfl rfl rfl
  have e8 : (q_up (q_up M 52 2 (c : Int)) 52 3 (A 126 (16 + 2 * c))).2 (t + 8) c = A 126 (17 + 2 * c) := by rw [(j_t h2).2.2.2.2 8 c (by omega)]; exact hfc.2.1
  rw [j_told h2, fq10 jt.1, ld_n rfl (by omega) (by omega), Option.bind_some, e8, q_le]
  have h3 : q_J t (q_up (q_up (q_up M 52 2 (c : Int)) 52 3 (A 126 (16 + 2 * c))) 52 4 (A 126 (17 + 2 * c))) L A := j_scr h2 rfl rfl rfl
  rw [(j_d h3).1, q_le, q_le, q_le]
  have h4 : q_J t (q_up (q_up (q_up (q_up M 52 2 (c : Int)) 52 3 (A 126 (16 + 2 * c))) 52 4 (A 126 (17 + 2 * c))) 52 6 (A 131 0)) L A := j_scr h3 rfl rfl rfl
  have h5 : q_J t (q_up (q_up (q_up (q_up (q_up M 52 2 (c : Int)) 52 3 (A 126 (16 + 2 * c))) 52 4 (A 126 (17 + 2 * c))) 52 6 (A 131 0)) 52 9 (-1)) L A := j_scr h4 rfl rfl rfl
  rw [j_told h5, (j_f h5).2.1, q_le, q_le, q_le]
  have h6 : q_J t (q_up (q_up (q_up (q_up (q_up (q_up M 52 2 (c : Int)) 52 3 (A 126 (16 + 2 * c))) 52 4 (A 126 (17 + 2 * c))) 52 6 (A 131 0)) 52 9 (-1)) 52 10 (A 123 3)) L A := j_scr h5 rfl rfl rfl
  have k2 : (q_up (q_up (q_up (q_up (q_up (q_up M 52 2 (c : Int)) 52 3 (A 126 (16 + 2 * c))) 52 4 (A 126 (17 + 2 * c))) 52 6 (A 131 0)) 52 9 (-1)) 52 10 (A 123 3)).2 52 2 = (c : Int) := by rw [up_ne (by omega), up_ne (by omega), up_ne (by omega), up_ne (by omega), up_ne (by omega), up_rd, if_pos ⟨rfl, rfl⟩]
  have k3 : (q_up (q_up (q_up (q_up (q_up (q_up M 52 2 (c : Int)) 52 3 (A 126 (16 + 2 * c))) 52 4 (A 126 (17 + 2 * c))) 52 6 (A 131 0)) 52 9 (-1)) 52 10 (A 123 3)).2 52 3 = A 126 (16 + 2 * c) := by rw [up_ne (by omega), up_ne (by omega), up_ne (by omega), up_ne (by omega), up_rd, if_pos ⟨rfl, rfl⟩]
  have k4 : (q_up (q_up (q_up (q_up (q_up (q_up M 52 2 (c : Int)) 52 3 (A 126 (16 + 2 * c))) 52 4 (A 126 (17 + 2 * c))) 52 6 (A 131 0)) 52 9 (-1)) 52 10 (A 123 3)).2 52 4 = A 126 (17 + 2 * c) := by rw [up_ne (by omega), up_ne (by omega), up_ne (by omega), up_rd, if_pos ⟨rfl, rfl⟩]
  have k6 : (q_up (q_up (q_up (q_up (q_up (q_up M 52 2 (c : Int)) 52 3 (A 126 (16 + 2 * c))) 52 4 (A 126 (17 + 2 * c))) 52 6 (A 131 0)) 52 9 (-1)) 52 10 (A 123 3)).2 52 6 = A 131 0 := by rw [up_ne (by omega), up_ne (by omega), up_rd, if_pos ⟨rfl, rfl⟩]
  have k9 : (q_up (q_up (q_up (q_up (q_up (q_up M 52 2 (c : Int)) 52 3 (A 126 (16 + 2 * c))) 52 4 (A 126 (17 + 2 * c))) 52 6 (A 131 0)) 52 9 (-1)) 52 10 (A 123 3)).2 52 9 = -1 := by rw [up_ne (by omega), up_rd, if_pos ⟨rfl, rfl⟩]
  have k10 : (q_up (q_up (q_up (q_up (q_up (q_up M 52 2 (c : Int)) 52 3 (A 126 (16 + 2 * c))) 52 4 (A 126 (17 + 2 * c))) 52 6 (A 131 0)) 52 9 (-1)) 52 10 (A 123 3)).2 52 10 = A 123 3 := by rw [up_rd, if_pos ⟨rfl, rfl⟩]
  have kf : ∀ a k, ¬ (a = 52 ∧ (k = 2 ∨ k = 3 ∨ k = 4 ∨ k = 6 ∨ k = 9 ∨ k = 10)) → (q_up (q_up (q_up (q_up (q_up (q_up M 52 2 (c : Int)) 52 3 (A 126 (16 + 2 * c))) 52 4 (A 126 (17 + 2 * c))) 52 6 (A 131 0)) 52 9 (-1)) 52 10 (A 123 3)).2 a k = M.2 a k := fun a k y => by rw [up_ne (by omega), up_ne (by omega), up_ne (by omega), up_ne (by omega), up_ne (by omega), up_ne (by omega)]
  generalize q_up (q_up (q_up (q_up (q_up (q_up M 52 2 (c : Int)) 52 3 (A 126 (16 + 2 * c))) 52 4 (A 126 (17 + 2 * c))) 52 6 (A 131 0)) 52 9 (-1)) 52 10 (A 123 3) = M6 at h6 k2 k3 k4 k6 k9 k10 kf
  rw [j_told h6, (j_f h6).2.1]
  obtain ⟨S, hS1, hS2⟩ := nat_of' w.2.1
  rw [hS1]
  refine w_mono (c_lk86 hc S q_FU (-1) M6 h6 (by omega) (by unfold q_FU; omega) (by rw [k9]; rfl) (fun s s1 s2 => by omega)) ?_
  rintro _ M' ⟨q1, q2, q3, q4⟩
  refine ⟨q1, fun a k y1 y2 y3 y4 y5 y6 => by rw [q4 a k (by omega) y2 y3 y4 y5 y6, kf a k y1], ?_, by rw [q4 _ _ (by omega) (by omega) (by omega) (by omega) (by omega) (by omega), k10, hS1], fun s hs => q3 s (by omega)⟩
  intro k p1 p2 p3
  have hk : k = 0 ∨ k = 1 ∨ k = 3 ∨ k = 6 ∨ k = 7 := by
    have := p3
    unfold q_may at this
    simp only [Bool.or_eq_true, decide_eq_true_eq, beq_iff_eq] at this
    omega
  unfold k_env a_env
  rcases hk with rfl | rfl | rfl | rfl | rfl
  · rw [if_pos rfl, if_pos rfl, q4 _ _ (by omega) (by omega) (by omega) (by omega) (by omega) (by omega), k3]
  · rw [if_neg (by decide), if_pos rfl, if_neg (by decide), if_pos rfl, q4 _ _ (by omega) (by omega) (by omega) (by omega) (by omega) (by omega), k4]
  · rw [if_neg (by decide), if_neg (by decide), if_neg (by decide), if_pos rfl, if_neg (by decide), if_neg (by decide), if_pos rfl, q4 _ _ (by omega) (by omega) (by omega) (by omega) (by omega) (by omega), k6]
  · rw [if_neg (by decide), if_neg (by decide), if_neg (by decide), if_neg (by decide), if_neg (by decide), if_neg (by decide), if_pos rfl, if_neg (by decide), if_neg (by decide), if_neg (by decide), if_pos rfl, q4 _ _ (by omega) (by omega) (by omega) (by omega) (by omega) (by omega), k2]
  · rw [if_neg (by decide), if_neg (by decide), if_neg (by decide), if_neg (by decide), if_neg (by decide), if_neg (by decide), if_neg (by decide), if_neg (by decide), if_neg (by decide), if_neg (by decide), if_neg (by decide), if_pos rfl, q2, hS1, Int.toNat_natCast]
theorem c_evq {t : Nat} {M : q_Mem} {L A : q_G} {cs : List Int} {b : Bool} (h : q_J t M L A) {c : Nat} (hc : (c : Int) < A 123 4) (h6 : M.2 6 1 = (cs.length : Int)) (h7 : ∀ j : Nat, j < cs.length → M.2 7 j = q_enc (cs.getD j 0)) (hcl : cs.length ≤ 1600) (htc : q_tc 2 cs [] = some [b]) {K : Int → q_Mem → Option (Int × q_Mem)} {Q : Int → q_Mem → Prop} (hK : ∀ M', q_J t M' L A → (∀ a k, a ≠ 52 → a ≠ 53 → a ≠ 54 → a ≠ 55 → a ≠ 88 → a ≠ 90 → a ≠ 91 → M'.2 a k = M.2 a k) → q_P (K (a_v A cs c) M') Q) : q_P (q_bd (fX11_lookAt (c : Int) M) fun _ M1 => q_bd (fX7_run 52 6 M1) K) Q := by
  have w := j_wf h
  refine w_call (c_look h hc) ?_
  rintro _ M1 ⟨q1, q2, q3, q4, q5⟩
  have ho : ∀ k a, k_ofs 52 M1 k a = if 0 ≤ a ∧ a < A 123 3 then (if k = 0 then s_shadow A c a (A 131 0) else if s_buys A c a (A 131 0) = true then 1 else 0) else 0 := by
    intro k a
    unfold k_ofs
    rw [q4]
    by_cases ca : 0 ≤ a ∧ a < A 123 3
    · obtain ⟨n, e1, e2⟩ := nat_of ca
      have := q5 n (by omega)
      rw [if_pos ⟨ca.1, ca.2, by omega⟩, if_pos ca, e1, Int.toNat_natCast, this.1, this.2]
    · rw [if_neg (fun g => ca ⟨g.1, g.2.1⟩), if_neg ca]
  have hr := k_run (r := 52) (r1 := 6) f52.1 f52.2.1 f52.2.2.1 f52.2.2.2 (by decide) (by decide) (by decide) (w := 2) (cs := cs) (M0 := M1) (b := b) (by rw [q2 6 1 (by omega) (by omega) (by omega) (by omega) (by omega) (by omega)]; exact h6) (fun j hj => by rw [q2 7 j (by omega) (by omega) (by omega) (by omega) (by omega) (by omega)]; exact h7 j hj) hcl (fun k y1 y2 y3 => by rw [q3 k y1 y2 y3]; exact env_b h hc k) (fun _ => ⟨by rw [q4]; unfold q_R; omega, fun k a => by rw [ho]; exact ofs_b h hc k a⟩) htc
  refine w_call hr ?_
  rintro v M2 ⟨e, g⟩
  have ev : v = a_v A cs c := by
    rw [e]
    unfold a_v
    rw [ev_cong (w := 2) (env := k_env 52 M1) (env' := a_env A c) (ofs := k_ofs 52 M1) (ofs' := a_ofs A c) (fun k y1 y2 y3 => q3 k y1 y2 y3) (fun _ k a _ _ _ _ => ho k a) cs [] [b] [] htc trivial]
  rw [ev]
  refine hK M2 (j_frame q1 (fun a k ha => g a k ?_)) (fun a k y1 y2 y3 y4 y5 y6 y7 => by rw [g a k (by omega), q2 a k (by omega) y3 y4 y5 y6 y7])
  rintro (⟨rfl, rfl⟩ | rfl)
  · rcases ha with g1 | g1 | g1
    · exact absurd (show l_obs (L 0 11) 52 1 = true from g1) (by rw [show l_obs (L 0 11) 52 1 = false from rfl]; decide)
    · exact absurd g1 (by decide)
    · exact absurd g1 (by decide)
  · rcases ha with g1 | g1 | g1
    · exact absurd (show l_obs (L 0 11) 53 k = true from g1) (by rw [show l_obs (L 0 11) 53 k = false from rfl]; decide)
    · exact absurd (show a_core 53 k = true from g1) (by rw [show a_core 53 k = false from rfl]; decide)
    · exact absurd g1 (by decide)
