/-! texts: the class reads a TEST or a SUM -/
def z_G (b : Nat → Int) (N w r : Nat) (M0 : q_Mem) (σ : t_S) (o d : Nat) (R : List Int) (M : q_Mem) : Prop := z_tp b N M ∧ z_S b N σ M ∧ (M.2 8 1 = (r : Int) ∧ M.2 8 2 = (w : Int) ∧ M.2 8 3 = (o : Int)) ∧ (∀ p j, σ = .inl (p, j) → M.2 r 1 = (R.length : Int) ∧ z_stk (M.2 (r + 1)) (R.map q_enc) ∧ R.length + d ≤ p) ∧ ∀ a k, a ≠ 5 → a ≠ 8 → a ≠ r → a ≠ r + 1 → M.2 a k = M0.2 a k
def z_r (r : Nat) : Prop := 6 ≤ r ∧ r ≠ 7 ∧ r ≠ 8 ∧ q_fr r 0 = r + 1
theorem g_5 {b : Nat → Int} {N w r : Nat} {M0 : q_Mem} {σ σ' : t_S} {o d e : Nat} {R : List Int} {M M' : q_Mem} (hr : z_r r) (h : z_G b N w r M0 σ o d R M) (h5 : z_5 M M') (hS : z_S b N σ' M') (hp : ∀ p' j', σ' = .inl (p', j') → ∃ p j, σ = .inl (p, j) ∧ p + e ≤ p') : z_G b N w r M0 σ' o (d + e) R M' := by
  obtain ⟨r1, r2, r3, r4⟩ := hr
  obtain ⟨h1, h2, ⟨h3, h4, h6⟩, h7, h8⟩ := h
  refine ⟨z5_T h1 h5, hS, ⟨by rw [h5 8 1 (by omega), h3], by rw [h5 8 2 (by omega), h4], by rw [h5 8 3 (by omega), h6]⟩, ?_, fun a k ha hb hc hd => by rw [h5 a k ha, h8 a k ha hb hc hd]⟩
  intro p' j' e'
  obtain ⟨p, j, e1, e2⟩ := hp p' j' e'
  obtain ⟨g1, g2, g3⟩ := h7 p j e1
  exact ⟨by rw [h5 r 1 (by omega), g1], stk_fr (fun i _ => h5 _ _ (by omega)) g2, by omega⟩
theorem g_d {b : Nat → Int} {N w r : Nat} {M0 : q_Mem} {σ : t_S} {o d e : Nat} {R : List Int} {M : q_Mem} (h : z_G b N w r M0 σ o (d + e) R M) : z_G b N w r M0 σ o d R M := by
  obtain ⟨h1, h2, h3, h7, h8⟩ := h
  refine ⟨h1, h2, h3, ?_, h8⟩
  intro p j e'
  obtain ⟨g1, g2, g3⟩ := h7 p j e'
  exact ⟨g1, g2, by omega⟩
theorem g_f {b : Nat → Int} {N w r : Nat} {M0 : q_Mem} {k pl : Int} {o d d' : Nat} {R R' : List Int} {M : q_Mem} (h : z_G b N w r M0 (.inr (k, pl)) o d R M) : z_G b N w r M0 (.inr (k, pl)) o d' R' M := ⟨h.1, h.2.1, h.2.2.1, fun _ _ e => (by cases e), h.2.2.2.2⟩
theorem g_f2 {b : Nat → Int} {N w r : Nat} {M0 : q_Mem} {σ : t_S} {o d d' : Nat} {R R' : List Int} {M : q_Mem} (hf : u_ok σ = false) (h : z_G b N w r M0 σ o d R M) : z_G b N w r M0 σ o d' R' M := by
  rcases σ with ⟨p, j⟩ | ⟨k, pl⟩
  · cases hf
  · exact g_f h
theorem st_p {b : Nat → Int} {N : Nat} {σ : t_S} {M : q_Mem} (hS : z_S b N σ M) (hn : u_nz b N σ) : ∀ p' j', u_st b N σ = .inl (p', j') → ∃ p j, σ = .inl (p, j) ∧ p + 1 ≤ p' := by
  intro p' j' e'
  rcases σ with ⟨p, j⟩ | ⟨k, pl⟩
  · refine ⟨p, j, rfl, ?_⟩
    cases e'
    exact (np_c hS.1.2.2.2.2.2).2.2 hn
  · cases e'
theorem g_st {b : Nat → Int} {N w r : Nat} {M0 : q_Mem} {σ : t_S} {o d : Nat} {R : List Int} {M : q_Mem} (hr : z_r r) (h : z_G b N w r M0 σ o d R M) (hn : u_nz b N σ) : q_P (fX8_step M) (fun _ M' => z_G b N w r M0 (u_st b N σ) o (d + 1) R M') :=
  w_mono (c_st h.1 h.2.1) (fun _ M' g => g_5 (e := 1) hr h g.1 g.2 (st_p h.2.1 hn))
theorem g_fl {b : Nat → Int} {N w r : Nat} {M0 : q_Mem} {σ : t_S} {o d d' : Nat} {R R' : List Int} {M : q_Mem} (hr : z_r r) (h : z_G b N w r M0 σ o d R M) {k : Int} (hk : 1 ≤ k ∧ k ≤ 5) : ∃ M', fX8_fail k (M.2 5 1) M = some (0, M') ∧ z_G b N w r M0 (u_fl k (u_p σ) σ) o d' R' M' := by
  obtain ⟨M', g1, g2, g3⟩ := c_fail h.2.1 (k := k) (pl := M.2 5 1) hk
  have e : u_fl k (M.2 5 1) σ = u_fl k (u_p σ) σ := by
    rcases σ with ⟨p, j⟩ | ⟨k', pl⟩
    · show (Sum.inr (k, M.2 5 1) : t_S) = .inr (k, (p : Int))
      rw [h.2.1.1.1]
    · rfl
  rw [e] at g3
  refine ⟨M', g1, g_f2 (d := d + 0) (R := R) ok_fl (g_5 (e := 0) hr h g2 g3 ?_)⟩
  intro p' j' e'
  rcases σ with ⟨p, j⟩ | ⟨k', pl⟩ <;> cases e'
theorem g_83 {b : Nat → Int} {N w r : Nat} {M0 : q_Mem} {σ : t_S} {o o' d : Nat} {R : List Int} {M : q_Mem} {v : Int} (hr : z_r r) (h : z_G b N w r M0 σ o d R M) (hv : v = (o' : Int)) : z_G b N w r M0 σ o' d R (q_up M 8 3 v) := by
  obtain ⟨r1, r2, r3, r4⟩ := hr
  obtain ⟨h1, h2, ⟨h3, h4, h6⟩, h7, h8⟩ := h
  refine ⟨tp_fr h1 (fun a j ha => up_ne (by omega)), ?_, ⟨by rw [up_ne (by omega), h3], by rw [up_ne (by omega), h4], by rw [up_rd, if_pos ⟨rfl, rfl⟩, hv]⟩, ?_, fun a k ha hb hc hd => by rw [up_ne (by omega), h8 a k ha hb hc hd]⟩
  · rcases σ with ⟨p, j⟩ | ⟨k', pl⟩
    · obtain ⟨⟨i1, i2, i3, i4, i5, i6⟩, i7⟩ := h2
      exact ⟨⟨by rw [up_ne (by omega), i1], by rw [up_ne (by omega), i2], by rw [up_ne (by omega), i3], by rw [up_ne (by omega), i4], by rw [up_ne (by omega), i5], i6⟩, by rw [up_ne (by omega), i7]⟩
    · obtain ⟨i1, i2, i3, i4⟩ := h2
      exact ⟨by rw [up_ne (by omega), i1], by rw [up_ne (by omega), i2], by rw [up_ne (by omega), i3], i4⟩
  · intro p j e'
    obtain ⟨g1, g2, g3⟩ := h7 p j e'
    exact ⟨by rw [up_ne (by omega), g1], stk_fr (fun i _ => up_ne (by omega)) g2, g3⟩
theorem g_e24 {b : Nat → Int} {N w r : Nat} {M0 : q_Mem} {σ : t_S} {o d : Nat} {R : List Int} {M : q_Mem} (hr : z_r r) (h : z_G b N w r M0 σ o d R M) (hn : u_nz b N σ) : q_P (fX4_enter_24 M) (fun _ M' => z_G b N w r M0 (u_st b N σ) (o + 1) (d + 1) R M') := by
  unfold fX4_enter_24
  rw [q_le, h.2.2.1.2.2]
  exact w_call (g_st hr (g_83 (o' := o + 1) hr h (by omega)) hn) (fun _ M' g => w_some.mpr g)
theorem g_en {b : Nat → Int} {N w r : Nat} {M0 : q_Mem} {σ : t_S} {o d : Nat} {R : List Int} {M : q_Mem} (hr : z_r r) (ho : o ≤ 100) (h : z_G b N w r M0 σ o d R M) (hn : u_nz b N σ) : q_P (fX4_enter M) (fun _ M' => z_G b N w r M0 (u_en b N o σ) (o + 1) (d + 1) R M') := by
  unfold fX4_enter u_en
  rw [h.2.2.1.2.2, n_w (by omega) (by omega), show q_w 6 = 6 from rfl]
  by_cases c : o < 6
  · rw [if_pos (by omega), if_pos c]
    exact g_e24 hr h hn
  · rw [if_neg (by omega), if_neg c]
    obtain ⟨M1, g1, g2⟩ := g_fl (d' := d) (R' := R) hr h (k := 4) (by omega)
    rw [g1, b_some]
    have e : u_st b N (u_fl 4 (u_p σ) σ) = u_fl 4 (u_p σ) σ := by
      rcases σ with ⟨p, j⟩ | ⟨k', pl⟩ <;> rfl
    have e2 : u_nz b N (u_fl 4 (u_p σ) σ) := by
      rcases σ with ⟨p, j⟩ | ⟨k', pl⟩ <;> trivial
    have := g_e24 hr g2 e2
    rw [e] at this
    exact this
theorem g_lv {b : Nat → Int} {N w r : Nat} {M0 : q_Mem} {σ : t_S} {o d : Nat} {R : List Int} {M : q_Mem} (hr : z_r r) (h : z_G b N w r M0 σ (o + 1) d R M) : q_P (fX4_leave M) (fun _ M' => z_G b N w r M0 σ o d R M') := by
  unfold fX4_leave
  rw [q_le, h.2.2.1.2.2]
  exact w_some.mpr (g_83 (o' := o) hr h (by omega))
theorem g_put {b : Nat → Int} {N w r : Nat} {M0 : q_Mem} {σ : t_S} {o d : Nat} {R : List Int} {M : q_Mem} (hr : z_r r) (h : z_G b N w r M0 σ o (d + 1) R M) {v x : Int} (hx : u_ok σ = true → x = q_enc v) : q_P (fX0_put r x M) (fun _ M' => z_G b N w r M0 σ o d (v :: R) M') := by
  obtain ⟨r1, r2, r3, r4⟩ := hr
  have key : ∀ (i : Nat) (z : Int), (∀ p j, σ = .inl (p, j) → i = R.length ∧ z = ((R.length + 1 : Nat) : Int)) → z_G b N w r M0 σ o d (v :: R) (q_up (q_up M (r + 1) i x) r 1 z) := by
    intro i z hiz
    obtain ⟨h1, h2, ⟨h3, h4, h6⟩, h7, h8⟩ := h
    refine ⟨tp_fr h1 (fun a j ha => by rw [up_ne (by omega), up_ne (by omega)]), ?_, ⟨by rw [up_ne (by omega), up_ne (by omega), h3], by rw [up_ne (by omega), up_ne (by omega), h4], by rw [up_ne (by omega), up_ne (by omega), h6]⟩, ?_, fun a k ha hb hc hd => by rw [up_ne (by omega), up_ne (by omega), h8 a k ha hb hc hd]⟩
    · rcases σ with ⟨p, j⟩ | ⟨k', pl⟩
      · obtain ⟨⟨i1, i2, i3, i4, i5, i6⟩, i7⟩ := h2
        exact ⟨⟨by rw [up_ne (by omega), up_ne (by omega), i1], by rw [up_ne (by omega), up_ne (by omega), i2], by rw [up_ne (by omega), up_ne (by omega), i3], by rw [up_ne (by omega), up_ne (by omega), i4], by rw [up_ne (by omega), up_ne (by omega), i5], i6⟩, by rw [up_ne (by omega), up_ne (by omega), i7]⟩
      · obtain ⟨i1, i2, i3, i4⟩ := h2
        exact ⟨by rw [up_ne (by omega), up_ne (by omega), i1], by rw [up_ne (by omega), up_ne (by omega), i2], by rw [up_ne (by omega), up_ne (by omega), i3], i4⟩
    · intro p j e'
      obtain ⟨g1, g2, g3⟩ := h7 p j e'
      obtain ⟨i1, i2⟩ := hiz p j e'
      subst i1
      refine ⟨by rw [up_rd, if_pos ⟨rfl, rfl⟩, i2, List.length_cons], ?_, by rw [List.length_cons]; omega⟩
      rw [List.map_cons]
      refine stk_pu g2 ?_ ?_
      · rw [List.length_map, up_ne (by omega), up_rd, if_pos ⟨rfl, rfl⟩, hx (by rw [e']; rfl)]
      · intro i hi
        rw [List.length_map] at hi
        rw [up_ne (by omega), up_ne (by omega)]
  unfold fX0_put
  rw [r4, show q_w ((1600 : Nat) : Int) = 1600 from rfl]
  rcases σ with ⟨p, j⟩ | ⟨k', pl⟩
  · obtain ⟨g1, g2, g3⟩ := h.2.2.2.1 p j rfl
    have hp := h.2.1.1.2.2.2.2.2
    have hN := h.1.2.2.2
    rw [g1, n_w (by omega) (by omega), if_neg (by omega), if_pos (by omega), b_sto (by omega) (by omega) (by omega), Option.bind_some, q_le, Int.toNat_natCast, up_ne (by omega), g1]
    exact w_some.mpr (key _ _ (fun _ _ _ => ⟨rfl, by omega⟩))
  · by_cases c1 : q_w (M.2 r 1) < 0
    · rw [if_pos c1]
      exact w_some.mpr (g_f h)
    · rw [if_neg c1]
      by_cases c2 : q_w (M.2 r 1) < 1600
      · rw [if_pos c2]
        unfold q_sto
        rw [if_pos ⟨by omega, by omega⟩, Option.bind_some, q_le]
        exact w_some.mpr (key _ _ (fun _ _ e => by cases e))
      · rw [if_neg c2]
        exact w_some.mpr (g_f h)
theorem g_op {b : Nat → Int} {N w r : Nat} {M0 : q_Mem} {σ : t_S} {o d : Nat} {R : List Int} {M : q_Mem} (hr : z_r r) (h : z_G b N w r M0 σ o (d + 1) R M) {v x : Int} (hx : u_ok σ = true → 10000 + x = q_enc v) : q_P (fX0_putOperation (M.2 8 1).toNat x M) (fun _ M' => z_G b N w r M0 σ o d (v :: R) M') := by
  unfold fX0_putOperation
  rw [h.2.2.1.1, Int.toNat_natCast]
  exact w_call (g_put hr h hx) (fun _ M' g => w_some.mpr g)
theorem g_tZ {b : Nat → Int} {N w r : Nat} {M0 : q_Mem} {σ : t_S} {o d : Nat} {R : List Int} {M : q_Mem} (hr : z_r r) (h : z_G b N w r M0 σ o d R M) {c : Int} (hc : 0 ≤ c ∧ c ≤ 1000) : q_P (fX8_takeSign c M) (fun _ M' => z_G b N w r M0 (u_Z b N c σ) o d R M') := by
  refine w_mono (c_tZ h.1 h.2.1 hc) (fun _ M' g => g_5 (e := 0) hr h g.1 g.2 ?_)
  intro p' j' e'
  unfold u_Z at e'
  by_cases c' : u_isS b N c σ = true
  · rw [if_pos c'] at e'
    obtain ⟨p, j, e1, e2⟩ := st_p h.2.1 (isS_nz c') p' j' e'
    exact ⟨p, j, e1, by omega⟩
  · rw [if_neg c'] at e'
    rcases σ with ⟨p, j⟩ | ⟨k', pl⟩ <;> cases e'
theorem N_p {b : Nat → Int} {N : Nat} {σ : t_S} {M : q_Mem} {lo hi : Int} (hS : z_S b N σ M) : ∀ p' j', (u_N b N lo hi σ).2 = .inl (p', j') → ∃ p j, σ = .inl (p, j) ∧ p + 1 ≤ p' := by
  intro p' j' e'
  rcases σ with ⟨p, j⟩ | ⟨k', pl⟩
  · rw [u_N] at e'
    by_cases c1 : t_kind b N p j = 2
    · rw [if_pos c1] at e'
      by_cases c2 : 4 < t_end b N p - p
      · rw [if_pos c2] at e'; cases e'
      · rw [if_neg c2] at e'
        by_cases c3 : t_val b N p < lo ∨ hi < t_val b N p
        · rw [if_pos c3] at e'; cases e'
        · rw [if_neg c3] at e'
          exact st_p hS (isN_nz (σ := .inl (p, j)) (decide_eq_true c1)) p' j' e'
    · rw [if_neg c1] at e'; cases e'
  · cases e'
theorem g_tN {b : Nat → Int} {N w r : Nat} {M0 : q_Mem} {σ : t_S} {o d : Nat} {R : List Int} {M : q_Mem} (hr : z_r r) (h : z_G b N w r M0 σ o d R M) {lo hi : Int} (hl : 0 ≤ lo ∧ lo ≤ 100000) (hh : 0 ≤ hi ∧ hi ≤ 100000) : q_P (fX8_takeNumber lo hi M) (fun x M' => z_G b N w r M0 (u_N b N lo hi σ).2 o (d + 1) R M' ∧ x = (u_N b N lo hi σ).1) :=
  w_mono (c_tN h.1 h.2.1 hl hh) (fun _ M' g => ⟨g_5 (e := 1) hr h g.1 g.2.1 (N_p h.2.1), g.2.2⟩)
theorem N_v {b : Nat → Int} {N : Nat} {σ : t_S} {lo hi : Int} (hl : 0 ≤ lo) : 0 ≤ (u_N b N lo hi σ).1 := by
  rcases σ with ⟨p, j⟩ | ⟨k', pl⟩
  · rw [u_N]
    by_cases c1 : t_kind b N p j = 2
    · rw [if_pos c1]
      by_cases c2 : 4 < t_end b N p - p
      · rw [if_pos c2]; exact Int.le_refl _
      · rw [if_neg c2]
        by_cases c3 : t_val b N p < lo ∨ hi < t_val b N p
        · rw [if_pos c3]; exact Int.le_refl _
        · rw [if_neg c3]
          show 0 ≤ t_val b N p
          omega
    · rw [if_neg c1]; exact Int.le_refl _
  · exact Int.le_refl _
theorem e_num {v : Int} (h : 0 ≤ v) : v = q_enc (1000 + v) := by
  unfold q_enc
  rw [if_pos (by omega)]
  omega
theorem isW_v {b : Nat → Int} {N w r : Nat} {M0 : q_Mem} {σ : t_S} {o d : Nat} {R : List Int} {M : q_Mem} {c : Int} (h : z_G b N w r M0 σ o d R M) (hc : u_isW b N c σ = true) : M.2 5 4 = c := by
  rcases σ with ⟨p, j⟩ | ⟨k', pl⟩
  · have h1 := of_decide_eq_true (Bool.and_eq_true_iff.mp hc).2
    rw [h.2.1.1.2.2.2.1]
    exact h1
  · cases hc
theorem isS_v {b : Nat → Int} {N w r : Nat} {M0 : q_Mem} {σ : t_S} {o d : Nat} {R : List Int} {M : q_Mem} {c : Int} (h : z_G b N w r M0 σ o d R M) (hc : u_isS b N c σ = true) : M.2 5 4 = c := by
  rcases σ with ⟨p, j⟩ | ⟨k', pl⟩
  · have h1 := of_decide_eq_true (Bool.and_eq_true_iff.mp hc).2
    rw [h.2.1.1.2.2.2.1]
    exact h1
  · cases hc
/-- the fuel is enough -/
def h_D (o t k : Nat) (σ : t_S) : Prop := 6 - t < k ∧ o ≤ 50 ∧ (u_ok σ = true → o ≤ 6 ∧ 7 * (7 - o) + (6 - t) < k)
theorem D_G {b : Nat → Int} {N w o t k k' t' o' t2 : Nat} {r : t_R} (h : h_D o t k r.1) : h_D o t k (s_G b N w k' t' o' r).1 := ⟨h.1, h.2.1, fun g => h.2.2 (ok_G _ _ _ _ g)⟩
theorem D_st {b : Nat → Int} {N o t k : Nat} {σ : t_S} (h : h_D o t k σ) : h_D o t k (u_st b N σ) := ⟨h.1, h.2.1, fun g => h.2.2 (by rw [ok_st] at g; exact g)⟩
theorem D_Z {b : Nat → Int} {N o t k : Nat} {c : Int} {σ : t_S} (h : h_D o t k σ) : h_D o t k (u_Z b N c σ) := ⟨h.1, h.2.1, fun g => h.2.2 (ok_Z g).1⟩
theorem D_fl {o t k : Nat} {c pl : Int} {σ : t_S} (h : h_D o t k σ) : h_D o t k (u_fl c pl σ) := ⟨h.1, h.2.1, fun g => by rw [ok_fl] at g; cases g⟩
theorem D_en {b : Nat → Int} {N o t k t' : Nat} {σ : t_S} (h : h_D o t (k + 1) σ) (ho : u_ok σ = true) : h_D (o + 1) t' k (u_en b N o σ) := by
  obtain ⟨h1, h2, h3⟩ := h
  have h4 := h3 ho
  refine ⟨by omega, by omega, fun g => ?_⟩
  have := (ok_en g).2
  omega
theorem D_s {o t k t' : Nat} {σ : t_S} (h : h_D o t (k + 1) σ) (ht : t < t') (ht6 : t' ≤ 6) : h_D o t' k σ := by
  obtain ⟨h1, h2, h3⟩ := h
  refine ⟨by omega, by omega, fun g => ?_⟩
  have := h3 g
  omega
def h_I (b : Nat → Int) (N w r : Nat) (M0 : q_Mem) (k : Nat) : Prop := ∀ (t o d : Nat) (σ : t_S) (R : List Int) (M : q_Mem), t ≤ 6 → h_D o t k σ → (t = 6 → u_nz b N σ) → z_G b N w r M0 σ o d R M → q_P (fG k t M) (fun _ M' => z_G b N w r M0 (s_G b N w k t o (σ, R)).1 o (d + t / 6) (s_G b N w k t o (σ, R)).2 M')
theorem g_test {b : Nat → Int} {N w r : Nat} {M0 : q_Mem} {k o : Nat} (hr : z_r r) (ih : h_I b N w r M0 k) : ∀ (n x f d : Nat) (σ : t_S) (R : List Int) (M : q_Mem), x + n = 1600 → n < f → h_D o 1 k σ → z_G b N w r M0 σ o d R M → q_P (fX4_test_6 (fG k) f (x : Int) M) (fun _ M' => z_G b N w r M0 (s_lp (u_or b N) (u_st b N) (s_G b N w k 1 o) n (σ, R)).1 o d (s_lp (u_or b N) (u_st b N) (s_G b N w k 1 o) n (σ, R)).2 M') := by
  intro n
  induction n with
  | zero =>
    intro x f d σ R M hx hf hD h
    cases f with
    | zero => omega
    | succ f =>
      rw [fX4_test_6, n_w (by omega) (by omega), show q_w 1600 = 1600 from rfl, if_neg (by omega)]
      exact w_some.mpr h
  | succ n ihn =>
    intro x f d σ R M hx hf hD h
    cases f with
    | zero => omega
    | succ f =>
      rw [fX4_test_6, n_w (by omega) (by omega), show q_w 1600 = 1600 from rfl, if_pos (by omega), c_isW h.1 h.2.1 (by omega), b_some, f_ite, s_lp]
      by_cases c : u_isW b N 19 σ = true
      · have hu : u_or b N σ = 11 := by unfold u_or; rw [if_pos c]
        rw [if_pos c, if_neg (by rw [hu]; decide), hu]
        refine w_call (g_st hr h (isW_nz c)) ?_
        intro _ M2 h2
        refine w_call (ih 1 o (d + 1) _ R M2 (by omega) (D_st hD) (by omega) h2) ?_
        intro _ M3 h3
        rw [q_le]
        refine w_call (g_op (v := 11) hr (d := d) h3 (fun _ => rfl)) ?_
        intro _ M4 h4
        rw [show (x : Int) + 1 = ((x + 1 : Nat) : Int) from by omega]
        exact ihn (x + 1) f d _ _ M4 (by omega) (by omega) (D_G (t2 := 0) (D_st hD)) h4
      · have hu : u_or b N σ = 0 := by unfold u_or; rw [if_neg c]
        rw [if_neg c, if_pos hu]
        exact w_some.mpr h
theorem g_both {b : Nat → Int} {N w r : Nat} {M0 : q_Mem} {k o : Nat} (hr : z_r r) (ih : h_I b N w r M0 k) : ∀ (n x f d : Nat) (σ : t_S) (R : List Int) (M : q_Mem), x + n = 1600 → n < f → h_D o 2 k σ → z_G b N w r M0 σ o d R M → q_P (fX4_both_6 (fG k) f (x : Int) M) (fun _ M' => z_G b N w r M0 (s_lp (u_and b N) (u_st b N) (s_G b N w k 2 o) n (σ, R)).1 o d (s_lp (u_and b N) (u_st b N) (s_G b N w k 2 o) n (σ, R)).2 M') := by
  intro n
  induction n with
  | zero =>
    intro x f d σ R M hx hf hD h
    cases f with
    | zero => omega
    | succ f =>
      rw [fX4_both_6, n_w (by omega) (by omega), show q_w 1600 = 1600 from rfl, if_neg (by omega)]
      exact w_some.mpr h
  | succ n ihn =>
    intro x f d σ R M hx hf hD h
    cases f with
    | zero => omega
    | succ f =>
      rw [fX4_both_6, n_w (by omega) (by omega), show q_w 1600 = 1600 from rfl, if_pos (by omega), c_isW h.1 h.2.1 (by omega), b_some, f_ite, s_lp]
      by_cases c : u_isW b N 20 σ = true
      · have hu : u_and b N σ = 10 := by unfold u_and; rw [if_pos c]
        rw [if_pos c, if_neg (by rw [hu]; decide), hu]
        refine w_call (g_st hr h (isW_nz c)) ?_
        intro _ M2 h2
        refine w_call (ih 2 o (d + 1) _ R M2 (by omega) (D_st hD) (by omega) h2) ?_
        intro _ M3 h3
        rw [q_le]
        refine w_call (g_op (v := 10) hr (d := d) h3 (fun _ => rfl)) ?_
        intro _ M4 h4
        rw [show (x : Int) + 1 = ((x + 1 : Nat) : Int) from by omega]
        exact ihn (x + 1) f d _ _ M4 (by omega) (by omega) (D_G (t2 := 0) (D_st hD)) h4
      · have hu : u_and b N σ = 0 := by unfold u_and; rw [if_neg c]
        rw [if_neg c, if_pos hu]
        exact w_some.mpr h
theorem g_sum {b : Nat → Int} {N w r : Nat} {M0 : q_Mem} {k o : Nat} (hr : z_r r) (ih : h_I b N w r M0 k) : ∀ (n x f d : Nat) (σ : t_S) (R : List Int) (M : q_Mem), x + n = 1600 → n < f → h_D o 4 k σ → z_G b N w r M0 σ o d R M → q_P (fX4_sum_6 (fG k) f (x : Int) M) (fun _ M' => z_G b N w r M0 (s_lp (u_add b N) (u_st b N) (s_G b N w k 4 o) n (σ, R)).1 o d (s_lp (u_add b N) (u_st b N) (s_G b N w k 4 o) n (σ, R)).2 M') := by
  intro n
  induction n with
  | zero =>
    intro x f d σ R M hx hf hD h
    cases f with
    | zero => omega
    | succ f =>
      rw [fX4_sum_6, n_w (by omega) (by omega), show q_w 1600 = 1600 from rfl, if_neg (by omega)]
      exact w_some.mpr h
  | succ n ihn =>
    intro x f d σ R M hx hf hD h
    cases f with
    | zero => omega
    | succ f =>
      have go : ∀ cc v : Int, 10000 + cc = q_enc v → u_isS b N cc σ = true → u_add b N σ = v → v ≠ 0 → q_P (fX4_sum_37 (fG k) (fX4_sum_6 (fG k) f) (x : Int) M) (fun _ M' => z_G b N w r M0 (s_lp (u_add b N) (u_st b N) (s_G b N w k 4 o) (n + 1) (σ, R)).1 o d (s_lp (u_add b N) (u_st b N) (s_G b N w k 4 o) (n + 1) (σ, R)).2 M') := by
        intro cc v hcv c hu hv
        rw [s_lp, if_neg (by rw [hu]; exact hv), hu]
        unfold fX4_sum_37
        rw [q_le, isS_v h c]
        refine w_call (g_st hr h (isS_nz c)) ?_
        intro _ M2 h2
        refine w_call (ih 4 o (d + 1) _ R M2 (by omega) (D_st hD) (by omega) h2) ?_
        intro _ M3 h3
        rw [q_le]
        refine w_call (g_op (v := v) hr (d := d) h3 (fun _ => hcv)) ?_
        intro _ M4 h4
        rw [show (x : Int) + 1 = ((x + 1 : Nat) : Int) from by omega]
        exact ihn (x + 1) f d _ _ M4 (by omega) (by omega) (D_G (t2 := 0) (D_st hD)) h4
      rw [fX4_sum_6, n_w (by omega) (by omega), show q_w 1600 = 1600 from rfl, if_pos (by omega), c_isS h.1 h.2.1 (by omega), b_some, f_ite]
      by_cases c : u_isS b N 43 σ = true
      · rw [if_pos c]
        exact go 43 1 (by rfl) c (by unfold u_add; rw [if_pos c]) (by decide)
      · rw [if_neg c, c_isS h.1 h.2.1 (by omega), b_some, f_ite]
        by_cases c' : u_isS b N 45 σ = true
        · rw [if_pos c']
          exact go 45 2 (by rfl) c' (by unfold u_add; rw [if_neg c, if_pos c']) (by decide)
        · rw [if_neg c', s_lp, if_pos (by unfold u_add; rw [if_neg c, if_neg c'])]
          exact w_some.mpr h
theorem g_product {b : Nat → Int} {N w r : Nat} {M0 : q_Mem} {k o : Nat} (hr : z_r r) (ih : h_I b N w r M0 k) : ∀ (n x f d : Nat) (σ : t_S) (R : List Int) (M : q_Mem), x + n = 1600 → n < f → h_D o 5 k σ → z_G b N w r M0 σ o d R M → q_P (fX4_product_6 (fG k) f (x : Int) M) (fun _ M' => z_G b N w r M0 (s_lp (u_mul b N) (u_st b N) (s_G b N w k 5 o) n (σ, R)).1 o d (s_lp (u_mul b N) (u_st b N) (s_G b N w k 5 o) n (σ, R)).2 M') := by
  intro n
  induction n with
  | zero =>
    intro x f d σ R M hx hf hD h
    cases f with
    | zero => omega
    | succ f =>
      rw [fX4_product_6, n_w (by omega) (by omega), show q_w 1600 = 1600 from rfl, if_neg (by omega)]
      exact w_some.mpr h
  | succ n ihn =>
    intro x f d σ R M hx hf hD h
    cases f with
    | zero => omega
    | succ f =>
      have go : ∀ cc v : Int, 10000 + cc = q_enc v → u_isS b N cc σ = true → u_mul b N σ = v → v ≠ 0 → q_P (fX4_product_37 (fG k) (fX4_product_6 (fG k) f) (x : Int) M) (fun _ M' => z_G b N w r M0 (s_lp (u_mul b N) (u_st b N) (s_G b N w k 5 o) (n + 1) (σ, R)).1 o d (s_lp (u_mul b N) (u_st b N) (s_G b N w k 5 o) (n + 1) (σ, R)).2 M') := by
        intro cc v hcv c hu hv
        rw [s_lp, if_neg (by rw [hu]; exact hv), hu]
        unfold fX4_product_37
        rw [q_le, isS_v h c]
        refine w_call (g_st hr h (isS_nz c)) ?_
        intro _ M2 h2
        refine w_call (ih 5 o (d + 1) _ R M2 (by omega) (D_st hD) (by omega) h2) ?_
        intro _ M3 h3
        rw [q_le]
        refine w_call (g_op (v := v) hr (d := d) h3 (fun _ => hcv)) ?_
        intro _ M4 h4
        rw [show (x : Int) + 1 = ((x + 1 : Nat) : Int) from by omega]
        exact ihn (x + 1) f d _ _ M4 (by omega) (by omega) (D_G (t2 := 0) (D_st hD)) h4
      rw [fX4_product_6, n_w (by omega) (by omega), show q_w 1600 = 1600 from rfl, if_pos (by omega), c_isS h.1 h.2.1 (by omega), b_some, f_ite]
      by_cases c : u_isS b N 42 σ = true
      · rw [if_pos c]
        exact go 42 3 (by rfl) c (by unfold u_mul; rw [if_pos c]) (by decide)
      · rw [if_neg c, c_isS h.1 h.2.1 (by omega), b_some, f_ite]
        by_cases c' : u_isS b N 47 σ = true
        · rw [if_pos c']
          exact go 47 4 (by rfl) c' (by unfold u_mul; rw [if_neg c, if_pos c']) (by decide)
        · rw [if_neg c', s_lp, if_pos (by unfold u_mul; rw [if_neg c, if_neg c'])]
          exact w_some.mpr h
