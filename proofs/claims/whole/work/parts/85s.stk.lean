/-! texts: the other side's stack -/
def z_fr (M0 M : q_Mem) : Prop := ∀ a k, a ≠ 162 → a ≠ 163 → ¬ (a = 94 ∧ (k = 2 ∨ k = 4 ∨ k = 5 ∨ k = 6 ∨ k = 35 ∨ k = 91 ∨ k = 93 ∨ k = 94 ∨ k = 95)) → M.2 a k = M0.2 a k
theorem fr_94 {M0 M M' : q_Mem} (h : z_fr M0 M) (h9 : z_94 M M') : z_fr M0 M' := fun a k h1 h2 h3 => by rw [h9 a k (by omega), h a k h1 h2 h3]
def z_C (b : Nat → Int) (N w base : Nat) (M0 : q_Mem) (σ : t_S) (T : List Int) (o d : Int) (R : List Int) (M : q_Mem) : Prop := z_ot b N M ∧ z_O b N σ M ∧ (M.2 94 93 = (T.length : Int) ∧ M.2 94 94 = o ∧ M.2 94 95 = (base : Int) ∧ M.2 94 91 = (R.length : Int) ∧ M.2 94 48 = (w : Int)) ∧ (z_stk (M.2 163) T ∧ z_stk (M.2 162) R ∧ ∀ v ∈ T, 0 ≤ v ∧ v ≤ 100) ∧ (∀ p j, σ = .inl (p, j) → (R.length : Int) + (T.length : Int) + d ≤ (p : Int)) ∧ z_fr M0 M
/-- a fault: codes may still have come -/
def z_F (b : Nat → Int) (N : Nat) (M0 : q_Mem) (e : Int) (σ : t_S) (M : q_Mem) : Prop := u_ok σ = false ∧ z_ot b N M ∧ z_O b N σ M ∧ (0 ≤ M.2 94 91 ∧ M.2 94 91 ≤ 1600 + e) ∧ z_fr M0 M
theorem C_94 {b : Nat → Int} {N w base : Nat} {M0 : q_Mem} {σ σ' : t_S} {T R : List Int} {o d : Int} {e : Nat} {M M' : q_Mem} (h : z_C b N w base M0 σ T o d R M) (h9 : z_94 M M') (hO : z_O b N σ' M') (hp : ∀ p' j', σ' = .inl (p', j') → ∃ p j, σ = .inl (p, j) ∧ p + e ≤ p') : z_C b N w base M0 σ' T o (d + e) R M' := by
  obtain ⟨h1, h2, ⟨h3, h4, h5, h6, h6'⟩, ⟨h7, h8, h8'⟩, h10, h11⟩ := h
  refine ⟨z94_T h1 h9, hO, ⟨by rw [h9 94 93 (by omega), h3], by rw [h9 94 94 (by omega), h4], by rw [h9 94 95 (by omega), h5], by rw [h9 94 91 (by omega), h6], by rw [h9 94 48 (by omega), h6']⟩, ⟨stk_fr (fun i _ => h9 _ _ (by omega)) h7, stk_fr (fun i _ => h9 _ _ (by omega)) h8, h8'⟩, ?_, fr_94 h11 h9⟩
  intro p' j' e'
  obtain ⟨p, j, e1, e2⟩ := hp p' j' e'
  have := h10 p j e1
  omega
theorem C_w {b : Nat → Int} {N w base : Nat} {M0 : q_Mem} {σ : t_S} {T R : List Int} {o d d' : Int} {M : q_Mem} (h : z_C b N w base M0 σ T o d R M) (hd : d' ≤ d) : z_C b N w base M0 σ T o d' R M := by
  obtain ⟨h1, h2, h3, h4, h5, h6⟩ := h
  exact ⟨h1, h2, h3, h4, fun p j e' => by have := h5 p j e'; omega, h6⟩
theorem C_s {b : Nat → Int} {N w base : Nat} {M0 : q_Mem} {σ : t_S} {T R : List Int} {o d : Int} {M M' : q_Mem} (h : z_C b N w base M0 σ T o d R M) (h9 : z_94 M M') (hO : z_O b N σ M') : z_C b N w base M0 σ T o d R M' := C_w (C_94 (e := 0) h h9 hO (fun p j e => ⟨p, j, e, Nat.le_refl _⟩)) (by omega)
theorem O_p {b : Nat → Int} {N : Nat} {σ : t_S} {M : q_Mem} (hO : z_O b N σ M) (hn : u_nz b N σ) : ∀ p' j', u_st b N σ = .inl (p', j') → ∃ p j, σ = .inl (p, j) ∧ p + 1 ≤ p' := by
  intro p' j' e'
  rcases σ with ⟨p, j⟩ | ⟨k, pl⟩
  · refine ⟨p, j, rfl, ?_⟩
    cases e'
    exact (np_c hO.2.1).2.2 hn
  · cases e'
theorem C_pN {b : Nat → Int} {N w base : Nat} {M0 : q_Mem} {p : Nat} {j : Bool} {T R : List Int} {o d : Int} {M : q_Mem} (h : z_C b N w base M0 (.inl (p, j)) T o d R M) : (R.length : Int) + (T.length : Int) + d ≤ (p : Int) ∧ p ≤ N ∧ N ≤ 1600 := ⟨h.2.2.2.2.1 p j rfl, h.2.1.2.1, h.1.2.2.2⟩
theorem C_F {b : Nat → Int} {N w base : Nat} {M0 : q_Mem} {σ : t_S} {T R : List Int} {o d : Int} {M : q_Mem} (hf : u_ok σ = false) (hR : R.length ≤ 1600) (h : z_C b N w base M0 σ T o d R M) : z_F b N M0 0 σ M := ⟨hf, h.1, h.2.1, by rw [h.2.2.1.2.2.2.1]; omega, h.2.2.2.2.2⟩
theorem C_look {b : Nat → Int} {N w base : Nat} {M0 : q_Mem} {p : Nat} {j : Bool} {T R : List Int} {o d : Int} {M : q_Mem} (h : z_C b N w base M0 (.inl (p, j)) T o d R M) : ∃ M', fX12_look M = some (t_at b N p, M') ∧ z_C b N w base M0 (.inl (p, j)) T o d R M' ∧ z_P b N p j M' := by
  obtain ⟨M', g1, g2, g3⟩ := o_look h.1 h.2.1
  exact ⟨M', g1, C_s h (fun a k ha => g2 a k (by omega)) (P_O g3), g3⟩
theorem zw_M {M0 M : q_Mem} (hw0 : r_words M0.2) (hf : z_fr M0 M) {r : Nat} {s : List Int} (hm : (r, s) ∈ a_words) : z_w M r s := by
  intro j hj
  have h1 := a_wc _ hm
  rw [hf r j (by omega) (by omega) (by omega)]
  exact hw0 _ hm j hj
theorem C_isH {b : Nat → Int} {N w base : Nat} {M0 : q_Mem} {σ : t_S} {T R : List Int} {o d : Int} {M : q_Mem} (hw0 : r_words M0.2) (h : z_C b N w base M0 σ T o d R M) {c r m : Nat} {ci : Int} (hm : (r, t_W.getD c []) ∈ a_words ∧ c < 31 ∧ m = (t_W.getD c []).length ∧ ci = (c : Int)) : ∃ M', fX12_isHere r m M = some (if u_isW b N ci σ = true then 1 else 0, M') ∧ z_C b N w base M0 σ T o d R M' ∧ z_Q b N σ M' := by
  have h1 := a_wc _ hm.1
  obtain ⟨M', g1, g2, g3⟩ := o_isH h.1 h.2.1 hm.2.1 (by omega) (zw_M hw0 h.2.2.2.2.2 hm.1) hm.2.2.1
  rw [← hm.2.2.2] at g1
  exact ⟨M', g1, C_s h g2 (Q_O g3), g3⟩
theorem C_takes {b : Nat → Int} {N w base : Nat} {M0 : q_Mem} {σ : t_S} {T R : List Int} {o d : Int} {M : q_Mem} (hw0 : r_words M0.2) (h : z_C b N w base M0 σ T o d R M) {c r m : Nat} {ci : Int} (hm : (r, t_W.getD c []) ∈ a_words ∧ c < 31 ∧ m = (t_W.getD c []).length ∧ ci = (c : Int)) : ∃ M', fX12_takes r m M = some (if u_isW b N ci σ = true then 1 else 0, M') ∧ (u_isW b N ci σ = true → z_C b N w base M0 (u_st b N σ) T o (d + 1) R M') ∧ (¬ u_isW b N ci σ = true → z_C b N w base M0 σ T o d R M' ∧ z_Q b N σ M') := by
  have h1 := a_wc _ hm.1
  obtain ⟨M', g1, g2, g3⟩ := o_takes h.1 h.2.1 hm.2.1 (by omega) (zw_M hw0 h.2.2.2.2.2 hm.1) hm.2.2.1
  rw [← hm.2.2.2] at g1 g3
  refine ⟨M', g1, fun c => ?_, fun c => ?_⟩
  · rw [if_pos c] at g3
    exact C_94 (e := 1) h g2 g3 (O_p h.2.1 (isW_nz c))
  · rw [if_neg c] at g3
    exact ⟨C_s h g2 (Q_O g3), g3⟩
theorem C_asks {b : Nat → Int} {N w base : Nat} {M0 : q_Mem} {σ : t_S} {T R : List Int} {o d : Int} {M : q_Mem} (hw0 : r_words M0.2) (h : z_C b N w base M0 σ T o d R M) {c r m : Nat} {ci : Int} (hm : (r, t_W.getD c []) ∈ a_words ∧ c < 31 ∧ m = (t_W.getD c []).length ∧ ci = (c : Int)) (hc : u_isW b N ci σ = true) : ∃ M', fX12_asks r m M = some (0, M') ∧ z_C b N w base M0 (u_st b N σ) T o (d + 1) R M' := by
  have h1 := a_wc _ hm.1
  obtain ⟨M', g1, g2, g3⟩ := o_asks h.1 h.2.1 hm.2.1 (by omega) (zw_M hw0 h.2.2.2.2.2 hm.1) hm.2.2.1
  rw [← hm.2.2.2] at g3
  unfold u_W at g3
  rw [if_pos hc] at g3
  exact ⟨M', g1, C_94 (e := 1) h g2 g3 (O_p h.2.1 (isW_nz hc))⟩
def z_c (c : Int) : Prop := (0 ≤ c ∧ c ≤ 255) ∧ t_lt c = false ∧ t_dg c = false
theorem at_S {b : Nat → Int} {N p : Nat} {j : Bool} {c : Int} (hc : z_c c) : t_at b N p = c ↔ u_isS b N c (.inl (p, j)) = true := by
  rw [u_isS]
  constructor
  · intro e
    have hk : t_kind b N p j = 3 := kd_3.mpr ⟨by rw [e]; exact hc.2.1, by rw [e]; exact hc.2.2, by have := hc.1.1; omega⟩
    have hv : t_val b N p = c := by unfold t_val; rw [e, if_neg (by rw [hc.2.1]; decide), if_neg (by rw [hc.2.2]; decide)]
    rw [decide_eq_true hk, decide_eq_true hv]
    rfl
  · intro h
    obtain ⟨h1, h2⟩ := Bool.and_eq_true_iff.mp h
    have h1' := kd_3.mp (of_decide_eq_true h1)
    have h2' := of_decide_eq_true h2
    unfold t_val at h2'
    rw [if_neg (by rw [h1'.1]; decide), if_neg (by rw [h1'.2.1]; decide)] at h2'
    exact h2'
theorem at_b2 {b : Nat → Int} {N : Nat} {M : q_Mem} (h : z_ot b N M) (k : Nat) : -1 ≤ t_at b N k ∧ t_at b N k ≤ 255 := by
  have := h.2.2.1 k
  unfold t_at
  by_cases c : k < N
  · rw [if_pos c]; omega
  · rw [if_neg c]; omega
/-- a sign goes by -/
theorem C_adv {b : Nat → Int} {N w base : Nat} {M0 : q_Mem} {p : Nat} {j : Bool} {T R : List Int} {o d : Int} {M : q_Mem} {c : Int} (h : z_C b N w base M0 (.inl (p, j)) T o d R M) (hP : z_P b N p j M) (hc : u_isS b N c (.inl (p, j)) = true) {z : Int} (hz : z = (p : Int) + 1) : z_C b N w base M0 (u_st b N (.inl (p, j))) T o (d + 1) R (q_up M 94 2 z) := by
  subst hz
  have hk := of_decide_eq_true (Bool.and_eq_true_iff.mp hc).1
  exact C_94 (e := 1) h (fun a k ha => up_ne (by omega)) (O_st3 h.1.2.2.2 hk hP) (O_p h.2.1 (isS_nz hc))
theorem C_takeS {b : Nat → Int} {N w base : Nat} {M0 : q_Mem} {σ : t_S} {T R : List Int} {o d : Int} {M : q_Mem} (h : z_C b N w base M0 σ T o d R M) {c : Int} (hc : z_c c) : ∃ M', fX12_takesSign c M = some (if u_isS b N c σ = true then 1 else 0, M') ∧ (u_isS b N c σ = true → z_C b N w base M0 (u_st b N σ) T o (d + 1) R M' ∧ ∀ p j, σ = .inl (p, j) → M'.2 94 2 = (p : Int) + 1) ∧ (¬ u_isS b N c σ = true → z_C b N w base M0 σ T o d R M' ∧ z_Q b N σ M') := by
  unfold fX12_takesSign
  rcases σ with ⟨p, j⟩ | ⟨k, pl⟩
  · obtain ⟨M1, g1, g2, g3⟩ := C_look h
    have hat := at_b2 h.1 p
    have h0 := hc.1
    rw [show M.2 94 5 = 0 from h.2.1.1, show q_w 0 = 0 from rfl, if_pos rfl, g1, b_some, n_w (a := t_at b N p) (by omega) (by omega), n_w (a := c) (by omega) (by omega), q_le, g3.2.2.1]
    by_cases e : t_at b N p = c
    · have hu := (at_S (j := j) hc).mp e
      rw [if_pos e, if_pos hu]
      refine ⟨_, rfl, fun _ => ⟨C_adv g2 g3 hu rfl, ?_⟩, fun g => absurd hu g⟩
      intro p' j' e'
      cases e'
      rw [up_rd, if_pos ⟨rfl, rfl⟩]
    · have hu : ¬ u_isS b N c (.inl (p, j)) = true := fun g => e ((at_S hc).mpr g)
      rw [if_neg e, if_neg hu]
      exact ⟨M1, rfl, fun g => absurd g hu, fun _ => ⟨g2, g3⟩⟩
  · have hz := h.2.1
    have h1 : M.2 94 5 = k := hz.1
    have h4 := hz.2.2
    rw [h1, n_w (by omega) (by omega), if_neg (by omega), u_isS, if_neg (by decide)]
    exact ⟨M, rfl, fun g => (by cases g), fun _ => ⟨h, hz⟩⟩
theorem C_askS {b : Nat → Int} {N w base : Nat} {M0 : q_Mem} {σ : t_S} {T R : List Int} {o d : Int} {M : q_Mem} (h : z_C b N w base M0 σ T o d R M) {c : Int} (hc : z_c c) : ∃ M', fX12_asksSign c M = some (0, M') ∧ (u_isS b N c σ = true → z_C b N w base M0 (u_st b N σ) T o (d + 1) R M') ∧ (¬ u_isS b N c σ = true → z_C b N w base M0 (u_fl 1 (u_p σ) σ) T o d R M') := by
  obtain ⟨M', g1, g2, g3⟩ := o_askS h.1 h.2.1 hc.1 hc.2.1 hc.2.2
  unfold u_Z at g3
  refine ⟨M', g1, fun c => ?_, fun c => ?_⟩
  · rw [if_pos c] at g3
    exact C_94 (e := 1) h g2 g3 (O_p h.2.1 (isS_nz c))
  · rw [if_neg c] at g3
    refine C_w (C_94 (e := 0) h g2 g3 ?_) (by omega)
    intro p' j' e'
    rcases σ with ⟨p, j⟩ | ⟨k, pl⟩ <;> cases e'
theorem C_fail {b : Nat → Int} {N w base : Nat} {M0 : q_Mem} {σ : t_S} {T R : List Int} {o d : Int} {M : q_Mem} (h : z_C b N w base M0 σ T o d R M) {k pl : Int} (hk : 1 ≤ k ∧ k ≤ 5) : ∃ M', fX12_fail k pl M = some (0, M') ∧ z_C b N w base M0 (u_fl k pl σ) T o d R M' := by
  obtain ⟨M', g1, g2, g3⟩ := o_fail (pl := pl) h.2.1 hk
  refine ⟨M', g1, C_w (C_94 (e := 0) h g2 g3 ?_) (by omega)⟩
  intro p' j' e'
  rcases σ with ⟨p, j⟩ | ⟨k, pl⟩ <;> cases e'
theorem C_num {b : Nat → Int} {N w base : Nat} {M0 : q_Mem} {σ : t_S} {T R : List Int} {o d : Int} {M : q_Mem} (h : z_C b N w base M0 σ T o d R M) : ∃ r M', fX12_number 0 9999 M = some (r, M') ∧ z_C b N w base M0 (u_N b N 0 9999 σ).2 T o (d + 1) R M' ∧ (u_ok (u_N b N 0 9999 σ).2 = true → r = (u_N b N 0 9999 σ).1) := by
  obtain ⟨r, M', g1, g2, g3, g4⟩ := o_num h.1 h.2.1 (lo := 0) (hi := 9999) (by omega) (by omega)
  refine ⟨r, M', g1, C_94 (e := 1) h g2 g3 ?_, g4⟩
  intro p' j' e'
  rcases σ with ⟨p, j⟩ | ⟨k', pl⟩
  · rw [u_N] at e'
    by_cases c1 : t_kind b N p j = 2
    · rw [if_pos c1] at e'
      by_cases c2 : 4 < t_end b N p - p
      · rw [if_pos c2] at e'; cases e'
      · rw [if_neg c2] at e'
        by_cases c3 : t_val b N p < 0 ∨ 9999 < t_val b N p
        · rw [if_pos c3] at e'; cases e'
        · rw [if_neg c3] at e'
          exact O_p h.2.1 (isN_nz (σ := .inl (p, j)) (decide_eq_true c1)) p' j' e'
    · rw [if_neg c1] at e'; cases e'
  · cases e'
theorem O_fr {b : Nat → Int} {N : Nat} {σ : t_S} {M M' : q_Mem} (h : z_O b N σ M) (hk : ∀ k, k = 2 ∨ k = 4 ∨ k = 5 ∨ k = 6 → M'.2 94 k = M.2 94 k) : z_O b N σ M' := by
  rcases σ with ⟨p, j⟩ | ⟨k', pl⟩
  · obtain ⟨h5, hp, a, e, h2, h4, h⟩ := h
    exact ⟨by rw [hk 5 (by omega), h5], hp, a, e, by rw [hk 2 (by omega), h2], by rw [hk 4 (by omega), h4], h⟩
  · obtain ⟨h5, h6, h⟩ := h
    exact ⟨by rw [hk 5 (by omega), h5], by rw [hk 6 (by omega), h6], h⟩
theorem ot_fr {b : Nat → Int} {N : Nat} {M M' : q_Mem} (h : z_ot b N M) (h1 : M'.2 94 3 = M.2 94 3) (h2 : ∀ k, M'.2 95 k = M.2 95 k) : z_ot b N M' := ⟨by rw [h1, h.1], fun k hk => by rw [h2, h.2.1 k hk], h.2.2⟩
/-- a code comes -/
theorem C_code {b : Nat → Int} {N w base : Nat} {M0 : q_Mem} {σ : t_S} {T R : List Int} {o d : Int} {M : q_Mem} {x : Int} (h : z_C b N w base M0 σ T o d R M) (hR : R.length < 1700) : ∃ M', fX12_qCode x M = some (0, M') ∧ z_C b N w base M0 σ T o (d - 1) (x :: R) M' := by
  obtain ⟨h1, h2, ⟨h3, h4, h5, h6, h6'⟩, ⟨h7, h8, h8'⟩, h10, h11⟩ := h
  unfold fX12_qCode
  rw [h6, b_sto (by omega) (by omega) (by omega), Option.bind_some, q_le, Int.toNat_natCast, up_ne (by omega), h6]
  refine ⟨_, rfl, ot_fr h1 (by rw [up_ne (by omega), up_ne (by omega)]) (fun k => by rw [up_ne (by omega), up_ne (by omega)]), O_fr h2 (fun k hk => by rw [up_ne (by omega), up_ne (by omega)]), ⟨by rw [up_ne (by omega), up_ne (by omega), h3], by rw [up_ne (by omega), up_ne (by omega), h4], by rw [up_ne (by omega), up_ne (by omega), h5], by rw [up_rd, if_pos ⟨rfl, rfl⟩, List.length_cons]; omega, by rw [up_ne (by omega), up_ne (by omega), h6']⟩, ⟨stk_fr (fun i _ => by rw [up_ne (by omega), up_ne (by omega)]) h7, stk_pu h8 (by rw [up_ne (by omega), up_rd, if_pos ⟨rfl, rfl⟩]) (fun i hi => by rw [up_ne (by omega), up_ne (by omega)]), h8'⟩, ?_, fun a k g1 g2 g3 => by rw [up_ne (by omega), up_ne (by omega), h11 a k g1 g2 g3]⟩
  intro p j e'
  have := h10 p j e'
  rw [List.length_cons]
  omega
theorem F_code {b : Nat → Int} {N : Nat} {M0 M : q_Mem} {e : Int} {σ : t_S} {x : Int} (h : z_F b N M0 e σ M) (he : e ≤ 50) : ∃ M', fX12_qCode x M = some (0, M') ∧ z_F b N M0 (e + 1) σ M' := by
  obtain ⟨h0, h1, h2, h3, h4⟩ := h
  unfold fX12_qCode
  rw [b_sto (by omega) (by omega) (by omega), Option.bind_some, q_le, up_ne (by omega)]
  exact ⟨_, rfl, h0, ot_fr h1 (by rw [up_ne (by omega), up_ne (by omega)]) (fun k => by rw [up_ne (by omega), up_ne (by omega)]), O_fr h2 (fun k hk => by rw [up_ne (by omega), up_ne (by omega)]), by rw [up_rd, if_pos ⟨rfl, rfl⟩]; omega, fun a k g1 g2 g3 => by rw [up_ne (by omega), up_ne (by omega), h4 a k g1 g2 g3]⟩
/-- the stack's length and the open count are set -/
theorem C_93 {b : Nat → Int} {N w base : Nat} {M0 : q_Mem} {σ : t_S} {T R : List Int} {o d : Int} {M : q_Mem} {v z : Int} (h : z_C b N w base M0 σ (v :: T) o d R M) (hz : z = (T.length : Int)) : z_C b N w base M0 σ T o (d + 1) R (q_up M 94 93 z) := by
  obtain ⟨h1, h2, ⟨h3, h4, h5, h6, h6'⟩, ⟨h7, h8, h8'⟩, h10, h11⟩ := h
  refine ⟨ot_fr h1 (by rw [up_ne (by omega)]) (fun k => by rw [up_ne (by omega)]), O_fr h2 (fun k hk => by rw [up_ne (by omega)]), ⟨by rw [up_rd, if_pos ⟨rfl, rfl⟩, hz], by rw [up_ne (by omega), h4], by rw [up_ne (by omega), h5], by rw [up_ne (by omega), h6], by rw [up_ne (by omega), h6']⟩, ⟨stk_fr (fun i _ => by rw [up_ne (by omega)]) h7.2, stk_fr (fun i _ => by rw [up_ne (by omega)]) h8, fun v hv => h8' v (List.mem_cons_of_mem _ hv)⟩, ?_, fun a k g1 g2 g3 => by rw [up_ne (by omega), h11 a k g1 g2 g3]⟩
  intro p j e'
  have := h10 p j e'
  rw [List.length_cons] at this
  omega
theorem C_94o {b : Nat → Int} {N w base : Nat} {M0 : q_Mem} {σ : t_S} {T R : List Int} {o o' d : Int} {M : q_Mem} {z : Int} (h : z_C b N w base M0 σ T o d R M) (hz : z = o') : z_C b N w base M0 σ T o' d R (q_up M 94 94 z) := by
  obtain ⟨h1, h2, ⟨h3, h4, h5, h6, h6'⟩, ⟨h7, h8, h8'⟩, h10, h11⟩ := h
  exact ⟨ot_fr h1 (by rw [up_ne (by omega)]) (fun k => by rw [up_ne (by omega)]), O_fr h2 (fun k hk => by rw [up_ne (by omega)]), ⟨by rw [up_ne (by omega), h3], by rw [up_rd, if_pos ⟨rfl, rfl⟩, hz], by rw [up_ne (by omega), h5], by rw [up_ne (by omega), h6], by rw [up_ne (by omega), h6']⟩, ⟨stk_fr (fun i _ => by rw [up_ne (by omega)]) h7, stk_fr (fun i _ => by rw [up_ne (by omega)]) h8, h8'⟩, h10, fun a k g1 g2 g3 => by rw [up_ne (by omega), h11 a k g1 g2 g3]⟩
theorem C_push {b : Nat → Int} {N w base : Nat} {M0 : q_Mem} {σ : t_S} {T R : List Int} {o d : Int} {M : q_Mem} {x : Int} (h : z_C b N w base M0 σ T o d R M) (hT : T.length < 1700) (hx : 0 ≤ x ∧ x ≤ 100) : q_sto M 163 1700 (M.2 94 93) x = some (q_up M 163 T.length x) ∧ (q_up M 163 T.length x).2 94 93 = (T.length : Int) ∧ z_C b N w base M0 σ (x :: T) o (d - 1) R (q_up (q_up M 163 T.length x) 94 93 ((T.length : Int) + 1)) := by
  obtain ⟨h1, h2, ⟨h3, h4, h5, h6, h6'⟩, ⟨h7, h8, h8'⟩, h10, h11⟩ := h
  refine ⟨by rw [h3, b_sto (by omega) (by omega) (by omega), Int.toNat_natCast], by rw [up_ne (by omega), h3], ot_fr h1 (by rw [up_ne (by omega), up_ne (by omega)]) (fun k => by rw [up_ne (by omega), up_ne (by omega)]), O_fr h2 (fun k hk => by rw [up_ne (by omega), up_ne (by omega)]), ⟨by rw [up_rd, if_pos ⟨rfl, rfl⟩, List.length_cons]; omega, by rw [up_ne (by omega), up_ne (by omega), h4], by rw [up_ne (by omega), up_ne (by omega), h5], by rw [up_ne (by omega), up_ne (by omega), h6], by rw [up_ne (by omega), up_ne (by omega), h6']⟩, ⟨stk_pu h7 (by rw [up_ne (by omega), up_rd, if_pos ⟨rfl, rfl⟩]) (fun i hi => by rw [up_ne (by omega), up_ne (by omega)]), stk_fr (fun i _ => by rw [up_ne (by omega), up_ne (by omega)]) h8, ?_⟩, ?_, fun a k g1 g2 g3 => by rw [up_ne (by omega), up_ne (by omega), h11 a k g1 g2 g3]⟩
  · intro v hv
    rcases List.mem_cons.mp hv with e | e
    · rw [e]; exact hx
    · exact h8' v e
  · intro p j e'
    have := h10 p j e'
    rw [List.length_cons]
    omega
theorem C_top {b : Nat → Int} {N w base : Nat} {M0 : q_Mem} {σ : t_S} {T R : List Int} {o d : Int} {M : q_Mem} {v : Int} (h : z_C b N w base M0 σ (v :: T) o d R M) (hT : T.length < 1700) : q_ld M 163 1700 (M.2 94 93 - 1) = some v := by
  rw [h.2.2.1.1, List.length_cons, b_ld (by omega) (by omega) (by omega), show (((T.length + 1 : Nat) : Int) - 1).toNat = T.length from by omega]
  exact congrArg some h.2.2.2.1.1.1
/-- what waits on top becomes a code -/
theorem C_drop {b : Nat → Int} {N w base : Nat} {M0 : q_Mem} {σ : t_S} {T R : List Int} {o d : Int} {M : q_Mem} {v : Int} (h : z_C b N w base M0 σ (v :: T) o d R M) (hT : T.length < 1700) (hR : R.length < 1700) : ∃ M', fX12_qDrops M = some (0, M') ∧ z_C b N w base M0 σ T o d (v :: R) M' := by
  unfold fX12_qDrops
  have h3 : M.2 94 93 - 1 = (T.length : Int) := by rw [h.2.2.1.1, List.length_cons]; omega
  have hC := C_93 h h3
  rw [q_le, b_ld (i := (q_up M 94 93 (M.2 94 93 - 1)).2 94 93) (by rw [up_rd, if_pos ⟨rfl, rfl⟩]; omega) (by rw [up_rd, if_pos ⟨rfl, rfl⟩]; omega) (by omega), Option.bind_some]
  have hv : (q_up M 94 93 (M.2 94 93 - 1)).2 163 ((q_up M 94 93 (M.2 94 93 - 1)).2 94 93).toNat = v := by
    rw [up_rd (b := 94) (j := 93), if_pos ⟨rfl, rfl⟩, h3, Int.toNat_natCast, up_ne (by omega)]
    exact h.2.2.2.1.1.1
  rw [hv]
  obtain ⟨M2, g1, g2⟩ := C_code (x := v) hC hR
  rw [g1, b_some]
  exact ⟨M2, rfl, C_w g2 (by omega)⟩
theorem C_opens {b : Nat → Int} {N w base : Nat} {M0 : q_Mem} {p : Nat} {j : Bool} {T R : List Int} {o d : Int} {M : q_Mem} {x pl : Int} (h : z_C b N w base M0 (.inl (p, j)) T o d R M) (hd : -50 ≤ d) (ho : 0 ≤ o ∧ o ≤ 6) (hx : 0 ≤ x ∧ x ≤ 100) : ∃ M', fX12_qOpens x pl M = some (0, M') ∧ (o < 6 → z_C b N w base M0 (.inl (p, j)) (x :: T) (o + 1) (d - 1) R M' ∧ ∀ k, k = 2 ∨ k = 4 ∨ k = 5 ∨ k = 6 → M'.2 94 k = M.2 94 k) ∧ (¬ o < 6 → z_C b N w base M0 (.inr (4, pl)) T o d R M') := by
  have hb := C_pN h
  unfold fX12_qOpens
  rw [show M.2 94 5 = 0 from h.2.1.1, show q_w 0 = 0 from rfl, if_pos rfl, h.2.2.1.2.1, n_w (by omega) (by omega), show q_w 6 = 6 from rfl]
  by_cases c : o < 6
  · rw [if_neg (by omega), q_le]
    have h1 := C_94o (o' := o + 1) (z := o + 1) h rfl
    obtain ⟨g1, g2, g3⟩ := C_push (x := x) h1 (by omega) hx
    rw [g1, Option.bind_some, q_le, g2]
    exact ⟨_, rfl, fun _ => ⟨g3, fun k hk => by rw [up_ne (by omega), up_ne (by omega), up_ne (by omega)]⟩, fun g => absurd c g⟩
  · rw [if_pos (by omega)]
    obtain ⟨M1, g1, g2⟩ := C_fail (k := 4) (pl := pl) h (by omega)
    rw [g1, b_some]
    exact ⟨M1, rfl, fun g => absurd g c, fun _ => g2⟩
