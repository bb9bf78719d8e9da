/-! texts: names, both sides -/
def h_ls (l : List Int) : Prop := 1 ≤ l.length ∧ l.length ≤ 6 ∧ ∀ c ∈ l, 1 ≤ c ∧ c ≤ 26
theorem n32_i : ∀ l l' : List Int, (∀ c ∈ l, 1 ≤ c ∧ c ≤ 26) → (∀ c ∈ l', 1 ≤ c ∧ c ≤ 26) → q_n32 l = q_n32 l' → l = l' := by
  intro l
  induction l with
  | nil =>
    intro l' _ h' e
    cases l' with
    | nil => rfl
    | cons c l' =>
      have h1 := h' c List.mem_cons_self
      have h2 := n32_b l' (fun x hx => h' x (List.mem_cons_of_mem _ hx))
      rw [q_n32, q_n32] at e
      omega
  | cons c l ih =>
    intro l' h h' e
    have h1 := h c List.mem_cons_self
    have h2 := n32_b l (fun x hx => h x (List.mem_cons_of_mem _ hx))
    cases l' with
    | nil =>
      rw [q_n32, q_n32] at e
      omega
    | cons c' l' =>
      have h3 := h' c' List.mem_cons_self
      have h4 := n32_b l' (fun x hx => h' x (List.mem_cons_of_mem _ hx))
      rw [q_n32, q_n32] at e
      rw [ih l' (fun x hx => h x (List.mem_cons_of_mem _ hx)) (fun x hx => h' x (List.mem_cons_of_mem _ hx)) (by omega), show c = c' from by omega]
theorem n27_c : ∀ l : List Int, (∀ c ∈ l, 1 ≤ c ∧ c ≤ 26) → 0 ≤ q_n27 l ∧ q_n27 l < 27 ^ l.length := by
  intro l
  induction l with
  | nil => intro _; rw [q_n27]; decide
  | cons c l ih =>
    intro h
    have h1 := ih (fun x hx => h x (List.mem_cons_of_mem _ hx))
    have h2 := h c List.mem_cons_self
    rw [q_n27, List.length_cons, Int.pow_succ]
    omega
theorem n27_i : ∀ l l' : List Int, (∀ c ∈ l, 1 ≤ c ∧ c ≤ 26) → (∀ c ∈ l', 1 ≤ c ∧ c ≤ 26) → q_n27 l = q_n27 l' → l = l' := by
  intro l
  induction l with
  | nil =>
    intro l' _ h' e
    cases l' with
    | nil => rfl
    | cons c l' =>
      have h1 := h' c List.mem_cons_self
      have h2 := n27_c l' (fun x hx => h' x (List.mem_cons_of_mem _ hx))
      rw [q_n27, q_n27] at e
      omega
  | cons c l ih =>
    intro l' h h' e
    have h1 := h c List.mem_cons_self
    have h2 := n27_c l (fun x hx => h x (List.mem_cons_of_mem _ hx))
    cases l' with
    | nil =>
      rw [q_n27, q_n27] at e
      omega
    | cons c' l' =>
      have h3 := h' c' List.mem_cons_self
      have h4 := n27_c l' (fun x hx => h' x (List.mem_cons_of_mem _ hx))
      rw [q_n27, q_n27] at e
      rw [ih l' (fun x hx => h x (List.mem_cons_of_mem _ hx)) (fun x hx => h' x (List.mem_cons_of_mem _ hx)) (by omega), show c = c' from by omega]
theorem n32_w {l : List Int} (h : h_ls l) : 0 ≤ q_n32 l ∧ q_n32 l < 1073741824 := by
  have h1 := n32_b l h.2.2
  have h2 : (32 : Int) ^ l.length ≤ 1073741824 := by
    have h6 := h.2.1
    generalize l.length = m at h6
    match m, h6 with
    | 0, _ => decide
    | 1, _ => decide
    | 2, _ => decide
    | 3, _ => decide
    | 4, _ => decide
    | 5, _ => decide
    | 6, _ => decide
  omega
theorem n27_w {l : List Int} (h : h_ls l) : 0 ≤ q_n27 l.reverse ∧ q_n27 l.reverse < 387420489 := by
  have h1 := n27_c l.reverse (fun c hc => h.2.2 c (List.mem_reverse.mp hc))
  have h2 : (27 : Int) ^ l.reverse.length ≤ 387420489 := by
    have h6 := h.2.1
    rw [List.length_reverse]
    generalize l.length = m at h6
    match m, h6 with
    | 0, _ => decide
    | 1, _ => decide
    | 2, _ => decide
    | 3, _ => decide
    | 4, _ => decide
    | 5, _ => decide
    | 6, _ => decide
  omega
def u_M (b : Nat → Int) (N : Nat) (dup : List Int → Bool) : t_S → List Int × t_S
  | .inl (p, j) => if t_kind b N p j = 1 ∧ ¬ (0 ≤ t_val b N p ∧ t_val b N p ≤ 24) then (if 6 < t_end b N p - p then ([], .inr (1, (p : Int) + 6)) else if dup (t_ls b (t_end b N p - p) p) = true then ([], .inr (3, (p : Int))) else (t_ls b (t_end b N p - p) p, u_st b N (.inl (p, j)))) else ([], .inr (1, (p : Int)))
  | .inr e => ([], .inr e)
theorem nm_ls {b : Nat → Int} {N p : Nat} {j : Bool} (hp : p ≤ N) (hk : t_kind b N p j = 1) (hl : ¬ 6 < t_end b N p - p) : h_ls (t_ls b (t_end b N p - p) p) ∧ ∀ k, k < t_end b N p - p → t_lt (b (p + k)) = true := by
  have h1 := (kd_1.mp hk).1
  have h2 : p < N := at_lt (fun e => by rw [e] at h1; exact absurd h1 (by decide))
  have he : t_end b N p = t_run t_lt b (N - p) p := by unfold t_end t_we; rw [if_pos h1]
  have h3 : t_lt (b p) = true := by rw [at_in h2] at h1; exact h1
  have h4 := run_1 (f := t_lt) (b := b) (n := N - p) (p := p) h3 (by omega)
  have ht := run_t t_lt b (N - p) p
  have h5 : ∀ k, k < t_end b N p - p → t_lt (b (p + k)) = true := fun k hk => ht (p + k) (by omega) (by omega)
  refine ⟨⟨by rw [ls_len]; omega, by rw [ls_len]; omega, ls_in b _ _ h5⟩, h5⟩
theorem c_tM {b : Nat → Int} {N r : Nat} {dup : List Int → Bool} {σ : t_S} {M : q_Mem} (hT : z_tp b N M) (hz : z_S b N σ M) (hH : ∀ l, h_ls l → fX2_hasName r (q_n32 l) M = some (if dup l = true then 1 else 0, M)) : q_P (fX8_takeName r M) (fun x M' => z_5 M M' ∧ z_S b N (u_M b N dup σ).2 M' ∧ (u_ok (u_M b N dup σ).2 = true → x = q_n32 (u_M b N dup σ).1 ∧ h_ls (u_M b N dup σ).1)) := by
  unfold fX8_takeName fX8_takeName_24
  rcases σ with ⟨p, j⟩ | ⟨k', pl'⟩
  · have hv := val_b hT p
    have hk := kd_b b N p j
    have hpN := hz.1.2.2.2.2.2
    have he := te_b (b := b) hpN
    have hN := hT.2.2.2
    have bad : ¬ (t_kind b N p j = 1 ∧ ¬ (0 ≤ t_val b N p ∧ t_val b N p ≤ 24)) → q_P (q_bd (fX8_fail 1 (M.2 5 1) M) fun _ M1 => some (0, M1)) (fun x M' => z_5 M M' ∧ z_S b N (u_M b N dup (.inl (p, j))).2 M' ∧ (u_ok (u_M b N dup (.inl (p, j))).2 = true → x = q_n32 (u_M b N dup (.inl (p, j))).1 ∧ h_ls (u_M b N dup (.inl (p, j))).1)) := by
      intro hn
      obtain ⟨M', g0, g1, g2⟩ := c_f1 (σ := .inl (p, j)) hz
      rw [g0, b_some, u_M, if_neg hn]
      exact w_some.mpr ⟨g1, g2, fun g => (by cases g)⟩
    have good : t_kind b N p j = 1 ∧ ¬ (0 ≤ t_val b N p ∧ t_val b N p ≤ 24) → q_P (fX8_takeName_35 r M) (fun x M' => z_5 M M' ∧ z_S b N (u_M b N dup (.inl (p, j))).2 M' ∧ (u_ok (u_M b N dup (.inl (p, j))).2 = true → x = q_n32 (u_M b N dup (.inl (p, j))).1 ∧ h_ls (u_M b N dup (.inl (p, j))).1)) := by
      intro hg
      unfold fX8_takeName_35
      rw [u_M, if_pos hg, hz.1.1, hz.1.2.1, show q_w 6 = 6 from rfl, n_w (a := (t_end b N p : Int) - (p : Int)) (by omega) (by omega)]
      by_cases c6 : 6 < t_end b N p - p
      · rw [if_pos (by omega), if_pos c6]
        obtain ⟨M', g0, g1, g2⟩ := c_fail (σ := .inl (p, j)) hz (k := 1) (pl := (p : Int) + 6) (by omega)
        rw [g0, b_some]
        exact w_some.mpr ⟨g1, g2, fun g => (by cases g)⟩
      · rw [if_neg (by omega), if_neg c6, q_le]
        obtain ⟨hl, hs⟩ := nm_ls hpN hg.1 c6
        have h72 := c_n72 (b := b) (N := N) (p := p) (L := t_end b N p - p) (r := r) (by omega) (by omega) hs hT hz.1.1 q_FU (t_end b N p - p) (Nat.le_refl _) (by unfold q_FU; omega)
        rw [Nat.sub_self, t_ls, q_n32, show (p : Int) + ((t_end b N p - p : Nat) : Int) - 1 = (t_end b N p : Int) - 1 from by omega] at h72
        rw [h72, hH _ hl, b_some, f_ite]
        unfold fX8_takeName_121
        by_cases cd : dup (t_ls b (t_end b N p - p) p) = true
        · rw [if_pos cd, if_pos cd, hz.1.1]
          obtain ⟨M', g0, g1, g2⟩ := c_fail (σ := .inl (p, j)) hz (k := 3) (pl := (p : Int)) (by omega)
          rw [g0, b_some]
          refine w_call (c_st (z5_T hT g1) g2) ?_
          rintro _ M2 ⟨k1, k2⟩
          exact w_some.mpr ⟨z5_t g1 k1, k2, fun g => (by cases g)⟩
        · rw [if_neg cd, if_neg cd]
          refine w_call (c_st (σ := .inl (p, j)) hT hz) ?_
          rintro _ M2 ⟨k1, k2⟩
          exact w_some.mpr ⟨k1, k2, fun _ => ⟨rfl, hl⟩⟩
    rw [hz.1.2.2.1, hz.1.2.2.2.1, n_w (a := t_kind b N p j) (by omega) (by omega), n_w (a := t_val b N p) (by omega) (by omega), show q_w 1 = 1 from rfl, show q_w 24 = 24 from rfl]
    by_cases c1 : t_kind b N p j = 1
    · rw [if_pos c1]
      by_cases c2 : t_val b N p < 0
      · rw [if_pos c2]
        exact good ⟨c1, by omega⟩
      · rw [if_neg c2]
        by_cases c3 : 24 < t_val b N p
        · rw [if_pos c3]
          exact good ⟨c1, by omega⟩
        · rw [if_neg c3]
          exact bad (fun g => g.2 (by omega))
    · rw [if_neg c1]
      exact bad (fun g => c1 g.1)
  · rw [hz.2.2.1, show q_w 4 = 4 from rfl, show q_w 1 = 1 from rfl, if_neg (by decide)]
    obtain ⟨M', g0, g1, g2⟩ := c_f1 (σ := .inr (k', pl')) hz
    rw [g0, b_some]
    exact w_some.mpr ⟨g1, g2, fun g => (by cases g)⟩
theorem wm_o : ∀ i, i < 25 → (97 + i, t_W.getD i []) ∈ a_words := by decide +kernel
def u_own (b : Nat → Int) (N : Nat) (σ : t_S) : Bool := (List.range 25).any (fun c => u_isW b N (c : Int) σ)
theorem own_1 (M : q_Mem) : fX12_isOwnHere_294 M = some (1, M) ∧ fX12_isOwnHere_218 M = some (1, M) ∧ fX12_isOwnHere_142 M = some (1, M) ∧ fX12_isOwnHere_66 M = some (1, M) := by
  have h1 : fX12_isOwnHere_294 M = some (1, M) := by
    unfold fX12_isOwnHere_294 fX12_isOwnHere_299 fX12_isOwnHere_315
    rw [show q_w 1 = 1 from rfl, if_neg (by decide)]
  have h2 : fX12_isOwnHere_218 M = some (1, M) := by
    unfold fX12_isOwnHere_218 fX12_isOwnHere_223
    rw [show q_w 1 = 1 from rfl, if_neg (by decide), h1]
  have h3 : fX12_isOwnHere_142 M = some (1, M) := by
    unfold fX12_isOwnHere_142 fX12_isOwnHere_147
    rw [show q_w 1 = 1 from rfl, if_neg (by decide), h2]
  have h4 : fX12_isOwnHere_66 M = some (1, M) := by
    unfold fX12_isOwnHere_66 fX12_isOwnHere_71
    rw [show q_w 1 = 1 from rfl, if_neg (by decide), h3]
  exact ⟨h1, h2, h3, h4⟩
theorem own_y {b : Nat → Int} {N : Nat} {σ : t_S} {c : Nat} {ci : Int} (hc : c < 25) (hci : ci = (c : Int)) (h : u_isW b N ci σ = true) : u_own b N σ = true := List.any_eq_true.mpr ⟨c, List.mem_range.mpr hc, by rw [← hci]; exact h⟩
theorem o_isO {b : Nat → Int} {N : Nat} {σ : t_S} {M M0 : q_Mem} (hw : r_words M0.2) (hf : z_94 M0 M) (hT : z_ot b N M) (hz : z_O b N σ M) {c r m : Nat} {ci : Int} (hc : c < 25) (hr : r = 97 + c) (hci : ci = (c : Int)) (hm : m = (t_W.getD c []).length) : ∃ M', fX12_isHere r m M = some (if u_isW b N ci σ = true then 1 else 0, M') ∧ z_94 M0 M' ∧ z_ot b N M' ∧ z_O b N σ M' ∧ z_Q b N σ M' := by
  have hmem := wm_o c hc
  rw [← hr] at hmem
  obtain ⟨M', g1, g2, g3⟩ := o_isH hT hz (w := c) (r := r) (m := m) (by omega) (by omega) (fun j hj => by rw [hf r j (by omega)]; exact hw _ hmem j hj) hm
  rw [← hci] at g1
  exact ⟨M', g1, z94_t hf g2, z94_T hT g2, Q_O g3, g3⟩
theorem own_299 {b : Nat → Int} {N : Nat} {σ : t_S} {M M0 : q_Mem} (hw : r_words M0.2) (hf : z_94 M0 M) (hT : z_ot b N M) (hz : z_O b N σ M) (n0 : ¬ u_isW b N 0 σ = true) (n1 : ¬ u_isW b N 1 σ = true) (n2 : ¬ u_isW b N 2 σ = true) (n3 : ¬ u_isW b N 3 σ = true) (n4 : ¬ u_isW b N 4 σ = true) (n5 : ¬ u_isW b N 5 σ = true) (n6 : ¬ u_isW b N 6 σ = true) (n7 : ¬ u_isW b N 7 σ = true) (n8 : ¬ u_isW b N 8 σ = true) (n9 : ¬ u_isW b N 9 σ = true) (n10 : ¬ u_isW b N 10 σ = true) (n11 : ¬ u_isW b N 11 σ = true) (n12 : ¬ u_isW b N 12 σ = true) (n13 : ¬ u_isW b N 13 σ = true) (n14 : ¬ u_isW b N 14 σ = true) (n15 : ¬ u_isW b N 15 σ = true) (n16 : ¬ u_isW b N 16 σ = true) (n17 : ¬ u_isW b N 17 σ = true) (n18 : ¬ u_isW b N 18 σ = true) (n19 : ¬ u_isW b N 19 σ = true) (n20 : ¬ u_isW b N 20 σ = true) (n21 : ¬ u_isW b N 21 σ = true) (n22 : ¬ u_isW b N 22 σ = true) (n23 : ¬ u_isW b N 23 σ = true) : ∃ M', fX12_isOwnHere_299 0 M = some (if u_own b N σ = true then 1 else 0, M') ∧ z_94 M0 M' ∧ z_ot b N M' ∧ z_O b N σ M' ∧ z_Q b N σ M' := by
  unfold fX12_isOwnHere_299
  rw [show q_w 0 = 0 from rfl, if_pos rfl]
  obtain ⟨M24, a24, b24, c24, d24, e24⟩ := o_isO hw hf hT hz (c := 24) (r := 121) (m := 3) (ci := 24) (by decide) rfl rfl (by decide)
  rw [a24, b_some, f_ite]
  by_cases n24 : u_isW b N 24 σ = true
  · rw [if_pos n24]
    unfold fX12_isOwnHere_315
    exact ⟨M24, by rw [if_pos (own_y (c := 24) (by decide) rfl n24)], b24, c24, d24, e24⟩
  rw [if_neg n24]
  refine ⟨M24, ?_, b24, c24, d24, e24⟩
  rw [if_neg]
  intro g
  obtain ⟨c, hc, h⟩ := List.any_eq_true.mp g
  have hc := List.mem_range.mp hc
  match c, hc with
  | 0, _ => exact n0 h
  | 1, _ => exact n1 h
  | 2, _ => exact n2 h
  | 3, _ => exact n3 h
  | 4, _ => exact n4 h
  | 5, _ => exact n5 h
  | 6, _ => exact n6 h
  | 7, _ => exact n7 h
  | 8, _ => exact n8 h
  | 9, _ => exact n9 h
  | 10, _ => exact n10 h
  | 11, _ => exact n11 h
  | 12, _ => exact n12 h
  | 13, _ => exact n13 h
  | 14, _ => exact n14 h
  | 15, _ => exact n15 h
  | 16, _ => exact n16 h
  | 17, _ => exact n17 h
  | 18, _ => exact n18 h
  | 19, _ => exact n19 h
  | 20, _ => exact n20 h
  | 21, _ => exact n21 h
  | 22, _ => exact n22 h
  | 23, _ => exact n23 h
  | 24, _ => exact n24 h
  | n + 25, hc => omega
theorem own_223 {b : Nat → Int} {N : Nat} {σ : t_S} {M M0 : q_Mem} (hw : r_words M0.2) (hf : z_94 M0 M) (hT : z_ot b N M) (hz : z_O b N σ M) (n0 : ¬ u_isW b N 0 σ = true) (n1 : ¬ u_isW b N 1 σ = true) (n2 : ¬ u_isW b N 2 σ = true) (n3 : ¬ u_isW b N 3 σ = true) (n4 : ¬ u_isW b N 4 σ = true) (n5 : ¬ u_isW b N 5 σ = true) (n6 : ¬ u_isW b N 6 σ = true) (n7 : ¬ u_isW b N 7 σ = true) (n8 : ¬ u_isW b N 8 σ = true) (n9 : ¬ u_isW b N 9 σ = true) (n10 : ¬ u_isW b N 10 σ = true) (n11 : ¬ u_isW b N 11 σ = true) (n12 : ¬ u_isW b N 12 σ = true) (n13 : ¬ u_isW b N 13 σ = true) (n14 : ¬ u_isW b N 14 σ = true) (n15 : ¬ u_isW b N 15 σ = true) (n16 : ¬ u_isW b N 16 σ = true) (n17 : ¬ u_isW b N 17 σ = true) : ∃ M', fX12_isOwnHere_223 0 M = some (if u_own b N σ = true then 1 else 0, M') ∧ z_94 M0 M' ∧ z_ot b N M' ∧ z_O b N σ M' ∧ z_Q b N σ M' := by
  unfold fX12_isOwnHere_223
  rw [show q_w 0 = 0 from rfl, if_pos rfl]
  obtain ⟨M18, a18, b18, c18, d18, e18⟩ := o_isO hw hf hT hz (c := 18) (r := 115) (m := 4) (ci := 18) (by decide) rfl rfl (by decide)
  rw [a18, b_some, f_ite]
  by_cases n18 : u_isW b N 18 σ = true
  · rw [if_pos n18, (own_1 M18).1]
    exact ⟨M18, by rw [if_pos (own_y (c := 18) (by decide) rfl n18)], b18, c18, d18, e18⟩
  rw [if_neg n18]
  obtain ⟨M19, a19, b19, c19, d19, e19⟩ := o_isO hw b18 c18 d18 (c := 19) (r := 116) (m := 2) (ci := 19) (by decide) rfl rfl (by decide)
  rw [a19, b_some, f_ite]
  by_cases n19 : u_isW b N 19 σ = true
  · rw [if_pos n19, (own_1 M19).1]
    exact ⟨M19, by rw [if_pos (own_y (c := 19) (by decide) rfl n19)], b19, c19, d19, e19⟩
  rw [if_neg n19]
  obtain ⟨M20, a20, b20, c20, d20, e20⟩ := o_isO hw b19 c19 d19 (c := 20) (r := 117) (m := 3) (ci := 20) (by decide) rfl rfl (by decide)
  rw [a20, b_some, f_ite]
  by_cases n20 : u_isW b N 20 σ = true
  · rw [if_pos n20, (own_1 M20).1]
    exact ⟨M20, by rw [if_pos (own_y (c := 20) (by decide) rfl n20)], b20, c20, d20, e20⟩
  rw [if_neg n20]
  obtain ⟨M21, a21, b21, c21, d21, e21⟩ := o_isO hw b20 c20 d20 (c := 21) (r := 118) (m := 3) (ci := 21) (by decide) rfl rfl (by decide)
  rw [a21, b_some, f_ite]
  by_cases n21 : u_isW b N 21 σ = true
  · rw [if_pos n21, (own_1 M21).1]
    exact ⟨M21, by rw [if_pos (own_y (c := 21) (by decide) rfl n21)], b21, c21, d21, e21⟩
  rw [if_neg n21]
  obtain ⟨M22, a22, b22, c22, d22, e22⟩ := o_isO hw b21 c21 d21 (c := 22) (r := 119) (m := 3) (ci := 22) (by decide) rfl rfl (by decide)
  rw [a22, b_some, f_ite]
  by_cases n22 : u_isW b N 22 σ = true
  · rw [if_pos n22, (own_1 M22).1]
    exact ⟨M22, by rw [if_pos (own_y (c := 22) (by decide) rfl n22)], b22, c22, d22, e22⟩
  rw [if_neg n22]
  obtain ⟨M23, a23, b23, c23, d23, e23⟩ := o_isO hw b22 c22 d22 (c := 23) (r := 120) (m := 3) (ci := 23) (by decide) rfl rfl (by decide)
  rw [a23, b_some, f_ite]
  by_cases n23 : u_isW b N 23 σ = true
  · rw [if_pos n23, (own_1 M23).1]
    exact ⟨M23, by rw [if_pos (own_y (c := 23) (by decide) rfl n23)], b23, c23, d23, e23⟩
  rw [if_neg n23]
  exact own_299 hw b23 c23 d23 n0 n1 n2 n3 n4 n5 n6 n7 n8 n9 n10 n11 n12 n13 n14 n15 n16 n17 n18 n19 n20 n21 n22 n23
theorem own_147 {b : Nat → Int} {N : Nat} {σ : t_S} {M M0 : q_Mem} (hw : r_words M0.2) (hf : z_94 M0 M) (hT : z_ot b N M) (hz : z_O b N σ M) (n0 : ¬ u_isW b N 0 σ = true) (n1 : ¬ u_isW b N 1 σ = true) (n2 : ¬ u_isW b N 2 σ = true) (n3 : ¬ u_isW b N 3 σ = true) (n4 : ¬ u_isW b N 4 σ = true) (n5 : ¬ u_isW b N 5 σ = true) (n6 : ¬ u_isW b N 6 σ = true) (n7 : ¬ u_isW b N 7 σ = true) (n8 : ¬ u_isW b N 8 σ = true) (n9 : ¬ u_isW b N 9 σ = true) (n10 : ¬ u_isW b N 10 σ = true) (n11 : ¬ u_isW b N 11 σ = true) : ∃ M', fX12_isOwnHere_147 0 M = some (if u_own b N σ = true then 1 else 0, M') ∧ z_94 M0 M' ∧ z_ot b N M' ∧ z_O b N σ M' ∧ z_Q b N σ M' := by
  unfold fX12_isOwnHere_147
  rw [show q_w 0 = 0 from rfl, if_pos rfl]
  obtain ⟨M12, a12, b12, c12, d12, e12⟩ := o_isO hw hf hT hz (c := 12) (r := 109) (m := 6) (ci := 12) (by decide) rfl rfl (by decide)
  rw [a12, b_some, f_ite]
  by_cases n12 : u_isW b N 12 σ = true
  · rw [if_pos n12, (own_1 M12).2.1]
    exact ⟨M12, by rw [if_pos (own_y (c := 12) (by decide) rfl n12)], b12, c12, d12, e12⟩
  rw [if_neg n12]
  obtain ⟨M13, a13, b13, c13, d13, e13⟩ := o_isO hw b12 c12 d12 (c := 13) (r := 110) (m := 6) (ci := 13) (by decide) rfl rfl (by decide)
  rw [a13, b_some, f_ite]
  by_cases n13 : u_isW b N 13 σ = true
  · rw [if_pos n13, (own_1 M13).2.1]
    exact ⟨M13, by rw [if_pos (own_y (c := 13) (by decide) rfl n13)], b13, c13, d13, e13⟩
  rw [if_neg n13]
  obtain ⟨M14, a14, b14, c14, d14, e14⟩ := o_isO hw b13 c13 d13 (c := 14) (r := 111) (m := 4) (ci := 14) (by decide) rfl rfl (by decide)
  rw [a14, b_some, f_ite]
  by_cases n14 : u_isW b N 14 σ = true
  · rw [if_pos n14, (own_1 M14).2.1]
    exact ⟨M14, by rw [if_pos (own_y (c := 14) (by decide) rfl n14)], b14, c14, d14, e14⟩
  rw [if_neg n14]
  obtain ⟨M15, a15, b15, c15, d15, e15⟩ := o_isO hw b14 c14 d14 (c := 15) (r := 112) (m := 4) (ci := 15) (by decide) rfl rfl (by decide)
  rw [a15, b_some, f_ite]
  by_cases n15 : u_isW b N 15 σ = true
  · rw [if_pos n15, (own_1 M15).2.1]
    exact ⟨M15, by rw [if_pos (own_y (c := 15) (by decide) rfl n15)], b15, c15, d15, e15⟩
  rw [if_neg n15]
  obtain ⟨M16, a16, b16, c16, d16, e16⟩ := o_isO hw b15 c15 d15 (c := 16) (r := 113) (m := 6) (ci := 16) (by decide) rfl rfl (by decide)
  rw [a16, b_some, f_ite]
  by_cases n16 : u_isW b N 16 σ = true
  · rw [if_pos n16, (own_1 M16).2.1]
    exact ⟨M16, by rw [if_pos (own_y (c := 16) (by decide) rfl n16)], b16, c16, d16, e16⟩
  rw [if_neg n16]
  obtain ⟨M17, a17, b17, c17, d17, e17⟩ := o_isO hw b16 c16 d16 (c := 17) (r := 114) (m := 6) (ci := 17) (by decide) rfl rfl (by decide)
  rw [a17, b_some, f_ite]
  by_cases n17 : u_isW b N 17 σ = true
  · rw [if_pos n17, (own_1 M17).2.1]
    exact ⟨M17, by rw [if_pos (own_y (c := 17) (by decide) rfl n17)], b17, c17, d17, e17⟩
  rw [if_neg n17]
  exact own_223 hw b17 c17 d17 n0 n1 n2 n3 n4 n5 n6 n7 n8 n9 n10 n11 n12 n13 n14 n15 n16 n17
theorem own_71 {b : Nat → Int} {N : Nat} {σ : t_S} {M M0 : q_Mem} (hw : r_words M0.2) (hf : z_94 M0 M) (hT : z_ot b N M) (hz : z_O b N σ M) (n0 : ¬ u_isW b N 0 σ = true) (n1 : ¬ u_isW b N 1 σ = true) (n2 : ¬ u_isW b N 2 σ = true) (n3 : ¬ u_isW b N 3 σ = true) (n4 : ¬ u_isW b N 4 σ = true) (n5 : ¬ u_isW b N 5 σ = true) : ∃ M', fX12_isOwnHere_71 0 M = some (if u_own b N σ = true then 1 else 0, M') ∧ z_94 M0 M' ∧ z_ot b N M' ∧ z_O b N σ M' ∧ z_Q b N σ M' := by
  unfold fX12_isOwnHere_71
  rw [show q_w 0 = 0 from rfl, if_pos rfl]
  obtain ⟨M6, a6, b6, c6, d6, e6⟩ := o_isO hw hf hT hz (c := 6) (r := 103) (m := 4) (ci := 6) (by decide) rfl rfl (by decide)
  rw [a6, b_some, f_ite]
  by_cases n6 : u_isW b N 6 σ = true
  · rw [if_pos n6, (own_1 M6).2.2.1]
    exact ⟨M6, by rw [if_pos (own_y (c := 6) (by decide) rfl n6)], b6, c6, d6, e6⟩
  rw [if_neg n6]
  obtain ⟨M7, a7, b7, c7, d7, e7⟩ := o_isO hw b6 c6 d6 (c := 7) (r := 104) (m := 5) (ci := 7) (by decide) rfl rfl (by decide)
  rw [a7, b_some, f_ite]
  by_cases n7 : u_isW b N 7 σ = true
  · rw [if_pos n7, (own_1 M7).2.2.1]
    exact ⟨M7, by rw [if_pos (own_y (c := 7) (by decide) rfl n7)], b7, c7, d7, e7⟩
  rw [if_neg n7]
  obtain ⟨M8, a8, b8, c8, d8, e8⟩ := o_isO hw b7 c7 d7 (c := 8) (r := 105) (m := 4) (ci := 8) (by decide) rfl rfl (by decide)
  rw [a8, b_some, f_ite]
  by_cases n8 : u_isW b N 8 σ = true
  · rw [if_pos n8, (own_1 M8).2.2.1]
    exact ⟨M8, by rw [if_pos (own_y (c := 8) (by decide) rfl n8)], b8, c8, d8, e8⟩
  rw [if_neg n8]
  obtain ⟨M9, a9, b9, c9, d9, e9⟩ := o_isO hw b8 c8 d8 (c := 9) (r := 106) (m := 5) (ci := 9) (by decide) rfl rfl (by decide)
  rw [a9, b_some, f_ite]
  by_cases n9 : u_isW b N 9 σ = true
  · rw [if_pos n9, (own_1 M9).2.2.1]
    exact ⟨M9, by rw [if_pos (own_y (c := 9) (by decide) rfl n9)], b9, c9, d9, e9⟩
  rw [if_neg n9]
  obtain ⟨M10, a10, b10, c10, d10, e10⟩ := o_isO hw b9 c9 d9 (c := 10) (r := 107) (m := 2) (ci := 10) (by decide) rfl rfl (by decide)
  rw [a10, b_some, f_ite]
  by_cases n10 : u_isW b N 10 σ = true
  · rw [if_pos n10, (own_1 M10).2.2.1]
    exact ⟨M10, by rw [if_pos (own_y (c := 10) (by decide) rfl n10)], b10, c10, d10, e10⟩
  rw [if_neg n10]
  obtain ⟨M11, a11, b11, c11, d11, e11⟩ := o_isO hw b10 c10 d10 (c := 11) (r := 108) (m := 5) (ci := 11) (by decide) rfl rfl (by decide)
  rw [a11, b_some, f_ite]
  by_cases n11 : u_isW b N 11 σ = true
  · rw [if_pos n11, (own_1 M11).2.2.1]
    exact ⟨M11, by rw [if_pos (own_y (c := 11) (by decide) rfl n11)], b11, c11, d11, e11⟩
  rw [if_neg n11]
  exact own_147 hw b11 c11 d11 n0 n1 n2 n3 n4 n5 n6 n7 n8 n9 n10 n11
theorem own_a {b : Nat → Int} {N : Nat} {σ : t_S} {M M0 : q_Mem} (hw : r_words M0.2) (hf : z_94 M0 M) (hT : z_ot b N M) (hz : z_O b N σ M)  : ∃ M', fX12_isOwnHere M = some (if u_own b N σ = true then 1 else 0, M') ∧ z_94 M0 M' ∧ z_ot b N M' ∧ z_O b N σ M' ∧ z_Q b N σ M' := by
  unfold fX12_isOwnHere
  obtain ⟨M0, a0, b0, c0, d0, e0⟩ := o_isO hw hf hT hz (c := 0) (r := 97) (m := 4) (ci := 0) (by decide) rfl rfl (by decide)
  rw [a0, b_some, f_ite]
  by_cases n0 : u_isW b N 0 σ = true
  · rw [if_pos n0, (own_1 M0).2.2.2]
    exact ⟨M0, by rw [if_pos (own_y (c := 0) (by decide) rfl n0)], b0, c0, d0, e0⟩
  rw [if_neg n0]
  obtain ⟨M1, a1, b1, c1, d1, e1⟩ := o_isO hw b0 c0 d0 (c := 1) (r := 98) (m := 5) (ci := 1) (by decide) rfl rfl (by decide)
  rw [a1, b_some, f_ite]
  by_cases n1 : u_isW b N 1 σ = true
  · rw [if_pos n1, (own_1 M1).2.2.2]
    exact ⟨M1, by rw [if_pos (own_y (c := 1) (by decide) rfl n1)], b1, c1, d1, e1⟩
  rw [if_neg n1]
  obtain ⟨M2, a2, b2, c2, d2, e2⟩ := o_isO hw b1 c1 d1 (c := 2) (r := 99) (m := 2) (ci := 2) (by decide) rfl rfl (by decide)
  rw [a2, b_some, f_ite]
  by_cases n2 : u_isW b N 2 σ = true
  · rw [if_pos n2, (own_1 M2).2.2.2]
    exact ⟨M2, by rw [if_pos (own_y (c := 2) (by decide) rfl n2)], b2, c2, d2, e2⟩
  rw [if_neg n2]
  obtain ⟨M3, a3, b3, c3, d3, e3⟩ := o_isO hw b2 c2 d2 (c := 3) (r := 100) (m := 4) (ci := 3) (by decide) rfl rfl (by decide)
  rw [a3, b_some, f_ite]
  by_cases n3 : u_isW b N 3 σ = true
  · rw [if_pos n3, (own_1 M3).2.2.2]
    exact ⟨M3, by rw [if_pos (own_y (c := 3) (by decide) rfl n3)], b3, c3, d3, e3⟩
  rw [if_neg n3]
  obtain ⟨M4, a4, b4, c4, d4, e4⟩ := o_isO hw b3 c3 d3 (c := 4) (r := 101) (m := 5) (ci := 4) (by decide) rfl rfl (by decide)
  rw [a4, b_some, f_ite]
  by_cases n4 : u_isW b N 4 σ = true
  · rw [if_pos n4, (own_1 M4).2.2.2]
    exact ⟨M4, by rw [if_pos (own_y (c := 4) (by decide) rfl n4)], b4, c4, d4, e4⟩
  rw [if_neg n4]
  obtain ⟨M5, a5, b5, c5, d5, e5⟩ := o_isO hw b4 c4 d4 (c := 5) (r := 102) (m := 4) (ci := 5) (by decide) rfl rfl (by decide)
  rw [a5, b_some, f_ite]
  by_cases n5 : u_isW b N 5 σ = true
  · rw [if_pos n5, (own_1 M5).2.2.2]
    exact ⟨M5, by rw [if_pos (own_y (c := 5) (by decide) rfl n5)], b5, c5, d5, e5⟩
  rw [if_neg n5]
  exact own_71 hw b5 c5 d5 n0 n1 n2 n3 n4 n5
theorem own_v {b : Nat → Int} {N p : Nat} {j : Bool} (hk : t_kind b N p j = 1) : u_own b N (.inl (p, j)) = true ↔ 0 ≤ t_val b N p ∧ t_val b N p ≤ 24 := by
  have hW : ∀ c : Int, u_isW b N c (.inl (p, j)) = true ↔ t_val b N p = c := by
    intro c
    rw [u_isW, decide_eq_true hk, Bool.true_and, decide_eq_true_iff]
  constructor
  · intro g
    obtain ⟨c, hc, h⟩ := List.any_eq_true.mp g
    have hc := List.mem_range.mp hc
    have := (hW _).mp h
    omega
  · intro g
    refine List.any_eq_true.mpr ⟨(t_val b N p).toNat, List.mem_range.mpr (by omega), (hW _).mpr (by omega)⟩
theorem let_k (c : Int) (M : q_Mem) : ∃ y, fX12_isLetter c M = some (y, M) := by
  unfold fX12_isLetter
  split
  · exact ⟨_, rfl⟩
  · split
    · exact ⟨_, rfl⟩
    · exact ⟨_, rfl⟩
theorem n58_k : ∀ (n : Nat) (x : Int) (M : q_Mem) (r : Int) (M' : q_Mem), fX12_name_58 n x M = some (r, M') → M'.2 94 35 = M.2 94 35 := by
  have h145 : ∀ (x : Int) (M : q_Mem) (r : Int) (M' : q_Mem), fX12_name_145 x M = some (r, M') → M'.2 94 35 = M.2 94 35 := by
    intro x M r M' h
    unfold fX12_name_145 at h
    rw [q_le] at h
    cases h
    exact up_ne (by omega)
  have hfl : ∀ (k pl : Int) (M : q_Mem) (r : Int) (M' : q_Mem), (q_bd (fX12_fail k pl M) fun _ M3 => some (0, M3)) = some (r, M') → M'.2 94 35 = M.2 94 35 := by
    intro k pl M r M' h
    unfold fX12_fail at h
    by_cases c : q_w (M.2 94 5) = 0
    · rw [if_pos c, q_le, q_le, b_some] at h
      cases h
      rw [up_ne (by omega), up_ne (by omega)]
    · rw [if_neg c, b_some] at h
      cases h
      rfl
  intro n
  induction n with
  | zero => intro x M r M' h; cases h
  | succ n ih =>
    intro x M r M' h
    rw [fX12_name_58] at h
    by_cases c1 : q_w (M.2 94 2) < q_w (M.2 94 3)
    · rw [if_pos c1] at h
      cases hl : q_ld M 95 1600 (M.2 94 2) with
      | none => rw [hl] at h; cases h
      | some v =>
        obtain ⟨y, hy⟩ := let_k v M
        rw [hl, Option.bind_some, hy, b_some] at h
        by_cases c2 : q_w y = 0
        · rw [if_pos c2] at h
          exact h145 _ _ _ _ h
        · rw [if_neg c2] at h
          by_cases c3 : q_w (M.2 94 2 - M.2 94 35) = q_w 6
          · rw [if_pos c3] at h
            exact hfl _ _ _ _ _ h
          · rw [if_neg c3, hl, Option.bind_some, q_le, q_le] at h
            rw [ih _ _ _ _ h]
            exact up_ne (by omega)
    · rw [if_neg c1] at h
      exact h145 _ _ _ _ h
theorem o_name {b : Nat → Int} {N : Nat} {σ : t_S} {M M0 : q_Mem} (hw : r_words M0.2) (hf : z_94 M0 M) (hT : z_ot b N M) (hz : z_O b N σ M) : ∃ x M', fX12_name M = some (x, M') ∧ z_94 M0 M' ∧ z_ot b N M' ∧ z_O b N (u_M b N (fun _ => false) σ).2 M' ∧ (u_ok (u_M b N (fun _ => false) σ).2 = true → x = q_n27 (u_M b N (fun _ => false) σ).1.reverse ∧ h_ls (u_M b N (fun _ => false) σ).1 ∧ M'.2 94 35 = u_p σ) := by
  unfold fX12_name fX12_name_37
  rcases σ with ⟨p, j⟩ | ⟨k, pl⟩
  · have h5 : M.2 94 5 = 0 := hz.1
    rw [h5, show q_w 0 = 0 from rfl, if_pos rfl]
    obtain ⟨M1, g1, g2, g3⟩ := o_look hT hz
    have hf1 : z_94 M M1 := fun a k ha => g2 a k (by omega)
    have hT1 := z94_T hT hf1
    have hN := hT.2.2.2
    have hat := at_b2 hT p
    have g3' := g3
    obtain ⟨k5, kp, k2, ks, k41, k42, kj⟩ := g3
    have he := te_b (b := b) kp
    have bad : ∀ M2, z_94 M0 M2 → z_ot b N M2 → z_P b N p j M2 → ¬ (t_kind b N p j = 1 ∧ ¬ (0 ≤ t_val b N p ∧ t_val b N p ≤ 24)) → ∃ x M', (q_bd (fX12_fail 1 (p : Int) M2) fun _ M1 => some (0, M1)) = some (x, M') ∧ z_94 M0 M' ∧ z_ot b N M' ∧ z_O b N (u_M b N (fun _ => false) (.inl (p, j))).2 M' ∧ (u_ok (u_M b N (fun _ => false) (.inl (p, j))).2 = true → x = q_n27 (u_M b N (fun _ => false) (.inl (p, j))).1.reverse ∧ h_ls (u_M b N (fun _ => false) (.inl (p, j))).1 ∧ M'.2 94 35 = u_p (.inl (p, j))) := by
      intro M2 hf2 hT2 hP2 hk
      obtain ⟨M3, m1, m2, m3⟩ := o_fail (k := 1) (pl := (p : Int)) (P_O hP2) (by omega)
      rw [m1, b_some, u_M, if_neg hk]
      exact ⟨0, M3, rfl, z94_t hf2 m2, z94_T hT2 m2, m3, fun g => (by cases g)⟩
    rw [g1, b_some, (c_letr hat _).2, b_some, f_ite, k2, n_w (a := (p : Int)) (by omega) (by omega), n_w (a := M1.2 94 4) (by omega) (by omega)]
    have e2 : (p : Int) = M1.2 94 2 := k2.symm
    by_cases c1 : t_lt (t_at b N p) = true
    · rw [if_pos c1]
      by_cases c2 : (p : Int) = M1.2 94 4
      · rw [if_pos c2]
        rw [decide_eq_true c2.symm] at kj
        exact bad M1 (z94_t hf hf1) hT1 g3' (fun h => by
          have := (kd_1.mp h.1).2
          rw [kj] at this
          exact absurd this (by decide))
      · rw [if_neg c2]
        rw [decide_eq_false (fun g => c2 g.symm)] at kj
        have hk : t_kind b N p j = 1 := kd_1.mpr ⟨c1, kj⟩
        obtain ⟨M2, o1, o2, o3, o4, o5⟩ := own_a hw (z94_t hf hf1) hT1 (P_O g3')
        rw [o1, b_some, f_ite]
        by_cases c3 : u_own b N (.inl (p, j)) = true
        · rw [if_pos c3, show M2.2 94 2 = (p : Int) from o5.2.2.1]
          exact bad M2 o2 o3 o5 (fun h => h.2 ((own_v hk).mp c3))
        · rw [if_neg c3, q_le]
          have hg : t_kind b N p j = 1 ∧ ¬ (0 ≤ t_val b N p ∧ t_val b N p ≤ 24) := ⟨hk, fun g => c3 ((own_v hk).mpr g)⟩
          have o5' := o5
          obtain ⟨q5, qp, q2, qs, q41, q42, qj⟩ := o5
          have hend : t_end b N p = t_run t_lt b (N - p) p := by unfold t_end t_we; rw [if_pos c1]
          have h35 : z_94 M2 (q_up M2 94 35 (M2.2 94 2)) := fun a k ha => up_ne (by omega)
          have h58 := o_n58 (b := b) (N := N) (p := p) q_FU (N - p) p (q_up M2 94 35 (M2.2 94 2)) (z94_T o3 h35) (by omega) (by unfold q_FU; omega) (Nat.le_refl _) (by omega) (by rw [up_ne (by omega), q2]) (by rw [up_rd, if_pos ⟨rfl, rfl⟩, q2]) (by rw [up_ne (by omega), q5])
          rw [← hend, Nat.sub_self, t_ls, List.reverse_nil, q_n27] at h58
          rw [u_M, if_pos hg]
          by_cases c6 : 6 < t_end b N p - p
          · rw [if_pos c6] at h58 ⊢
            obtain ⟨M3, n1, n2, n3, n4⟩ := h58
            exact ⟨0, M3, n1, z94_t (z94_t o2 h35) n2, z94_T (z94_T o3 h35) n2, ⟨n3, n4, by omega, by omega⟩, fun g => (by cases g)⟩
          · rw [if_neg c6] at h58
            rw [if_neg c6, if_neg (by decide)]
            obtain ⟨M3, n1, n2, n3, n4, n5⟩ := h58
            obtain ⟨hl, _⟩ := nm_ls kp hk c6
            refine ⟨_, M3, n1, z94_t (z94_t o2 h35) n2, z94_T (z94_T o3 h35) n2, O_st hN kp (Or.inl hk) n5 n3 n4, fun _ => ⟨rfl, hl, ?_⟩⟩
            rw [n58_k _ _ _ _ _ n1, up_rd, if_pos ⟨rfl, rfl⟩, q2]
            rfl
    · rw [if_neg c1]
      exact bad M1 (z94_t hf hf1) hT1 g3' (fun h => c1 (kd_1.mp h.1).1)
  · have hz' := hz
    obtain ⟨h1, h2, h4⟩ := hz
    rw [h1, n_w (by omega) (by omega), if_neg (by omega)]
    exact ⟨0, M, rfl, hf, hT, hz', fun g => (by cases g)⟩
