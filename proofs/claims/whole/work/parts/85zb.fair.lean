/-! texts: a fair as it is read -/
abbrev t_Fr : Type := (Int × Int × Int) × List (List Int × Int × Int × Int × Int) × List (List Int × Int × Int) × List (Int × Int) × List Int × List Int
def f_dup (F : t_Fr) (l : List Int) : Bool := F.2.1.any (fun s => decide (s.1 = l)) || F.2.2.1.any (fun s => decide (s.1 = l))
def zc_S (r : Nat) (S : List (List Int × Int × Int × Int × Int)) (M : q_Mem) : Prop := M.2 r 1 = (S.length : Int) ∧ z_stk (M.2 (r + 1)) (S.map (fun s => q_n32 s.1)) ∧ z_stk (M.2 (r + 2)) (S.map (fun s => s.2.1)) ∧ z_stk (M.2 (r + 3)) (S.map (fun s => s.2.2.1)) ∧ z_stk (M.2 (r + 4)) (S.map (fun s => s.2.2.2.1)) ∧ z_stk (M.2 (r + 5)) (S.map (fun s => s.2.2.2.2))
def zc_C (r : Nat) (S : List (List Int × Int × Int)) (M : q_Mem) : Prop := M.2 r 7 = (S.length : Int) ∧ z_stk (M.2 (r + 6)) (S.map (fun s => q_n32 s.1)) ∧ z_stk (M.2 (r + 7)) (S.map (fun s => s.2.1)) ∧ z_stk (M.2 (r + 8)) (S.map (fun s => s.2.2))
def zc_L (r : Nat) (S : List (Int × Int)) (M : q_Mem) : Prop := M.2 r 11 = (S.length : Int) ∧ z_stk (M.2 (r + 9)) (S.map (fun s => s.1)) ∧ z_stk (M.2 (r + 10)) (S.map (fun s => s.2))
def zc_k (a : Nat) (R : List Int) (M : q_Mem) : Prop := M.2 a 1 = (R.length : Int) ∧ z_stk (M.2 (a + 1)) (R.map q_enc)
def zc_F (r : Nat) (F : t_Fr) (M : q_Mem) : Prop := (M.2 r 0 = F.1.1 ∧ M.2 r 16 = F.1.2.1 ∧ M.2 r 17 = F.1.2.2) ∧ zc_S r F.2.1 M ∧ zc_C r F.2.2.1 M ∧ zc_L r F.2.2.2.1 M ∧ zc_k (r + 11) F.2.2.2.2.1 M ∧ zc_k (r + 13) F.2.2.2.2.2 M
def w_F (F : t_Fr) : Prop := (F.2.1.length ≤ 6 ∧ F.2.2.1.length ≤ 8 ∧ F.2.2.2.1.length ≤ 8) ∧ (∀ s ∈ F.2.1, h_ls s.1 ∧ (0 ≤ s.2.1 ∧ s.2.1 ≤ 99) ∧ (0 ≤ s.2.2.1 ∧ s.2.2.1 ≤ 9) ∧ (0 ≤ s.2.2.2.1 ∧ s.2.2.2.1 ≤ 999) ∧ (0 ≤ s.2.2.2.2 ∧ s.2.2.2.2 ≤ 400)) ∧ (∀ s ∈ F.2.2.1, h_ls s.1 ∧ (0 ≤ s.2.1 ∧ s.2.1 ≤ 99) ∧ (0 ≤ s.2.2 ∧ s.2.2 ≤ 9)) ∧ (∀ s ∈ F.2.2.2.1, 0 ≤ s.1 ∧ s.1 ≤ s.2 ∧ s.2 ≤ 400) ∧ (F.2.2.2.2.1 = [] ∨ q_tc 0 F.2.2.2.2.1.reverse [] = some [false]) ∧ (F.2.2.2.2.2 = [] ∨ q_tc 1 F.2.2.2.2.2.reverse [] = some [true]) ∧ (0 ≤ F.1.2.1 ∧ F.1.2.1 ≤ 9999) ∧ (0 ≤ F.1.2.2 ∧ F.1.2.2 ≤ 100) ∧ (10 ≤ F.1.1 ∧ F.1.1 ≤ 400) ∧ (F.2.2.2.2.1.length ≤ 1600 ∧ F.2.2.2.2.2.length ≤ 1600)
theorem stk_in {f : Nat → Int} {T : List Int} (h : z_stk f T) {k : Nat} (hk : k < T.length) : f k ∈ T := (stk_mem h).mp ⟨k, hk, rfl⟩
theorem nm_any32 {α : Type} {S : List α} {g : α → List Int} {l : List Int} (hS : ∀ s ∈ S, h_ls (g s)) (hl : h_ls l) : q_n32 l ∈ S.map (fun s => q_n32 (g s)) ↔ S.any (fun s => decide (g s = l)) = true := by
  rw [List.mem_map, List.any_eq_true]
  constructor
  · rintro ⟨s, h1, h2⟩
    exact ⟨s, h1, decide_eq_true (n32_i _ _ (hS s h1).2.2 hl.2.2 h2)⟩
  · rintro ⟨s, h1, h2⟩
    exact ⟨s, h1, by rw [of_decide_eq_true h2]⟩
theorem nm_any27 {α : Type} {S : List α} {g : α → List Int} {l : List Int} (hS : ∀ s ∈ S, h_ls (g s)) (hl : h_ls l) : q_n27 l.reverse ∈ S.map (fun s => q_n27 (g s).reverse) ↔ S.any (fun s => decide (g s = l)) = true := by
  rw [List.mem_map, List.any_eq_true]
  constructor
  · rintro ⟨s, h1, h2⟩
    refine ⟨s, h1, decide_eq_true ?_⟩
    have := n27_i _ _ (fun c hc => (hS s h1).2.2 c (List.mem_reverse.mp hc)) (fun c hc => hl.2.2 c (List.mem_reverse.mp hc)) h2
    rw [← List.reverse_reverse (g s), this, List.reverse_reverse]
  · rintro ⟨s, h1, h2⟩
    exact ⟨s, h1, by rw [of_decide_eq_true h2]⟩
theorem hn_30 {r : Nat} {M : q_Mem} {L : Nat} {v : Int} (hr : r = 57 ∨ r = 72) (hL : L ≤ 8) (h7 : M.2 r 7 = (L : Int)) (hb : ∀ k, k < L → 0 ≤ M.2 (r + 6) k ∧ M.2 (r + 6) k < 1073741824) (hv : 0 ≤ v ∧ v < 1073741824) : ∀ (m i n : Nat), i + m = L → m < n → ((∃ k, i ≤ k ∧ k < L ∧ M.2 (r + 6) k = v) → fX2_hasName_30 r n v (i : Int) M = some (1, M)) ∧ ((¬ ∃ k, i ≤ k ∧ k < L ∧ M.2 (r + 6) k = v) → fX2_hasName_30 r n v (i : Int) M = some (0, M)) := by
  intro m
  induction m with
  | zero =>
    intro i n hi hn
    cases n with
    | zero => omega
    | succ n =>
      rw [fX2_hasName_30, h7, n_w (by omega) (by omega), n_w (by omega) (by omega), if_neg (by omega)]
      exact ⟨fun ⟨k, h1, h2, _⟩ => absurd h1 (by omega), fun _ => rfl⟩
  | succ m ih =>
    intro i n hi hn
    cases n with
    | zero => omega
    | succ n =>
      have h1 := ih (i + 1) n (by omega) (by omega)
      have hb := hb i (by omega)
      rw [fX2_hasName_30, h7, n_w (a := (i : Int)) (by omega) (by omega), n_w (a := (L : Int)) (by omega) (by omega), if_pos (by omega), fq8 hr, ld_n rfl (by omega) (by omega), Option.bind_some, n_w (a := M.2 (r + 6) i) (by omega) (by omega), n_w (a := v) (by omega) (by omega)]
      by_cases c : M.2 (r + 6) i = v
      · rw [if_pos c]
        exact ⟨fun _ => rfl, fun g => absurd ⟨i, Nat.le_refl _, by omega, c⟩ g⟩
      · rw [if_neg c, show (i : Int) + 1 = ((i + 1 : Nat) : Int) from by omega]
        refine ⟨fun ⟨k, g1, g2, g3⟩ => h1.1 ⟨k, ?_, g2, g3⟩, fun g => h1.2 (fun ⟨k, g1, g2, g3⟩ => g ⟨k, by omega, g2, g3⟩)⟩
        have : k ≠ i := fun e => c (by rw [← e]; exact g3)
        omega
theorem hn_2 {r : Nat} {M : q_Mem} {L : Nat} {v : Int} (hr : r = 57 ∨ r = 72) (hL : L ≤ 6) (h7 : M.2 r 1 = (L : Int)) (hb : ∀ k, k < L → 0 ≤ M.2 (r + 1) k ∧ M.2 (r + 1) k < 1073741824) (hv : 0 ≤ v ∧ v < 1073741824) : ∀ (m i n : Nat), i + m = L → m < n → ((∃ k, i ≤ k ∧ k < L ∧ M.2 (r + 1) k = v) → fX2_hasName_2 r n v (i : Int) M = some (1, M)) ∧ ((¬ ∃ k, i ≤ k ∧ k < L ∧ M.2 (r + 1) k = v) → fX2_hasName_2 r n v (i : Int) M = fX2_hasName_30 r q_FU v 0 M) := by
  intro m
  induction m with
  | zero =>
    intro i n hi hn
    cases n with
    | zero => omega
    | succ n =>
      rw [fX2_hasName_2, h7, n_w (by omega) (by omega), n_w (by omega) (by omega), if_neg (by omega)]
      exact ⟨fun ⟨k, h1, h2, _⟩ => absurd h1 (by omega), fun _ => rfl⟩
  | succ m ih =>
    intro i n hi hn
    cases n with
    | zero => omega
    | succ n =>
      have h1 := ih (i + 1) n (by omega) (by omega)
      have hb := hb i (by omega)
      rw [fX2_hasName_2, h7, n_w (a := (i : Int)) (by omega) (by omega), n_w (a := (L : Int)) (by omega) (by omega), if_pos (by omega), fq2 hr, ld_n rfl (by omega) (by omega), Option.bind_some, n_w (a := M.2 (r + 1) i) (by omega) (by omega), n_w (a := v) (by omega) (by omega)]
      by_cases c : M.2 (r + 1) i = v
      · rw [if_pos c]
        exact ⟨fun _ => rfl, fun g => absurd ⟨i, Nat.le_refl _, by omega, c⟩ g⟩
      · rw [if_neg c, show (i : Int) + 1 = ((i + 1 : Nat) : Int) from by omega]
        refine ⟨fun ⟨k, g1, g2, g3⟩ => h1.1 ⟨k, ?_, g2, g3⟩, fun g => h1.2 (fun ⟨k, g1, g2, g3⟩ => g ⟨k, by omega, g2, g3⟩)⟩
        have : k ≠ i := fun e => c (by rw [← e]; exact g3)
        omega
theorem c_hn {r : Nat} {M : q_Mem} {F : t_Fr} (hr : r = 57 ∨ r = 72) (hw : w_F F) (h1 : zc_S r F.2.1 M) (h2 : zc_C r F.2.2.1 M) {l : List Int} (hl : h_ls l) : fX2_hasName r (q_n32 l) M = some (if f_dup F l = true then 1 else 0, M) := by
  have hlw := n32_w hl
  have b1 : ∀ k, k < F.2.1.length → 0 ≤ M.2 (r + 1) k ∧ M.2 (r + 1) k < 1073741824 := by
    intro k hk
    have := stk_in h1.2.1 (k := k) (by rw [List.length_map]; exact hk)
    obtain ⟨s, hs, e⟩ := List.mem_map.mp this
    rw [← e]
    exact n32_w (hw.2.1 s hs).1
  have b2 : ∀ k, k < F.2.2.1.length → 0 ≤ M.2 (r + 6) k ∧ M.2 (r + 6) k < 1073741824 := by
    intro k hk
    have := stk_in h2.2.1 (k := k) (by rw [List.length_map]; exact hk)
    obtain ⟨s, hs, e⟩ := List.mem_map.mp this
    rw [← e]
    exact n32_w (hw.2.2.1 s hs).1
  have m1 := stk_mem (v := q_n32 l) h1.2.1
  rw [List.length_map, nm_any32 (g := fun s => s.1) (fun s hs => (hw.2.1 s hs).1) hl] at m1
  have m2 := stk_mem (v := q_n32 l) h2.2.1
  rw [List.length_map, nm_any32 (g := fun s => s.1) (fun s hs => (hw.2.2.1 s hs).1) hl] at m2
  have l1 := hn_2 hr hw.1.1 h1.1 b1 hlw F.2.1.length 0 q_FU (by omega) (by have := hw.1.1; unfold q_FU; omega)
  have l2 := hn_30 hr hw.1.2.1 h2.1 b2 hlw F.2.2.1.length 0 q_FU (by omega) (by have := hw.1.2.1; unfold q_FU; omega)
  unfold fX2_hasName f_dup
  by_cases c1 : F.2.1.any (fun s => decide (s.1 = l)) = true
  · obtain ⟨k, k1, k2⟩ := m1.mpr c1
    rw [c1, Bool.true_or, if_pos rfl]
    exact l1.1 ⟨k, by omega, k1, k2⟩
  · have e1 := l1.2 (fun ⟨k, _, k1, k2⟩ => c1 (m1.mp ⟨k, k1, k2⟩))
    rw [Bool.eq_false_iff.mpr c1, Bool.false_or]
    rw [show ((0 : Nat) : Int) = 0 from rfl] at e1
    rw [e1]
    by_cases c2 : F.2.2.1.any (fun s => decide (s.1 = l)) = true
    · obtain ⟨k, k1, k2⟩ := m2.mpr c2
      rw [if_pos c2]
      exact l2.1 ⟨k, by omega, k1, k2⟩
    · rw [if_neg c2]
      exact l2.2 (fun ⟨k, _, k1, k2⟩ => c2 (m2.mp ⟨k, k1, k2⟩))
/-! what a statement comes to -/
def s_wn (b : Nat → Int) (N : Nat) (w lo hi : Int) (σ : t_S) : Int × t_S := u_N b N lo hi (u_W b N w σ)
def s_sta (b : Nat → Int) (N : Nat) (F : t_Fr) (σ : t_S) : t_S × t_Fr :=
  if F.2.1.length < 6 then ((s_wn b N 5 0 400 (s_wn b N 4 0 999 (s_wn b N 3 0 9 (s_wn b N 2 0 99 (u_M b N (f_dup F) (u_st b N σ)).2).2).2).2).2, (F.1, ((u_M b N (f_dup F) (u_st b N σ)).1, (s_wn b N 2 0 99 (u_M b N (f_dup F) (u_st b N σ)).2).1, (s_wn b N 3 0 9 (s_wn b N 2 0 99 (u_M b N (f_dup F) (u_st b N σ)).2).2).1, (s_wn b N 4 0 999 (s_wn b N 3 0 9 (s_wn b N 2 0 99 (u_M b N (f_dup F) (u_st b N σ)).2).2).2).1, (s_wn b N 5 0 400 (s_wn b N 4 0 999 (s_wn b N 3 0 9 (s_wn b N 2 0 99 (u_M b N (f_dup F) (u_st b N σ)).2).2).2).2).1) :: F.2.1, F.2.2))
  else (u_fl 5 (u_p σ) σ, F)
def s_coi (b : Nat → Int) (N : Nat) (F : t_Fr) (σ : t_S) : t_S × t_Fr :=
  if F.2.2.1.length < 8 then ((s_wn b N 8 0 9 (s_wn b N 7 0 99 (u_M b N (f_dup F) (u_st b N σ)).2).2).2, (F.1, F.2.1, ((u_M b N (f_dup F) (u_st b N σ)).1, (s_wn b N 7 0 99 (u_M b N (f_dup F) (u_st b N σ)).2).1, (s_wn b N 8 0 9 (s_wn b N 7 0 99 (u_M b N (f_dup F) (u_st b N σ)).2).2).1) :: F.2.2.1, F.2.2.2))
  else (u_fl 5 (u_p σ) σ, F)
def s_clo (b : Nat → Int) (N : Nat) (F : t_Fr) (σ : t_S) : t_S × t_Fr :=
  if F.2.2.2.1.length < 8 then ((s_wn b N 10 (u_N b N 0 400 (u_st b N σ)).1 400 (u_N b N 0 400 (u_st b N σ)).2).2, (F.1, F.2.1, F.2.2.1, ((u_N b N 0 400 (u_st b N σ)).1, (s_wn b N 10 (u_N b N 0 400 (u_st b N σ)).1 400 (u_N b N 0 400 (u_st b N σ)).2).1) :: F.2.2.2.1, F.2.2.2.2))
  else (u_fl 5 (u_p σ) σ, F)
def s_sha (b : Nat → Int) (N : Nat) (F : t_Fr) (σ : t_S) : t_S × t_Fr :=
  if F.2.2.2.2.1 = [] then ((s_G b N 0 60 3 0 (u_st b N σ, [])).1, (F.1, F.2.1, F.2.2.1, F.2.2.2.1, (s_G b N 0 60 3 0 (u_st b N σ, [])).2, F.2.2.2.2.2))
  else (u_fl 5 (u_p σ) σ, F)
def s_ref (b : Nat → Int) (N : Nat) (F : t_Fr) (σ : t_S) : t_S × t_Fr :=
  if F.2.2.2.2.2 = [] then ((s_G b N 1 60 0 0 (u_st b N σ, [])).1, (F.1, F.2.1, F.2.2.1, F.2.2.2.1, F.2.2.2.2.1, (s_G b N 1 60 0 0 (u_st b N σ, [])).2))
  else (u_fl 5 (u_p σ) σ, F)
def s_brg (b : Nat → Int) (N : Nat) (F : t_Fr) (σ : t_S) : t_S × t_Fr := ((u_N b N 0 9999 (u_st b N σ)).2, ((F.1.1, (u_N b N 0 9999 (u_st b N σ)).1, F.1.2.2), F.2))
def s_gus (b : Nat → Int) (N : Nat) (F : t_Fr) (σ : t_S) : t_S × t_Fr := ((u_N b N 0 100 (u_st b N σ)).2, ((F.1.1, F.1.2.1, (u_N b N 0 100 (u_st b N σ)).1), F.2))
def s_st0 (b : Nat → Int) (N : Nat) (F : t_Fr) (σ : t_S) : t_S × t_Fr :=
  if u_isW b N 1 σ = true then s_sta b N F σ else if u_isW b N 6 σ = true then s_coi b N F σ else if u_isW b N 9 σ = true then s_clo b N F σ else if u_isW b N 11 σ = true then s_sha b N F σ else if u_isW b N 12 σ = true then s_ref b N F σ else if u_isW b N 13 σ = true then s_brg b N F σ else if u_isW b N 14 σ = true then s_gus b N F σ else (u_fl 1 (u_p σ) σ, F)
def s_stm (b : Nat → Int) (N : Nat) (r : t_S × t_Fr) : t_S × t_Fr := (u_Z b N 59 (s_st0 b N r.2 r.1).1, (s_st0 b N r.2 r.1).2)
theorem ok_W {b : Nat → Int} {N : Nat} {w : Int} {σ : t_S} (h : u_ok (u_W b N w σ) = true) : u_ok σ = true := by
  unfold u_W at h
  by_cases c : u_isW b N w σ = true
  · exact ok_isW c
  · rw [if_neg c, ok_fl] at h; cases h
theorem ok_wn {b : Nat → Int} {N : Nat} {w lo hi : Int} {σ : t_S} (h : u_ok (s_wn b N w lo hi σ).2 = true) : u_ok σ = true := ok_W (ok_N h)
theorem ok_M {b : Nat → Int} {N : Nat} {dup : List Int → Bool} {σ : t_S} (h : u_ok (u_M b N dup σ).2 = true) : u_ok σ = true := by
  rcases σ with ⟨p, j⟩ | e
  · rfl
  · exact h
