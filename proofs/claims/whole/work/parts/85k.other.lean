/-! texts: the other side's reading -/
theorem run_s (f : Int → Bool) (b : Nat → Int) : ∀ n p, t_run f b n p < p + n → f (b (t_run f b n p)) = false := by
  intro n
  induction n with
  | zero => intro p h; rw [t_run] at h; omega
  | succ n ih =>
    intro p h
    rw [t_run] at h ⊢
    by_cases c : f (b p) = true
    · rw [if_pos c] at h ⊢
      exact ih (p + 1) (by omega)
    · rw [if_neg c]
      exact Bool.eq_false_iff.mpr c
theorem run_0 (f : Int → Bool) (b : Nat → Int) {n p : Nat} (h : f (b p) = false) : t_run f b n p = p := by
  cases n with
  | zero => rfl
  | succ n => rw [t_run, if_neg (by rw [h]; decide)]
theorem sk_i (b : Nat → Int) {N p : Nat} (h : p ≤ N) : t_sk b N (t_sk b N p) = t_sk b N p := by
  have h1 := run_b t_bl b (N - p) p
  have h2 := run_s t_bl b (N - p) p
  unfold t_sk
  by_cases c : t_run t_bl b (N - p) p < N
  · exact run_0 _ _ (h2 (by omega))
  · rw [show N - t_run t_bl b (N - p) p = 0 from by omega]
    rfl
def z_ot (b : Nat → Int) (N : Nat) (M : q_Mem) : Prop := M.2 94 3 = (N : Int) ∧ (∀ k, k < N → M.2 95 k = b k) ∧ (∀ k, 0 ≤ b k ∧ b k ≤ 255) ∧ N ≤ 1600
def z_O (b : Nat → Int) (N : Nat) (σ : t_S) (M : q_Mem) : Prop := match σ with
  | .inl (p, j) => M.2 94 5 = 0 ∧ p ≤ N ∧ ∃ (a : Nat) (e : Int), M.2 94 2 = (a : Int) ∧ M.2 94 4 = e ∧ a ≤ N ∧ -1 ≤ e ∧ e ≤ (a : Int) ∧ t_sk b N a = p ∧ j = decide (e = (p : Int))
  | .inr (k, pl) => M.2 94 5 = k ∧ M.2 94 6 = pl ∧ 1 ≤ k ∧ k ≤ 5
/-- the other side stands on the token itself -/
def z_P (b : Nat → Int) (N p : Nat) (j : Bool) (M : q_Mem) : Prop := M.2 94 5 = 0 ∧ p ≤ N ∧ M.2 94 2 = (p : Int) ∧ t_sk b N p = p ∧ -1 ≤ M.2 94 4 ∧ M.2 94 4 ≤ (p : Int) ∧ j = decide (M.2 94 4 = (p : Int))
theorem P_O {b : Nat → Int} {N p : Nat} {j : Bool} {M : q_Mem} (h : z_P b N p j M) : z_O b N (.inl (p, j)) M := ⟨h.1, h.2.1, p, _, h.2.2.1, rfl, h.2.1, h.2.2.2.2.1, h.2.2.2.2.2.1, h.2.2.2.1, h.2.2.2.2.2.2⟩
def z_94 (M M' : q_Mem) : Prop := ∀ a k, ¬ (a = 94 ∧ (k = 2 ∨ k = 4 ∨ k = 5 ∨ k = 6 ∨ k = 35)) → M'.2 a k = M.2 a k
theorem z94_t {M M' M2 : q_Mem} (h : z_94 M M') (g : z_94 M' M2) : z_94 M M2 := fun a k ha => by rw [g a k ha, h a k ha]
theorem z94_r (M : q_Mem) : z_94 M M := fun _ _ _ => rfl
theorem z94_T {b : Nat → Int} {N : Nat} {M M' : q_Mem} (h : z_ot b N M) (hk : z_94 M M') : z_ot b N M' := ⟨by rw [hk 94 3 (by omega)]; exact h.1, fun k hk' => by rw [hk 95 k (by omega)]; exact h.2.1 k hk', h.2.2⟩
theorem o_ld {b : Nat → Int} {N : Nat} {M : q_Mem} (h : z_ot b N M) {k : Nat} (hk : k < N) : q_ld M 95 1600 (k : Int) = some (b k) := by
  have hN := h.2.2.2
  rw [b_ld (by omega) (by omega) (by omega), Int.toNat_natCast, h.2.1 k hk]
theorem o_lk0 {b : Nat → Int} {N : Nat} : ∀ (n v a : Nat) (M : q_Mem), z_ot b N M → a + v = N → v < n → M.2 94 2 = (a : Int) → ∃ M', (∀ x k, ¬ (x = 94 ∧ k = 2) → M'.2 x k = M.2 x k) ∧ M'.2 94 2 = ((t_run t_bl b v a : Nat) : Int) ∧ fX12_look_0 n M = some (t_at b N (t_run t_bl b v a), M') := by
  intro n
  induction n with
  | zero => intro v a M _ _ h; omega
  | succ n ih =>
    intro v a M hT hv hn ha
    have hN := hT.2.2.2
    unfold fX12_look_0 fX12_look_52 fX12_look_39
    rw [ha, hT.1, n_w (a := (a : Int)) (by omega) (by omega), n_w (a := (N : Int)) (by omega) (by omega)]
    cases v with
    | zero =>
      rw [if_neg (by omega), if_neg (by omega), t_run, show t_at b N a = -1 from if_neg (by omega)]
      exact ⟨M, fun _ _ _ => rfl, ha, rfl⟩
    | succ v =>
      have hb := hT.2.2.1 a
      rw [if_pos (by omega), o_ld hT (by omega)]
      simp only [Option.bind_some]
      rw [n_w (a := b a) (by omega) (by omega), show q_w 10 = 10 from rfl, show q_w 32 = 32 from rfl, q_le]
      have hq : ∃ M', (∀ x k, ¬ (x = 94 ∧ k = 2) → M'.2 x k = M.2 x k) ∧ M'.2 94 2 = ((t_run t_bl b v (a + 1) : Nat) : Int) ∧ fX12_look_0 n (q_up M 94 2 ((a : Int) + 1)) = some (t_at b N (t_run t_bl b v (a + 1)), M') := by
        obtain ⟨M', g1, g2, g3⟩ := ih v (a + 1) (q_up M 94 2 ((a : Int) + 1)) (z94_T hT (fun x k hx => up_ne (by omega))) (by omega) (by omega) (by rw [up_rd, if_pos ⟨rfl, rfl⟩]; omega)
        exact ⟨M', fun x k hx => by rw [g1 x k hx, up_ne hx], g2, g3⟩
      rw [t_run]
      by_cases c1 : b a = 10
      · rw [if_pos c1, if_pos (by unfold t_bl; rw [c1]; rfl)]
        exact hq
      · rw [if_neg c1]
        by_cases c2 : b a = 32
        · rw [if_pos c2, if_pos (by unfold t_bl; rw [c2]; rfl)]
          exact hq
        · rw [if_neg c2, if_neg (by unfold t_bl; rw [decide_eq_false c1, decide_eq_false c2]; decide), at_in (by omega), if_pos (by omega)]
          exact ⟨M, fun _ _ _ => rfl, ha, rfl⟩
theorem o_look {b : Nat → Int} {N p : Nat} {j : Bool} {M : q_Mem} (hT : z_ot b N M) (hz : z_O b N (.inl (p, j)) M) : ∃ M', fX12_look M = some (t_at b N p, M') ∧ (∀ x k, ¬ (x = 94 ∧ k = 2) → M'.2 x k = M.2 x k) ∧ z_P b N p j M' := by
  obtain ⟨h5, hp, a, e, h2, h4, haN, he1, he2, hs, hj⟩ := hz
  have hN := hT.2.2.2
  obtain ⟨M', g1, g2, g3⟩ := o_lk0 (b := b) (N := N) q_FU (N - a) a M hT (by omega) (by unfold q_FU; omega) h2
  have hs' : t_run t_bl b (N - a) a = p := hs
  have hr := run_b t_bl b (N - a) a
  rw [hs'] at g2 g3 hr
  refine ⟨M', g3, g1, by rw [g1 94 5 (by omega), h5], hp, g2, by rw [← hs]; exact sk_i b haN, ?_, ?_, ?_⟩
  · rw [g1 94 4 (by omega), h4]; exact he1
  · rw [g1 94 4 (by omega), h4]; omega
  · rw [g1 94 4 (by omega), h4]; exact hj
theorem o_fail {b : Nat → Int} {N : Nat} {σ : t_S} {M : q_Mem} (hz : z_O b N σ M) {k pl : Int} (hk : 1 ≤ k ∧ k ≤ 5) : ∃ M', fX12_fail k pl M = some (0, M') ∧ z_94 M M' ∧ z_O b N (u_fl k pl σ) M' := by
  unfold fX12_fail
  rcases σ with ⟨p, j⟩ | ⟨k', pl'⟩
  · have h5 : M.2 94 5 = 0 := hz.1
    rw [h5, show q_w 0 = 0 from rfl, if_pos rfl, q_le, q_le]
    exact ⟨_, rfl, fun a k ha => by rw [up_ne (by omega), up_ne (by omega)], by rw [up_ne (by omega), up_rd, if_pos ⟨rfl, rfl⟩], by rw [up_rd, if_pos ⟨rfl, rfl⟩], hk⟩
  · have hz' := hz
    obtain ⟨h1, h2, h4⟩ := hz
    rw [h1, n_w (by omega) (by omega), if_neg (by omega)]
    exact ⟨M, rfl, z94_r M, hz'⟩
/-- the words are told apart -/
theorem t_dist : ∀ v, v < 31 → ∀ w, w < 31 → t_W.getD v [] = t_W.getD w [] → v = w := by decide +kernel
theorem wv_1 {w : Nat} (hw : w < 31) : ∀ (v u : Nat) (x : Int), u + v = 31 → (x = w ∨ u ≤ w) → t_wv (t_W.getD w []) v u x = (w : Int) := by
  intro v
  induction v with
  | zero => intro u x hu hx; rw [t_wv]; omega
  | succ v ih =>
    intro u x hu hx
    rw [t_wv]
    by_cases c : t_W.getD w [] = t_W.getD u []
    · have := t_dist w hw u (by omega) c
      rw [if_pos c]
      exact ih (u + 1) _ (by omega) (Or.inl (by omega))
    · rw [if_neg c]
      refine ih (u + 1) _ (by omega) ?_
      by_cases cu : u = w
      · rw [cu] at c; exact absurd rfl c
      · omega
theorem wv_2 {s : List Int} {w : Nat} (hs : s ≠ t_W.getD w []) : ∀ (v u : Nat) (x : Int), u + v = 31 → x ≠ w → t_wv s v u x ≠ (w : Int) := by
  intro v
  induction v with
  | zero => intro u x hu hx; exact hx
  | succ v ih =>
    intro u x hu hx
    rw [t_wv]
    refine ih (u + 1) _ (by omega) ?_
    by_cases c : s = t_W.getD u []
    · rw [if_pos c]
      intro g
      exact hs (by rw [c, show u = w from by omega])
    · rw [if_neg c]; exact hx
theorem wd_iff {b : Nat → Int} {p e w : Nat} (hw : w < 31) : t_word b p e = (w : Int) ↔ t_seg b p e = t_W.getD w [] := by
  unfold t_word
  constructor
  · intro h
    by_cases c : t_seg b p e = t_W.getD w []
    · exact c
    · exact absurd h (wv_2 c 31 0 (-1) rfl (by omega))
  · intro h
    rw [h]
    exact wv_1 hw 31 0 (-1) rfl (Or.inr (Nat.zero_le _))
/-- a word of the other side lies in a cell -/
def z_w (M : q_Mem) (r : Nat) (s : List Int) : Prop := ∀ j, j < s.length → M.2 r j = s.getD j 0
theorem o_h76 {b : Nat → Int} {N p r : Nat} {s : List Int} {M : q_Mem} (hT : z_ot b N M) (hw : z_w M r s) (hsb : ∀ j, j < s.length → 0 ≤ s.getD j 0 ∧ s.getD j 0 ≤ 255) (hp : M.2 94 2 = (p : Int)) (hpN : p + s.length ≤ N) : ∀ n i : Nat, i ≤ s.length → s.length - i < n → (∀ k, k < i → b (p + k) = s.getD k 0) → fX12_isHere_76 r s.length n (i : Int) M = some (if (List.range s.length).map (fun k => b (p + k)) = s then 1 else 0, M) := by
  have hN := hT.2.2.2
  have hm : (List.range s.length).map (fun k => b (p + k)) = s ↔ ∀ k, k < s.length → b (p + k) = s.getD k 0 := by
    constructor
    · intro h k hk
      conv => rhs; rw [← h]
      rw [List.getD_eq_getElem?_getD, List.getElem?_map, List.getElem?_range hk]
      rfl
    · intro h
      refine List.ext_getElem? fun k => ?_
      by_cases c : k < s.length
      · rw [List.getElem?_map, List.getElem?_range c, Option.map_some, h k c, List.getD_eq_getElem?_getD, List.getElem?_eq_getElem c]
        rfl
      · rw [List.getElem?_eq_none (by rw [List.length_map, List.length_range]; omega), List.getElem?_eq_none (by omega)]
  intro n
  induction n with
  | zero => intro i _ h; omega
  | succ n ih =>
    intro i hi hn he
    rw [fX12_isHere_76, n_w (a := (i : Int)) (by omega) (by omega), n_w (a := ((s.length : Nat) : Int)) (by omega) (by omega), hp]
    by_cases c : i < s.length
    · have hb := hT.2.2.1 (p + i)
      have hc := hsb i c
      rw [if_pos (by omega), show (p : Int) + (i : Int) = ((p + i : Nat) : Int) from by omega, o_ld hT (by omega), Option.bind_some, b_ld (by omega) (by omega) (by omega), Option.bind_some, Int.toNat_natCast, hw i c, n_w (a := b (p + i)) (by omega) (by omega), n_w (a := s.getD i 0) (by omega) (by omega)]
      by_cases c2 : b (p + i) = s.getD i 0
      · rw [if_pos c2, show (i : Int) + 1 = ((i + 1 : Nat) : Int) from by omega]
        exact ih (i + 1) (by omega) (by omega) (fun k hk => by
          by_cases c3 : k = i
          · rw [c3, c2]
          · exact he k (by omega))
      · rw [if_neg c2, if_neg (fun g => c2 (hm.mp g i c))]
    · rw [if_neg (by omega), if_pos (hm.mpr (fun k hk => he k (by omega)))]
theorem o_h35 {b : Nat → Int} {N p r m : Nat} {M : q_Mem} (hT : z_ot b N M) : ∀ (n v e : Nat), e + v = N → v < n → fX12_isHere_35 r m n (e : Int) M = fX12_isHere_61 r m ((t_run t_lt b v e : Nat) : Int) M := by
  have hN := hT.2.2.2
  intro n
  induction n with
  | zero => intro v e _ h; omega
  | succ n ih =>
    intro v e hv hn
    rw [fX12_isHere_35, hT.1, n_w (a := (e : Int)) (by omega) (by omega), n_w (a := (N : Int)) (by omega) (by omega)]
    cases v with
    | zero => rw [if_neg (by omega), t_run]
    | succ v =>
      have hb := hT.2.2.1 e
      rw [if_pos (by omega), o_ld hT (by omega), Option.bind_some, (c_letr (by omega) _).2, b_some, f_ite, t_run]
      by_cases c : t_lt (b e) = true
      · rw [if_pos c, if_pos c, show (e : Int) + 1 = ((e + 1 : Nat) : Int) from by omega]
        exact ih v (e + 1) (by omega) (by omega)
      · rw [if_neg c, if_neg c]
def z_Q (b : Nat → Int) (N : Nat) (σ : t_S) (M : q_Mem) : Prop := match σ with
  | .inl (p, j) => z_P b N p j M
  | .inr (k, pl) => M.2 94 5 = k ∧ M.2 94 6 = pl ∧ 1 ≤ k ∧ k ≤ 5
theorem Q_O {b : Nat → Int} {N : Nat} {σ : t_S} {M : q_Mem} (h : z_Q b N σ M) : z_O b N σ M := by
  rcases σ with ⟨p, j⟩ | ⟨k, pl⟩
  · exact P_O h
  · exact h
theorem t_Wb : ∀ w, w < 31 → ∀ j, j < (t_W.getD w []).length → 0 ≤ (t_W.getD w []).getD j 0 ∧ (t_W.getD w []).getD j 0 ≤ 255 := by decide +kernel
theorem kd_1 {b : Nat → Int} {N p : Nat} {j : Bool} : t_kind b N p j = 1 ↔ t_lt (t_at b N p) = true ∧ j = false := by
  unfold t_kind
  by_cases c1 : t_lt (t_at b N p) = true
  · rw [if_pos c1]
    cases j <;> simp [c1]
  · rw [if_neg c1]
    constructor
    · intro h
      exfalso
      revert h
      split <;> (try split) <;> omega
    · intro h
      exact absurd h.1 c1
theorem o_isH {b : Nat → Int} {N : Nat} {σ : t_S} {M : q_Mem} (hT : z_ot b N M) (hz : z_O b N σ M) {w r m : Nat} (hw : w < 31) (hr94 : r ≠ 94) (hzw : z_w M r (t_W.getD w [])) (hm : m = (t_W.getD w []).length) : ∃ M', fX12_isHere r m M = some (if u_isW b N (w : Int) σ = true then 1 else 0, M') ∧ z_94 M M' ∧ z_Q b N σ M' := by
  unfold fX12_isHere
  rcases σ with ⟨p, j⟩ | ⟨k, pl⟩
  · have h5 : M.2 94 5 = 0 := hz.1
    rw [h5, show q_w 0 = 0 from rfl, if_pos rfl]
    obtain ⟨M1, g1, g2, g3⟩ := o_look hT hz
    have hf : z_94 M M1 := fun a k ha => g2 a k (by omega)
    have hT1 := z94_T hT hf
    have hN := hT.2.2.2
    have hat : -1 ≤ t_at b N p ∧ t_at b N p ≤ 255 := by
      have := hT.2.2.1 p
      unfold t_at
      by_cases c : p < N
      · rw [if_pos c]; omega
      · rw [if_neg c]; omega
    obtain ⟨k5, kp, k2, ks, k41, k42, kj⟩ := g3
    rw [g1, b_some, (c_letr hat _).2, b_some, f_ite, q_le, k2, n_w (a := (p : Int)) (by omega) (by omega), n_w (a := M1.2 94 4) (by omega) (by omega)]
    refine ⟨M1, ?_, hf, ⟨k5, kp, k2, ks, k41, k42, kj⟩⟩
    rw [u_isW]
    by_cases c1 : t_lt (t_at b N p) = true
    · rw [if_pos c1]
      by_cases c2 : M1.2 94 4 = (p : Int)
      · rw [if_pos c2.symm, if_neg]
        rw [decide_eq_true c2] at kj
        intro h
        have := (kd_1.mp (of_decide_eq_true (Bool.and_eq_true_iff.mp h).1)).2
        rw [kj] at this
        exact absurd this (by decide)
      · rw [if_neg (fun g => c2 g.symm), o_h35 (p := p) hT1 q_FU (N - p) p (by omega) (by unfold q_FU; omega)]
        rw [decide_eq_false c2] at kj
        have hk1 : t_kind b N p j = 1 := kd_1.mpr ⟨c1, kj⟩
        have hv : t_val b N p = t_word b p (t_we b N p) := by unfold t_val; rw [if_pos c1]
        rw [decide_eq_true hk1, Bool.true_and, hv]
        have hr := run_b t_lt b (N - p) p
        unfold fX12_isHere_61
        have hl6 := (t_tab w hw).1
        rw [k2, n_w (by omega) (by omega), n_w (by omega) (by omega)]
        have hwe : t_we b N p = t_run t_lt b (N - p) p := rfl
        by_cases c3 : t_we b N p - p = m
        · rw [if_pos (by omega), show (0 : Int) = ((0 : Nat) : Int) from rfl, hm, o_h76 (b := b) (N := N) (p := p) hT1 (fun i hi => by rw [hf r i (by omega)]; exact hzw i hi) (t_Wb w hw) k2 (by omega) q_FU 0 (by omega) (by unfold q_FU; omega) (fun k hk => absurd hk (by omega))]
          have : t_seg b p (t_we b N p) = (List.range (t_W.getD w []).length).map (fun k => b (p + k)) := by unfold t_seg; rw [c3, hm]
          have hi := wd_iff (b := b) (p := p) (e := t_we b N p) hw
          rw [this] at hi
          by_cases c4 : t_word b p (t_we b N p) = (w : Int)
          · rw [if_pos (hi.mp c4), if_pos (decide_eq_true c4)]
          · rw [if_neg (fun g => c4 (hi.mpr g)), if_neg (by rw [decide_eq_false c4]; decide)]; rfl
        · rw [if_neg (by omega), if_neg]
          intro h
          have h2 := (wd_iff hw).mp (of_decide_eq_true h)
          have h3 : (t_seg b p (t_we b N p)).length = m := by rw [h2, hm]
          unfold t_seg at h3
          rw [List.length_map, List.length_range] at h3
          exact c3 h3
    · rw [if_neg c1, if_neg]
      intro h
      exact c1 (kd_1.mp (of_decide_eq_true (Bool.and_eq_true_iff.mp h).1)).1
  · have hz' := hz
    obtain ⟨h1, h2, h4⟩ := hz
    rw [h1, n_w (by omega) (by omega), if_neg (by omega)]
    exact ⟨M, rfl, z94_r M, hz'⟩
