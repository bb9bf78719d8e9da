/-! texts: the other side's fair as it is read; its new names -/
def v_o (a k : Nat) : Prop := (a = 94 ∧ (k = 2 ∨ k = 4 ∨ k = 5 ∨ k = 6 ∨ k = 35 ∨ k = 45 ∨ k = 46 ∨ k = 48 ∨ k = 91 ∨ k = 93 ∨ k = 94 ∨ k = 95)) ∨ (a = 122 ∧ k < 3) ∨ (a = 123 ∧ k < 3) ∨ (a = 124 ∧ k < 16) ∨ (a = 125 ∧ k < 24) ∨ (a = 126 ∧ k < 16) ∨ (a = 127 ∧ k < 16) ∨ (a = 128 ∧ k < 2) ∨ (a = 129 ∧ k < 2) ∨ (a = 130 ∧ k < 1600) ∨ a = 162 ∨ a = 163
def z_of (M0 M : q_Mem) : Prop := ∀ a k, ¬ v_o a k → M.2 a k = M0.2 a k
theorem of_94 {M0 M M' : q_Mem} (h : z_of M0 M) (h9 : z_94 M M') : z_of M0 M' := fun a k hk => by rw [h9 a k (by unfold v_o at hk; omega), h a k hk]
theorem of_ws {M0 M : q_Mem} (h : z_of M0 M) (hw : r_words M0.2) : r_words M.2 := by
  intro e he j hj
  have := a_wc e he
  rw [h _ _ (by unfold v_o; omega)]
  exact hw e he j hj
theorem ws_94 {M M' : q_Mem} (hw : r_words M.2) (h : z_94 M M') : r_words M'.2 := by
  intro e he j hj
  have := a_wc e he
  rw [h _ _ (by omega)]
  exact hw e he j hj
def zo_S (S : List (List Int × Int × Int × Int × Int)) (M : q_Mem) : Prop := M.2 123 0 = (S.length : Int) ∧ z_stk (M.2 124) (S.map (fun s => q_n27 s.1.reverse)) ∧ z_stk (fun k => M.2 125 (4 * k)) (S.map (fun s => s.2.1)) ∧ z_stk (fun k => M.2 125 (4 * k + 1)) (S.map (fun s => s.2.2.1)) ∧ z_stk (fun k => M.2 125 (4 * k + 2)) (S.map (fun s => s.2.2.2.1)) ∧ z_stk (fun k => M.2 125 (4 * k + 3)) (S.map (fun s => s.2.2.2.2))
def zo_C (S : List (List Int × Int × Int)) (M : q_Mem) : Prop := M.2 123 1 = (S.length : Int) ∧ z_stk (fun k => M.2 124 (8 + k)) (S.map (fun s => q_n27 s.1.reverse)) ∧ z_stk (fun k => M.2 126 (2 * k)) (S.map (fun s => s.2.1)) ∧ z_stk (fun k => M.2 126 (2 * k + 1)) (S.map (fun s => s.2.2))
def zo_L (S : List (Int × Int)) (M : q_Mem) : Prop := M.2 123 2 = (S.length : Int) ∧ z_stk (fun k => M.2 127 (2 * k)) (S.map (fun s => s.1)) ∧ z_stk (fun k => M.2 127 (2 * k + 1)) (S.map (fun s => s.2))
def zo_k (cd i : Nat) (R : List Int) (M : q_Mem) : Prop := (R = [] ∧ M.2 128 i = -1) ∨ (R ≠ [] ∧ ∃ f : Nat, M.2 128 i = (f : Int) ∧ M.2 129 i = ((f + R.length : Nat) : Int) ∧ f + R.length ≤ cd ∧ ∀ j, j < R.length → M.2 130 (f + j) = R.reverse.getD j 0)
def zo_F (F : t_Fr) (M : q_Mem) : Prop := (M.2 122 0 = F.1.1 ∧ M.2 122 1 = F.1.2.1 ∧ M.2 122 2 = F.1.2.2) ∧ zo_S F.2.1 M ∧ zo_C F.2.2.1 M ∧ zo_L F.2.2.2.1 M ∧ M.2 94 45 = ((F.2.2.2.2.1.length + F.2.2.2.2.2.length : Nat) : Int) ∧ zo_k (F.2.2.2.2.1.length + F.2.2.2.2.2.length) 0 F.2.2.2.2.1 M ∧ zo_k (F.2.2.2.2.1.length + F.2.2.2.2.2.length) 1 F.2.2.2.2.2 M
def z_L (b : Nat → Int) (N : Nat) (M0 : q_Mem) (c : Nat) (q : t_S × t_Fr) (M : q_Mem) : Prop := z_ot b N M ∧ z_O b N q.1 M ∧ z_of M0 M ∧ (u_ok q.1 = true → M.2 94 46 = (c : Int) ∧ zo_F q.2 M ∧ w_F q.2 ∧ ∀ p j, q.1 = .inl (p, j) → q.2.2.2.2.2.1.length + q.2.2.2.2.2.2.length ≤ p)
def z_56 (M M' : q_Mem) : Prop := ∀ a k, ¬ (a = 94 ∧ (k = 5 ∨ k = 6)) → M'.2 a k = M.2 a k
theorem fl_56 {b : Nat → Int} {N : Nat} {σ : t_S} {M : q_Mem} (hz : z_O b N σ M) {k pl : Int} (hk : 1 ≤ k ∧ k ≤ 5) : ∃ M', fX12_fail k pl M = some (0, M') ∧ z_56 M M' ∧ z_O b N (u_fl k pl σ) M' := by
  unfold fX12_fail
  rcases σ with ⟨p, j⟩ | ⟨k', pl'⟩
  · have h5 : M.2 94 5 = 0 := hz.1
    rw [h5, show q_w 0 = 0 from rfl, if_pos rfl, q_le, q_le]
    exact ⟨_, rfl, fun a k ha => by rw [up_ne (by omega), up_ne (by omega)], by rw [up_ne (by omega), up_rd, if_pos ⟨rfl, rfl⟩], by rw [up_rd, if_pos ⟨rfl, rfl⟩], hk⟩
  · have hz' := hz
    obtain ⟨h1, h2, h4⟩ := hz
    rw [h1, n_w (by omega) (by omega), if_neg (by omega)]
    exact ⟨M, rfl, fun _ _ _ => rfl, hz'⟩
theorem nn_15 {b : Nat → Int} {N i L : Nat} {v pl : Int} {K : Int → Int → q_Mem → Option (Int × q_Mem)} (hi : i < 2) (hL : L ≤ 8) (hv : 0 ≤ v ∧ v < 387420489) : ∀ (m k n : Nat) (σ : t_S) (M : q_Mem), k + m = L → m < n → M.2 123 i = (L : Int) → (∀ k, k < L → 0 ≤ M.2 124 (8 * i + k) ∧ M.2 124 (8 * i + k) < 387420489) → z_O b N σ M → M.2 94 35 = pl → ∃ M', fX12_newName_15 K n v (i : Int) (k : Int) M = K v ((i : Int) + 1) M' ∧ z_56 M M' ∧ (((∃ k', k ≤ k' ∧ k' < L ∧ M.2 124 (8 * i + k') = v) ∧ z_O b N (u_fl 3 pl σ) M') ∨ ((¬ ∃ k', k ≤ k' ∧ k' < L ∧ M.2 124 (8 * i + k') = v) ∧ z_O b N σ M')) := by
  intro m
  induction m with
  | zero =>
    intro k n σ M hk hn h123 hb hz h35
    cases n with
    | zero => omega
    | succ n =>
      rw [fX12_newName_15, ld_n rfl (by omega) (by omega), Option.bind_some, h123, n_w (by omega) (by omega), n_w (by omega) (by omega), if_neg (by omega)]
      exact ⟨M, rfl, fun _ _ _ => rfl, Or.inr ⟨fun ⟨k', h1, h2, _⟩ => absurd h1 (by omega), hz⟩⟩
  | succ m ih =>
    intro k n σ M hk hn h123 hb hz h35
    cases n with
    | zero => omega
    | succ n =>
      have hbk := hb k (by omega)
      have cont : ∀ (τ : t_S) (M1 : q_Mem), z_56 M M1 → z_O b N τ M1 → ∃ M', fX12_newName_59 K (fX12_newName_15 K n) v (i : Int) (k : Int) M1 = K v ((i : Int) + 1) M' ∧ z_56 M M' ∧ (((∃ k', k + 1 ≤ k' ∧ k' < L ∧ M.2 124 (8 * i + k') = v) ∧ z_O b N (u_fl 3 pl τ) M') ∨ ((¬ ∃ k', k + 1 ≤ k' ∧ k' < L ∧ M.2 124 (8 * i + k') = v) ∧ z_O b N τ M')) := by
        intro τ M1 g1 g2
        unfold fX12_newName_59
        rw [show (k : Int) + 1 = ((k + 1 : Nat) : Int) from by omega]
        obtain ⟨M', e1, e2, e3⟩ := ih (k + 1) n τ M1 (by omega) (by omega) (by rw [g1 _ _ (by omega), h123]) (fun k' h' => by rw [g1 _ _ (by omega)]; exact hb k' h') g2 (by rw [g1 _ _ (by omega), h35])
        refine ⟨M', e1, fun a j ha => by rw [e2 a j ha, g1 a j ha], ?_⟩
        rcases e3 with ⟨⟨k', q1, q2, q3⟩, q4⟩ | ⟨q1, q2⟩
        · exact Or.inl ⟨⟨k', q1, q2, by rw [← q3, g1 _ _ (by omega)]⟩, q4⟩
        · exact Or.inr ⟨fun ⟨k', h1, h2, h3⟩ => q1 ⟨k', h1, h2, by rw [g1 _ _ (by omega)]; exact h3⟩, q2⟩
      rw [fX12_newName_15, ld_n rfl (by omega) (by omega), Option.bind_some, h123, n_w (a := (k : Int)) (by omega) (by omega), n_w (a := (L : Int)) (by omega) (by omega), if_pos (by omega)]
      rcases σ with ⟨p, j⟩ | ⟨e0, pl0⟩
      · rw [show M.2 94 5 = 0 from hz.1, show q_w 0 = 0 from rfl, if_pos rfl, ld_n (k := 8 * i + k) (by omega) (by omega) (by omega), Option.bind_some, n_lcmp (by omega) (by omega) (by omega) (by omega)]
        by_cases c : M.2 124 (8 * i + k) = v
        · rw [if_neg (show ¬ v < M.2 124 (8 * i + k) by omega), if_pos c, show q_w 0 = 0 from rfl, if_pos rfl, h35]
          obtain ⟨M1, g1, g2, g3⟩ := fl_56 (k := 3) (pl := pl) hz (by omega)
          rw [g1, b_some]
          obtain ⟨M', e1, e2, e3⟩ := cont _ M1 g2 g3
          refine ⟨M', e1, e2, Or.inl ⟨⟨k, Nat.le_refl _, by omega, c⟩, ?_⟩⟩
          rcases e3 with ⟨_, q⟩ | ⟨_, q⟩
          · exact q
          · exact q
        · have hne : ¬ q_w (if v < M.2 124 (8 * i + k) then (1 : Int) else if M.2 124 (8 * i + k) = v then 0 else -1) = 0 := by
            rw [if_neg c]
            split <;> decide
          rw [if_neg hne]
          obtain ⟨M', e1, e2, e3⟩ := cont _ M (fun _ _ _ => rfl) hz
          refine ⟨M', e1, e2, ?_⟩
          rcases e3 with ⟨⟨k', q1, q2, q3⟩, q⟩ | ⟨q1, q⟩
          · exact Or.inl ⟨⟨k', by omega, q2, q3⟩, q⟩
          · refine Or.inr ⟨fun ⟨k', h1, h2, h3⟩ => ?_, q⟩
            by_cases ck : k' = k
            · rw [ck] at h3; exact c h3
            · exact q1 ⟨k', by omega, h2, h3⟩
      · have h4 := hz.2.2
        rw [show M.2 94 5 = e0 from hz.1, n_w (by omega) (by omega), if_neg (by omega)]
        obtain ⟨M', e1, e2, e3⟩ := cont _ M (fun _ _ _ => rfl) hz
        refine ⟨M', e1, e2, ?_⟩
        have hq : z_O b N (.inr (e0, pl0)) M' := by
          rcases e3 with ⟨_, q⟩ | ⟨_, q⟩
          · exact q
          · exact q
        by_cases cx : ∃ k', k ≤ k' ∧ k' < L ∧ M.2 124 (8 * i + k') = v
        · exact Or.inl ⟨cx, hq⟩
        · exact Or.inr ⟨cx, hq⟩
theorem M_dup {b : Nat → Int} {N : Nat} {dup : List Int → Bool} {σ : t_S} : u_M b N dup σ = if u_ok (u_M b N (fun _ => false) σ).2 = true ∧ dup (u_M b N (fun _ => false) σ).1 = true then ([], u_fl 3 (u_p σ) σ) else u_M b N (fun _ => false) σ := by
  rcases σ with ⟨p, j⟩ | e
  · rw [u_M, u_M]
    by_cases c1 : t_kind b N p j = 1 ∧ ¬ (0 ≤ t_val b N p ∧ t_val b N p ≤ 24)
    · rw [if_pos c1, if_pos c1]
      by_cases c2 : 6 < t_end b N p - p
      · rw [if_pos c2, if_pos c2, if_neg (fun g => by cases g.1)]
      · rw [if_neg c2, if_neg c2, if_neg (show ¬ (false = true) by decide)]
        by_cases c3 : dup (t_ls b (t_end b N p - p) p) = true
        · rw [if_pos c3, if_pos ⟨rfl, c3⟩]
          rfl
        · rw [if_neg c3, if_neg (fun g => c3 g.2)]
    · rw [if_neg c1, if_neg c1, if_neg (fun g => by cases g.1)]
  · rw [u_M, u_M, if_neg (fun g => by cases g.1)]
theorem o_new {b : Nat → Int} {N : Nat} {σ : t_S} {F : t_Fr} {M : q_Mem} (hw : r_words M.2) (hT : z_ot b N M) (hz : z_O b N σ M) (hwf : w_F F) (h1 : zo_S F.2.1 M) (h2 : zo_C F.2.2.1 M) : ∃ x M', fX12_newName M = some (x, M') ∧ z_94 M M' ∧ z_O b N (u_M b N (f_dup F) σ).2 M' ∧ (u_ok (u_M b N (f_dup F) σ).2 = true → x = q_n27 (u_M b N (f_dup F) σ).1.reverse ∧ h_ls (u_M b N (f_dup F) σ).1) := by
  obtain ⟨x, M1, g1, g2, g3, g4, g5⟩ := o_name hw (z94_r M) hT hz
  unfold fX12_newName
  rw [g1, b_some, M_dup]
  have b1 : ∀ k, k < F.2.1.length → 0 ≤ M1.2 124 (8 * 0 + k) ∧ M1.2 124 (8 * 0 + k) < 387420489 := by
    intro k hk
    rw [g2 _ _ (by omega), Nat.mul_zero, Nat.zero_add]
    have := stk_in h1.2.1 (k := k) (by rw [List.length_map]; exact hk)
    obtain ⟨s, hs, e⟩ := List.mem_map.mp this
    rw [← e]
    exact n27_w (hwf.2.1 s hs).1
  have b2 : ∀ k, k < F.2.2.1.length → 0 ≤ M1.2 124 (8 * 1 + k) ∧ M1.2 124 (8 * 1 + k) < 387420489 := by
    intro k hk
    rw [g2 _ _ (by omega), Nat.mul_one]
    have := stk_in h2.2.1 (k := k) (by rw [List.length_map]; exact hk)
    obtain ⟨s, hs, e⟩ := List.mem_map.mp this
    have e' : M.2 124 (8 + k) = q_n27 s.1.reverse := e.symm
    rw [e']
    exact n27_w (hwf.2.2.1 s hs).1
  have l6 := hwf.1.1
  have l8 := hwf.1.2.1
  generalize hq : u_M b N (fun _ => false) σ = q at g4 g5
  -- a value out of a fault is compared with nothing
  by_cases hok : u_ok q.2 = true
  · obtain ⟨e1, e2, e3⟩ := g5 hok
    have hv := n27_w e2
    rw [← e1] at hv
    obtain ⟨M2, k1, k2, k3⟩ := nn_15 (b := b) (N := N) (i := 0) (L := F.2.1.length) (v := x) (pl := u_p σ) (K := fX12_newName_7 99999) (by omega) (by omega) hv F.2.1.length 0 q_FU q.2 M1 (by omega) (by unfold q_FU; omega) (by rw [g2 _ _ (by omega)]; exact h1.1) b1 g4 e3
    have hz2 : ∃ τ, z_O b N τ M2 ∧ (τ = q.2 ∨ τ = u_fl 3 (u_p σ) q.2) := by
      rcases k3 with ⟨_, k⟩ | ⟨_, k⟩
      · exact ⟨_, k, Or.inr rfl⟩
      · exact ⟨_, k, Or.inl rfl⟩
    obtain ⟨τ, t1, t2⟩ := hz2
    obtain ⟨M3, n1, n2, n3⟩ := nn_15 (b := b) (N := N) (i := 1) (L := F.2.2.1.length) (v := x) (pl := u_p σ) (K := fX12_newName_7 99998) (by omega) (by omega) hv F.2.2.1.length 0 q_FU τ M2 (by omega) (by unfold q_FU; omega) (by rw [k2 _ _ (by omega), g2 _ _ (by omega)]; exact h2.1) (fun k hk => by rw [k2 _ _ (by omega)]; exact b2 k hk) t1 (by rw [k2 _ _ (by omega)]; exact e3)
    have e7 : fX12_newName_7 q_FU x 0 M1 = some (x, M3) := by
      rw [show q_FU = 99999 + 1 from rfl, fX12_newName_7, show q_w 0 = 0 from rfl, show q_w 2 = 2 from rfl, if_pos (by decide)]
      refine Eq.trans k1 ?_
      rw [show (99999 : Nat) = 99998 + 1 from rfl, fX12_newName_7, show q_w (((0 : Nat) : Int) + 1) = 1 from rfl, show q_w 2 = 2 from rfl, if_pos (by decide)]
      refine Eq.trans n1 ?_
      rw [show (99998 : Nat) = 99997 + 1 from rfl, fX12_newName_7, show q_w (((1 : Nat) : Int) + 1) = 2 from rfl, show q_w 2 = 2 from rfl, if_neg (by decide)]
    have m1 := stk_mem (v := x) h1.2.1
    rw [List.length_map, e1, nm_any27 (g := fun s => s.1) (fun s hs => (hwf.2.1 s hs).1) e2] at m1
    have m2 := stk_mem (v := x) h2.2.1
    rw [List.length_map, e1, nm_any27 (g := fun s => s.1) (fun s hs => (hwf.2.2.1 s hs).1) e2] at m2
    have hz94 : z_94 M M3 := fun a k ha => by rw [n2 a k (by omega), k2 a k (by omega), g2 a k ha]
    refine ⟨x, M3, e7, hz94, ?_⟩
    have hfl : ∀ τ : t_S, u_fl 3 (u_p σ) (u_fl 3 (u_p σ) τ) = u_fl 3 (u_p σ) τ := fun τ => by rcases τ with ⟨p, j⟩ | e <;> rfl
    have hokσ : u_ok σ = true := ok_M (by rw [hq]; exact hok)
    have hflσ : u_fl 3 (u_p σ) q.2 = u_fl 3 (u_p σ) σ := by
      rcases σ with ⟨p, j⟩ | e
      · rcases hq2 : q.2 with ⟨p', j'⟩ | e'
        · rfl
        · rw [hq2] at hok; cases hok
      · cases hokσ
    by_cases cd : f_dup F q.1 = true
    · rw [if_pos ⟨hok, cd⟩]
      refine ⟨?_, fun g => (by rw [ok_fl] at g; cases g)⟩
      unfold f_dup at cd
      by_cases c1 : F.2.1.any (fun s => decide (s.1 = q.1)) = true
      · have hτ : z_O b N (u_fl 3 (u_p σ) q.2) M2 := by
          rcases k3 with ⟨_, k⟩ | ⟨hn, _⟩
          · exact k
          · obtain ⟨k', h1', h2'⟩ := m1.mpr c1
            exact absurd ⟨k', Nat.zero_le _, h1', by rw [Nat.mul_zero, Nat.zero_add, g2 _ _ (by omega), e1]; exact h2'⟩ hn
        rw [← hflσ]
        have : τ = q.2 ∨ τ = u_fl 3 (u_p σ) q.2 := t2
        rcases this with e | e
        · -- the first loop told the fault
          have hbad : M2.2 94 5 = 3 := by
            rcases hq2 : q.2 with ⟨p', j'⟩ | e'
            · rw [hq2] at hτ
              exact hτ.1
            · rw [hq2] at hok; cases hok
          rw [e] at t1
          rcases hq2 : q.2 with ⟨p', j'⟩ | e'
          · rw [hq2] at t1
            have := t1.1
            omega
          · rw [hq2] at hok; cases hok
        · rw [e] at n3
          rcases n3 with ⟨_, k⟩ | ⟨_, k⟩
          · rw [hfl] at k; exact k
          · exact k
      · rw [Bool.eq_false_iff.mpr c1, Bool.false_or] at cd
        obtain ⟨k', h1', h2'⟩ := m2.mpr cd
        have hex : ∃ k', 0 ≤ k' ∧ k' < F.2.2.1.length ∧ M2.2 124 (8 * 1 + k') = x := ⟨k', Nat.zero_le _, h1', by rw [k2 _ _ (by omega), g2 _ _ (by omega), Nat.mul_one, e1]; exact h2'⟩
        rcases n3 with ⟨_, k⟩ | ⟨hn, _⟩
        · rw [← hflσ]
          rcases t2 with e | e
          · rw [e] at k; exact k
          · rw [e, hfl] at k; exact k
        · exact absurd hex hn
    · rw [if_neg (fun g => cd g.2)]
      have cd' : f_dup F q.1 = false := Bool.eq_false_iff.mpr cd
      unfold f_dup at cd'
      obtain ⟨ca, cb⟩ := Bool.or_eq_false_iff.mp cd'
      refine ⟨?_, fun _ => ⟨e1, e2⟩⟩
      have k4 : z_O b N q.2 M2 := by
        rcases k3 with ⟨⟨k', h1', h2', h3'⟩, _⟩ | ⟨_, k⟩
        · have := m1.mp ⟨k', h2', by rw [← e1, ← h3', Nat.mul_zero, Nat.zero_add, g2 _ _ (by omega)]⟩
          rw [ca] at this; cases this
        · exact k
      have hno : ¬ ∃ k', 0 ≤ k' ∧ k' < F.2.2.1.length ∧ M2.2 124 (8 * 1 + k') = x := by
        rintro ⟨k', _, h2', h3'⟩
        have := m2.mp ⟨k', h2', by rw [← e1, ← h3', k2 _ _ (by omega), g2 _ _ (by omega), Nat.mul_one]⟩
        rw [cb] at this; cases this
      have hτ : τ = q.2 := by
        rcases t2 with e | e
        · exact e
        · rw [e] at t1
          rcases hq2 : q.2 with ⟨p', j'⟩ | e'
          · rw [hq2] at t1 k4
            have h5 : M2.2 94 5 = 3 := t1.1
            have h6 : M2.2 94 5 = 0 := k4.1
            omega
          · rw [hq2] at hok; cases hok
      rcases n3 with ⟨hy, _⟩ | ⟨_, k⟩
      · exact absurd hy hno
      · rw [hτ] at k; exact k
  · have hf : u_ok q.2 = false := Bool.eq_false_iff.mpr hok
    rw [if_neg (fun g => hok g.1)]
    have hbad : ∀ M2, M2 = M1 → ¬ q_w (M2.2 94 5) = 0 := by
      intro M2 e
      rw [e]
      rcases hq2 : q.2 with ⟨p', j'⟩ | ⟨k', pl'⟩
      · rw [hq2] at hf; cases hf
      · rw [hq2] at g4
        have h4 := g4.2.2
        rw [show M1.2 94 5 = k' from g4.1, n_w (by omega) (by omega)]
        omega
    have l15 : ∀ (i L : Nat) (K : Int → Int → q_Mem → Option (Int × q_Mem)), i < 2 → L ≤ 8 → M1.2 123 i = (L : Int) → ∀ (m k n : Nat), k + m = L → m < n → fX12_newName_15 K n x (i : Int) (k : Int) M1 = K x ((i : Int) + 1) M1 := by
      intro i L K hi hL h123 m
      induction m with
      | zero =>
        intro k n hk hn
        cases n with
        | zero => omega
        | succ n => rw [fX12_newName_15, ld_n rfl (by omega) (by omega), Option.bind_some, h123, n_w (by omega) (by omega), n_w (by omega) (by omega), if_neg (by omega)]
      | succ m ih =>
        intro k n hk hn
        cases n with
        | zero => omega
        | succ n =>
          rw [fX12_newName_15, ld_n rfl (by omega) (by omega), Option.bind_some, h123, n_w (a := (k : Int)) (by omega) (by omega), n_w (a := (L : Int)) (by omega) (by omega), if_pos (by omega), if_neg (hbad M1 rfl)]
          unfold fX12_newName_59
          rw [show (k : Int) + 1 = ((k + 1 : Nat) : Int) from by omega]
          exact ih (k + 1) n (by omega) (by omega)
    refine ⟨x, M1, ?_, g2, g4, fun g => absurd g hok⟩
    have k1 := l15 0 F.2.1.length (fX12_newName_7 99999) (by omega) (by omega) (by rw [g2 _ _ (by omega)]; exact h1.1) F.2.1.length 0 q_FU (by omega) (by unfold q_FU; omega)
    have n1 := l15 1 F.2.2.1.length (fX12_newName_7 99998) (by omega) (by omega) (by rw [g2 _ _ (by omega)]; exact h2.1) F.2.2.1.length 0 q_FU (by omega) (by unfold q_FU; omega)
    rw [show q_FU = 99999 + 1 from rfl, fX12_newName_7, show q_w 0 = 0 from rfl, show q_w 2 = 2 from rfl, if_pos (by decide)]
    refine Eq.trans k1 ?_
    rw [show (99999 : Nat) = 99998 + 1 from rfl, fX12_newName_7, show q_w (((0 : Nat) : Int) + 1) = 1 from rfl, show q_w 2 = 2 from rfl, if_pos (by decide)]
    refine Eq.trans n1 ?_
    rw [show (99998 : Nat) = 99997 + 1 from rfl, fX12_newName_7, show q_w (((1 : Nat) : Int) + 1) = 2 from rfl, show q_w 2 = 2 from rfl, if_neg (by decide)]
