/-! images, what was seen -/
def z_wr (M0 : q_Mem) (a l s : Nat) (bs : List Int) (M : q_Mem) : Prop := M.2 l s = (bs.length : Int) ∧ (∀ j, j < bs.length → M.2 a j = bs.getD j 0) ∧ ∀ b j, b ≠ a → ¬ (b = l ∧ j = s) → M.2 b j = M0.2 b j
theorem z_wput {M0 M : q_Mem} {a l s : Nat} {bs : List Int} {v : Int} (hne : a ≠ l) (h : z_wr M0 a l s bs M) : z_wr M0 a l s (bs ++ [v]) (q_up (q_up M a bs.length v) l s ((bs.length : Int) + 1)) := by
  obtain ⟨h1, h2, h3⟩ := h
  refine ⟨by rw [up_rd, if_pos ⟨rfl, rfl⟩]; simp, ?_, ?_⟩
  · intro j hj
    simp at hj
    rw [up_ne (by omega), up_rd, snoc_get]
    by_cases c : j = bs.length
    · rw [if_pos ⟨rfl, c⟩, if_pos c]
    · rw [if_neg (by omega), if_neg c]
      exact h2 j (by omega)
  · intro b j hb hc
    rw [up_ne hc, up_ne (by omega)]
    exact h3 b j hb hc
theorem c_put3 {M0 M : q_Mem} {bs : List Int} {x : Int} (h : z_wr M0 4 3 1 bs M) (hl : bs.length < 38) : q_P (fX10_put 3 x M) (fun _ M' => z_wr M0 4 3 1 (bs ++ [x % 256]) M') := by
  unfold fX10_put
  rw [show q_fr 3 0 = 4 from rfl, show (q_shp 4).2 = 38 from rfl, h.1, n_w (by omega) (by omega), n_w (by decide) (by decide), if_neg (by omega), if_pos (by omega), b_sto (by omega) (by omega) (by decide), Option.bind_some, n_and255, Int.toNat_natCast, q_le, up_ne (by omega), h.1]
  exact w_some.mpr (z_wput (by decide) h)
theorem c_put3t {M0 M : q_Mem} {bs : List Int} {x : Int} (hx : 0 ≤ x ∧ x ≤ 65535) (h : z_wr M0 4 3 1 bs M) (hl : bs.length < 37) : q_P (fX10_putTwo 3 x M) (fun _ M' => z_wr M0 4 3 1 (bs ++ [x / 256, x % 256]) M') := by
  unfold fX10_putTwo
  rw [n_shr (by omega) (by omega) (by decide) (by decide)]
  refine w_call (c_put3 h (by omega)) ?_
  intro _ M1 h1
  refine w_call (c_put3 h1 (by simp; omega)) ?_
  intro _ M2 h2
  rw [show x / 2 ^ (8 : Int).toNat % 256 = x / 256 from by show x / 256 % 256 = x / 256; omega, List.append_assoc] at h2
  exact w_some.mpr h2
theorem r_writes {M0 M : q_Mem} {bs : List Int} {x : Int} (h : z_wr M0 165 94 101 bs M) (hl : bs.length < 38) : q_P (fX12_writes x M) (fun _ M' => z_wr M0 165 94 101 (bs ++ [x]) M') := by
  unfold fX12_writes
  rw [h.1, b_sto (by omega) (by omega) (by decide), Option.bind_some, Int.toNat_natCast, q_le, up_ne (by omega), h.1]
  exact w_some.mpr (z_wput (by decide) h)
def s_cks (f : Nat → Int) : Nat → Nat → Int → Int
  | 0, _, c => c
  | n + 1, k, c => s_cks f n (k + 1) ((3 * c + f k) % 251)
theorem chk_b (f : Nat → Int) : ∀ (n k : Nat) (c : Int), 0 ≤ c ∧ c ≤ 250 → 0 ≤ s_cks f n k c ∧ s_cks f n k c ≤ 250 := by
  intro n
  induction n with
  | zero => intro k c h; exact h
  | succ n ih => intro k c h; rw [s_cks]; exact ih _ _ (by omega)
theorem chk_cg {f g : Nat → Int} : ∀ (n k : Nat) (c : Int), (∀ j, k ≤ j → j < k + n → f j = g j) → s_cks f n k c = s_cks g n k c := by
  intro n
  induction n with
  | zero => intro k c _; rfl
  | succ n ih => intro k c h; rw [s_cks, s_cks, h k (by omega) (by omega)]; exact ih _ _ (fun j h1 h2 => h j (by omega) (by omega))
theorem c_chk {r0 cap : Nat} (hr : q_fr r0 0 = r0 + 1) (hcap : (q_shp (r0 + 1)).2 = cap) (hc2 : cap ≤ 1600) {M : q_Mem} {len N : Nat} (hlen : M.2 r0 1 = (len : Int)) (hN : N ≤ len) (hl : len ≤ cap) (hv : ∀ j, j < N → 0 ≤ M.2 (r0 + 1) j ∧ M.2 (r0 + 1) j ≤ 255) : ∀ (n k : Nat) (c : Int), k ≤ N → N - k < n → 0 ≤ c ∧ c ≤ 250 → fX10_check_6 r0 n (N : Int) c (k : Int) M = some (s_cks (M.2 (r0 + 1)) (N - k) k c, M) := by
  intro n
  induction n with
  | zero => intro k c _ h; omega
  | succ n ih =>
    intro k c hk hn hc
    rw [fX10_check_6, n_w (by omega) (by omega), n_w (by omega) (by omega)]
    by_cases ck : k < N
    · have hvk := hv k ck
      rw [if_pos (by omega), f_at (by unfold q_R; omega) (by unfold q_R; omega) hr cap hcap (by omega), if_pos (by omega), b_some, Int.toNat_natCast, q_le, n_rem (by omega) (by omega) (by decide) (by decide), n_tm (by omega), show (k : Int) + 1 = ((k + 1 : Nat) : Int) from by omega, ih (k + 1) _ (by omega) (by omega) (by omega), show N - k = (N - (k + 1)) + 1 from by omega, s_cks]
    · rw [if_neg (by omega), show N - k = 0 from by omega, s_cks]
theorem r_chk {r0 cap : Nat} (hc2 : cap ≤ 1600) {M : q_Mem} {N : Nat} (hN : N ≤ cap) (hv : ∀ j, j < N → 0 ≤ M.2 r0 j ∧ M.2 r0 j ≤ 255) : ∀ (n k : Nat) (c : Int), k ≤ N → N - k < n → 0 ≤ c ∧ c ≤ 250 → fX12_checked_6 r0 cap n (N : Int) c (k : Int) M = some (s_cks (M.2 r0) (N - k) k c, M) := by
  intro n
  induction n with
  | zero => intro k c _ h; omega
  | succ n ih =>
    intro k c hk hn hc
    rw [fX12_checked_6, n_w (by omega) (by omega), n_w (by omega) (by omega)]
    by_cases ck : k < N
    · have hvk := hv k ck
      rw [if_pos (by omega), b_ld (by omega) (by omega) (by omega), Option.bind_some, Int.toNat_natCast, q_le, n_rem (by omega) (by omega) (by decide) (by decide), n_tm (by omega), show (k : Int) + 1 = ((k + 1 : Nat) : Int) from by omega, ih (k + 1) _ (by omega) (by omega) (by omega), show N - k = (N - (k + 1)) + 1 from by omega, s_cks]
    · rw [if_neg (by omega), show N - k = 0 from by omega, s_cks]
def s_bs (f : Nat → Int) : Nat → Nat → List Int
  | 0, _ => []
  | n + 1, k => f k / 256 :: f k % 256 :: s_bs f n (k + 1)
theorem bs_len (f : Nat → Int) : ∀ n k, (s_bs f n k).length = 2 * n := by
  intro n
  induction n with
  | zero => intro k; rfl
  | succ n ih => intro k; rw [s_bs, List.length_cons, List.length_cons, ih]; omega
theorem bs_v (f : Nat → Int) (hf : ∀ k, 0 ≤ f k ∧ f k ≤ 65535) : ∀ n k, ∀ v ∈ s_bs f n k, 0 ≤ v ∧ v ≤ 255 := by
  intro n
  induction n with
  | zero => intro k v hv; cases hv
  | succ n ih =>
    intro k v hv
    have := hf k
    rw [s_bs] at hv
    rcases List.mem_cons.mp hv with rfl | hv
    · omega
    · rcases List.mem_cons.mp hv with rfl | hv
      · omega
      · exact ih _ v hv
def s_fin (bs : List Int) : List Int := bs ++ [s_cks (fun j => bs.getD j 0) bs.length 0 167]
theorem getD_v {bs : List Int} (h : ∀ v ∈ bs, 0 ≤ v ∧ v ≤ 255) (j : Nat) : 0 ≤ bs.getD j 0 ∧ bs.getD j 0 ≤ 255 := by
  rw [List.getD_eq_getElem?_getD]
  by_cases c : j < bs.length
  · rw [List.getElem?_eq_getElem c]
    exact h _ (List.getElem_mem _)
  · rw [List.getElem?_eq_none (by omega)]
    decide
theorem c_wr39 {M0 : q_Mem} {D : Nat} {f : Nat → Int} (hD : M0.2 10 3 = (D : Int)) (hD2 : D ≤ 16) (hf : ∀ k, k < D → M0.2 11 k = f k) (hfv : ∀ k, 0 ≤ f k ∧ f k ≤ 65535) : ∀ (n k : Nat) (bs : List Int) (M : q_Mem), k ≤ D → D - k < n → z_wr M0 4 3 1 bs M → bs.length = 5 + 2 * k → (∀ v ∈ bs, 0 ≤ v ∧ v ≤ 255) → q_P (fX1_write_39 3 n (k : Int) M) (fun _ M' => z_wr M0 4 3 1 (s_fin (bs ++ s_bs f (D - k) k)) M') := by
  intro n
  induction n with
  | zero => intro k bs M _ h; omega
  | succ n ih =>
    intro k bs M hk hn hz hl hb
    rw [fX1_write_39, hz.2.2 10 3 (by decide) (by decide), hD, n_w (by omega) (by omega), n_w (by omega) (by omega)]
    by_cases ck : k < D
    · have hv := hfv k
      rw [if_pos (by omega), b_ld (by omega) (by omega) (by decide), Option.bind_some, Int.toNat_natCast, hz.2.2 11 k (by decide) (by omega), hf k ck, show (k : Int) + 1 = ((k + 1 : Nat) : Int) from by omega]
      refine w_call (c_put3t hv hz (by omega)) ?_
      intro _ M1 h1
      refine w_mono (ih (k + 1) _ M1 (by omega) (by omega) h1 (by simp; omega) ?_) ?_
      · intro v hv'
        rw [List.mem_append] at hv'
        rcases hv' with hv' | hv'
        · exact hb v hv'
        · simp at hv'
          omega
      · intro _ M2 h2
        rw [List.append_assoc] at h2
        rw [show D - k = (D - (k + 1)) + 1 from by omega, s_bs]
        exact h2
    · have e0 : D - k = 0 := by omega
      rw [if_neg (by omega), e0, s_bs, List.append_nil]
      have := c_chk (r0 := 3) (cap := 38) (by rfl) (by rfl) (by decide) (M := M) (len := bs.length) (N := bs.length) hz.1 (Nat.le_refl _) (by omega) (fun j hj => by rw [hz.2.1 j hj]; exact getD_v hb j) q_FU 0 167 (by omega) (by unfold q_FU; omega) (by decide)
      unfold fX10_check
      rw [hz.1]
      rw [show ((0 : Nat) : Int) = 0 from rfl] at this
      rw [this, b_some, Nat.sub_zero]
      have hcb := chk_b (M.2 (3 + 1)) bs.length 0 167 (by decide)
      refine w_call (c_put3 hz (by omega)) ?_
      intro _ M2 h2
      refine w_some.mpr ?_
      unfold s_fin
      rw [← chk_cg (f := M.2 (3 + 1)) (g := fun j => bs.getD j 0) bs.length 0 167 (fun j _ hj => hz.2.1 j (by omega))]
      rw [show s_cks (M.2 (3 + 1)) bs.length 0 167 % 256 = s_cks (M.2 (3 + 1)) bs.length 0 167 from by omega] at h2
      exact h2
theorem r_im65 {M0 : q_Mem} {D : Nat} {f : Nat → Int} (hD : M0.2 131 3 = (D : Int)) (hD2 : D ≤ 16) (hf : ∀ k, k < D → M0.2 131 (4 + k) = f k) (hfv : ∀ k, 0 ≤ f k ∧ f k ≤ 65535) : ∀ (n k : Nat) (bs : List Int) (M : q_Mem), k ≤ D → D - k < n → z_wr M0 165 94 101 bs M → bs.length = 5 + 2 * k → (∀ v ∈ bs, 0 ≤ v ∧ v ≤ 255) → q_P (fX12_image_65 n (k : Int) M) (fun r M' => r = ((s_fin (bs ++ s_bs f (D - k) k)).length : Int) ∧ z_wr M0 165 94 101 (s_fin (bs ++ s_bs f (D - k) k)) M') := by
  intro n
  induction n with
  | zero => intro k bs M _ h; omega
  | succ n ih =>
    intro k bs M hk hn hz hl hb
    rw [fX12_image_65, b_ld (by decide) (by decide) (by decide), Option.bind_some, show (3 : Int).toNat = 3 from rfl, hz.2.2 131 3 (by decide) (by decide), hD, n_w (by omega) (by omega), n_w (by omega) (by omega)]
    by_cases ck : k < D
    · have hv := hfv k
      rw [if_pos (by omega), b_ld (by omega) (by omega) (by decide), Option.bind_some, show ((4 : Int) + (k : Int)).toNat = 4 + k from by omega, hz.2.2 131 _ (by decide) (by omega), hf k ck, n_div (by omega) (by omega) (by decide) (by decide), n_td (by omega)]
      refine w_call (r_writes hz (by omega)) ?_
      intro _ M1 h1
      rw [b_ld (by omega) (by omega) (by decide), Option.bind_some, show ((4 : Int) + (k : Int)).toNat = 4 + k from by omega, h1.2.2 131 _ (by decide) (by omega), hf k ck, n_rem (by omega) (by omega) (by decide) (by decide), n_tm (by omega)]
      refine w_call (r_writes h1 (by simp; omega)) ?_
      intro _ M2 h2
      rw [List.append_assoc] at h2
      rw [show (k : Int) + 1 = ((k + 1 : Nat) : Int) from by omega]
      refine w_mono (ih (k + 1) _ M2 (by omega) (by omega) h2 (by simp; omega) ?_) ?_
      · intro v hv'
        rw [List.mem_append] at hv'
        rcases hv' with hv' | hv'
        · exact hb v hv'
        · simp at hv'
          omega
      · intro r M3 h3
        rw [List.append_assoc] at h3
        rw [show D - k = (D - (k + 1)) + 1 from by omega, s_bs]
        exact h3
    · have e0 : D - k = 0 := by omega
      rw [if_neg (by omega), e0, s_bs, List.append_nil]
      have := r_chk (r0 := 165) (cap := 38) (by decide) (M := M) (N := bs.length) (by omega) (fun j hj => by rw [hz.2.1 j hj]; exact getD_v hb j) q_FU 0 167 (by omega) (by unfold q_FU; omega) (by decide)
      unfold fX12_checked
      rw [hz.1]
      rw [show ((0 : Nat) : Int) = 0 from rfl] at this
      rw [this, b_some, Nat.sub_zero]
      refine w_call (r_writes hz (by omega)) ?_
      intro _ M2 h2
      unfold s_fin
      rw [← chk_cg (f := M.2 165) (g := fun j => bs.getD j 0) bs.length 0 167 (fun j _ hj => hz.2.1 j (by omega))]
      exact w_some.mpr ⟨h2.1, h2⟩
theorem u_img {t : Nat} {M M' : q_Mem} {L A : q_G} (h : q_I t M L A) (hk : ∀ a j, ¬ ((a = 3 ∧ j = 1) ∨ a = 4 ∨ (a = 94 ∧ j = 101) ∨ a = 165) → M'.2 a j = M.2 a j) (h1 : M'.2 3 1 = M'.2 94 101) (h2 : 0 ≤ M'.2 94 101 ∧ M'.2 94 101 ≤ 38) (h3 : ∀ k : Nat, (k : Int) < M'.2 94 101 → M'.2 4 k = M'.2 165 k) : q_St M' := by
  obtain ⟨hJ, hR, hW⟩ := h
  have h0 : M'.2 0 11 = M.2 0 11 := hk _ _ (by decide)
  have hL : ∀ a j, ¬ ((a = 3 ∧ j = 1) ∨ a = 4 ∨ (a = 94 ∧ j = 101) ∨ a = 165) → m_L L M' a j = L a j := fun a j h1 => m_Le hJ h0 (hk a j h1)
  have hA : ∀ a j, ¬ ((a = 3 ∧ j = 1) ∨ a = 4 ∨ (a = 94 ∧ j = 101) ∨ a = 165) → m_A A M' a j = A a j := fun a j h1 => m_Ae hJ (hk a j h1)
  have hLc : ∀ a, a ≠ 3 → a ≠ 4 → a ≠ 94 → a ≠ 165 → m_L L M' a = L a := fun a h1 h2 h3 h4 => funext (fun j => hL a j (by omega))
  have hAc : ∀ a, a ≠ 3 → a ≠ 4 → a ≠ 94 → a ≠ 165 → m_A A M' a = A a := fun a h1 h2 h3 h4 => funext (fun j => hA a j (by omega))
  have hF := u_fair hJ hW (fun a j hv => hk a j (by unfold v_fair at hv; omega))
  refine u_St hF (u_day hJ hF.2.2.2.2 h0 (fun a j hv => hk a j (by unfold v_day at hv; omega))) ?_
  have hr := u_ring hJ hR.2.2.2.2.2.2.2 hF.2.2.2.2 h0 (fun a j hv => hk a j (by unfold v_ring at hv; omega))
  obtain ⟨j1, j2, j3, j4, j5, j6, j7, j8⟩ := hR
  refine ⟨?_, ?_, ?_, ⟨h1, h2, h3⟩, ?_, ?_, ?_, hr⟩
  · rw [hLc 1 (by decide) (by decide) (by decide) (by decide), hLc 2 (by decide) (by decide) (by decide) (by decide), hA 94 1 (by decide), hAc 95 (by decide) (by decide) (by decide) (by decide)]
    exact j1
  · rw [hLc 56 (by decide) (by decide) (by decide) (by decide), hAc 96 (by decide) (by decide) (by decide) (by decide)]
    exact j2
  · rw [hLc 0 (by decide) (by decide) (by decide) (by decide), hA 94 7 (by decide), hA 94 8 (by decide)]
    exact j3
  · rw [hLc 10 (by decide) (by decide) (by decide) (by decide), hA 94 67 (by decide)]
    exact j5
  · rw [hLc 36 (by decide) (by decide) (by decide) (by decide), hLc 37 (by decide) (by decide) (by decide) (by decide), hLc 38 (by decide) (by decide) (by decide) (by decide), hLc 39 (by decide) (by decide) (by decide) (by decide), hA 94 62 (by decide), hAc 138 (by decide) (by decide) (by decide) (by decide), hAc 123 (by decide) (by decide) (by decide) (by decide)]
    exact j6
  · rw [hLc 10 (by decide) (by decide) (by decide) (by decide), hAc 131 (by decide) (by decide) (by decide) (by decide)]
    exact j7
theorem fin_len (bs : List Int) : (s_fin bs).length = bs.length + 1 := by
  unfold s_fin
  simp
theorem st_image {M : q_Mem} (hS : q_St M) : q_Step M (fX11_image M) (fun M1 => fX12_image M1) := by
  obtain ⟨t, L, A, hI⟩ := id hS
  have w := j_wf hI.1
  have db := j_db hI.1
  have jd := j_d hI.1
  have sj := sj_self hI
  obtain ⟨⟨v1, v2, v3, v4, v5, v6⟩, s2, s3⟩ := sj
  obtain ⟨D, hD, hD2⟩ := nat_of' (x := A 131 3) (b := 16) ⟨by omega, by omega⟩
  obtain ⟨f, hf⟩ : ∃ f : Nat → Int, f = fun k => if k < D then A 131 (4 + k) else 0 := ⟨_, rfl⟩
  have hfe : ∀ k, k < D → f k = A 131 (4 + k) := fun k hk => by rw [hf]; exact if_pos hk
  have hfv : ∀ k, 0 ≤ f k ∧ f k ≤ 65535 := by
    intro k
    by_cases c : k < D
    · rw [hfe k c]
      have := v5 k (by omega)
      omega
    · rw [hf]
      show 0 ≤ (if k < D then A 131 (4 + k) else 0) ∧ (if k < D then A 131 (4 + k) else 0) ≤ 65535
      rw [if_neg c]
      decide
  have hb5 : ∀ v ∈ [A 131 0 / 256, A 131 0 % 256, A 131 1, A 131 2, A 131 3], 0 ≤ v ∧ v ≤ 255 := by
    intro v hv
    simp only [List.mem_cons, List.not_mem_nil, or_false] at hv
    omega
  have e1 : q_P (fX11_image M) (fun r M1 => r = ((s_fin ([A 131 0 / 256, A 131 0 % 256, A 131 1, A 131 2, A 131 3] ++ s_bs f D 0)).length : Int) ∧ z_wr M 4 3 1 (s_fin ([A 131 0 / 256, A 131 0 % 256, A 131 1, A 131 2, A 131 3] ++ s_bs f D 0)) M1) := by
    unfold fX11_image fX1_write
    rw [q_le]
    have z0 : z_wr M 4 3 1 [] (q_up M 3 1 0) := ⟨by rw [up_rd, if_pos ⟨rfl, rfl⟩]; rfl, fun j hj => by simp at hj, fun b j hb hc => up_ne hc⟩
    rw [w_bd]
    refine w_bd.mp ?_
    rw [z0.2.2 10 0 (by decide) (by decide), jd.1]
    refine w_bd.mpr (w_call (c_put3t (by omega) z0 (by simp)) ?_)
    intro _ M1 z1
    rw [z1.2.2 10 1 (by decide) (by decide), jd.2.1]
    refine w_call (c_put3 z1 (by simp)) ?_
    intro _ M2 z2
    rw [z2.2.2 10 2 (by decide) (by decide), jd.2.2.1]
    refine w_call (c_put3 z2 (by simp)) ?_
    intro _ M3 z3
    rw [z3.2.2 10 3 (by decide) (by decide), jd.2.2.2]
    refine w_call (c_put3 z3 (by simp)) ?_
    intro _ M4 z4
    rw [show A 131 1 % 256 = A 131 1 from by omega, show A 131 2 % 256 = A 131 2 from by omega, show A 131 3 % 256 = A 131 3 from by omega] at z4
    have := c_wr39 (M0 := M) (D := D) (f := f) (by rw [jd.2.2.2, hD]) (by omega) (fun k hk => by rw [s2 k (by omega), hfe k hk]) hfv q_FU 0 [A 131 0 / 256, A 131 0 % 256, A 131 1, A 131 2, A 131 3] M4 (by omega) (by unfold q_FU; omega) z4 rfl hb5
    refine w_mono this ?_
    intro _ M5 z5
    exact w_some.mpr ⟨z5.1, z5⟩
  obtain ⟨r, M1, em, hr, z1⟩ := e1
  generalize hbs : s_fin ([A 131 0 / 256, A 131 0 % 256, A 131 1, A 131 2, A 131 3] ++ s_bs f D 0) = bs at hr z1
  have hlen : bs.length = 6 + 2 * D := by
    rw [← hbs, fin_len, List.length_append, bs_len]
    simp
    omega
  have c1 : ∀ a j, 90 ≤ a → M1.2 a j = M.2 a j := fun a j ha => z1.2.2 a j (by omega) (by omega)
  have h131 : ∀ k, M1.2 131 k = A 131 k := fun k => by rw [c1 131 k (by decide), hI.1.2.1 131 k rfl]
  have e2 : q_P (fX12_image M1) (fun r M2 => r = (bs.length : Int) ∧ z_wr M1 165 94 101 bs M2) := by
    unfold fX12_image
    rw [q_le]
    have z0 : z_wr M1 165 94 101 [] (q_up M1 94 101 0) := ⟨by rw [up_rd, if_pos ⟨rfl, rfl⟩]; rfl, fun j hj => by simp at hj, fun b j hb hc => up_ne hc⟩
    generalize q_up M1 94 101 0 = N0 at z0 ⊢
    rw [b_ld (by decide) (by decide) (by decide), Option.bind_some, show (0 : Int).toNat = 0 from rfl, z0.2.2 131 0 (by decide) (by decide), h131, n_div (by omega) (by omega) (by decide) (by decide), n_td (by omega)]
    refine w_call (r_writes z0 (by simp)) ?_
    intro _ N1 y1
    rw [b_ld (by decide) (by decide) (by decide), Option.bind_some, show (0 : Int).toNat = 0 from rfl, y1.2.2 131 0 (by decide) (by decide), h131, n_rem (by omega) (by omega) (by decide) (by decide), n_tm (by omega)]
    refine w_call (r_writes y1 (by simp)) ?_
    intro _ N2 y2
    rw [b_ld (by decide) (by decide) (by decide), Option.bind_some, show (1 : Int).toNat = 1 from rfl, y2.2.2 131 1 (by decide) (by decide), h131]
    refine w_call (r_writes y2 (by simp)) ?_
    intro _ N3 y3
    rw [b_ld (by decide) (by decide) (by decide), Option.bind_some, show (2 : Int).toNat = 2 from rfl, y3.2.2 131 2 (by decide) (by decide), h131]
    refine w_call (r_writes y3 (by simp)) ?_
    intro _ N4 y4
    rw [b_ld (by decide) (by decide) (by decide), Option.bind_some, show (3 : Int).toNat = 3 from rfl, y4.2.2 131 3 (by decide) (by decide), h131]
    refine w_call (r_writes y4 (by simp)) ?_
    intro _ N5 y5
    have := r_im65 (M0 := M1) (D := D) (f := f) (by rw [h131, hD]) (by omega) (fun k hk => by rw [h131, hfe k hk]) hfv q_FU 0 [A 131 0 / 256, A 131 0 % 256, A 131 1, A 131 2, A 131 3] N5 (by omega) (by unfold q_FU; omega) y5 rfl hb5
    rw [Nat.sub_zero, hbs] at this
    exact this
  obtain ⟨r', M2, em2, hr', z2⟩ := e2
  refine ⟨r, M1, r', M2, em, em2, by rw [hr, hr'], ?_⟩
  refine u_img hI ?_ ?_ ?_ ?_
  · intro a j ha
    rw [z2.2.2 a j (by omega) (by omega), z1.2.2 a j (by omega) (by omega)]
  · rw [z2.1, z2.2.2 3 1 (by decide) (by decide), z1.1]
  · rw [z2.1]; omega
  · intro k hk
    rw [z2.1] at hk
    rw [z2.2.2 4 k (by decide) (by omega), z1.2.1 k (by omega), z2.2.1 k (by omega)]
