theorem u_ext {M M' : q_Mem} (h : ∀ a k, M'.2 a k = M.2 a k) (hS : q_St M) : q_St M' := by
  obtain ⟨t, L, A, ⟨i1, i2, i3, i4, i5, i6, i7⟩, h2, h3⟩ := hS
  refine ⟨t, L, A, ⟨fun a k hk => by rw [h]; exact i1 a k hk, fun a k hk => by rw [h]; exact i2 a k hk, i3, i4, i5, ?_, i7⟩, h2, h3⟩
  rw [show M'.2 88 = M.2 88 from funext (fun k => h 88 k)]
  exact i6
theorem u_tape {t : Nat} {M M' : q_Mem} {L A : q_G} (h : q_I t M L A) (hk : ∀ a j, ¬ ((a = 1 ∧ j = 1) ∨ a = 2 ∨ (a = 94 ∧ j = 1) ∨ a = 95) → M'.2 a j = M.2 a j) (h1 : M'.2 1 1 = M'.2 94 1) (h2 : ∀ k, M'.2 2 k = M'.2 95 k) (h3 : 0 ≤ M'.2 94 1 ∧ M'.2 94 1 ≤ 1600) (h4 : ∀ k, 0 ≤ M'.2 95 k ∧ M'.2 95 k ≤ 255) : q_St M' := by
  obtain ⟨hJ, hR, hW⟩ := h
  have h0 : M'.2 0 11 = M.2 0 11 := hk _ _ (by decide)
  have hL : ∀ a j, ¬ ((a = 1 ∧ j = 1) ∨ a = 2 ∨ (a = 94 ∧ j = 1) ∨ a = 95) → m_L L M' a j = L a j := fun a j h1 => m_Le hJ h0 (hk a j h1)
  have hA : ∀ a j, ¬ ((a = 1 ∧ j = 1) ∨ a = 2 ∨ (a = 94 ∧ j = 1) ∨ a = 95) → m_A A M' a j = A a j := fun a j h1 => m_Ae hJ (hk a j h1)
  have hLc : ∀ a, a ≠ 1 → a ≠ 2 → a ≠ 94 → a ≠ 95 → m_L L M' a = L a := fun a h1 h2 h3 h4 => funext (fun j => hL a j (by omega))
  have hAc : ∀ a, a ≠ 1 → a ≠ 2 → a ≠ 94 → a ≠ 95 → m_A A M' a = A a := fun a h1 h2 h3 h4 => funext (fun j => hA a j (by omega))
  have hF := u_fair hJ hW (fun a j hv => hk a j (by unfold v_fair at hv; omega))
  refine u_St hF (u_day hJ hF.2.2.2.2 h0 (fun a j hv => hk a j (by unfold v_day at hv; omega))) ?_
  have hr := u_ring hJ hR.2.2.2.2.2.2.2 hF.2.2.2.2 h0 (fun a j hv => hk a j (by unfold v_ring at hv; omega))
  obtain ⟨j1, j2, j3, j4, j5, j6, j7, j8⟩ := hR
  refine ⟨⟨h1, h2, h3, h4⟩, ?_, ?_, ?_, ?_, ?_, ?_, hr⟩
  · rw [hLc 56 (by decide) (by decide) (by decide) (by decide), hAc 96 (by decide) (by decide) (by decide) (by decide)]
    exact j2
  · rw [hLc 0 (by decide) (by decide) (by decide) (by decide), hA 94 7 (by decide), hA 94 8 (by decide)]
    exact j3
  · rw [hLc 3 (by decide) (by decide) (by decide) (by decide), hLc 4 (by decide) (by decide) (by decide) (by decide), hA 94 101 (by decide), hAc 165 (by decide) (by decide) (by decide) (by decide)]
    exact j4
  · rw [hLc 10 (by decide) (by decide) (by decide) (by decide), hA 94 67 (by decide)]
    exact j5
  · rw [hLc 36 (by decide) (by decide) (by decide) (by decide), hLc 37 (by decide) (by decide) (by decide) (by decide), hLc 38 (by decide) (by decide) (by decide) (by decide), hLc 39 (by decide) (by decide) (by decide) (by decide), hA 94 62 (by decide), hAc 138 (by decide) (by decide) (by decide) (by decide), hAc 123 (by decide) (by decide) (by decide) (by decide)]
    exact j6
  · rw [hLc 10 (by decide) (by decide) (by decide) (by decide), hAc 131 (by decide) (by decide) (by decide) (by decide)]
    exact j7
/-- refusals, both sides -/
theorem f_refuse {k : Int} {M : q_Mem} (h1 : 0 ≤ k) (h2 : k < 6) : fX11_refuse k M = some (-1, q_up M 56 k.toNat (M.2 56 k.toNat + 1)) := by
  unfold fX11_refuse
  rw [b_ld h1 (by omega) (by decide), Option.bind_some, b_sto h1 (by omega) (by decide), Option.bind_some]
theorem f_refused {k : Int} {M : q_Mem} {z : Int} (h1 : 0 ≤ k) (h2 : k < 6) : ((q_ld M 96 6 k).bind fun x21 => (q_sto M 96 6 k (x21 + 1)).bind fun M1 => some (z, M1)) = some (z, q_up M 96 k.toNat (M.2 96 k.toNat + 1)) := by
  rw [b_ld h1 (by omega) (by decide), Option.bind_some, b_sto h1 (by omega) (by decide), Option.bind_some]
theorem u_ref {M : q_Mem} (hS : q_St M) (k : Nat) : q_St (q_up (q_up M 56 k (M.2 56 k + 1)) 96 k ((q_up M 56 k (M.2 56 k + 1)).2 96 k + 1)) := by
  obtain ⟨t, L, A, h⟩ := hS
  exact i_ref h (k := k) (by rw [show (q_up M 56 k (M.2 56 k + 1)).2 96 k = M.2 96 k from rfl])
theorem f_isInW {x a b : Int} {M : q_Mem} (h1 : q_R x) (h3 : -9223372036854775808 ≤ a) (h4 : a ≤ 9223372036854775807) (h5 : -9223372036854775808 ≤ b) (h6 : b ≤ 9223372036854775807) : fX12_isIn (q_w x) a b M = some (if a ≤ x ∧ x ≤ b then 1 else 0, M) := by
  unfold q_R at h1
  rw [n_w h1.1 h1.2]
  exact f_isIn (by omega) (by omega) h3 h4 h5 h6
theorem f_ite {c : Prop} [Decidable c] {α : Type} {a b : α} : (if q_w (if c then 1 else 0) = 0 then a else b) = if c then b else a := by
  by_cases h : c
  · rw [if_pos h, if_pos h, if_neg (by decide)]
  · rw [if_neg h, if_neg h, if_pos (by decide)]
theorem st_status {M : q_Mem} (hS : q_St M) (x1 : Int) (h1 : q_R x1) : q_Step M (fX11_status x1 M) (fun M1 => fX12_status x1 M1) := by
  obtain ⟨t, L, A, hJ, hR, hW⟩ := id hS
  have e : fX12_status x1 M = some (if 0 ≤ x1 ∧ x1 < 6 then M.2 96 x1.toNat else -1, M) := by
    unfold fX12_status
    rw [f_isInW h1 (by decide) (by decide) (by decide) (by decide), b_some, f_ite]
    by_cases c : 0 ≤ x1 ∧ x1 < 6
    · rw [if_pos (by omega), if_pos c, b_ld (by omega) (by omega) (by decide)]
      rfl
    · rw [if_neg (by omega), if_neg c]
  have e2 : fX11_status x1 M = some (if 0 ≤ x1 ∧ x1 < 6 then M.2 56 x1.toNat else -1, M) := by
    unfold q_R at h1
    unfold fX11_status
    by_cases c1 : x1 < 0
    · simp (disch := omega) [n_w, c1]
      omega
    · by_cases c2 : x1 < 6
      · simp (disch := omega) [n_w, c1, c2, b_ld]
        try omega
      · simp (disch := omega) [n_w, c1, c2]
  refine st_same hS e2 e ?_
  rw [hJ.1 56 _ rfl, hJ.2.1 96 _ rfl, hR.2.1]
theorem st_fault {M : q_Mem} (hS : q_St M) (x1 : Int) (h1 : q_R x1) : q_Step M (fX11_fault x1 M) (fun M1 => fX12_fault x1 M1) := by
  obtain ⟨t, L, A, hJ, hR, hW⟩ := id hS
  have e0 : q_w 1 = 1 := rfl
  unfold fX11_fault fX12_fault
  by_cases c1 : q_w x1 = 0
  · refine st_same hS (if_pos c1) (if_pos c1) ?_
    rw [hJ.1 0 14 rfl, hJ.2.1 94 7 rfl, hR.2.2.1.1]
  · by_cases c2 : q_w x1 = 1
    · refine st_same hS (r := M.2 0 15) (r' := M.2 94 8) ?_ ?_ ?_
      · rw [if_neg c1, if_pos c2]
      · rw [if_neg c1, e0, if_pos c2]
      · rw [hJ.1 0 15 rfl, hJ.2.1 94 8 rfl, hR.2.2.1.2]
    · refine st_same hS (r := -1) (r' := -1) ?_ ?_ rfl
      · rw [if_neg c1, if_neg c2]
      · rw [if_neg c1, e0, if_neg c2]
theorem f_at {x : Int} {M : q_Mem} {r : Nat} (h0 : q_R x) (h1 : q_R (M.2 r 1)) (h2 : q_fr r 0 = r + 1) (n : Nat) (h3 : (q_shp (r + 1)).2 = n) (hn : n ≤ 2147483647) : fX10_at r x M = some (if 0 ≤ x ∧ x < M.2 r 1 ∧ x < n then M.2 (r + 1) x.toNat else -1, M) := by
  unfold fX10_at
  unfold q_R at *
  rw [h2, h3, n_w h0.1 h0.2, n_w h1.1 h1.2, n_w (by omega) (by omega)]
  by_cases c1 : x < 0
  · rw [if_pos c1, if_neg (by omega)]
  · by_cases c2 : x < M.2 r 1
    · by_cases c3 : x < (n : Int)
      · rw [if_neg c1, if_pos c2, if_pos c3, b_ld (by omega) c3 hn, if_pos (by omega)]
        rfl
      · rw [if_neg c1, if_pos c2, if_neg c3, if_neg (by omega)]
    · rw [if_neg c1, if_neg c2, if_neg (by omega)]
theorem st_octet {M : q_Mem} (hS : q_St M) (x1 : Int) (h1 : q_R x1) : q_Step M (fX11_octet x1 M) (fun M1 => fX12_octet x1 M1) := by
  obtain ⟨t, L, A, hJ, hR, hW⟩ := id hS
  obtain ⟨-, -, -, ⟨k1, k2, k3⟩, -⟩ := hR
  have e1 : M.2 3 1 = A 94 101 := by rw [hJ.1 3 1 rfl, k1]
  have e2 : M.2 94 101 = A 94 101 := hJ.2.1 94 101 rfl
  unfold fX11_octet fX12_octet
  rw [f_at h1 (by unfold q_R; omega) (by rfl) 38 (by rfl) (by decide), b_some]
  unfold q_R at h1
  rw [n_w h1.1 h1.2]
  by_cases c : 0 ≤ x1 ∧ x1 < A 94 101
  · refine st_same hS (r := M.2 4 x1.toNat) (r' := M.2 165 x1.toNat) ?_ ?_ ?_
    · rw [if_pos (by omega)]
    · rw [if_neg (by omega), e2, n_w (by omega) (by omega), if_pos (by omega), b_ld (by omega) (by omega) (by decide)]
      rfl
    · rw [hJ.1 4 _ rfl, hJ.2.1 165 _ rfl, k3 _ (by omega)]
  · refine st_same hS (r := -1) (r' := -1) ?_ ?_ rfl
    · rw [if_neg (by omega)]
    · by_cases c1 : x1 < 0
      · rw [if_pos c1]
      · rw [if_neg c1, e2, n_w (by omega) (by omega), if_neg (by omega)]
theorem st_end {M : q_Mem} (hS : q_St M) (x1 : Int) (h1 : q_R x1) : q_Step M (fX11_end x1 M) (fun M1 => fX12_end x1 M1) := by
  obtain ⟨t, L, A, hJ, hR, hW⟩ := id hS
  obtain ⟨⟨k1, k2, k3, k4⟩, -⟩ := id hR
  have e1 : M.2 1 1 = A 94 1 := by rw [hJ.1 1 1 rfl, k1]
  have e2 : M.2 94 1 = A 94 1 := hJ.2.1 94 1 rfl
  unfold q_R at h1
  by_cases c : 0 ≤ x1 ∧ x1 ≤ A 94 1
  · refine ⟨1, q_up M 1 1 x1, 1, q_up (q_up M 1 1 x1) 94 1 x1, ?_, ?_, rfl, ?_⟩
    · unfold fX11_end
      rw [n_w h1.1 h1.2, e1, n_w (by omega) (by omega), if_neg (by omega), if_neg (by omega)]
      rfl
    · unfold fX12_end
      show (if q_w x1 < 0 then _ else if q_w (M.2 94 1) < q_w x1 then _ else _) = _
      rw [n_w h1.1 h1.2, e2, n_w (by omega) (by omega), if_neg (by omega), if_neg (by omega)]
      rfl
    · refine u_tape ⟨hJ, hR, hW⟩ ?_ rfl ?_ ⟨c.1, ?_⟩ ?_
      · intro a j ha
        rw [up_ne (by omega), up_ne (by omega)]
      · intro k
        show M.2 2 k = M.2 95 k
        rw [hJ.1 2 k rfl, hJ.2.1 95 k rfl, k2]
      · show x1 ≤ 1600
        omega
      · intro k
        show 0 ≤ M.2 95 k ∧ M.2 95 k ≤ 255
        rw [hJ.2.1 95 k rfl]
        exact k4 k
  · refine ⟨0, q_up M 56 0 (M.2 56 0 + 1), 0, _, ?_, ?_, rfl, u_ref hS 0⟩
    · have e3 : fX11_end_15 M = some (0, q_up M 56 0 (M.2 56 0 + 1)) := by
        unfold fX11_end_15
        rw [f_refuse (by decide) (by decide)]
        rfl
      unfold fX11_end
      rw [n_w h1.1 h1.2, e1, n_w (by omega) (by omega), e3]
      by_cases c1 : x1 < 0
      · rw [if_pos c1]
      · rw [if_neg c1, if_pos (by omega)]
    · have e3 : ∀ M, fX12_end_12 M = some (0, q_up M 96 0 (M.2 96 0 + 1)) := fun M => f_refused (by decide) (by decide)
      unfold fX12_end
      show (if q_w x1 < 0 then _ else if q_w (M.2 94 1) < q_w x1 then _ else _) = _
      rw [n_w h1.1 h1.2, e2, n_w (by omega) (by omega), e3]
      by_cases c1 : x1 < 0
      · rw [if_pos c1]
      · rw [if_neg c1, if_pos (by omega)]
theorem u_seed {t : Nat} {M M' : q_Mem} {L A : q_G} (h : q_I t M L A) {v : Int} (hM : M' = q_up (q_up M 10 12 v) 94 67 v) (h3 : 0 ≤ v ∧ v < 2147483648) : q_St M' := by
  obtain ⟨hJ, hR, hW⟩ := h
  have hk : ∀ a j, ¬ ((a = 10 ∧ j = 12) ∨ (a = 94 ∧ j = 67)) → M'.2 a j = M.2 a j := by
    intro a j ha
    rw [hM, up_ne (by omega), up_ne (by omega)]
  have h0 : M'.2 0 11 = M.2 0 11 := hk _ _ (by decide)
  have hL : ∀ a j, ¬ ((a = 10 ∧ j = 12) ∨ (a = 94 ∧ j = 67)) → m_L L M' a j = L a j := fun a j h1 => m_Le hJ h0 (hk a j h1)
  have hA : ∀ a j, ¬ ((a = 10 ∧ j = 12) ∨ (a = 94 ∧ j = 67)) → m_A A M' a j = A a j := fun a j h1 => m_Ae hJ (hk a j h1)
  have hLc : ∀ a, a ≠ 10 → a ≠ 94 → m_L L M' a = L a := fun a h1 h2 => funext (fun j => hL a j (by omega))
  have hAc : ∀ a, a ≠ 10 → a ≠ 94 → m_A A M' a = A a := fun a h1 h2 => funext (fun j => hA a j (by omega))
  have hF := u_fair hJ hW (fun a j hv => hk a j (by unfold v_fair at hv; omega))
  refine u_St hF (u_day hJ hF.2.2.2.2 h0 (fun a j hv => hk a j (by unfold v_day at hv; omega))) ?_
  have hr := u_ring hJ hR.2.2.2.2.2.2.2 hF.2.2.2.2 h0 (fun a j hv => hk a j (by unfold v_ring at hv; omega))
  obtain ⟨j1, j2, j3, j4, j5, j6, j7, j8⟩ := hR
  refine ⟨?_, ?_, ?_, ?_, ?_, ?_, ?_, hr⟩
  · rw [hLc 1 (by decide) (by decide), hLc 2 (by decide) (by decide), hA 94 1 (by decide), hAc 95 (by decide) (by decide)]
    exact j1
  · rw [hLc 56 (by decide) (by decide), hAc 96 (by decide) (by decide)]
    exact j2
  · rw [hLc 0 (by decide) (by decide), hA 94 7 (by decide), hA 94 8 (by decide)]
    exact j3
  · rw [hLc 3 (by decide) (by decide), hLc 4 (by decide) (by decide), hA 94 101 (by decide), hAc 165 (by decide) (by decide)]
    exact j4
  · rw [show m_L L M' 10 12 = M'.2 10 12 from rfl, show m_A A M' 94 67 = M'.2 94 67 from rfl, hM]
    exact ⟨rfl, h3⟩
  · rw [hLc 36 (by decide) (by decide), hLc 37 (by decide) (by decide), hLc 38 (by decide) (by decide), hLc 39 (by decide) (by decide), hA 94 62 (by decide), hAc 138 (by decide) (by decide), hAc 123 (by decide) (by decide)]
    exact j6
  · rw [hL 10 5 (by decide), hAc 131 (by decide) (by decide)]
    exact j7
theorem st_seed {M : q_Mem} (hS : q_St M) (x1 : Int) (h1 : q_R x1) : q_Step M (fX11_seed x1 M) (fun M1 => fX12_seed x1 M1) := by
  obtain ⟨t, L, A, hI⟩ := id hS
  unfold q_R at h1
  by_cases c : x1 < 0
  · refine ⟨0, q_up M 56 5 (M.2 56 5 + 1), 0, _, ?_, ?_, rfl, u_ref hS 5⟩
    · unfold fX11_seed
      rw [n_w h1.1 h1.2, if_pos c, f_refuse (by decide) (by decide)]
      rfl
    · unfold fX12_seed
      show (if q_w x1 < 0 then _ else _) = _
      rw [n_w h1.1 h1.2, if_pos c]
      exact f_refused (by decide) (by decide)
  · refine ⟨1, q_up M 10 12 x1, 1, q_up (q_up M 10 12 x1) 94 67 x1, ?_, ?_, rfl, u_seed hI rfl (by omega)⟩
    · unfold fX11_seed
      rw [n_w h1.1 h1.2, if_neg c]
      rfl
    · unfold fX12_seed
      show (if q_w x1 < 0 then _ else _) = _
      rw [n_w h1.1 h1.2, if_neg c]
      rfl
theorem f_put {M : q_Mem} {x : Int} (h0 : 0 ≤ M.2 1 1) (h1 : M.2 1 1 < 1600) : fX10_put 1 x M = some (0, q_up (q_up M 2 (M.2 1 1).toNat (x % 256)) 1 1 (M.2 1 1 + 1)) := by
  unfold fX10_put
  rw [show q_fr 1 0 = 2 from rfl, show (q_shp 2).2 = 1600 from rfl, n_w (by omega) (by omega), n_w (by decide) (by decide), if_neg (by omega), if_pos (by omega), b_sto (by omega) (by omega) (by decide), n_and255]
  rfl
/-- n bytes on the tape's end -/
def q_pl (a l : Nat) (M : q_Mem) (k : Nat) : List Int → q_Mem
  | [] => M
  | v :: vs => q_pl a l (q_up (q_up M a k v) l 1 ((k : Int) + 1)) (k + 1) vs
theorem q_plA {a l : Nat} {vs ws : List Int} : ∀ {M : q_Mem} {k : Nat}, q_pl a l M k (vs ++ ws) = q_pl a l (q_pl a l M k vs) (k + vs.length) ws := by
  induction vs with
  | nil => intro M k; rfl
  | cons v vs ih =>
    intro M k
    show q_pl a l (q_up (q_up M a k v) l 1 ((k : Int) + 1)) (k + 1) (vs ++ ws) = _
    rw [ih]
    show q_pl a l (q_pl a l (q_up (q_up M a k v) l 1 ((k : Int) + 1)) (k + 1) vs) (k + 1 + vs.length) ws = q_pl a l (q_pl a l (q_up (q_up M a k v) l 1 ((k : Int) + 1)) (k + 1) vs) (k + (vs.length + 1)) ws
    rw [show k + 1 + vs.length = k + (vs.length + 1) from by omega]
theorem q_plB {a l : Nat} {vs ws : List Int} {M : q_Mem} {k n : Nat} (h : n = k + vs.length) : q_pl a l (q_pl a l M k vs) n ws = q_pl a l M k (vs ++ ws) := by
  rw [h, q_plA]
theorem q_pl_len {a l : Nat} {vs : List Int} (hne : l ≠ a) : ∀ {M : q_Mem} {k : Nat}, M.2 l 1 = (k : Int) → (q_pl a l M k vs).2 l 1 = ((k + vs.length : Nat) : Int) := by
  induction vs with
  | nil => intro M k h; exact h
  | cons v vs ih =>
    intro M k h
    show (q_pl a l (q_up (q_up M a k v) l 1 ((k : Int) + 1)) (k + 1) vs).2 l 1 = _
    rw [ih (by rw [up_rd, if_pos ⟨rfl, rfl⟩]; omega)]
    simp
    omega
theorem q_pl_rd {a l : Nat} {vs : List Int} (hne : l ≠ a) : ∀ {M : q_Mem} {k : Nat} (b j : Nat), ¬ (b = l ∧ j = 1) → (q_pl a l M k vs).2 b j = if b = a ∧ k ≤ j ∧ j < k + vs.length then vs.getD (j - k) 0 else M.2 b j := by
  induction vs with
  | nil =>
    intro M k b j h
    rw [if_neg (by simp)]
    rfl
  | cons v vs ih =>
    intro M k b j h
    show (q_pl a l (q_up (q_up M a k v) l 1 ((k : Int) + 1)) (k + 1) vs).2 b j = _
    rw [ih b j h, up_ne h, up_rd]
    simp only [List.length_cons]
    by_cases c : b = a ∧ k + 1 ≤ j ∧ j < k + 1 + vs.length
    · rw [if_pos c, if_pos (by omega)]
      rw [show j - k = (j - (k + 1)) + 1 from by omega, List.getD_cons_succ]
    · rw [if_neg c]
      by_cases c2 : b = a ∧ j = k
      · rw [if_pos c2, if_pos (by omega), show j - k = 0 from by omega, List.getD_cons_zero]
      · rw [if_neg c2, if_neg (by omega)]
def q_bytes (a : Int) : List Int := [a / 16777216 % 256, a / 65536 % 256, a / 256 % 256, a % 256]
theorem f_put2 {M : q_Mem} {x : Int} {k : Nat} (h0 : M.2 1 1 = (k : Int)) (h1 : k < 1600) : fX10_put 1 x M = some (0, q_pl 2 1 M k [x % 256]) := by
  rw [f_put (by omega) (by omega), h0, Int.toNat_natCast]
  rfl
theorem f_put4 {M : q_Mem} {x : Int} {k : Nat} (h0 : M.2 1 1 = (k : Int)) (h1 : k + 4 ≤ 1600) (hx : q_R x) : fX10_putFour 1 x M = some (0, q_pl 2 1 M k (q_bytes x)) := by
  unfold q_R at hx
  have s1 : q_shr x 16 = x / 65536 := n_shr hx.1 hx.2 (by decide) (by decide)
  have s2 : q_shr x 8 = x / 256 := n_shr hx.1 hx.2 (by decide) (by decide)
  have s3 : q_shr (x / 65536) 8 = x / 16777216 := by
    rw [n_shr (by omega) (by omega) (by decide) (by decide)]
    show x / 65536 / 256 = _
    omega
  unfold fX10_putFour fX10_putTwo
  rw [s1, s2, s3, f_put2 h0 (by omega), b_some, f_put2 (q_pl_len (by decide) h0) (by simp; omega), b_some, b_some, ← q_plA]
  rw [f_put2 (k := k + 2) (q_pl_len (by decide) h0) (by omega), b_some, q_plB (k := k) (n := k + 2) (vs := [_] ++ [_]) rfl, f_put2 (k := k + 3) (q_pl_len (by decide) h0) (by omega), b_some, b_some, q_plB (k := k) (n := k + 3) (vs := [_] ++ [_] ++ [_]) rfl]
  rfl
theorem f_feed {x1 x2 x3 x4 x5 : Int} {bs : List Int} (h1 : q_R x1) (h2 : q_R x2) (h3 : q_R x3) (h4 : q_R x4) (h5 : q_R x5) (hbs : bs = q_bytes x1 ++ q_bytes x2 ++ q_bytes x3 ++ q_bytes x4 ++ q_bytes x5) {k0 : Nat} (hk0 : k0 + 20 ≤ 1600) : ∀ (n i : Nat) (M : q_Mem), i ≤ 20 → M.2 94 1 = ((k0 + i : Nat) : Int) → 20 - i < n → fX12_feed_28 n x1 x2 x3 x4 x5 (i : Int) M = some (((k0 + 20 : Nat) : Int), q_pl 95 94 M (k0 + i) (bs.drop i)) := by
  intro n
  induction n with
  | zero => intro i M _ _ h; omega
  | succ n ih =>
    intro i M hi hM hn
    rw [fX12_feed_28]
    unfold q_R at h1 h2 h3 h4 h5
    have hlen : bs.length = 20 := by rw [hbs]; rfl
    by_cases c : i = 20
    · subst c
      rw [if_neg (by decide), hM, List.drop_eq_nil_of_le (by omega)]
      rfl
    · have key : ∀ (w : Int) (_ : -2147483648 ≤ w ∧ w ≤ 2147483647) (_ : (q_bytes w).getD (i % 4) 0 = bs.getD i 0), fX12_feed_81 (fX12_feed_28 n) x1 x2 x3 x4 x5 (i : Int) w M = some (((k0 + 20 : Nat) : Int), q_pl 95 94 M (k0 + i) (bs.drop i)) := by
        intro w hw hb
        unfold fX12_feed_81
        have hd : bs.drop i = bs.getD i 0 :: bs.drop (i + 1) := by
          rw [List.drop_eq_getElem_cons (by omega)]
          congr 1
          rw [List.getD_eq_getElem?_getD, List.getElem?_eq_getElem (by omega)]
          rfl
        have hv : q_and (q_shr w (8 * (3 - q_rem (i : Int) 4))) 255 = bs.getD i 0 := by
          rw [n_and255, n_rem (by omega) (by omega) (by decide) (by decide), n_tm (by omega), ← hb]
          have hm : i % 4 = 0 ∨ i % 4 = 1 ∨ i % 4 = 2 ∨ i % 4 = 3 := by omega
          rcases hm with hm | hm | hm | hm
          · rw [show (i : Int) % 4 = 0 from by omega, n_shr hw.1 hw.2 (by decide) (by decide), hm]
            rfl
          · rw [show (i : Int) % 4 = 1 from by omega, n_shr hw.1 hw.2 (by decide) (by decide), hm]
            rfl
          · rw [show (i : Int) % 4 = 2 from by omega, n_shr hw.1 hw.2 (by decide) (by decide), hm]
            rfl
          · rw [show (i : Int) % 4 = 3 from by omega, n_shr hw.1 hw.2 (by decide) (by decide), hm]
            show w / 1 % 256 = w % 256
            rw [Int.ediv_one]
        rw [hv, hM, b_sto (by omega) (by omega) (by decide), Option.bind_some, Int.toNat_natCast]
        have e1 : (q_up M 95 (k0 + i) (bs.getD i 0)).2 94 1 = ((k0 + i : Nat) : Int) := hM
        simp only [q_let]
        rw [e1, hd]
        have := ih (i + 1) (q_up (q_up M 95 (k0 + i) (bs.getD i 0)) 94 1 (((k0 + i : Nat) : Int) + 1)) (by omega) (by rw [up_rd, if_pos ⟨rfl, rfl⟩]; omega) (by omega)
        rw [show ((i + 1 : Nat) : Int) = (i : Int) + 1 from by omega] at this
        rw [this]
        rfl
      have hd : i = 0 ∨ i = 1 ∨ i = 2 ∨ i = 3 ∨ i = 4 ∨ i = 5 ∨ i = 6 ∨ i = 7 ∨ i = 8 ∨ i = 9 ∨ i = 10 ∨ i = 11 ∨ i = 12 ∨ i = 13 ∨ i = 14 ∨ i = 15 ∨ i = 16 ∨ i = 17 ∨ i = 18 ∨ i = 19 := by omega
      rcases hd with rfl | rfl | rfl | rfl | rfl | rfl | rfl | rfl | rfl | rfl | rfl | rfl | rfl | rfl | rfl | rfl | rfl | rfl | rfl | rfl
      · rw [if_pos (by decide), if_pos (by decide)]
        exact key x1 h1 (by rw [hbs]; rfl)
      · rw [if_pos (by decide), if_pos (by decide)]
        exact key x1 h1 (by rw [hbs]; rfl)
      · rw [if_pos (by decide), if_pos (by decide)]
        exact key x1 h1 (by rw [hbs]; rfl)
      · rw [if_pos (by decide), if_pos (by decide)]
        exact key x1 h1 (by rw [hbs]; rfl)
      · rw [if_pos (by decide), if_neg (by decide), if_pos (by decide)]
        exact key x2 h2 (by rw [hbs]; rfl)
      · rw [if_pos (by decide), if_neg (by decide), if_pos (by decide)]
        exact key x2 h2 (by rw [hbs]; rfl)
      · rw [if_pos (by decide), if_neg (by decide), if_pos (by decide)]
        exact key x2 h2 (by rw [hbs]; rfl)
      · rw [if_pos (by decide), if_neg (by decide), if_pos (by decide)]
        exact key x2 h2 (by rw [hbs]; rfl)
      · rw [if_pos (by decide), if_neg (by decide), if_neg (by decide), if_pos (by decide)]
        exact key x3 h3 (by rw [hbs]; rfl)
      · rw [if_pos (by decide), if_neg (by decide), if_neg (by decide), if_pos (by decide)]
        exact key x3 h3 (by rw [hbs]; rfl)
      · rw [if_pos (by decide), if_neg (by decide), if_neg (by decide), if_pos (by decide)]
        exact key x3 h3 (by rw [hbs]; rfl)
      · rw [if_pos (by decide), if_neg (by decide), if_neg (by decide), if_pos (by decide)]
        exact key x3 h3 (by rw [hbs]; rfl)
      · rw [if_pos (by decide), if_neg (by decide), if_neg (by decide), if_neg (by decide), if_pos (by decide)]
        exact key x4 h4 (by rw [hbs]; rfl)
      · rw [if_pos (by decide), if_neg (by decide), if_neg (by decide), if_neg (by decide), if_pos (by decide)]
        exact key x4 h4 (by rw [hbs]; rfl)
      · rw [if_pos (by decide), if_neg (by decide), if_neg (by decide), if_neg (by decide), if_pos (by decide)]
        exact key x4 h4 (by rw [hbs]; rfl)
      · rw [if_pos (by decide), if_neg (by decide), if_neg (by decide), if_neg (by decide), if_pos (by decide)]
        exact key x4 h4 (by rw [hbs]; rfl)
      · rw [if_pos (by decide), if_neg (by decide), if_neg (by decide), if_neg (by decide), if_neg (by decide)]
        exact key x5 h5 (by rw [hbs]; rfl)
      · rw [if_pos (by decide), if_neg (by decide), if_neg (by decide), if_neg (by decide), if_neg (by decide)]
        exact key x5 h5 (by rw [hbs]; rfl)
      · rw [if_pos (by decide), if_neg (by decide), if_neg (by decide), if_neg (by decide), if_neg (by decide)]
        exact key x5 h5 (by rw [hbs]; rfl)
      · rw [if_pos (by decide), if_neg (by decide), if_neg (by decide), if_neg (by decide), if_neg (by decide)]
        exact key x5 h5 (by rw [hbs]; rfl)
theorem st_feed {M : q_Mem} (hS : q_St M) (x1 x2 x3 x4 x5 : Int) (h1 : q_R x1) (h2 : q_R x2) (h3 : q_R x3) (h4 : q_R x4) (h5 : q_R x5) : q_Step M (fX11_feed x1 x2 x3 x4 x5 M) (fun M1 => fX12_feed x1 x2 x3 x4 x5 M1) := by
  obtain ⟨t, L, A, hJ, hR, hW⟩ := id hS
  obtain ⟨⟨k1, k2, k3, k4⟩, -⟩ := id hR
  have e1 : M.2 1 1 = A 94 1 := by rw [hJ.1 1 1 rfl, k1]
  have e2 : M.2 94 1 = A 94 1 := hJ.2.1 94 1 rfl
  obtain ⟨k, hk⟩ := Int.eq_ofNat_of_zero_le k3.1
  have hk' : M.2 1 1 = (k : Int) := by rw [e1, hk]
  by_cases c : k + 20 ≤ 1600
  · have hb : ∀ x v, v ∈ q_bytes x → 0 ≤ v ∧ v ≤ 255 := by
      intro x v hv
      simp only [q_bytes, List.mem_cons, List.not_mem_nil, or_false] at hv
      omega
    have hlen : (q_bytes x1 ++ q_bytes x2 ++ q_bytes x3 ++ q_bytes x4 ++ q_bytes x5).length = 20 := rfl
    have hbv : ∀ v ∈ q_bytes x1 ++ q_bytes x2 ++ q_bytes x3 ++ q_bytes x4 ++ q_bytes x5, 0 ≤ v ∧ v ≤ 255 := by
      intro v hv
      simp only [List.mem_append] at hv
      rcases hv with (((hv | hv) | hv) | hv) | hv <;> exact hb _ v hv
    refine ⟨((k + 20 : Nat) : Int), q_pl 2 1 M k (q_bytes x1 ++ q_bytes x2 ++ q_bytes x3 ++ q_bytes x4 ++ q_bytes x5), ((k + 20 : Nat) : Int), q_pl 95 94 (q_pl 2 1 M k (q_bytes x1 ++ q_bytes x2 ++ q_bytes x3 ++ q_bytes x4 ++ q_bytes x5)) k (q_bytes x1 ++ q_bytes x2 ++ q_bytes x3 ++ q_bytes x4 ++ q_bytes x5), ?_, ?_, rfl, ?_⟩
    · unfold fX11_feed
      rw [hk', n_w (by decide) (by decide), n_w (by omega) (by omega), if_neg (by omega)]
      rw [f_put4 hk' (by omega) h1, b_some, f_put4 (k := k + 4) (q_pl_len (by decide) hk') (by omega) h2, b_some, q_plB (k := k) (n := k + 4) (vs := q_bytes x1) rfl, f_put4 (k := k + 8) (q_pl_len (by decide) hk') (by omega) h3, b_some, q_plB (k := k) (n := k + 8) (vs := q_bytes x1 ++ q_bytes x2) rfl, f_put4 (k := k + 12) (q_pl_len (by decide) hk') (by omega) h4, b_some, q_plB (k := k) (n := k + 12) (vs := q_bytes x1 ++ q_bytes x2 ++ q_bytes x3) rfl, f_put4 (k := k + 16) (q_pl_len (by decide) hk') (by omega) h5, b_some, q_plB (k := k) (n := k + 16) (vs := q_bytes x1 ++ q_bytes x2 ++ q_bytes x3 ++ q_bytes x4) rfl]
      rw [q_pl_len (by decide) hk', hlen]
    · show fX12_feed x1 x2 x3 x4 x5 _ = _
      have e3 : (q_pl 2 1 M k (q_bytes x1 ++ q_bytes x2 ++ q_bytes x3 ++ q_bytes x4 ++ q_bytes x5)).2 94 1 = (k : Int) := by
        rw [q_pl_rd (by decide) 94 1 (by decide), if_neg (by omega), e2, hk]
      unfold fX12_feed
      rw [e3, n_w (by decide) (by decide), n_w (by omega) (by omega), if_neg (by omega)]
      have := f_feed h1 h2 h3 h4 h5 rfl c q_FU 0 _ (by omega) e3 (by decide)
      exact this
    · refine u_tape ⟨hJ, hR, hW⟩ ?_ ?_ ?_ ?_ ?_
      · intro a j ha
        rw [q_pl_rd (by decide) a j (by omega), if_neg (by omega), q_pl_rd (by decide) a j (by omega), if_neg (by omega)]
      · rw [q_pl_len (by decide) (k := k) (by rw [q_pl_rd (by decide) 94 1 (by decide), if_neg (by omega), e2, hk]), q_pl_rd (by decide) 1 1 (by decide), if_neg (by omega), q_pl_len (by decide) hk']
      · intro j
        rw [q_pl_rd (by decide) 2 j (by omega), if_neg (by omega), q_pl_rd (by decide) 2 j (by omega), q_pl_rd (by decide) 95 j (by omega), q_pl_rd (by decide) 95 j (by omega)]
        rw [hJ.1 2 j rfl, hJ.2.1 95 j rfl, k2]
        by_cases cj : k ≤ j ∧ j < k + 20
        · rw [if_pos (by rw [hlen]; omega), if_pos (by rw [hlen]; omega)]
        · rw [if_neg (by rw [hlen]; omega), if_neg (by rw [hlen]; omega), if_neg (by omega)]
      · rw [q_pl_len (by decide) (k := k) (by rw [q_pl_rd (by decide) 94 1 (by decide), if_neg (by omega), e2, hk]), hlen]
        omega
      · intro j
        rw [q_pl_rd (by decide) 95 j (by omega), q_pl_rd (by decide) 95 j (by omega)]
        by_cases cj : k ≤ j ∧ j < k + 20
        · rw [if_pos (by rw [hlen]; omega)]
          apply hbv
          rw [List.getD_eq_getElem?_getD, List.getElem?_eq_getElem (by rw [hlen]; omega)]
          exact List.getElem_mem _
        · rw [if_neg (by rw [hlen]; omega), if_neg (by omega), hJ.2.1 95 j rfl]
          exact k4 j
  · refine ⟨-1, q_up M 56 0 (M.2 56 0 + 1), -1, _, ?_, ?_, rfl, u_ref hS 0⟩
    · unfold fX11_feed
      rw [hk', n_w (by decide) (by decide), n_w (by omega) (by omega), if_pos (by omega), f_refuse (by decide) (by decide)]
      rfl
    · unfold fX12_feed
      show (if q_w 1600 < q_w (M.2 94 1 + 20) then _ else _) = _
      rw [e2, hk, n_w (by decide) (by decide), n_w (by omega) (by omega), if_pos (by omega)]
      exact f_refused (by decide) (by decide)
