/-- the told fair is the same in A' as in A -/
def e_fair (A A' : q_G) : Prop := A' 94 47 = A 94 47 ∧ ∀ a k, 122 ≤ a → a ≤ 130 → A' a k = A a k
theorem e_fair_refl (A : q_G) : e_fair A A := ⟨rfl, fun _ _ _ _ => rfl⟩
theorem e_fc {A A' : q_G} (h : e_fair A A') (a : Nat) (h1 : 122 ≤ a) (h2 : a ≤ 130) : A' a = A a := funext (fun k => h.2 a k h1 h2)
theorem e_wf {A A' : q_G} (h : e_fair A A') (h0 : r_wf A) : r_wf A' := by
  unfold r_wf at *
  simp only [h.1, e_fc h 122 (by decide) (by decide), e_fc h 123 (by decide) (by decide), e_fc h 125 (by decide) (by decide), e_fc h 126 (by decide) (by decide), e_fc h 127 (by decide) (by decide)]
  exact h0
theorem e_dv {A A' : q_G} (h : e_fair A A') {d : Nat → Int} : r_dv A' d ↔ r_dv A d := by
  unfold r_dv
  simp only [e_fc h 122 (by decide) (by decide), e_fc h 123 (by decide) (by decide)]
theorem e_code {A A' : q_G} (h : e_fair A A') {z : Int} {f : Nat → Int} {w : Nat} : r_code z f A' w ↔ r_code z f A w := by
  unfold r_code s_codes
  simp only [e_fc h 128 (by decide) (by decide), e_fc h 129 (by decide) (by decide), e_fc h 130 (by decide) (by decide)]
theorem e_codes {A A' : q_G} (h : e_fair A A') (w : Nat) : s_codes A' w = s_codes A w := by
  unfold s_codes
  simp only [e_fc h 128 (by decide) (by decide), e_fc h 129 (by decide) (by decide), e_fc h 130 (by decide) (by decide)]
theorem e_cell {A A' : q_G} (h : e_fair A A') : s_cell A' = s_cell A := by
  funext c s m
  unfold s_cell s_pay s_len s_val s_env
  simp only [e_codes h, e_fc h 125 (by decide) (by decide), e_fc h 126 (by decide) (by decide), e_fc h 128 (by decide) (by decide)]
theorem e_cache {A A' : q_G} (h : e_fair A A') {f : Nat → Int} (h0 : r_cache f A) : r_cache f A' := by
  unfold r_cache at *
  rw [e_cell h]
  simp only [e_fc h 122 (by decide) (by decide), e_fc h 123 (by decide) (by decide)]
  exact h0
theorem e_fairL {t : Nat} {A A' L L' : q_G} (h : e_fair A A') (h1 : L' 0 11 = L 0 11) (h2 : L' 0 12 = L 0 12) (h3 : L' 87 0 = L 87 0) (h4 : ∀ a k, 57 ≤ a → a ≤ 86 → L' a k = L a k) (h0 : r_fair t L A) : r_fair t L' A' := by
  have ht : t = 57 ∨ t = 72 := by
    rcases h0.1 with h | h
    · exact Or.inl h.1
    · exact Or.inr h.1
  have hf : ∀ i, i ≤ 14 → L' (t + i) = L (t + i) := fun i hi => funext (fun k => h4 _ k (by omega) (by omega))
  have hf0 : L' t = L t := hf 0 (by decide)
  unfold r_fair at *
  simp only [h1, h2, h3, hf0, hf 1 (by decide), hf 2 (by decide), hf 3 (by decide), hf 4 (by decide), hf 5 (by decide), hf 6 (by decide), hf 7 (by decide), hf 8 (by decide), hf 9 (by decide), hf 10 (by decide), hf 11 (by decide), hf 12 (by decide), hf 13 (by decide), hf 14 (by decide), e_code h]
  simp only [e_fc h 122 (by decide) (by decide), e_fc h 123 (by decide) (by decide), e_fc h 124 (by decide) (by decide), e_fc h 125 (by decide) (by decide), e_fc h 126 (by decide) (by decide), e_fc h 127 (by decide) (by decide)]
  exact h0
theorem e_cloud {A A' : q_G} (h : e_fair A A') (h1 : A' 131 = A 131) : s_cloud A' = s_cloud A := by
  funext m
  unfold s_cloud
  simp only [e_fc h 123 (by decide) (by decide), e_fc h 127 (by decide) (by decide), h1]
theorem e_day {A A' L L' : q_G} (h : e_fair A A') (h1 : A' 131 = A 131) (h2 : ∀ k, k < 4 → L' 10 k = L 10 k) (h3 : L' 11 = L 11) (h4 : L' 89 = L 89) (h0 : r_day L A) : r_day L' A' := by
  unfold r_day at *
  simp only [e_cloud h h1, h1, h3, h4, h2 0 (by decide), h2 1 (by decide), h2 2 (by decide), h2 3 (by decide)]
  exact h0
theorem e_at {A A' : q_G} (h1 : A' 131 = A 131) (h2 : A' 139 = A 139) (h3 : A' 94 66 = A 94 66) : s_at A' = s_at A := by
  funext j
  cases j with
  | zero => exact h1
  | succ j =>
    funext k
    show A' 139 _ = A 139 _
    rw [h2, h3]
theorem e_ring {A A' L L' : q_G} (h : e_fair A A') (h1 : A' 131 = A 131) (h2 : A' 139 = A 139) (h3 : A' 94 66 = A 94 66) (h4 : A' 94 65 = A 94 65) (h5 : L' 10 10 = L 10 10) (h6 : L' 10 11 = L 10 11) (h7 : ∀ a k, 11 ≤ a → a ≤ 35 → L' a k = L a k) (h0 : r_ring L A) : r_ring L' A' := by
  unfold r_ring at *
  have e11 : L' 11 = L 11 := funext (fun k => h7 11 k (by decide) (by decide))
  have e12 : L' 12 = L 12 := funext (fun k => h7 12 k (by decide) (by decide))
  have e13 : L' 13 = L 13 := funext (fun k => h7 13 k (by decide) (by decide))
  have e14 : L' 14 = L 14 := funext (fun k => h7 14 k (by decide) (by decide))
  have e15 : ∀ i, L' (16 + i % 20) = L (16 + i % 20) := fun i => funext (fun k => h7 _ k (by omega) (by omega))
  simp only [e_at h1 h2 h3, h3, h4, h5, h6, e11, e12, e13, e14, e15, e_dv h]
  exact h0
theorem j_scr {t : Nat} {M : q_Mem} {L A : q_G} (h : q_J t M L A) {a k : Nat} {v : Int} (h1 : l_obs (L 0 11) a k = false) (h2 : a_core a k = false) (h3 : (a == 88) = false) : q_J t (q_up M a k v) L A := by
  obtain ⟨i1, i2, i3, i4, i5, i6, i7⟩ := h
  refine ⟨?_, ?_, i3, i4, i5, ?_, i7⟩
  · intro b j hb
    rw [up_rd, if_neg (by rintro ⟨rfl, rfl⟩; rw [h1] at hb; cases hb)]
    exact i1 b j hb
  · intro b j hb
    rw [up_rd, if_neg (by rintro ⟨rfl, rfl⟩; rw [h2] at hb; cases hb)]
    exact i2 b j hb
  · have : (q_up M a k v).2 88 = M.2 88 := by
      rw [b_rd, if_neg]
      intro h
      rw [← h] at h3
      cases h3
    rw [this]
    exact i6
theorem i_of {t : Nat} {M : q_Mem} {L A : q_G} (h1 : q_J t M L A) (h2 : r_rest L A) (h3 : r_words A) : q_St M := ⟨t, L, A, h1, h2, h3⟩
theorem st_of {M : q_Mem} {o1 : Option (Int × q_Mem)} {o2 : q_Mem → Option (Int × q_Mem)} (h : q_P o1 (fun r M1 => q_P (o2 M1) (fun r' M2 => q_w r = q_w r' ∧ q_St M2))) : q_Step M o1 o2 := by
  obtain ⟨r, M1, e1, r', M2, e2, e3, e4⟩ := h
  exact ⟨r, M1, r', M2, e1, e2, e3, e4⟩
theorem st_same {M : q_Mem} (hS : q_St M) {o1 : Option (Int × q_Mem)} {o2 : q_Mem → Option (Int × q_Mem)} {r r' : Int} (h1 : o1 = some (r, M)) (h2 : o2 M = some (r', M)) (h : q_w r = q_w r') : q_Step M o1 o2 := ⟨r, M, r', M, h1, h2, h, hS⟩
theorem f_isIn {x a b : Int} {M : q_Mem} (h1 : -9223372036854775808 ≤ x) (h2 : x ≤ 9223372036854775807) (h3 : -9223372036854775808 ≤ a) (h4 : a ≤ 9223372036854775807) (h5 : -9223372036854775808 ≤ b) (h6 : b ≤ 9223372036854775807) : fX12_isIn x a b M = some (if a ≤ x ∧ x ≤ b then 1 else 0, M) := by
  unfold fX12_isIn
  rw [n_lcmp h1 h2 h3 h4, n_lcmp h1 h2 h5 h6]
  by_cases c1 : a ≤ x
  · by_cases c2 : x ≤ b
    · rw [if_pos (show a ≤ x ∧ x ≤ b from ⟨c1, c2⟩), if_neg, if_neg]
      · by_cases e : x = b
        · rw [if_neg (by omega), if_pos e]; decide
        · rw [if_neg (by omega), if_neg e]; decide
      · by_cases e : x = a
        · rw [if_neg (by omega), if_pos e]; decide
        · rw [if_pos (by omega)]; decide
    · rw [if_neg (by omega : ¬ (a ≤ x ∧ x ≤ b)), if_neg, if_pos]
      · rw [if_pos (by omega)]; decide
      · by_cases e : x = a
        · rw [if_neg (by omega), if_pos e]; decide
        · rw [if_pos (by omega)]; decide
  · rw [if_neg (by omega : ¬ (a ≤ x ∧ x ≤ b)), if_pos]
    rw [if_neg (by omega), if_neg (by omega)]; decide
theorem f_w1 (c : Prop) [Decidable c] : (q_w (if c then 1 else 0) = 0) ↔ ¬ c := by
  by_cases h : c
  · simp only [h, if_true]
    decide
  · simp only [h, if_false]
    decide
theorem f_u1 {α : Type} {f : Nat → α} {k : Nat} {v : α} : q_u1 f k v k = v := if_pos rfl
theorem f_u2 {α : Type} {f : Nat → α} {k j : Nat} {v : α} (h : j ≠ k) : q_u1 f k v j = f j := if_neg h
theorem up_ne {M : q_Mem} {a k : Nat} {v : Int} {b j : Nat} (h : ¬ (b = a ∧ j = k)) : (q_up M a k v).2 b j = M.2 b j := by
  rw [up_rd, if_neg h]
def m_L (L : q_G) (M : q_Mem) : q_G := fun a k => if l_obs (M.2 0 11) a k = true then M.2 a k else L a k
def m_A (A : q_G) (M : q_Mem) : q_G := fun a k => if a_core a k = true then M.2 a k else A a k
theorem m_Ae {t : Nat} {M M' : q_Mem} {L A : q_G} (h : q_J t M L A) {a k : Nat} (hk : M'.2 a k = M.2 a k) : m_A A M' a k = A a k := by
  unfold m_A
  by_cases c : a_core a k = true
  · rw [if_pos c, hk]
    exact h.2.1 a k c
  · rw [if_neg c]
theorem m_Le {t : Nat} {M M' : q_Mem} {L A : q_G} (h : q_J t M L A) (h0 : M'.2 0 11 = M.2 0 11) {a k : Nat} (hk : M'.2 a k = M.2 a k) : m_L L M' a k = L a k := by
  unfold m_L
  rw [h0, h.1 0 11 rfl]
  by_cases c : l_obs (L 0 11) a k = true
  · rw [if_pos c, hk]
    exact h.1 a k c
  · rw [if_neg c]
def v_fair (a k : Nat) : Prop := (a = 0 ∧ (k = 11 ∨ k = 12)) ∨ a = 87 ∨ (57 ≤ a ∧ a ≤ 86) ∨ a = 88 ∨ (122 ≤ a ∧ a ≤ 130) ∨ (a = 94 ∧ k = 47) ∨ (97 ≤ a ∧ a ≤ 121) ∨ (140 ≤ a ∧ a ≤ 161)
def v_day (a k : Nat) : Prop := a = 131 ∨ (a = 10 ∧ k < 4) ∨ a = 11 ∨ a = 89
def v_ring (a k : Nat) : Prop := a = 131 ∨ a = 139 ∨ (a = 94 ∧ (k = 65 ∨ k = 66)) ∨ (a = 10 ∧ (k = 10 ∨ k = 11)) ∨ (11 ≤ a ∧ a ≤ 35)
theorem a_wc : ∀ e ∈ a_words, (97 ≤ e.1 ∧ e.1 ≤ 121) ∨ (140 ≤ e.1 ∧ e.1 ≤ 161) := by decide +kernel
theorem u_fair {t : Nat} {M M' : q_Mem} {L A : q_G} (h : q_J t M L A) (hw : r_words A) (hk : ∀ a k, v_fair a k → M'.2 a k = M.2 a k) : r_fair t (m_L L M') (m_A A M') ∧ r_wf (m_A A M') ∧ r_cache (M'.2 88) (m_A A M') ∧ r_words (m_A A M') ∧ e_fair A (m_A A M') := by
  have h0 : M'.2 0 11 = M.2 0 11 := hk 0 11 (by unfold v_fair; omega)
  have hA : e_fair A (m_A A M') := ⟨m_Ae h (hk _ _ (by unfold v_fair; omega)), fun a k h1 h2 => m_Ae h (hk _ _ (by unfold v_fair; omega))⟩
  have e88 : M'.2 88 = M.2 88 := funext (fun k => hk 88 k (by unfold v_fair; omega))
  have hL : ∀ a k, v_fair a k → m_L L M' a k = L a k := fun a k hv => m_Le h h0 (hk a k hv)
  refine ⟨e_fairL (L := L) hA (hL _ _ (by unfold v_fair; omega)) (hL _ _ (by unfold v_fair; omega)) (hL _ _ (by unfold v_fair; omega)) (fun a k _ _ => hL _ _ (by unfold v_fair; omega)) h.2.2.1, e_wf hA h.2.2.2.1, ?_, ?_, hA⟩
  · rw [e88]
    exact e_cache hA h.2.2.2.2.2.1
  · intro e he j hj
    have := a_wc e he
    rw [m_Ae h (hk _ _ (by unfold v_fair; omega))]
    exact hw e he j hj
theorem u_day {t : Nat} {M M' : q_Mem} {L A : q_G} (h : q_J t M L A) (hA : e_fair A (m_A A M')) (h0 : M'.2 0 11 = M.2 0 11) (hk : ∀ a k, v_day a k → M'.2 a k = M.2 a k) : r_day (m_L L M') (m_A A M') ∧ r_dv (m_A A M') (m_A A M' 131) := by
  have e131 : m_A A M' 131 = A 131 := funext (fun k => m_Ae h (hk _ _ (by unfold v_day; omega)))
  have hL : ∀ a k, v_day a k → m_L L M' a k = L a k := fun a k hv => m_Le h h0 (hk a k hv)
  refine ⟨e_day (L := L) hA e131 (fun k hk => hL _ _ (by unfold v_day; omega)) (funext (fun k => hL _ _ (by unfold v_day; omega))) (funext (fun k => hL _ _ (by unfold v_day; omega))) h.2.2.2.2.1, ?_⟩
  rw [e131]
  exact (e_dv hA).mpr h.2.2.2.2.2.2
theorem u_ring {t : Nat} {M M' : q_Mem} {L A : q_G} (h : q_J t M L A) (hr : r_ring L A) (hA : e_fair A (m_A A M')) (h0 : M'.2 0 11 = M.2 0 11) (hk : ∀ a k, v_ring a k → M'.2 a k = M.2 a k) : r_ring (m_L L M') (m_A A M') := by
  have hL : ∀ a k, v_ring a k → m_L L M' a k = L a k := fun a k hv => m_Le h h0 (hk a k hv)
  have hA1 : ∀ a k, v_ring a k → m_A A M' a k = A a k := fun a k hv => m_Ae h (hk a k hv)
  exact e_ring (L := L) hA (funext fun k => hA1 _ _ (by unfold v_ring; omega)) (funext fun k => hA1 _ _ (by unfold v_ring; omega)) (hA1 _ _ (by unfold v_ring; omega)) (hA1 _ _ (by unfold v_ring; omega)) (hL _ _ (by unfold v_ring; omega)) (hL _ _ (by unfold v_ring; omega)) (fun a k h1 h2 => hL _ _ (by unfold v_ring; omega)) hr
theorem u_St {t : Nat} {M' : q_Mem} {L A : q_G} (h1 : r_fair t (m_L L M') (m_A A M') ∧ r_wf (m_A A M') ∧ r_cache (M'.2 88) (m_A A M') ∧ r_words (m_A A M') ∧ e_fair A (m_A A M')) (h2 : r_day (m_L L M') (m_A A M') ∧ r_dv (m_A A M') (m_A A M' 131)) (h3 : r_rest (m_L L M') (m_A A M')) : q_St M' := by
  refine ⟨t, m_L L M', m_A A M', ⟨?_, ?_, h1.1, h1.2.1, h2.1, h1.2.2.1, h2.2⟩, h3, h1.2.2.2.1⟩
  · intro a k ha
    have e : m_L L M' 0 11 = M'.2 0 11 := rfl
    rw [e] at ha
    unfold m_L
    rw [if_pos ha]
  · intro a k ha
    unfold m_A
    rw [if_pos ha]
theorem u_seen {L L' A A' : q_G} (hA : e_fair A A') (h1 : A' 94 62 = A 94 62) (h2 : A' 138 = A 138) (h3 : L' 36 0 = L 36 0) (h4 : L' 37 = L 37) (h5 : L' 38 = L 38) (h6 : L' 39 = L 39) (h0 : r_rest L A) : (L' 36 0 = A' 94 62 ∧ (0 ≤ A' 94 62 ∧ A' 94 62 ≤ 16) ∧ ∀ k : Nat, (k : Int) < A' 94 62 → (L' 37 k = A' 138 (3 * k) ∧ 0 ≤ A' 138 (3 * k) ∧ A' 138 (3 * k) < A' 123 4) ∧ (L' 38 k = A' 138 (3 * k + 1) ∧ 0 ≤ A' 138 (3 * k + 1) ∧ A' 138 (3 * k + 1) < A' 123 3) ∧ (L' 39 k = A' 138 (3 * k + 2) ∧ 0 ≤ A' 138 (3 * k + 2) ∧ A' 138 (3 * k + 2) ≤ 65535)) := by
  rw [h1, h2, h3, h4, h5, h6, hA.2 123 4 (by decide) (by decide), hA.2 123 3 (by decide) (by decide)]
  exact h0.2.2.2.2.2.1
/-- all of r_rest but what is told apart -/
def v_rest (a k : Nat) : Prop := (a = 1 ∧ k = 1) ∨ a = 2 ∨ (a = 94 ∧ (k = 1 ∨ k = 7 ∨ k = 8 ∨ k = 101 ∨ k = 67 ∨ k = 62)) ∨ a = 95 ∨ a = 56 ∨ a = 96 ∨ (a = 0 ∧ (k = 14 ∨ k = 15)) ∨ (a = 3 ∧ k = 1) ∨ a = 4 ∨ a = 165 ∨ (a = 10 ∧ (k = 12 ∨ k = 5)) ∨ a = 36 ∨ a = 37 ∨ a = 38 ∨ a = 39 ∨ a = 138
/-- a refused call: both count it -/
theorem i_ref {t : Nat} {M M' : q_Mem} {L A : q_G} (h : q_I t M L A) {k : Nat} (hM : M' = q_up (q_up M 56 k (M.2 56 k + 1)) 96 k (M.2 96 k + 1)) : q_St M' := by
  obtain ⟨hJ, hR, hW⟩ := h
  have hk : ∀ a j, a ≠ 56 → a ≠ 96 → M'.2 a j = M.2 a j := by
    intro a j h1 h2
    rw [hM, up_ne (by omega), up_ne (by omega)]
  have h0 : M'.2 0 11 = M.2 0 11 := hk _ _ (by decide) (by decide)
  have hL : ∀ a j, a ≠ 56 → a ≠ 96 → m_L L M' a j = L a j := fun a j h1 h2 => m_Le hJ h0 (hk a j h1 h2)
  have hA : ∀ a j, a ≠ 56 → a ≠ 96 → m_A A M' a j = A a j := fun a j h1 h2 => m_Ae hJ (hk a j h1 h2)
  have hLc : ∀ a, a ≠ 56 → a ≠ 96 → m_L L M' a = L a := fun a h1 h2 => funext (fun j => hL a j h1 h2)
  have hAc : ∀ a, a ≠ 56 → a ≠ 96 → m_A A M' a = A a := fun a h1 h2 => funext (fun j => hA a j h1 h2)
  have hF := u_fair hJ hW (fun a j hv => hk a j (by unfold v_fair at hv; omega) (by unfold v_fair at hv; omega))
  refine u_St hF (u_day hJ hF.2.2.2.2 h0 (fun a j hv => hk a j (by unfold v_day at hv; omega) (by unfold v_day at hv; omega))) ?_
  have hr := u_ring hJ hR.2.2.2.2.2.2.2 hF.2.2.2.2 h0 (fun a j hv => hk a j (by unfold v_ring at hv; omega) (by unfold v_ring at hv; omega))
  obtain ⟨j1, j2, j3, j4, j5, j6, j7, j8⟩ := hR
  refine ⟨?_, ?_, ?_, ?_, ?_, ?_, ?_, hr⟩
  · rw [hLc 1 (by decide) (by decide), hLc 2 (by decide) (by decide), hAc 94 (by decide) (by decide), hAc 95 (by decide) (by decide)]
    exact j1
  · intro j
    show M'.2 56 j = M'.2 96 j
    rw [hM, up_rd, up_rd, up_rd, up_rd]
    rw [hJ.1 56 j rfl, hJ.2.1 96 j rfl, hJ.1 56 k rfl, hJ.2.1 96 k rfl, j2, j2]
    by_cases c : j = k
    · simp [c]
    · simp [c]
  · rw [hLc 0 (by decide) (by decide), hAc 94 (by decide) (by decide)]
    exact j3
  · rw [hLc 3 (by decide) (by decide), hLc 4 (by decide) (by decide), hAc 94 (by decide) (by decide), hAc 165 (by decide) (by decide)]
    exact j4
  · rw [hLc 10 (by decide) (by decide), hAc 94 (by decide) (by decide)]
    exact j5
  · rw [hLc 36 (by decide) (by decide), hLc 37 (by decide) (by decide), hLc 38 (by decide) (by decide), hLc 39 (by decide) (by decide), hAc 94 (by decide) (by decide), hAc 138 (by decide) (by decide), hAc 123 (by decide) (by decide)]
    exact j6
  · rw [hLc 10 (by decide) (by decide), hAc 131 (by decide) (by decide)]
    exact j7
