/-! ask: the other side takes the answers together -/
def z_tk (M M' : q_Mem) : Prop := ∀ a k, ¬ (a = 94 ∧ (k = 98 ∨ k = 99)) → M'.2 a k = M.2 a k
theorem t_133 (M : q_Mem) : ∃ M', fX12_qTakes_133 M = some (0, M') ∧ M'.2 94 98 = M.2 94 98 ∧ M'.2 94 99 = 0 ∧ z_tk M M' := by
  unfold fX12_qTakes_133
  rw [q_le]
  exact ⟨_, rfl, up_ne (by omega), by rw [up_rd, if_pos ⟨rfl, rfl⟩], fun a k h => up_ne (by omega)⟩
theorem t_128 (x : Int) (M : q_Mem) : ∃ M', fX12_qTakes_128 x M = some (0, M') ∧ M'.2 94 98 = x ∧ M'.2 94 99 = 0 ∧ z_tk M M' := by
  unfold fX12_qTakes_128
  rw [q_le]
  obtain ⟨M', e1, e2, e3, e4⟩ := t_133 (q_up M 94 98 x)
  exact ⟨M', e1, by rw [e2, up_rd, if_pos ⟨rfl, rfl⟩], e3, fun a k h => by rw [e4 a k h, up_ne (by omega)]⟩
theorem t_75 {kd : Int} (hk : 0 ≤ kd ∧ kd < 3) (v : Int) (M : q_Mem) : ∃ M', fX12_qTakes_75 kd v M = some (0, M') ∧ M'.2 94 98 = M.2 94 98 ∧ M'.2 94 99 = 0 ∧ z_tk M M' := by
  unfold fX12_qTakes_75 fX12_qTakes_90
  rw [n_w (a := kd) (by omega) (by omega), show q_w 3 = 3 from rfl, if_neg (by omega), if_neg (by omega)]
  exact t_133 M
def o_t1 (kd v : Int) (c : Nat) (x : Int) : Int := if v = 1 then (if kd = 0 then (if x = -1 then (c : Int) else x) else if kd = 1 then (c : Int) else x + 1) else x
theorem t_tk {kd v : Int} {c : Nat} {M : q_Mem} (hk : 0 ≤ kd ∧ kd < 3) (hv : v = 0 ∨ v = 1) (hc : c ≤ 8) (hx : -1 ≤ M.2 94 98 ∧ M.2 94 98 ≤ 100) : ∃ M', fX12_qTakes kd v (c : Int) M = some (0, M') ∧ M'.2 94 98 = o_t1 kd v c (M.2 94 98) ∧ M'.2 94 99 = 0 ∧ z_tk M M' := by
  have l1 := (f_lc (a := v) (b := 1) (by omega) (by omega) (by omega) (by omega)).2.2
  have l2 := (f_lc (a := M.2 94 98) (b := -1) (by omega) (by omega) (by omega) (by omega)).2.2
  have hc' : q_w (c : Int) = (c : Int) := n_w (by omega) (by omega)
  have sh : ∀ y : Int, ∃ M', fX12_qTakes_75 kd v (q_up M 94 98 y) = some (0, M') ∧ M'.2 94 98 = y ∧ M'.2 94 99 = 0 ∧ z_tk M M' := by
    intro y
    obtain ⟨M', e1, e2, e3, e4⟩ := t_75 hk v (q_up M 94 98 y)
    exact ⟨M', e1, by rw [e2, up_rd, if_pos ⟨rfl, rfl⟩], e3, fun a k h => by rw [e4 a k h, up_ne (by omega)]⟩
  unfold fX12_qTakes fX12_qTakes_15 o_t1
  rw [n_w (a := kd) (by omega) (by omega), show q_w 3 = 3 from rfl, if_pos hk.2]
  unfold fX12_qTakes_16 fX12_qTakes_38 fX12_qTakes_48 fX12_qTakes_55
  rw [n_w (a := kd) (by omega) (by omega), show q_w 0 = 0 from rfl, show q_w 1 = 1 from rfl, show q_w 2 = 2 from rfl, hc', q_le]
  rcases hv with rfl | rfl
  · rw [if_neg (fun g => absurd (l1.mp g) (by decide)), if_neg (by decide : ¬ (0 : Int) = 1), if_pos rfl, if_pos rfl]
    have t0 := t_75 hk 0 M
    have : kd = 0 ∨ kd = 1 ∨ kd = 2 := by omega
    rcases this with rfl | rfl | rfl
    · rw [if_pos rfl, if_neg (by decide), if_neg (by decide)]
      exact t0
    · rw [if_neg (by decide), if_pos rfl, if_neg (by decide)]
      exact t0
    · rw [if_neg (by decide), if_neg (by decide), if_pos rfl]
      exact t0
  · rw [if_pos (l1.mpr rfl), if_pos rfl, if_neg (by decide : ¬ (1 : Int) = 0)]
    have : kd = 0 ∨ kd = 1 ∨ kd = 2 := by omega
    rcases this with rfl | rfl | rfl
    · rw [if_pos rfl, if_pos rfl]
      by_cases cx : M.2 94 98 = -1
      · rw [if_pos (l2.mpr cx), if_pos cx, q_le, if_neg (by decide)]
        exact sh _
      · rw [if_neg (fun g => cx (l2.mp g)), if_neg cx, if_neg (by decide), if_neg (by decide)]
        exact t_75 hk 1 M
    · rw [if_neg (by decide), if_pos rfl, if_neg (by decide), if_neg (by decide), if_pos rfl, q_le, if_neg (by decide)]
      exact sh _
    · rw [if_neg (by decide), if_neg (by decide), if_pos rfl, if_neg (by decide), if_neg (by decide), if_neg (by decide)]
      exact sh _
def o_s1 (W v : Int) (c : Nat) (x : Int) : Int := if W = 28 then x + v else if c = 0 then v else if W = 29 then (if x < v then v else x) else (if v < x then v else x)
theorem t_sk2 {kd v : Int} {c : Nat} {M : q_Mem} (hk : 3 ≤ kd ∧ kd ≤ 5) (hv : -1000000 ≤ v ∧ v ≤ 1000000) (hx : -1000000000 ≤ M.2 94 98 ∧ M.2 94 98 ≤ 1000000000) (hn : M.2 94 99 = if c = 0 then 1 else 0) : ∃ M', fX12_qTakes kd v (c : Int) M = some (0, M') ∧ M'.2 94 98 = o_s1 (25 + kd) v c (M.2 94 98) ∧ M'.2 94 99 = 0 ∧ z_tk M M' := by
  have l1 := f_lc (a := v) (b := M.2 94 98) (by omega) (by omega) (by omega) (by omega)
  unfold fX12_qTakes fX12_qTakes_15 fX12_qTakes_16 fX12_qTakes_38 fX12_qTakes_55 fX12_qTakes_75 o_s1
  rw [n_w (a := kd) (by omega) (by omega), show q_w 3 = 3 from rfl, show q_w 1 = 1 from rfl, show q_w 2 = 2 from rfl, if_neg (by omega), if_neg (by omega), if_neg (by omega), if_neg (by omega)]
  unfold fX12_qTakes_90
  rw [n_w (a := kd) (by omega) (by omega), show q_w 3 = 3 from rfl, show q_w 4 = 4 from rfl]
  have hkk : kd = 3 ∨ kd = 4 ∨ kd = 5 := by omega
  rcases hkk with rfl | rfl | rfl
  · rw [if_pos rfl, if_pos (by decide), q_le, if_neg (by decide)]
    obtain ⟨M', e1, e2, e3, e4⟩ := t_133 (q_up M 94 98 (M.2 94 98 + v))
    exact ⟨M', e1, by rw [e2, up_rd, if_pos ⟨rfl, rfl⟩], e3, fun a k h => by rw [e4 a k h, up_ne (by omega)]⟩
  · rw [if_neg (by decide), if_pos (by decide), if_neg (show ¬ (25 + 4 : Int) = 28 by decide), hn]
    by_cases c0 : c = 0
    · rw [if_pos c0, if_pos c0, show q_w 1 = 1 from rfl, if_neg (by decide)]
      exact t_128 v M
    · rw [if_neg c0, if_neg c0, show q_w 0 = 0 from rfl, if_pos rfl, if_pos rfl, if_pos (show (25 + 4 : Int) = 29 by decide)]
      by_cases cl : M.2 94 98 < v
      · rw [if_pos (l1.1.mpr cl), if_pos cl]
        exact t_128 v M
      · rw [if_neg (fun g => cl (l1.1.mp g)), if_neg cl]
        exact t_133 M
  · rw [if_neg (by decide), if_pos (by decide), if_neg (show ¬ (25 + 5 : Int) = 28 by decide), hn]
    by_cases c0 : c = 0
    · rw [if_pos c0, if_pos c0, show q_w 1 = 1 from rfl, if_neg (by decide)]
      exact t_128 v M
    · rw [if_neg c0, if_neg c0, show q_w 0 = 0 from rfl, if_pos rfl, if_neg (by decide), if_neg (show ¬ (25 + 5 : Int) = 29 by decide)]
      by_cases cl : v < M.2 94 98
      · rw [if_pos (l1.2.1.mpr cl), if_pos cl]
        exact t_128 v M
      · rw [if_neg (fun g => cl (l1.2.1.mp g)), if_neg cl]
        exact t_133 M
/-- the loop over the coins: a test -/
def oT (A : q_G) (cs : List Int) (kd : Int) : Nat → Nat → Int → Int
  | 0, _, x => x
  | n + 1, c, x => oT A cs kd n (c + 1) (o_t1 kd (a_v A cs c) c x)
theorem oT_st {A : q_G} {cs : List Int} : ∀ (n c : Nat) (x : Int), x ≠ -1 → oT A cs 0 n c x = x := by
  intro n
  induction n with
  | zero => intro c x _; rfl
  | succ n ih =>
    intro c x hx
    rw [oT]
    unfold o_t1
    rw [if_pos rfl, if_neg hx, ite_self]
    exact ih _ _ hx
theorem oT_aT {A : q_G} {cs : List Int} (hv : ∀ c, a_v A cs c = 0 ∨ a_v A cs c = 1) (kd : Int) (hk : 0 ≤ kd ∧ kd < 3) : ∀ (n c : Nat) (o l x : Int), (kd = 0 → l = -1 ∧ x = -1) → (kd = 1 → x = l) → (kd = 2 → x = o) → aT A cs (25 + kd) n c o l = oT A cs kd n c x := by
  intro n
  induction n with
  | zero =>
    intro c o l x h0 h1 h2
    rw [aT, oT]
    split <;> omega
  | succ n ih =>
    intro c o l x h0 h1 h2
    rw [aT, oT]
    unfold o_t1
    rcases hv c with e | e
    · rw [e, if_pos rfl, if_neg (by decide)]
      exact ih _ _ _ _ h0 h1 h2
    · rw [e, if_neg (by decide), if_pos rfl]
      by_cases k0 : kd = 0
      · rw [if_pos (by omega), if_pos k0, if_pos (h0 k0).2, k0, oT_st _ _ _ (by omega)]
      · rw [if_neg (by omega), if_neg k0]
        by_cases k1 : kd = 1
        · rw [if_pos k1]
          exact ih _ _ _ _ (by omega) (by omega) (by omega)
        · rw [if_neg k1]
          exact ih _ _ _ _ (by omega) (by omega) (by omega)
theorem r_202t {t C S : Nat} {L A : q_G} {cs : List Int} {kd : Int} (hk : 0 ≤ kd ∧ kd < 3) (hC : A 123 4 = (C : Int)) (hS : A 123 3 = (S : Int)) (hC8 : C ≤ 8) (hb : ∀ c k, c < C → -1000000 ≤ a_env A c k ∧ a_env A c k ≤ 1000000) (hb' : ∀ c k a, c < C → -1000000 ≤ a_ofs A c k a ∧ a_ofs A c k a ≤ 1000000) (hcl : cs.length ≤ 1600) (htc : q_tc 2 cs [] = some [true]) : ∀ (m c n : Nat) (M : q_Mem), c + m = C → m < n → p_Q t L A cs C S M → -1 ≤ M.2 94 98 ∧ M.2 94 98 ≤ (c : Int) → q_P (fX12_ask_202 n kd (c : Int) M) (fun v M' => v = oT A cs kd m c (M.2 94 98) ∧ ∀ a k, ¬ ((a = 94 ∧ (k = 97 ∨ k = 98 ∨ k = 99)) ∨ a = 164) → M'.2 a k = M.2 a k) := by
  intro m
  induction m with
  | zero =>
    intro c n M hm hn h hx
    cases n with
    | zero => omega
    | succ n =>
      rw [fX12_ask_202, y_r_cm h.1, b_some, hC, n_w (by omega) (by omega), n_w (by omega) (by omega), if_neg (by omega)]
      exact w_some.mpr ⟨rfl, fun _ _ _ => rfl⟩
  | succ m ih =>
    intro c n M hm hn h hx
    cases n with
    | zero => omega
    | succ n =>
      have hv := (av_b (A := A) (c := c) htc).2 rfl
      rw [fX12_ask_202, y_r_cm h.1, b_some, hC, n_w (a := (c : Int)) (by omega) (by omega), n_w (a := (C : Int)) (by omega) (by omega), if_pos (by omega)]
      refine w_call (r_qtold h hC hS (by omega) (fun k => hb c k (by omega)) (fun k a => hb' c k a (by omega)) hcl htc) ?_
      rintro v M1 ⟨rfl, f1⟩
      have e98 : M1.2 94 98 = M.2 94 98 := f1 _ _ (by omega)
      obtain ⟨M2, e1, e2, e3, e4⟩ := t_tk (M := M1) (c := c) hk hv (by omega) (by rw [e98]; omega)
      rw [e1, b_some, show (c : Int) + 1 = ((c + 1 : Nat) : Int) from by omega, oT]
      have f2 : ∀ a k, ¬ ((a = 94 ∧ (k = 97 ∨ k = 98 ∨ k = 99)) ∨ a = 164) → M2.2 a k = M.2 a k := fun a k g => by rw [e4 a k (by omega), f1 a k (by omega)]
      rw [e98] at e2
      have hx2 : -1 ≤ M2.2 94 98 ∧ M2.2 94 98 ≤ ((c + 1 : Nat) : Int) := by
        rw [e2]
        unfold o_t1
        split
        · split
          · split <;> omega
          · split <;> omega
        · omega
      refine w_mono (ih (c + 1) n M2 (by omega) (by omega) (pQ_fr h f2) hx2) ?_
      rintro v M3 ⟨g1, g2⟩
      rw [e2] at g1
      exact ⟨g1, fun a k g => by rw [g2 a k g, f2 a k g]⟩
theorem r_202s {t C S : Nat} {L A : q_G} {cs : List Int} {kd : Int} {b : Bool} (hk : 3 ≤ kd ∧ kd ≤ 5) (hC : A 123 4 = (C : Int)) (hS : A 123 3 = (S : Int)) (hC8 : C ≤ 8) (hb : ∀ c k, c < C → -1000000 ≤ a_env A c k ∧ a_env A c k ≤ 1000000) (hb' : ∀ c k a, c < C → -1000000 ≤ a_ofs A c k a ∧ a_ofs A c k a ≤ 1000000) (hcl : cs.length ≤ 1600) (htc : q_tc 2 cs [] = some [b]) : ∀ (m c n : Nat) (M : q_Mem), c + m = C → m < n → p_Q t L A cs C S M → -1000000 * ((c : Int) + 1) ≤ M.2 94 98 ∧ M.2 94 98 ≤ 1000000 * ((c : Int) + 1) → M.2 94 99 = (if c = 0 then 1 else 0) → q_P (fX12_ask_202 n kd (c : Int) M) (fun v M' => v = aS A cs (25 + kd) m c (M.2 94 98) ∧ ∀ a k, ¬ ((a = 94 ∧ (k = 97 ∨ k = 98 ∨ k = 99)) ∨ a = 164) → M'.2 a k = M.2 a k) := by
  intro m
  induction m with
  | zero =>
    intro c n M hm hn h hx h99
    cases n with
    | zero => omega
    | succ n =>
      rw [fX12_ask_202, y_r_cm h.1, b_some, hC, n_w (by omega) (by omega), n_w (by omega) (by omega), if_neg (by omega)]
      exact w_some.mpr ⟨rfl, fun _ _ _ => rfl⟩
  | succ m ih =>
    intro c n M hm hn h hx h99
    cases n with
    | zero => omega
    | succ n =>
      have hv := (av_b (A := A) (c := c) htc).1
      rw [fX12_ask_202, y_r_cm h.1, b_some, hC, n_w (a := (c : Int)) (by omega) (by omega), n_w (a := (C : Int)) (by omega) (by omega), if_pos (by omega)]
      refine w_call (r_qtold h hC hS (by omega) (fun k => hb c k (by omega)) (fun k a => hb' c k a (by omega)) hcl htc) ?_
      rintro v M1 ⟨rfl, f1⟩
      have e98 : M1.2 94 98 = M.2 94 98 := f1 _ _ (by omega)
      obtain ⟨M2, e1, e2, e3, e4⟩ := t_sk2 (M := M1) (c := c) hk hv (by rw [e98]; omega) (by rw [f1 _ _ (by omega), h99])
      rw [e1, b_some, show (c : Int) + 1 = ((c + 1 : Nat) : Int) from by omega, aS]
      have f2 : ∀ a k, ¬ ((a = 94 ∧ (k = 97 ∨ k = 98 ∨ k = 99)) ∨ a = 164) → M2.2 a k = M.2 a k := fun a k g => by rw [e4 a k (by omega), f1 a k (by omega)]
      rw [e98] at e2
      have hx2 : -1000000 * (((c + 1 : Nat) : Int) + 1) ≤ M2.2 94 98 ∧ M2.2 94 98 ≤ 1000000 * (((c + 1 : Nat) : Int) + 1) := by
        rw [e2]
        unfold o_s1
        split
        · omega
        split
        · omega
        split
        · split <;> omega
        · split <;> omega
      refine w_mono (ih (c + 1) n M2 (by omega) (by omega) (pQ_fr h f2) hx2 (by rw [e3, if_neg (by omega)])) ?_
      rintro v M3 ⟨g1, g2⟩
      rw [e2] at g1
      exact ⟨g1, fun a k g => by rw [g2 a k g, f2 a k g]⟩
