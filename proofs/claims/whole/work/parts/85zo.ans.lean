/-! ask: answers -/
theorem av_b {A : q_G} {cs : List Int} {c : Nat} {b : Bool} (h : q_tc 2 cs [] = some [b]) : (-1000000 ≤ a_v A cs c ∧ a_v A cs c ≤ 1000000) ∧ (b = true → a_v A cs c = 0 ∨ a_v A cs c = 1) := by
  have h1 := ev_vt (env := a_env A c) (ofs := a_ofs A c) cs [] [b] [] h trivial
  obtain ⟨x, rr, e, hx, hb, -⟩ := vt_1 h1
  unfold a_v
  rw [e]
  exact ⟨hx, hb⟩
def aT (A : q_G) (cs : List Int) (W : Int) : Nat → Nat → Int → Int → Int
  | 0, _, o, l => if W = 27 then o else l
  | n + 1, c, o, l => if a_v A cs c = 0 then aT A cs W n (c + 1) o l else if W = 25 then (c : Int) else aT A cs W n (c + 1) (o + 1) (c : Int)
def aS (A : q_G) (cs : List Int) (W : Int) : Nat → Nat → Int → Int
  | 0, _, x => x
  | n + 1, c, x => aS A cs W n (c + 1) (if W = 28 then x + a_v A cs c else if c = 0 then a_v A cs c else if W = 29 then (if x < a_v A cs c then a_v A cs c else x) else (if a_v A cs c < x then a_v A cs c else x))
def z_qc (cs : List Int) (M : q_Mem) : Prop := M.2 6 1 = (cs.length : Int) ∧ ∀ j : Nat, j < cs.length → M.2 7 j = q_enc (cs.getD j 0)
def z_af (M M' : q_Mem) : Prop := ∀ a k, a ≠ 52 → a ≠ 53 → a ≠ 54 → a ≠ 55 → a ≠ 88 → a ≠ 90 → a ≠ 91 → M'.2 a k = M.2 a k
theorem qc_af {cs : List Int} {M M' : q_Mem} (h : z_qc cs M) (hf : z_af M M') : z_qc cs M' := ⟨by rw [hf _ _ (by omega) (by omega) (by omega) (by omega) (by omega) (by omega) (by omega)]; exact h.1, fun j hj => by rw [hf _ _ (by omega) (by omega) (by omega) (by omega) (by omega) (by omega) (by omega)]; exact h.2 j hj⟩
theorem c_aT {t C : Nat} {L A : q_G} {cs : List Int} {b : Bool} {W : Int} (hC : A 123 4 = (C : Int)) (hcl : cs.length ≤ 1600) (htc : q_tc 2 cs [] = some [b]) (hW : 25 ≤ W ∧ W ≤ 27) : ∀ (m c n : Nat) (o l : Int) (M : q_Mem), c + m = C → m < n → q_J t M L A → z_qc cs M → 0 ≤ o ∧ o ≤ (c : Int) → -1 ≤ l ∧ l ≤ 100 → q_P (fX11_answerTest_7 n W o l (c : Int) M) (fun v M' => v = aT A cs W m c o l ∧ q_J t M' L A ∧ z_af M M') := by
  intro m
  induction m with
  | zero =>
    intro c n o l M hm hn h hq ho hl
    have w := j_wf h
    cases n with
    | zero => omega
    | succ n =>
      rw [fX11_answerTest_7, q_le, j_told h, (j_f h).2.2.1, hC, n_w (by omega) (by omega), n_w (by omega) (by omega), if_neg (by omega), n_w (a := W) (by omega) (by omega), show q_w 27 = 27 from rfl, n_w (a := o) (by omega) (by omega), n_w (a := l) (by omega) (by omega), aT]
      by_cases c27 : W = 27
      · rw [if_pos c27, if_pos c27]
        exact w_some.mpr ⟨rfl, h, fun _ _ _ _ _ _ _ _ _ => rfl⟩
      · rw [if_neg c27, if_neg c27]
        exact w_some.mpr ⟨rfl, h, fun _ _ _ _ _ _ _ _ _ => rfl⟩
  | succ m ih =>
    intro c n o l M hm hn h hq ho hl
    have w := j_wf h
    cases n with
    | zero => omega
    | succ n =>
      have hc : (c : Int) < A 123 4 := by omega
      have hv := av_b (A := A) (c := c) htc
      rw [fX11_answerTest_7, q_le, j_told h, (j_f h).2.2.1, hC, n_w (a := (c : Int)) (by omega) (by omega), n_w (a := (C : Int)) (by omega) (by omega), if_pos (by omega)]
      refine c_evq h hc hq.1 hq.2 hcl htc ?_
      intro M' h' hf
      rw [n_w (a := a_v A cs c) (by omega) (by omega), n_w (a := W) (by omega) (by omega), show q_w 25 = 25 from rfl, aT]
      unfold fX11_answerTest_55
      rw [show (c : Int) + 1 = ((c + 1 : Nat) : Int) from by omega]
      by_cases c0 : a_v A cs c = 0
      · rw [if_pos c0, if_pos c0]
        refine w_mono (ih (c + 1) n o l M' (by omega) (by omega) h' (qc_af hq hf) (by omega) hl) ?_
        rintro v M2 ⟨e1, e2, e3⟩
        exact ⟨e1, e2, fun a k y1 y2 y3 y4 y5 y6 y7 => by rw [e3 a k y1 y2 y3 y4 y5 y6 y7, hf a k y1 y2 y3 y4 y5 y6 y7]⟩
      · rw [if_neg c0, if_neg c0]
        by_cases c25 : W = 25
        · rw [if_pos c25, if_pos c25]
          exact w_some.mpr ⟨rfl, h', hf⟩
        · rw [if_neg c25, if_neg c25]
          refine w_mono (ih (c + 1) n (o + 1) (c : Int) M' (by omega) (by omega) h' (qc_af hq hf) (by omega) (by omega)) ?_
          rintro v M2 ⟨e1, e2, e3⟩
          exact ⟨e1, e2, fun a k y1 y2 y3 y4 y5 y6 y7 => by rw [e3 a k y1 y2 y3 y4 y5 y6 y7, hf a k y1 y2 y3 y4 y5 y6 y7]⟩
theorem c_aS {t C : Nat} {L A : q_G} {cs : List Int} {b : Bool} {W : Int} (hC : A 123 4 = (C : Int)) (hcl : cs.length ≤ 1600) (htc : q_tc 2 cs [] = some [b]) (hW : 28 ≤ W ∧ W ≤ 30) : ∀ (m c n : Nat) (x : Int) (M : q_Mem), c + m = C → m < n → q_J t M L A → z_qc cs M → -1000000 * ((c : Int) + 1) ≤ x ∧ x ≤ 1000000 * ((c : Int) + 1) → q_P (fX11_answerSum_5 n W x (c : Int) M) (fun v M' => v = aS A cs W m c x ∧ q_J t M' L A ∧ z_af M M') := by
  intro m
  induction m with
  | zero =>
    intro c n x M hm hn h hq hx
    have w := j_wf h
    cases n with
    | zero => omega
    | succ n =>
      rw [fX11_answerSum_5, q_le, j_told h, (j_f h).2.2.1, hC, n_w (by omega) (by omega), n_w (by omega) (by omega), if_neg (by omega)]
      exact w_some.mpr ⟨rfl, h, fun _ _ _ _ _ _ _ _ _ => rfl⟩
  | succ m ih =>
    intro c n x M hm hn h hq hx
    have w := j_wf h
    cases n with
    | zero => omega
    | succ n =>
      have hc : (c : Int) < A 123 4 := by omega
      have hv := (av_b (A := A) (c := c) htc).1
      rw [fX11_answerSum_5, q_le, j_told h, (j_f h).2.2.1, hC, n_w (a := (c : Int)) (by omega) (by omega), n_w (a := (C : Int)) (by omega) (by omega), if_pos (by omega)]
      refine c_evq (K := fun x21 M2 => q_let (q_w x21) fun x22 => if q_w W = q_w 28 then (q_let (x + x22) fun x23 => (fX11_answerSum_82 (fX11_answerSum_5 n) W x23 (c : Int) M2)) else (if q_w (c : Int) = 0 then ((fX11_answerSum_79 (fX11_answerSum_5 n) W (c : Int) x22 M2)) else (if q_w W = q_w 29 then (if 0 < q_w (q_lcmp x22 x) then ((fX11_answerSum_79 (fX11_answerSum_5 n) W (c : Int) x22 M2)) else ((fX11_answerSum_82 (fX11_answerSum_5 n) W x (c : Int) M2))) else (if q_w (q_lcmp x22 x) < 0 then ((fX11_answerSum_79 (fX11_answerSum_5 n) W (c : Int) x22 M2)) else ((fX11_answerSum_82 (fX11_answerSum_5 n) W x (c : Int) M2)))))) h hc hq.1 hq.2 hcl htc ?_ |> fun g => by rw [n_w (a := (c : Int)) (by omega) (by omega)] at g; exact g
      intro M' h' hf
      rw [q_le, n_w (a := a_v A cs c) (by omega) (by omega), n_w (a := W) (by omega) (by omega), show q_w 28 = 28 from rfl, show q_w 29 = 29 from rfl, n_w (a := (c : Int)) (by omega) (by omega), aS, q_le]
      have hlc := f_lc (a := a_v A cs c) (b := x) (by omega) (by omega) (by omega) (by omega)
      unfold fX11_answerSum_79 fX11_answerSum_82
      rw [show (c : Int) + 1 = ((c + 1 : Nat) : Int) from by omega]
      have go : ∀ y : Int, -1000000 * ((c : Int) + 2) ≤ y ∧ y ≤ 1000000 * ((c : Int) + 2) → q_P (fX11_answerSum_5 n W y ((c + 1 : Nat) : Int) M') (fun v M' => v = aS A cs W m (c + 1) y ∧ q_J t M' L A ∧ z_af M M') := by
        intro y hy
        refine w_mono (ih (c + 1) n y M' (by omega) (by omega) h' (qc_af hq hf) (by omega)) ?_
        rintro v M2 ⟨e1, e2, e3⟩
        exact ⟨e1, e2, fun a k y1 y2 y3 y4 y5 y6 y7 => by rw [e3 a k y1 y2 y3 y4 y5 y6 y7, hf a k y1 y2 y3 y4 y5 y6 y7]⟩
      by_cases c28 : W = 28
      · rw [if_pos c28, if_pos c28]
        exact go _ (by omega)
      rw [if_neg c28, if_neg c28]
      by_cases c0 : c = 0
      · rw [if_pos (show (c : Int) = 0 by omega), if_pos c0]
        exact go _ (by omega)
      rw [if_neg (show ¬ (c : Int) = 0 by omega), if_neg c0]
      by_cases c29 : W = 29
      · rw [if_pos c29, if_pos c29]
        by_cases cl : x < a_v A cs c
        · rw [if_pos (hlc.1.mpr cl), if_pos cl]
          exact go _ (by omega)
        · rw [if_neg (fun g => cl (hlc.1.mp g)), if_neg cl]
          exact go _ (by omega)
      · rw [if_neg c29, if_neg c29]
        by_cases cl : a_v A cs c < x
        · rw [if_pos (hlc.2.1.mpr cl), if_pos cl]
          exact go _ (by omega)
        · rw [if_neg (fun g => cl (hlc.2.1.mp g)), if_neg cl]
          exact go _ (by omega)
/-! the other side: what it lays -/
theorem r_37 {t C S s : Nat} {L A : q_G} {K : Int → q_Mem → Option (Int × q_Mem)} (hC : A 123 4 = (C : Int)) (hS : A 123 3 = (S : Int)) (hs : s < S) : ∀ (m c n : Nat) (M : q_Mem), c + m = C → m < n → q_K t M L A → ∃ M', fX12_laysNow_37 K n (s : Int) (c : Int) M = K ((s : Int) + (-1)) M' ∧ q_K t M' L A ∧ (∀ c' : Nat, c ≤ c' → c' < C → M'.2 132 (6 * c' + s) = s_shadow A c' s (A 131 0) ∧ M'.2 133 (6 * c' + s) = if s_buys A c' s (A 131 0) = true then 1 else 0) ∧ ∀ a k, ¬ (a = 94 ∧ (k = 48 ∨ k = 50 ∨ k = 51 ∨ k = 52 ∨ k = 97)) → a ≠ 164 → ¬ ((a = 132 ∨ a = 133) ∧ ∃ c', c ≤ c' ∧ c' < C ∧ k = 6 * c' + s) → M'.2 a k = M.2 a k := by
  intro m
  induction m with
  | zero =>
    intro c n M hm hn h
    have w := y_j_wf h
    cases n with
    | zero => omega
    | succ n =>
      rw [fX12_laysNow_37, y_r_cm h, b_some, hC, n_w (by omega) (by omega), n_w (by omega) (by omega), if_neg (by omega)]
      exact ⟨M, rfl, h, fun c' h1 h2 => by omega, fun _ _ _ _ _ => rfl⟩
  | succ m ih =>
    intro c n M hm hn h
    have w := y_j_wf h
    have db := y_j_db h
    cases n with
    | zero => omega
    | succ n =>
      have hc : (c : Int) < A 123 4 := by omega
      have hs' : (s : Int) < A 123 3 := by omega
      rw [fX12_laysNow_37, y_r_cm h, b_some, hC, n_w (a := (c : Int)) (by omega) (by omega), n_w (a := (C : Int)) (by omega) (by omega), if_pos (by omega), y_r_ld131 h (by omega) (by omega), Option.bind_some, show (0 : Int).toNat = 0 from rfl]
      obtain ⟨v1, M1, e1, ⟨q1, h1⟩, g1⟩ := N_P (y_r_shadow h hc hs' (m := A 131 0) (by omega)) (N_fX12_shadowOf S_refl)
      rw [e1, b_some, sto_n (k := 6 * c + s) (by omega) (by omega) (by omega), Option.bind_some]
      have h2 : q_K t (q_up M1 132 (6 * c + s) v1) L A := k_scr h1 rfl rfl rfl
      rw [y_r_ld131 h2 (by omega) (by omega), Option.bind_some, show (0 : Int).toNat = 0 from rfl]
      obtain ⟨v2, M3, e2, ⟨q2, h3⟩, g3⟩ := N_P (y_r_buys h2 hc hs' (m := A 131 0) (by omega)) (N_fX12_doesBuy S_refl)
      have hv2 : v2 = 0 ∨ v2 = 1 := by rw [q2]; exact ite01 _
      rw [e2, b_some, if_neg (by omega), sto_n (k := 6 * c + s) (by omega) (by omega) (by omega), Option.bind_some, show (c : Int) + 1 = ((c + 1 : Nat) : Int) from by omega]
      have h4 : q_K t (q_up M3 133 (6 * c + s) v2) L A := k_scr h3 rfl rfl rfl
      have fr : ∀ a k, ¬ (a = 94 ∧ (k = 48 ∨ k = 50 ∨ k = 51 ∨ k = 52 ∨ k = 97)) → a ≠ 164 → ¬ ((a = 132 ∨ a = 133) ∧ k = 6 * c + s) → (q_up M3 133 (6 * c + s) v2).2 a k = M.2 a k := fun a k y1 y2 y3 => by rw [up_ne (by omega), g3 a k ⟨y1, y2⟩, up_ne (by omega), g1 a k ⟨y1, y2⟩]
      obtain ⟨M', r1, r2, r3, r4⟩ := ih (c + 1) n (q_up M3 133 (6 * c + s) v2) (by omega) (by omega) h4
      refine ⟨M', r1, r2, ?_, ?_⟩
      · intro c' p1 p2
        by_cases cc : c' = c
        · have hno : ∀ a : Nat, ¬ ((a = 132 ∨ a = 133) ∧ ∃ c'', c + 1 ≤ c'' ∧ c'' < C ∧ 6 * c + s = 6 * c'' + s) := by
            rintro a ⟨_, c'', y1, y2, y3⟩
            omega
          rw [cc, r4 132 _ (by omega) (by omega) (hno 132), r4 133 _ (by omega) (by omega) (hno 133), up_ne (by omega), g3 132 _ ⟨by omega, by omega⟩, up_rd, if_pos ⟨rfl, rfl⟩, up_rd, if_pos ⟨rfl, rfl⟩, q1, q2]
          exact ⟨rfl, rfl⟩
        · exact r3 c' (by omega) p2
      · intro a k y1 y2 y3
        rw [r4 a k y1 y2 (fun ⟨z1, c'', z2, z3, z4⟩ => y3 ⟨z1, c'', by omega, z3, z4⟩), fr a k y1 y2 (fun ⟨z1, z2⟩ => y3 ⟨z1, c, Nat.le_refl _, by omega, z2⟩)]
theorem r_12 {t C S : Nat} {L A : q_G} (hC : A 123 4 = (C : Int)) (hS : A 123 3 = (S : Int)) : ∀ (n f : Nat) (x : Int) (M : q_Mem), q_K t M L A → n ≤ S → n < f → M.2 94 53 = x → (∀ s c : Nat, n ≤ s → s < S → c < C → M.2 132 (6 * c + s) = s_shadow A c s (A 131 0) ∧ M.2 133 (6 * c + s) = if s_buys A c s (A 131 0) = true then 1 else 0) → q_P (fX12_laysNow_12 f ((n : Int) - 1) M) (fun _ M' => q_K t M' L A ∧ M'.2 94 53 = h_ix A n x ∧ (∀ s c : Nat, s < S → c < C → M'.2 132 (6 * c + s) = s_shadow A c s (A 131 0) ∧ M'.2 133 (6 * c + s) = if s_buys A c s (A 131 0) = true then 1 else 0) ∧ ∀ a k, ¬ (a = 94 ∧ (k = 48 ∨ k = 50 ∨ k = 51 ∨ k = 52 ∨ k = 97 ∨ k = 53)) → a ≠ 164 → a ≠ 132 → a ≠ 133 → M'.2 a k = M.2 a k) := by
  intro n
  induction n with
  | zero =>
    intro f x M h hn hf h53 hs
    cases f with
    | zero => omega
    | succ f =>
      rw [fX12_laysNow_12, show q_w (((0 : Nat) : Int) - 1) = -1 from rfl, if_pos (by decide), h_ix]
      exact w_some.mpr ⟨h, h53, fun s c s1 s2 => hs s c (by omega) s1 s2, fun _ _ _ _ _ _ => rfl⟩
  | succ n ih =>
    intro f x M h hn hf h53 hs
    have w := y_j_wf h
    have db := y_j_db h
    cases f with
    | zero => omega
    | succ f =>
      have hS' : (n : Int) < A 123 3 := by omega
      have wf := h.2.2.2.1.2.2.2.2.2.1 n hS'
      have hpl : fX12_placeOf (n : Int) M = some (A 125 (24 + 4 * n), M) := by
        unfold fX12_placeOf
        rw [ld_n (k := 24 + 4 * n) (by omega) (by omega) (by omega), Option.bind_some, h.2.1 125 (24 + 4 * n) (decide_eq_true (by omega))]
      rw [show ((n + 1 : Nat) : Int) - 1 = (n : Int) from by omega, fX12_laysNow_12, n_w (a := (n : Int)) (by omega) (by omega), if_neg (by omega), hpl, b_some, y_r_ld131 h (by omega) (by omega), Option.bind_some, show (1 : Int).toNat = 1 from rfl, n_w (a := A 125 (24 + 4 * n)) (by omega) (by omega), n_w (a := A 131 1) (by omega) (by omega), h_ix]
      have go : ∀ (y : Int) (M1 : q_Mem), q_K t M1 L A → M1.2 94 53 = y → (∀ a k, ¬ (a = 94 ∧ k = 53) → M1.2 a k = M.2 a k) → q_P (fX12_laysNow_35 (fX12_laysNow_12 f) (n : Int) M1) (fun _ M' => q_K t M' L A ∧ M'.2 94 53 = h_ix A n y ∧ (∀ s c : Nat, s < S → c < C → M'.2 132 (6 * c + s) = s_shadow A c s (A 131 0) ∧ M'.2 133 (6 * c + s) = if s_buys A c s (A 131 0) = true then 1 else 0) ∧ ∀ a k, ¬ (a = 94 ∧ (k = 48 ∨ k = 50 ∨ k = 51 ∨ k = 52 ∨ k = 97 ∨ k = 53)) → a ≠ 164 → a ≠ 132 → a ≠ 133 → M'.2 a k = M.2 a k) := by
        intro y M1 k1 k2 k3
        unfold fX12_laysNow_35
        obtain ⟨M2, r1, r2, r3, r4⟩ := r_37 (K := fX12_laysNow_12 f) (t := t) (L := L) hC hS (s := n) (by omega) C 0 q_FU M1 (by omega) (by unfold q_FU; omega) k1
        rw [show ((0 : Nat) : Int) = 0 from rfl] at r1
        rw [r1, show (n : Int) + (-1) = (n : Int) - 1 from by omega]
        refine w_mono (ih f y M2 r2 (by omega) (by omega) (by rw [r4 94 53 (by omega) (by omega) (by omega), k2]) ?_) ?_
        · intro s c p1 p2 p3
          by_cases cs : s = n
          · rw [cs]
            exact r3 c (by omega) p3
          · have hno : ∀ a : Nat, ¬ ((a = 132 ∨ a = 133) ∧ ∃ c', 0 ≤ c' ∧ c' < C ∧ 6 * c + s = 6 * c' + n) := by
              rintro a ⟨_, c', _, _, z⟩
              omega
            rw [r4 132 _ (by omega) (by omega) (hno 132), r4 133 _ (by omega) (by omega) (hno 133), k3 _ _ (by omega), k3 _ _ (by omega)]
            exact hs s c (by omega) p2 p3
        · rintro _ M' ⟨s1, s2, s3, s4⟩
          exact ⟨s1, s2, s3, fun a k y1 y2 y3 y4 => by rw [s4 a k y1 y2 y3 y4, r4 a k (by omega) y2 (by omega), k3 a k (by omega)]⟩
      by_cases cp : A 125 (24 + 4 * n) = A 131 1
      · rw [if_pos cp, if_pos cp, q_le]
        exact go (n : Int) _ (k_scr h rfl rfl rfl) (by rw [up_rd, if_pos ⟨rfl, rfl⟩]) (fun a k y => up_ne y)
      · rw [if_neg cp, if_neg cp]
        exact go x M h h53 (fun _ _ _ => rfl)
