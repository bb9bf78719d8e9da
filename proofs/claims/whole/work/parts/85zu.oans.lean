/-! ask: the other side's answer -/
theorem oT_cg {A A' : q_G} {cs : List Int} (h : ∀ c, a_v A' cs c = a_v A cs c) (kd : Int) : ∀ (n c : Nat) (x : Int), oT A' cs kd n c x = oT A cs kd n c x := by
  intro n
  induction n with
  | zero => intro c x; rfl
  | succ n ih => intro c x; rw [oT, oT, ih, h]
theorem aS_cg {A A' : q_G} {cs : List Int} (h : ∀ c, a_v A' cs c = a_v A cs c) (W : Int) : ∀ (n c : Nat) (x : Int), aS A' cs W n c x = aS A cs W n c x := by
  intro n
  induction n with
  | zero => intro c x; rfl
  | succ n ih => intro c x; rw [aS, aS, ih, h]
def q_ans (A : q_G) (cs : List Int) (W : Int) (C : Nat) : Int := if 27 < W then aS A cs W C 0 0 else aT A cs W C 0 0 (-1)
def z_133 (M M' : q_Mem) : Prop := ∀ a k, ¬ (a = 94 ∧ (k = 7 ∨ k = 8 ∨ k = 48 ∨ k = 50 ∨ k = 51 ∨ k = 52 ∨ k = 53 ∨ k = 97 ∨ k = 98 ∨ k = 99)) → a ≠ 132 → a ≠ 133 → a ≠ 164 → M'.2 a k = M.2 a k
theorem o_133 {t C S : Nat} {L A : q_G} {cs : List Int} {kd : Int} {b : Bool} {M : q_Mem} (hk : 0 ≤ kd ∧ kd ≤ 5) (hC : A 123 4 = (C : Int)) (hS : A 123 3 = (S : Int)) (hf : r_fair t L A) (hwf : r_wf A) (hd : r_day L A) (hdv : r_dv A (A 131)) (hM : ∀ a k, a_core a k = true → ¬ (a = 94 ∧ (k = 1 ∨ k = 7 ∨ k = 8)) → M.2 a k = A a k) (hb : ∀ c k, c < C → -1000000 ≤ a_env A c k ∧ a_env A c k ≤ 1000000) (hb' : ∀ c k a, c < C → -1000000 ≤ a_ofs A c k a ∧ a_ofs A c k a ≤ 1000000) (hcl : cs.length ≤ 1600) (htc : q_tc 2 cs [] = some [b]) (hbk : kd < 3 → b = true) (h91 : M.2 94 91 = (cs.length : Int)) (h162 : ∀ j : Nat, j < cs.length → M.2 162 j = cs.getD j 0) (h5 : M.2 94 5 = 0) (h6 : M.2 94 6 = -1) : q_P (fX12_ask_133 kd M) (fun v M' => v = q_ans A cs (25 + kd) C ∧ M'.2 94 7 = 0 ∧ M'.2 94 8 = -1 ∧ z_133 M M') := by
  have hC8 : C ≤ 8 := by have := hwf.2.2.2.1; omega
  have hM2 : ∀ a k, ¬ (a = 94 ∧ (k = 7 ∨ k = 8)) → (q_up (q_up M 94 7 0) 94 8 (-1)).2 a k = M.2 a k := fun a k h => by rw [up_ne (by omega), up_ne (by omega)]
  have m7 : (q_up (q_up M 94 7 0) 94 8 (-1)).2 94 7 = 0 := by rw [up_ne (by omega), up_rd, if_pos ⟨rfl, rfl⟩]
  have m8 : (q_up (q_up M 94 7 0) 94 8 (-1)).2 94 8 = -1 := by rw [up_rd, if_pos ⟨rfl, rfl⟩]
  unfold fX12_ask_133
  rw [q_le, q_le, h5, up_ne (b := 94) (j := 6) (by omega), h6, hM2 94 5 (by omega), h5, show q_w 0 = 0 from rfl, if_pos rfl, n_w (a := kd) (by omega) (by omega), show q_w 2 = 2 from rfl]
  generalize q_up (q_up M 94 7 0) 94 8 (-1) = M2 at hM2 m7 m8 ⊢
  have key : ∀ s0 : Int, (kd < 2 → s0 = -1) → (¬ kd < 2 → s0 = 0) → q_P (fX12_ask_173 kd s0 M2) (fun v M' => v = q_ans A cs (25 + kd) C ∧ M'.2 94 7 = 0 ∧ M'.2 94 8 = -1 ∧ z_133 M M') := by
    intro s0 hs1 hs2
    unfold fX12_ask_173
    rw [q_le, q_le]
    have f3 : ∀ a k, ¬ (a = 94 ∧ (k = 98 ∨ k = 99)) → (q_up (q_up M2 94 98 s0) 94 99 1).2 a k = M2.2 a k := fun a k h => by rw [up_ne (by omega), up_ne (by omega)]
    have m98 : (q_up (q_up M2 94 98 s0) 94 99 1).2 94 98 = s0 := by rw [up_ne (by omega), up_rd, if_pos ⟨rfl, rfl⟩]
    have m99 : (q_up (q_up M2 94 98 s0) 94 99 1).2 94 99 = 1 := by rw [up_rd, if_pos ⟨rfl, rfl⟩]
    generalize q_up (q_up M2 94 98 s0) 94 99 1 = M3 at f3 m98 m99 ⊢
    obtain ⟨A', hA94, hAo⟩ : ∃ A' : q_G, (∀ k, A' 94 k = M2.2 94 k) ∧ ∀ a k, a ≠ 94 → A' a k = A a k := ⟨fun a k => if a = 94 then M2.2 94 k else A a k, fun k => if_pos rfl, fun a k h => if_neg h⟩
    have hE : e_fair A A' := ⟨by rw [hA94, hM2 _ _ (by omega), hM 94 47 rfl (by omega)], fun a k h1 h2 => hAo a k (by omega)⟩
    have h131 : A' 131 = A 131 := funext (fun k => hAo 131 k (by omega))
    have hK : q_K t M3 L A' := by
      refine ⟨trivial, ?_, e_fairL hE rfl rfl rfl (fun _ _ _ _ => rfl) hf, e_wf hE hwf, e_day hE h131 (fun _ _ => rfl) rfl rfl hd, trivial, by rw [h131]; exact (e_dv hE).mpr hdv⟩
      intro a k hc
      by_cases c : a = 94
      · subst c
        rw [hA94]
        refine f3 94 k ?_
        rintro ⟨-, rfl | rfl⟩ <;> cases hc
      · rw [hAo a k c, f3 a k (by omega), hM2 a k (by omega), hM a k hc (by omega)]
    have e1 : A' 123 4 = (C : Int) := by rw [e_fc hE 123 (by decide) (by decide)]; exact hC
    have e2 : A' 123 3 = (S : Int) := by rw [e_fc hE 123 (by decide) (by decide)]; exact hS
    have hbA : ∀ c k, c < C → -1000000 ≤ a_env A' c k ∧ a_env A' c k ≤ 1000000 := fun c k h => by rw [e_aenv hE h131]; exact hb c k h
    have hbA' : ∀ c k a, c < C → -1000000 ≤ a_ofs A' c k a ∧ a_ofs A' c k a ≤ 1000000 := fun c k a h => by rw [e_aofs hE h131]; exact hb' c k a h
    obtain ⟨v4, M4, e4, k4, k53, k132, kf⟩ := r_lay e1 e2 hK
    rw [e4, b_some, y_r_ld131 k4 (by omega) (by omega), Option.bind_some, show (0 : Int).toNat = 0 from rfl, q_le, q_le]
    have hK6 : q_K t (q_up (q_up M4 94 51 (A' 131 0)) 94 48 2) L A' := k_scr (k_scr k4 rfl rfl rfl) rfl rfl rfl
    have f6 : ∀ a k, ¬ (a = 94 ∧ (k = 48 ∨ k = 51)) → (q_up (q_up M4 94 51 (A' 131 0)) 94 48 2).2 a k = M4.2 a k := fun a k h => by rw [up_ne (by omega), up_ne (by omega)]
    have m51 : (q_up (q_up M4 94 51 (A' 131 0)) 94 48 2).2 94 51 = A' 131 0 := by rw [up_ne (by omega), up_rd, if_pos ⟨rfl, rfl⟩]
    generalize q_up (q_up M4 94 51 (A' 131 0)) 94 48 2 = M6 at hK6 f6 m51 ⊢
    have fM : ∀ a k, ¬ (a = 94 ∧ (k = 7 ∨ k = 8 ∨ k = 48 ∨ k = 50 ∨ k = 51 ∨ k = 52 ∨ k = 53 ∨ k = 97 ∨ k = 98 ∨ k = 99)) → a ≠ 132 → a ≠ 133 → a ≠ 164 → M6.2 a k = M.2 a k := fun a k h1 h2 h3 h4 => by rw [f6 a k (by omega), kf a k (by omega) h4 h2 h3, f3 a k (by omega), hM2 a k (by omega)]
    have hQ : p_Q t L A' cs C S M6 := ⟨hK6, by rw [f6 _ _ (by omega), k53], m51, fun s c h1 h2 => by rw [f6 _ _ (by omega), f6 _ _ (by omega)]; exact k132 s c h1 h2, by rw [fM _ _ (by omega) (by omega) (by omega) (by omega), h91], fun j hj => by rw [fM _ _ (by omega) (by omega) (by omega) (by omega), h162 j hj]⟩
    have n98 : M6.2 94 98 = s0 := by rw [f6 _ _ (by omega), kf _ _ (by omega) (by omega) (by omega) (by omega), m98]
    have n99 : M6.2 94 99 = 1 := by rw [f6 _ _ (by omega), kf _ _ (by omega) (by omega) (by omega) (by omega), m99]
    have n7 : M6.2 94 7 = 0 := by rw [f6 _ _ (by omega), kf _ _ (by omega) (by omega) (by omega) (by omega), f3 _ _ (by omega), m7]
    have n8 : M6.2 94 8 = -1 := by rw [f6 _ _ (by omega), kf _ _ (by omega) (by omega) (by omega) (by omega), f3 _ _ (by omega), m8]
    have hav : ∀ c, a_v A' cs c = a_v A cs c := fun c => e_av hE h131 cs c
    unfold q_ans
    by_cases c3 : kd < 3
    · have hbt := hbk c3
      subst hbt
      have := r_202t (t := t) (L := L) ⟨hk.1, c3⟩ e1 e2 hC8 hbA hbA' hcl htc C 0 q_FU M6 (by omega) (by unfold q_FU; omega) hQ (by rw [n98]; omega)
      rw [show ((0 : Nat) : Int) = 0 from rfl, n98] at this
      refine w_mono this ?_
      rintro v M' ⟨g1, g2⟩
      refine ⟨?_, by rw [g2 _ _ (by omega), n7], by rw [g2 _ _ (by omega), n8], fun a k h1 h2 h3 h4 => by rw [g2 a k (by omega), fM a k h1 h2 h3 h4]⟩
      rw [g1, oT_cg hav, if_neg (by omega), oT_aT (fun c => (av_b (A := A) (c := c) htc).2 rfl) kd ⟨hk.1, c3⟩ C 0 0 (-1) s0 (by omega) (by omega) (by omega)]
    · have := r_202s (t := t) (L := L) (kd := kd) ⟨by omega, hk.2⟩ e1 e2 hC8 hbA hbA' hcl htc C 0 q_FU M6 (by omega) (by unfold q_FU; omega) hQ (by rw [n98, hs2 (by omega)]; omega) (by rw [n99, if_pos rfl])
      rw [show ((0 : Nat) : Int) = 0 from rfl, n98] at this
      refine w_mono this ?_
      rintro v M' ⟨g1, g2⟩
      refine ⟨?_, by rw [g2 _ _ (by omega), n7], by rw [g2 _ _ (by omega), n8], fun a k h1 h2 h3 h4 => by rw [g2 a k (by omega), fM a k h1 h2 h3 h4]⟩
      rw [g1, aS_cg hav, if_pos (by omega), hs2 (by omega)]
  by_cases c2 : kd < 2
  · rw [if_pos c2]
    exact key (-1) (fun _ => rfl) (fun g => absurd c2 g)
  · rw [if_neg c2]
    exact key 0 (fun g => absurd g c2) (fun _ => rfl)
/-- the class's side of the state, with the text taken -/
theorem j_txt {t : Nat} {M M' : q_Mem} {L A : q_G} (hJ : q_J t M L A) (hl : ∀ a k, w_ob t a → ¬ ((a = 1 ∧ k = 1) ∨ (a = 0 ∧ (k = 14 ∨ k = 15))) → M'.2 a k = M.2 a k) (ha : ∀ a k, a_core a k = true → M'.2 a k = M.2 a k) (h88 : M'.2 88 = M.2 88) : q_J t M' (m_L L M') A := by
  have h0 : M'.2 0 11 = L 0 11 := by rw [hl 0 11 (by unfold w_ob; omega) (by omega)]; exact hJ.1 0 11 rfl
  have ht : t = 57 ∨ t = 72 := by
    rcases hJ.2.2.1.1 with g | g
    · exact Or.inl g.1
    · exact Or.inr g.1
  have hL0 : L 0 11 = (t : Int) := hJ.2.2.1.2.1
  have hL : ∀ a k, (w_ob t a ∨ (57 ≤ a ∧ a ≤ 86)) → ¬ ((a = 1 ∧ k = 1) ∨ (a = 0 ∧ (k = 14 ∨ k = 15))) → m_L L M' a k = L a k := by
    intro a k hw hn
    unfold m_L
    rw [h0]
    by_cases c : l_obs (L 0 11) a k = true
    · have hw' : w_ob t a := by
        rcases hw with g | g
        · exact g
        · rw [hL0] at c
          have := lob_s ht g.1 g.2 c
          unfold w_ob
          omega
      rw [if_pos c, hl a k hw' hn]
      exact hJ.1 a k c
    · rw [if_neg c]
  have hLc : ∀ a, (w_ob t a ∨ (57 ≤ a ∧ a ≤ 86)) → a ≠ 0 → a ≠ 1 → m_L L M' a = L a := fun a g0 g1 g2 => funext (fun k => hL a k g0 (by omega))
  have h11 : m_L L M' 0 11 = L 0 11 := hL 0 11 (by unfold w_ob; omega) (by omega)
  refine ⟨?_, fun a k c => by rw [ha a k c]; exact hJ.2.1 a k c, e_fairL (L := L) (e_fair_refl A) h11 (hL _ _ (by unfold w_ob; omega) (by omega)) (hL _ _ (by unfold w_ob; omega) (by omega)) (fun a k g1 g2 => hL _ _ (by unfold w_ob; omega) (by omega)) hJ.2.2.1, hJ.2.2.2.1, e_day (L := L) (e_fair_refl A) rfl (fun k _ => hL _ _ (by unfold w_ob; omega) (by omega)) (hLc 11 (by unfold w_ob; omega) (by omega) (by omega)) (hLc 89 (by unfold w_ob; omega) (by omega) (by omega)) hJ.2.2.2.2.1, by rw [h88]; exact hJ.2.2.2.2.2.1, hJ.2.2.2.2.2.2⟩
  intro a k c
  rw [h11] at c
  unfold m_L
  rw [h0, if_pos c]
