/-! what a call leaves as it was -/
def q_S (φ : Nat → Nat → Prop) (M0 M : q_Mem) : Prop := ∀ a j, φ a j → M.2 a j = M0.2 a j
def q_N (φ : Nat → Nat → Prop) (M0 : q_Mem) (o : Option (Int × q_Mem)) : Prop := ∀ r M', o = some (r, M') → q_S φ M0 M'
theorem S_refl {φ : Nat → Nat → Prop} {M : q_Mem} : q_S φ M M := fun _ _ _ => rfl
theorem S_up {φ : Nat → Nat → Prop} {M0 M : q_Mem} {a k : Nat} {v : Int} (h : q_S φ M0 M) (ha : ¬ φ a k) : q_S φ M0 (q_up M a k v) := by
  intro b j hb
  rw [up_ne (by rintro ⟨rfl, rfl⟩; exact ha hb)]
  exact h b j hb
theorem N_some {φ : Nat → Nat → Prop} {M0 M : q_Mem} {r : Int} (h : q_S φ M0 M) : q_N φ M0 (some (r, M)) := by
  intro r' M' e
  cases e
  exact h
theorem N_none {φ : Nat → Nat → Prop} {M0 : q_Mem} : q_N φ M0 none := by
  intro r' M' e
  cases e
theorem N_ite {φ : Nat → Nat → Prop} {M0 : q_Mem} {c : Prop} [Decidable c] {o o' : Option (Int × q_Mem)} (h : q_N φ M0 o) (h' : q_N φ M0 o') : q_N φ M0 (if c then o else o') := by
  by_cases hc : c
  · rw [if_pos hc]; exact h
  · rw [if_neg hc]; exact h'
theorem N_bd {φ : Nat → Nat → Prop} {M0 : q_Mem} {o : Option (Int × q_Mem)} {g : Int → q_Mem → Option (Int × q_Mem)} (h : q_N φ M0 o) (hg : ∀ r M', q_S φ M0 M' → q_N φ M0 (g r M')) : q_N φ M0 (q_bd o g) := by
  intro r' M' e
  cases o with
  | none => cases e
  | some z => exact hg z.1 z.2 (h z.1 z.2 rfl) r' M' e
theorem N_ld {φ : Nat → Nat → Prop} {M0 M : q_Mem} {a n : Nat} {i : Int} {f : Int → Option (Int × q_Mem)} (h : ∀ v, q_N φ M0 (f v)) : q_N φ M0 ((q_ld M a n i).bind f) := by
  cases q_ld M a n i with
  | none => exact N_none
  | some v => exact h v
theorem N_ldr {φ : Nat → Nat → Prop} {M0 : q_Mem} {a n : Nat} {i : Int} {f : Nat → Option (Int × q_Mem)} (h : ∀ v, q_N φ M0 (f v)) : q_N φ M0 ((q_ldr a n i).bind f) := by
  cases q_ldr a n i with
  | none => exact N_none
  | some v => exact h v
theorem N_sto {φ : Nat → Nat → Prop} {M0 M : q_Mem} {a n : Nat} {i v : Int} {f : q_Mem → Option (Int × q_Mem)} (hM : q_S φ M0 M) (ha : ∀ k, ¬ φ a k) (h : ∀ M', q_S φ M0 M' → q_N φ M0 (f M')) : q_N φ M0 ((q_sto M a n i v).bind f) := by
  unfold q_sto
  by_cases hc : 0 ≤ q_w i ∧ q_w i < (n : Int)
  · rw [if_pos hc]
    exact h _ (S_up hM (ha _))
  · rw [if_neg hc]
    exact N_none
theorem N_letM {φ : Nat → Nat → Prop} {M0 M : q_Mem} {a k : Nat} {v : Int} {f : q_Mem → Option (Int × q_Mem)} (hM : q_S φ M0 M) (ha : ¬ φ a k) (h : ∀ M', q_S φ M0 M' → q_N φ M0 (f M')) : q_N φ M0 (q_let (q_up M a k v) f) := h _ (S_up hM ha)
theorem N_let {φ : Nat → Nat → Prop} {M0 : q_Mem} {α : Type} {v : α} {f : α → Option (Int × q_Mem)} (h : q_N φ M0 (f v)) : q_N φ M0 (q_let v f) := h
theorem N_P {φ : Nat → Nat → Prop} {M0 : q_Mem} {o : Option (Int × q_Mem)} {Q : Int → q_Mem → Prop} (h : q_P o Q) (hn : q_N φ M0 o) : q_P o (fun r M' => Q r M' ∧ q_S φ M0 M') := by
  obtain ⟨r, M', e, hq⟩ := h
  exact ⟨r, M', e, hq, hn r M' e⟩
theorem N_wat {φ : Nat → Nat → Prop} {M0 : q_Mem} {i : Int} {f : Int → Option (Int × q_Mem)} (h : ∀ v, q_N φ M0 (f v)) : q_N φ M0 ((q_wat i).bind f) := by
  cases q_wat i with
  | none => exact N_none
  | some v => exact h v
def q_fr12 (a j : Nat) : Prop := ¬ (a = 94 ∧ (j = 48 ∨ j = 50 ∨ j = 51 ∨ j = 52 ∨ j = 97)) ∧ a ≠ 164
set_option maxHeartbeats 100000 in
theorem N_fX12_isIn {x0 : Int} {x2 : Int} {x4 : Int} {M0 : q_Mem} {M : q_Mem} (h : q_S q_fr12 M0 M) : q_N q_fr12 M0 (fX12_isIn x0 x2 x4 M) := by
  unfold fX12_isIn
  exact N_ite (N_some h) (N_ite (N_some h) (N_some h))
set_option maxHeartbeats 100000 in
theorem N_fX12_fairMinutes {M0 : q_Mem} {M : q_Mem} (h : q_S q_fr12 M0 M) : q_N q_fr12 M0 (fX12_fairMinutes  M) := by
  unfold fX12_fairMinutes
  exact N_ld (fun x21 => N_some h)
set_option maxHeartbeats 100000 in
theorem N_fX12_turnOf {x1 : Int} {M0 : q_Mem} {M : q_Mem} (h : q_S q_fr12 M0 M) : q_N q_fr12 M0 (fX12_turnOf x1 M) := by
  unfold fX12_turnOf
  exact N_ld (fun x21 => N_some h)
set_option maxHeartbeats 100000 in
theorem N_fX12_priceOf {x1 : Int} {M0 : q_Mem} {M : q_Mem} (h : q_S q_fr12 M0 M) : q_N q_fr12 M0 (fX12_priceOf x1 M) := by
  unfold fX12_priceOf
  exact N_ld (fun x21 => N_some h)
set_option maxHeartbeats 100000 in
theorem N_fX12_shutOf {x1 : Int} {M0 : q_Mem} {M : q_Mem} (h : q_S q_fr12 M0 M) : q_N q_fr12 M0 (fX12_shutOf x1 M) := by
  unfold fX12_shutOf
  exact N_ld (fun x21 => N_some h)
set_option maxHeartbeats 100000 in
theorem N_fX12_isCloud_54 {M0 : q_Mem} (n : Nat) : ∀ {x1 x2 : Int} {M : q_Mem}, q_S q_fr12 M0 M → q_N q_fr12 M0 (fX12_isCloud_54  n x1 x2 M) := by
  induction n with
  | zero => intros; exact N_none
  | succ n ih =>
    intro x1 x2 M h
    rw [fX12_isCloud_54]
    exact N_ld (fun x21 => N_ite (N_ld (fun x22 => N_ite (N_some h) (ih h))) (N_some h))
set_option maxHeartbeats 100000 in
theorem N_fX12_isCloud_2 {M0 : q_Mem} (n : Nat) : ∀ {x1 x2 : Int} {M : q_Mem}, q_S q_fr12 M0 M → q_N q_fr12 M0 (fX12_isCloud_2  n x1 x2 M) := by
  induction n with
  | zero => intros; exact N_none
  | succ n ih =>
    intro x1 x2 M h
    rw [fX12_isCloud_2]
    exact N_ld (fun x21 => N_ite (N_ld (fun x22 => N_ld (fun x23 => N_bd (N_fX12_isIn h) (fun x24 M1 hM1 => N_ite (ih hM1) (N_some hM1))))) (N_fX12_isCloud_54 _ h))
set_option maxHeartbeats 100000 in
theorem N_fX12_isCloud {x1 : Int} {M0 : q_Mem} {M : q_Mem} (h : q_S q_fr12 M0 M) : q_N q_fr12 M0 (fX12_isCloud x1 M) := by
  unfold fX12_isCloud
  exact N_fX12_isCloud_2 _ h
set_option maxHeartbeats 100000 in
theorem N_fX12_qPuts {x1 : Int} {M0 : q_Mem} {M : q_Mem} (h : q_S q_fr12 M0 M) : q_N q_fr12 M0 (fX12_qPuts x1 M) := by
  unfold fX12_qPuts
  exact N_sto h (by intro _; unfold q_fr12; omega) (fun M1 hM1 => N_letM hM1 (by unfold q_fr12; omega) (fun M2 hM2 => N_some hM2))
set_option maxHeartbeats 100000 in
theorem N_fX12_qPartOf {x1 : Int} {x2 : Int} {M0 : q_Mem} {M : q_Mem} (h : q_S q_fr12 M0 M) : q_N q_fr12 M0 (fX12_qPartOf x1 x2 M) := by
  unfold fX12_qPartOf
  exact N_ite (N_ld (fun x21 => N_some h)) (N_ite (N_ld (fun x22 => N_some h)) (N_ite (N_bd (N_fX12_turnOf h) (fun x23 M1 hM1 => N_some hM1)) (N_ite (N_some h) (N_ite (N_some h) (N_ite (N_bd (N_fX12_priceOf h) (fun x24 M2 hM2 => N_some hM2)) (N_ite (N_some h) (N_ite (N_some h) (N_ld (fun x25 => N_some h)))))))))
set_option maxHeartbeats 100000 in
theorem N_fX12_qClip {x0 : Int} {M0 : q_Mem} {M : q_Mem} (h : q_S q_fr12 M0 M) : q_N q_fr12 M0 (fX12_qClip x0 M) := by
  unfold fX12_qClip
  exact N_ite (N_some h) (N_ite (N_some h) (N_some h))
set_option maxHeartbeats 100000 in
theorem N_fX12_qFloor_43 {x4 : Int} {s0 : Int} {s1 : Int} {M0 : q_Mem} {M : q_Mem} (h : q_S q_fr12 M0 M) : q_N q_fr12 M0 (fX12_qFloor_43 x4 s0 s1 M) := by
  unfold fX12_qFloor_43
  exact N_ite (N_some h) (N_some h)
set_option maxHeartbeats 100000 in
theorem N_fX12_qFloor_32 {x2 : Int} {x4 : Int} {s0 : Int} {M0 : q_Mem} {M : q_Mem} (h : q_S q_fr12 M0 M) : q_N q_fr12 M0 (fX12_qFloor_32 x2 x4 s0 M) := by
  unfold fX12_qFloor_32
  exact N_ite (N_fX12_qFloor_43 h) (N_fX12_qFloor_43 h)
set_option maxHeartbeats 100000 in
theorem N_fX12_qFloor {x0 : Int} {x2 : Int} {M0 : q_Mem} {M : q_Mem} (h : q_S q_fr12 M0 M) : q_N q_fr12 M0 (fX12_qFloor x0 x2 M) := by
  unfold fX12_qFloor
  exact N_ite (N_some h) (N_ite (N_none) (N_let (N_ite (N_none) (N_ite (N_some h) (N_ite (N_fX12_qFloor_32 h) (N_fX12_qFloor_32 h))))))
set_option maxHeartbeats 100000 in
theorem N_fX12_qJoins_161 {s0 : Int} {M0 : q_Mem} {M : q_Mem} (h : q_S q_fr12 M0 M) : q_N q_fr12 M0 (fX12_qJoins_161 s0 M) := by
  unfold fX12_qJoins_161
  exact N_bd (N_fX12_qPuts h) (fun _ M1 hM1 => N_some hM1)
set_option maxHeartbeats 100000 in
theorem N_fX12_qJoins_181 {s0 : Int} {M0 : q_Mem} {M : q_Mem} (h : q_S q_fr12 M0 M) : q_N q_fr12 M0 (fX12_qJoins_181 s0 M) := by
  unfold fX12_qJoins_181
  exact N_bd (N_fX12_qPuts h) (fun _ M1 hM1 => N_some hM1)
set_option maxHeartbeats 100000 in
theorem N_fX12_qJoins_200 {s0 : Int} {M0 : q_Mem} {M : q_Mem} (h : q_S q_fr12 M0 M) : q_N q_fr12 M0 (fX12_qJoins_200 s0 M) := by
  unfold fX12_qJoins_200
  exact N_bd (N_fX12_qPuts h) (fun _ M1 hM1 => N_some hM1)
set_option maxHeartbeats 100000 in
theorem N_fX12_qJoins_219 {s0 : Int} {M0 : q_Mem} {M : q_Mem} (h : q_S q_fr12 M0 M) : q_N q_fr12 M0 (fX12_qJoins_219 s0 M) := by
  unfold fX12_qJoins_219
  exact N_bd (N_fX12_qPuts h) (fun _ M1 hM1 => N_some hM1)
set_option maxHeartbeats 100000 in
theorem N_fX12_qJoins_238 {s0 : Int} {M0 : q_Mem} {M : q_Mem} (h : q_S q_fr12 M0 M) : q_N q_fr12 M0 (fX12_qJoins_238 s0 M) := by
  unfold fX12_qJoins_238
  exact N_bd (N_fX12_qPuts h) (fun _ M1 hM1 => N_some hM1)
set_option maxHeartbeats 100000 in
theorem N_fX12_qJoins_270 {s0 : Int} {M0 : q_Mem} {M : q_Mem} (h : q_S q_fr12 M0 M) : q_N q_fr12 M0 (fX12_qJoins_270 s0 M) := by
  unfold fX12_qJoins_270
  exact N_bd (N_fX12_qPuts h) (fun _ M1 hM1 => N_some hM1)
set_option maxHeartbeats 100000 in
theorem N_fX12_qJoins {x1 : Int} {M0 : q_Mem} {M : q_Mem} (h : q_S q_fr12 M0 M) : q_N q_fr12 M0 (fX12_qJoins x1 M) := by
  unfold fX12_qJoins
  exact N_ld (fun x21 => N_ld (fun x22 => N_letM h (by unfold q_fr12; omega) (fun M1 hM1 => N_ite (N_bd (N_fX12_qClip hM1) (fun x23 M2 hM2 => N_bd (N_fX12_qPuts hM2) (fun _ M3 hM3 => N_some hM3))) (N_ite (N_bd (N_fX12_qClip hM1) (fun x24 M4 hM4 => N_bd (N_fX12_qPuts hM4) (fun _ M5 hM5 => N_some hM5))) (N_ite (N_bd (N_fX12_qClip hM1) (fun x25 M6 hM6 => N_bd (N_fX12_qPuts hM6) (fun _ M7 hM7 => N_some hM7))) (N_ite (N_bd (N_fX12_qFloor hM1) (fun x26 M8 hM8 => N_bd (N_fX12_qPuts hM8) (fun _ M9 hM9 => N_some hM9))) (N_ite (N_ite (N_fX12_qJoins_161 hM1) (N_fX12_qJoins_161 hM1)) (N_ite (N_ite (N_fX12_qJoins_181 hM1) (N_fX12_qJoins_181 hM1)) (N_ite (N_ite (N_fX12_qJoins_200 hM1) (N_fX12_qJoins_200 hM1)) (N_ite (N_ite (N_fX12_qJoins_219 hM1) (N_fX12_qJoins_219 hM1)) (N_ite (N_ite (N_fX12_qJoins_238 hM1) (N_fX12_qJoins_238 hM1)) (N_ite (N_bd (N_fX12_qPuts hM1) (fun _ M10 hM10 => N_some hM10)) (N_ite (N_fX12_qJoins_270 hM1) (N_fX12_qJoins_270 hM1))))))))))))))
set_option maxHeartbeats 100000 in
theorem N_fX12_codesTell_144 {K19 : Int → Int → Int → q_Mem → Option (Int × q_Mem)} {x1 : Int} {x2 : Int} {x3 : Int} {M0 : q_Mem} (hK19 : ∀ {y0 y1 y2 M}, q_S q_fr12 M0 M → q_N q_fr12 M0 (K19 y0 y1 y2 M)) {M : q_Mem} (h : q_S q_fr12 M0 M) : q_N q_fr12 M0 (fX12_codesTell_144 K19 x1 x2 x3 M) := by
  unfold fX12_codesTell_144
  exact hK19 h
set_option maxHeartbeats 100000 in
theorem N_fX12_codesTell_19 {M0 : q_Mem} (n : Nat) : ∀ {x1 x2 x3 : Int} {M : q_Mem}, q_S q_fr12 M0 M → q_N q_fr12 M0 (fX12_codesTell_19  n x1 x2 x3 M) := by
  induction n with
  | zero => intros; exact N_none
  | succ n ih =>
    intro x1 x2 x3 M h
    rw [fX12_codesTell_19]
    exact N_ld (fun x21 => N_ite (N_ld (fun x23 => N_ite (N_ite (N_ite (N_bd (N_fX12_qPuts h) (fun _ M3 hM3 => N_fX12_codesTell_144 (fun hh => ih hh) hM3)) (N_ite (N_ld (fun x24 => N_sto h (by intro _; unfold q_fr12; omega) (fun M2 hM2 => N_fX12_codesTell_144 (fun hh => ih hh) hM2))) (N_bd (N_fX12_qJoins h) (fun _ M1 hM1 => N_fX12_codesTell_144 (fun hh => ih hh) hM1)))) (N_bd (N_fX12_qPartOf h) (fun x25 M4 hM4 => N_bd (N_fX12_qPuts hM4) (fun _ M5 hM5 => N_fX12_codesTell_144 (fun hh => ih hh) hM5)))) (N_bd (N_fX12_qPuts h) (fun _ M6 hM6 => N_fX12_codesTell_144 (fun hh => ih hh) hM6)))) (N_ld (fun x22 => N_some h)))
set_option maxHeartbeats 100000 in
theorem N_fX12_codesTell {x1 : Int} {x2 : Int} {M0 : q_Mem} {M : q_Mem} (h : q_S q_fr12 M0 M) : q_N q_fr12 M0 (fX12_codesTell x1 x2 M) := by
  unfold fX12_codesTell
  exact N_letM h (by unfold q_fr12; omega) (fun M1 hM1 => N_letM hM1 (by unfold q_fr12; omega) (fun M2 hM2 => N_ld (fun x21 => N_fX12_codesTell_19 _ hM2)))
set_option maxHeartbeats 100000 in
theorem N_fX12_shadowOf {x1 : Int} {x2 : Int} {x3 : Int} {M0 : q_Mem} {M : q_Mem} (h : q_S q_fr12 M0 M) : q_N q_fr12 M0 (fX12_shadowOf x1 x2 x3 M) := by
  unfold fX12_shadowOf
  exact N_bd (N_fX12_isCloud h) (fun x21 M1 hM1 => N_ite (N_ld (fun x22 => N_ite (N_ld (fun x24 => N_some hM1)) (N_letM hM1 (by unfold q_fr12; omega) (fun M2 hM2 => N_letM hM2 (by unfold q_fr12; omega) (fun M3 hM3 => N_bd (N_fX12_codesTell hM3) (fun x23 M4 hM4 => N_ite (N_some hM4) (N_ite (N_some hM4) (N_some hM4)))))))) (N_some hM1))
set_option maxHeartbeats 100000 in
theorem N_fX12_doesBuy {x1 : Int} {x2 : Int} {x3 : Int} {M0 : q_Mem} {M : q_Mem} (h : q_S q_fr12 M0 M) : q_N q_fr12 M0 (fX12_doesBuy x1 x2 x3 M) := by
  unfold fX12_doesBuy
  exact N_bd (N_fX12_shutOf h) (fun x21 M1 hM1 => N_ite (N_bd (N_fX12_fairMinutes hM1) (fun x22 M2 hM2 => N_ite (N_some hM2) (N_bd (N_fX12_isCloud hM2) (fun x23 M3 hM3 => N_ite (N_bd (N_fX12_shadowOf hM3) (fun x24 M4 hM4 => N_bd (N_fX12_priceOf hM4) (fun x25 M5 hM5 => N_ite (N_some hM5) (N_ld (fun x26 => N_ite (N_some hM5) (N_letM hM5 (by unfold q_fr12; omega) (fun M6 hM6 => N_letM hM6 (by unfold q_fr12; omega) (fun M7 hM7 => N_letM hM7 (by unfold q_fr12; omega) (fun M8 hM8 => N_bd (N_fX12_codesTell hM8) (fun x27 M9 hM9 => N_ite (N_some hM9) (N_some hM9))))))))))) (N_some hM3))))) (N_some hM1))
def q_fr11 (a j : Nat) : Prop := a ≠ 88 ∧ a ≠ 90 ∧ a ≠ 91
theorem f_91 : q_fr 90 0 = 91 := by decide
set_option maxHeartbeats 100000 in
theorem N_fX5_isCloudy {x1 : Int} {M0 : q_Mem} {M : q_Mem} (h : q_S q_fr11 M0 M) : q_N q_fr11 M0 (fX5_isCloudy x1 M) := by
  unfold fX5_isCloudy
  exact N_ite (N_some h) (N_ite (N_some h) (N_ld (fun x21 => N_ite (N_some h) (N_some h))))
set_option maxHeartbeats 100000 in
theorem N_fX7_push {x1 : Int} {M0 : q_Mem} {M : q_Mem} (h : q_S q_fr11 M0 M) : q_N q_fr11 M0 (fX7_push 90 x1 M) := by
  unfold fX7_push
  exact N_ite (N_sto h (by intro _; (try rw [f_91]); unfold q_fr11; omega) (fun M1 hM1 => N_letM hM1 (by unfold q_fr11; omega) (fun M2 hM2 => N_some hM2))) (N_some h)
set_option maxHeartbeats 100000 in
theorem N_fX7_isOfTwo_30 {M0 : q_Mem} {M : q_Mem} (h : q_S q_fr11 M0 M) : q_N q_fr11 M0 (fX7_isOfTwo_30  M) := by
  unfold fX7_isOfTwo_30
  exact N_some h
set_option maxHeartbeats 100000 in
theorem N_fX7_isOfTwo {x0 : Int} {M0 : q_Mem} {M : q_Mem} (h : q_S q_fr11 M0 M) : q_N q_fr11 M0 (fX7_isOfTwo x0 M) := by
  unfold fX7_isOfTwo
  exact N_ite (N_ite (N_fX7_isOfTwo_30 h) (N_ite (N_fX7_isOfTwo_30 h) (N_ite (N_fX7_isOfTwo_30 h) (N_ite (N_fX7_isOfTwo_30 h) (N_some h))))) (N_fX7_isOfTwo_30 h)
set_option maxHeartbeats 100000 in
theorem N_fX7_pop {M0 : q_Mem} {M : q_Mem} (h : q_S q_fr11 M0 M) : q_N q_fr11 M0 (fX7_pop 90 M) := by
  unfold fX7_pop
  exact N_ite (N_some h) (N_letM h (by unfold q_fr11; omega) (fun M1 hM1 => N_ld (fun x21 => N_some hM1)))
set_option maxHeartbeats 100000 in
theorem N_fX7_within {x0 : Int} {M0 : q_Mem} {M : q_Mem} (h : q_S q_fr11 M0 M) : q_N q_fr11 M0 (fX7_within x0 M) := by
  unfold fX7_within
  exact N_ite (N_some h) (N_ite (N_some h) (N_some h))
set_option maxHeartbeats 100000 in
theorem N_fJ9_floorDiv_7cf53 {x0 : Int} {x1 : Int} {M0 : q_Mem} {M : q_Mem} (h : q_S q_fr11 M0 M) : q_N q_fr11 M0 (fJ9_floorDiv_7cf53 x0 x1 M) := by
  unfold fJ9_floorDiv_7cf53
  exact N_ite (N_none) (N_let (N_ite (N_ite (N_some h) (N_some h)) (N_some h)))
set_option maxHeartbeats 100000 in
theorem N_fX7_ofTwo {x0 : Int} {x1 : Int} {x2 : Int} {M0 : q_Mem} {M : q_Mem} (h : q_S q_fr11 M0 M) : q_N q_fr11 M0 (fX7_ofTwo x0 x1 x2 M) := by
  unfold fX7_ofTwo
  exact N_ite (N_some h) (N_ite (N_some h) (N_ite (N_some h) (N_ite (N_some h) (N_ite (N_ite (N_some h) (N_some h)) (N_ite (N_ite (N_some h) (N_some h)) (N_ite (N_some h) (N_ite (N_some h) (N_ite (N_some h) (N_ite (N_some h) (N_ite (N_some h) (N_ite (N_some h) (N_ite (N_some h) (N_ite (N_some h) (N_ite (N_some h) (N_ite (N_some h) (N_ite (N_some h) (N_ite (N_some h) (N_ite (N_some h) (N_ite (N_some h) (N_ite (N_some h) (N_ite (N_some h) (N_ite (N_some h) (N_ite (N_bd (N_fX7_within h) (fun x21 M1 hM1 => N_some hM1)) (N_ite (N_bd (N_fX7_within h) (fun x22 M2 hM2 => N_some hM2)) (N_ite (N_some h) (N_ite (N_bd (N_fX7_within h) (fun x23 M3 hM3 => N_some hM3)) (N_ite (N_some h) (N_ite (N_ite (N_some h) (N_bd (N_fJ9_floorDiv_7cf53 h) (fun x24 M4 hM4 => N_some hM4))) (N_ite (N_some h) (N_ite (N_some h) (N_ite (N_some h) (N_ite (N_some h) (N_ite (N_some h) (N_ite (N_some h) (N_ite (N_some h) (N_ite (N_some h) (N_ite (N_some h) (N_ite (N_some h) (N_ite (N_some h) (N_ite (N_some h) (N_ite (N_ite (N_some h) (N_some h)) (N_ite (N_ite (N_some h) (N_some h)) (N_ite (N_ite (N_some h) (N_some h)) (N_some h))))))))))))))))))))))))))))))))))))))))))))
set_option maxHeartbeats 100000 in
theorem N_fX7_ofStall {r1 : Nat} {n1 : Nat} {x2 : Int} {M0 : q_Mem} {M : q_Mem} (h : q_S q_fr11 M0 M) : q_N q_fr11 M0 (fX7_ofStall 90 r1 n1 x2 M) := by
  unfold fX7_ofStall
  exact N_ite (N_some h) (N_ite (N_ite (N_ld (fun x21 => N_some h)) (N_some h)) (N_some h))
set_option maxHeartbeats 100000 in
theorem N_fX7_ofOne {x1 : Int} {M0 : q_Mem} {M : q_Mem} (h : q_S q_fr11 M0 M) : q_N q_fr11 M0 (fX7_ofOne 90 x1 M) := by
  unfold fX7_ofOne
  exact N_ite (N_bd (N_fX7_pop h) (fun x21 M1 hM1 => N_bd (N_fX7_ofStall hM1) (fun x22 M2 hM2 => N_some hM2))) (N_ite (N_some h) (N_ite (N_some h) (N_ite (N_some h) (N_ite (N_some h) (N_ite (N_some h) (N_ite (N_some h) (N_ite (N_some h) (N_ite (N_some h) (N_ite (N_bd (N_fX7_pop h) (fun x23 M3 hM3 => N_bd (N_fX7_ofStall hM3) (fun x24 M4 hM4 => N_some hM4))) (N_ite (N_some h) (N_ite (N_some h) (N_ite (N_some h) (N_ite (N_some h) (N_ite (N_some h) (N_ite (N_some h) (N_ite (N_some h) (N_ite (N_some h) (N_ite (N_some h) (N_ite (N_bd (N_fX7_pop h) (fun x25 M5 hM5 => N_some hM5)) (N_ite (N_some h) (N_some h)))))))))))))))))))))
set_option maxHeartbeats 100000 in
theorem N_fX7_run_91 {r1 : Nat} {K7 : Int → q_Mem → Option (Int × q_Mem)} {x2 : Int} {M0 : q_Mem} (hK7 : ∀ {y0 M}, q_S q_fr11 M0 M → q_N q_fr11 M0 (K7 y0 M)) {M : q_Mem} (h : q_S q_fr11 M0 M) : q_N q_fr11 M0 (fX7_run_91 90 r1 K7 x2 M) := by
  unfold fX7_run_91
  exact hK7 h
set_option maxHeartbeats 100000 in
theorem N_fX7_run_97 {r1 : Nat} {M0 : q_Mem} {M : q_Mem} (h : q_S q_fr11 M0 M) : q_N q_fr11 M0 (fX7_run_97 90 r1 M) := by
  unfold fX7_run_97
  exact N_bd (N_fX7_pop h) (fun x21 M1 hM1 => N_some hM1)
set_option maxHeartbeats 100000 in
theorem N_fX7_run_7 {r1 : Nat} {M0 : q_Mem} (n : Nat) : ∀ {x2 : Int} {M : q_Mem}, q_S q_fr11 M0 M → q_N q_fr11 M0 (fX7_run_7 90 r1 n x2 M) := by
  induction n with
  | zero => intros; exact N_none
  | succ n ih =>
    intro x2 M h
    rw [fX7_run_7]
    exact N_ite (N_ite (N_ld (fun x21 => N_let (N_ite (N_ld (fun x28 => N_bd (N_fX7_push h) (fun _ M8 hM8 => N_fX7_run_91 (fun hh => ih hh) hM8))) (N_bd (N_fX7_isOfTwo h) (fun x23 M1 hM1 => N_ite (N_bd (N_fX7_ofOne hM1) (fun x24 M2 hM2 => N_bd (N_fX7_push hM2) (fun _ M3 hM3 => N_fX7_run_91 (fun hh => ih hh) hM3))) (N_bd (N_fX7_pop hM1) (fun x25 M4 hM4 => N_bd (N_fX7_pop hM4) (fun x26 M5 hM5 => N_bd (N_fX7_ofTwo hM5) (fun x27 M6 hM6 => N_bd (N_fX7_push hM6) (fun _ M7 hM7 => N_fX7_run_91 (fun hh => ih hh) hM7)))))))))) (N_fX7_run_97 h)) (N_fX7_run_97 h)
set_option maxHeartbeats 100000 in
theorem N_fX7_run {r1 : Nat} {M0 : q_Mem} {M : q_Mem} (h : q_S q_fr11 M0 M) : q_N q_fr11 M0 (fX7_run 90 r1 M) := by
  unfold fX7_run
  exact N_letM h (by unfold q_fr11; omega) (fun M1 hM1 => N_fX7_run_7 _ hM1)
set_option maxHeartbeats 100000 in
theorem N_fX5_cellAt_274 {x4 : Int} {s0 : Int} {s1 : Int} {s2 : Int} {M0 : q_Mem} {M : q_Mem} (h : q_S q_fr11 M0 M) : q_N q_fr11 M0 (fX5_cellAt_274 x4 s0 s1 s2 M) := by
  unfold fX5_cellAt_274
  exact N_sto h (by intro _; (try rw [f_91]); unfold q_fr11; omega) (fun M1 hM1 => N_ld (fun x21 => N_some hM1))
set_option maxHeartbeats 100000 in
theorem N_fX5_cellAt_273 {x4 : Int} {s0 : Int} {s1 : Int} {M0 : q_Mem} {M : q_Mem} (h : q_S q_fr11 M0 M) : q_N q_fr11 M0 (fX5_cellAt_273 x4 s0 s1 M) := by
  unfold fX5_cellAt_273
  exact N_fX5_cellAt_274 h
set_option maxHeartbeats 100000 in
theorem N_fX5_cellAt_247 {x4 : Int} {x6 : Int} {x7 : Int} {s0 : Int} {M0 : q_Mem} {M : q_Mem} (h : q_S q_fr11 M0 M) : q_N q_fr11 M0 (fX5_cellAt_247 x4 x6 x7 s0 M) := by
  unfold fX5_cellAt_247
  exact N_ite (N_fX5_cellAt_273 h) (N_ite (N_fX5_cellAt_274 h) (N_fX5_cellAt_273 h))
set_option maxHeartbeats 100000 in
theorem N_fX5_cellAt_246 {x4 : Int} {x6 : Int} {x7 : Int} {M0 : q_Mem} {M : q_Mem} (h : q_S q_fr11 M0 M) : q_N q_fr11 M0 (fX5_cellAt_246 x4 x6 x7 M) := by
  unfold fX5_cellAt_246
  exact N_fX5_cellAt_247 h
set_option maxHeartbeats 100000 in
theorem N_fX5_cellAt_205 {x4 : Int} {x6 : Int} {s0 : Int} {M0 : q_Mem} {M : q_Mem} (h : q_S q_fr11 M0 M) : q_N q_fr11 M0 (fX5_cellAt_205 x4 x6 s0 M) := by
  unfold fX5_cellAt_205
  exact N_ite (N_fX5_cellAt_246 h) (N_let (N_ite (N_let (N_bd (N_fX7_run h) (fun x21 M1 hM1 => N_ite (N_fX5_cellAt_246 hM1) (N_fX5_cellAt_247 hM1)))) (N_fX5_cellAt_246 h)))
set_option maxHeartbeats 100000 in
theorem N_fX5_cellAt_161 {x2 : Int} {x4 : Int} {s0 : Int} {M0 : q_Mem} {M : q_Mem} (h : q_S q_fr11 M0 M) : q_N q_fr11 M0 (fX5_cellAt_161 x2 x4 s0 M) := by
  unfold fX5_cellAt_161
  exact N_let (N_letM h (by unfold q_fr11; omega) (fun M1 hM1 => N_let (N_ld (fun x22 => N_ite (N_fX5_cellAt_205 hM1) (N_fX5_cellAt_205 hM1)))))
set_option maxHeartbeats 100000 in
theorem N_fX5_cellAt {x1 : Int} {x2 : Int} {x3 : Int} {M0 : q_Mem} {M : q_Mem} (h : q_S q_fr11 M0 M) : q_N q_fr11 M0 (fX5_cellAt x1 x2 x3 M) := by
  unfold fX5_cellAt
  exact N_let (N_ite (N_some h) (N_ite (N_ld (fun x22 => N_ite (N_let (N_ld (fun x23 => N_letM h (by unfold q_fr11; omega) (fun M1 hM1 => N_let (N_ld (fun x24 => N_letM hM1 (by unfold q_fr11; omega) (fun M2 hM2 => N_let (N_ld (fun x25 => N_letM hM2 (by unfold q_fr11; omega) (fun M3 hM3 => N_letM hM3 (by unfold q_fr11; omega) (fun M4 hM4 => N_let (N_ld (fun x26 => N_letM hM4 (by unfold q_fr11; omega) (fun M5 hM5 => N_let (N_ite (N_let (N_ld (fun x28 => N_fX5_cellAt_161 hM5))) (N_let (N_bd (N_fX7_run hM5) (fun x27 M6 hM6 => N_fX5_cellAt_161 hM6)))))))))))))))))) (N_ld (fun x29 => N_some h)))) (N_some h)))
set_option maxHeartbeats 100000 in
theorem N_fX5_lengthAt {x1 : Int} {x2 : Int} {x3 : Int} {M0 : q_Mem} {M : q_Mem} (h : q_S q_fr11 M0 M) : q_N q_fr11 M0 (fX5_lengthAt x1 x2 x3 M) := by
  unfold fX5_lengthAt
  exact N_bd (N_fX5_isCloudy h) (fun x21 M1 hM1 => N_ite (N_bd (N_fX5_cellAt hM1) (fun x22 M2 hM2 => N_some hM2)) (N_some hM1))
set_option maxHeartbeats 100000 in
theorem N_fX5_paysAt {x1 : Int} {x2 : Int} {x3 : Int} {M0 : q_Mem} {M : q_Mem} (h : q_S q_fr11 M0 M) : q_N q_fr11 M0 (fX5_paysAt x1 x2 x3 M) := by
  unfold fX5_paysAt
  exact N_let (N_ld (fun x21 => N_ite (N_bd (N_fX5_isCloudy h) (fun x22 M1 hM1 => N_ite (N_bd (N_fX5_cellAt hM1) (fun x23 M2 hM2 => N_ite (N_some hM2) (N_some hM2))) (N_some hM1))) (N_some h)))
