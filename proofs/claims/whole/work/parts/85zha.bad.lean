/-! texts: as long as there is no fault its place is none -/
def p_B (M : q_Mem) : Prop := M.2 94 5 = 0 → M.2 94 6 = -1
def q_B (o : Option (Int × q_Mem)) : Prop := ∀ r M', o = some (r, M') → p_B M'
theorem B_up {M : q_Mem} {a k : Nat} {v : Int} (h : p_B M) (ha : ¬ (a = 94 ∧ (k = 5 ∨ k = 6))) : p_B (q_up M a k v) := by
  unfold p_B at *
  rw [up_ne (by omega), up_ne (by omega)]
  exact h
theorem B_some {M : q_Mem} {r : Int} (h : p_B M) : q_B (some (r, M)) := by
  intro r' M' e
  cases e
  exact h
theorem B_none : q_B none := by
  intro r' M' e
  cases e
theorem B_ite {c : Prop} [Decidable c] {o o' : Option (Int × q_Mem)} (h : q_B o) (h' : q_B o') : q_B (if c then o else o') := by
  by_cases hc : c
  · rw [if_pos hc]; exact h
  · rw [if_neg hc]; exact h'
theorem B_bd {o : Option (Int × q_Mem)} {g : Int → q_Mem → Option (Int × q_Mem)} (h : q_B o) (hg : ∀ r M', p_B M' → q_B (g r M')) : q_B (q_bd o g) := by
  intro r' M' e
  cases o with
  | none => cases e
  | some z => exact hg z.1 z.2 (h z.1 z.2 rfl) r' M' e
theorem B_ld {M : q_Mem} {a n : Nat} {i : Int} {f : Int → Option (Int × q_Mem)} (h : ∀ v, q_B (f v)) : q_B ((q_ld M a n i).bind f) := by
  cases q_ld M a n i with
  | none => exact B_none
  | some v => exact h v
theorem B_sto {M : q_Mem} {a n : Nat} {i v : Int} {f : q_Mem → Option (Int × q_Mem)} (hM : p_B M) (ha : a ≠ 94) (h : ∀ M', p_B M' → q_B (f M')) : q_B ((q_sto M a n i v).bind f) := by
  unfold q_sto
  by_cases hc : 0 ≤ q_w i ∧ q_w i < (n : Int)
  · rw [if_pos hc]
    exact h _ (B_up hM (by omega))
  · rw [if_neg hc]
    exact B_none
theorem B_letM {M : q_Mem} {a k : Nat} {v : Int} {f : q_Mem → Option (Int × q_Mem)} (hM : p_B M) (ha : ¬ (a = 94 ∧ (k = 5 ∨ k = 6))) (h : ∀ M', p_B M' → q_B (f M')) : q_B (q_let (q_up M a k v) f) := h _ (B_up hM ha)
theorem B_let {α : Type} {v : α} {f : α → Option (Int × q_Mem)} (h : q_B (f v)) : q_B (q_let v f) := h
theorem B_fX12_fail {k pl : Int} {M : q_Mem} (hk : k ≠ 0) (h : p_B M) : q_B (fX12_fail k pl M) := by
  unfold fX12_fail
  refine B_ite ?_ (B_some h)
  rw [q_le, q_le]
  refine B_some ?_
  intro g
  rw [up_ne (by omega), up_rd, if_pos ⟨rfl, rfl⟩] at g
  exact absurd g hk
theorem B_fX12_isIn {x0 : Int} {x2 : Int} {x4 : Int} {M : q_Mem} (h : p_B M) : q_B (fX12_isIn x0 x2 x4 M) := by
  unfold fX12_isIn
  exact B_ite (B_some h) (B_ite (B_some h) (B_some h))
theorem B_fX12_isLetter {x0 : Int} {M : q_Mem} (h : p_B M) : q_B (fX12_isLetter x0 M) := by
  unfold fX12_isLetter
  exact B_ite (B_some h) (B_ite (B_some h) (B_some h))
theorem B_fX12_isDigit {x0 : Int} {M : q_Mem} (h : p_B M) : q_B (fX12_isDigit x0 M) := by
  unfold fX12_isDigit
  exact B_ite (B_some h) (B_ite (B_some h) (B_some h))
theorem B_fX12_look_39 {K0 : q_Mem → Option (Int × q_Mem)} (hK0 : ∀ { M}, p_B M → q_B (K0  M)) {M : q_Mem} (h : p_B M) : q_B (fX12_look_39 K0 M) := by
  unfold fX12_look_39
  exact B_letM h (by omega) (fun M1 hM1 => hK0 hM1)
theorem B_fX12_look_52 {M : q_Mem} (h : p_B M) : q_B (fX12_look_52  M) := by
  unfold fX12_look_52
  exact B_ite (B_ld (fun x21 => B_some h)) (B_some h)
theorem B_fX12_look_0 (n : Nat) : ∀ {M : q_Mem}, p_B M → q_B (fX12_look_0  n  M) := by
  induction n with
  | zero => intros; exact B_none
  | succ n ih =>
    intro  M h
    rw [fX12_look_0]
    exact B_ite (B_ld (fun x21 => B_ite (B_fX12_look_39 (fun hh => ih hh) h) (B_ld (fun x22 => B_ite (B_fX12_look_39 (fun hh => ih hh) h) (B_fX12_look_52 h))))) (B_fX12_look_52 h)
theorem B_fX12_look {M : q_Mem} (h : p_B M) : q_B (fX12_look  M) := by
  unfold fX12_look
  exact B_fX12_look_0 _ h
theorem B_fX12_isHere_76 {r1 : Nat} {n1 : Nat} (n : Nat) : ∀ {x3 : Int} {M : q_Mem}, p_B M → q_B (fX12_isHere_76 r1 n1 n x3 M) := by
  induction n with
  | zero => intros; exact B_none
  | succ n ih =>
    intro x3 M h
    rw [fX12_isHere_76]
    exact B_ite (B_ld (fun x21 => B_ld (fun x22 => B_ite (ih h) (B_some h)))) (B_some h)
theorem B_fX12_isHere_61 {r1 : Nat} {n1 : Nat} {x2 : Int} {M : q_Mem} (h : p_B M) : q_B (fX12_isHere_61 r1 n1 x2 M) := by
  unfold fX12_isHere_61
  exact B_ite (B_fX12_isHere_76 _ h) (B_some h)
theorem B_fX12_isHere_35 {r1 : Nat} {n1 : Nat} (n : Nat) : ∀ {x2 : Int} {M : q_Mem}, p_B M → q_B (fX12_isHere_35 r1 n1 n x2 M) := by
  induction n with
  | zero => intros; exact B_none
  | succ n ih =>
    intro x2 M h
    rw [fX12_isHere_35]
    exact B_ite (B_ld (fun x21 => B_bd (B_fX12_isLetter h) (fun x22 M1 hM1 => B_ite (B_fX12_isHere_61 hM1) (ih hM1)))) (B_fX12_isHere_61 h)
theorem B_fX12_isHere {r1 : Nat} {n1 : Nat} {M : q_Mem} (h : p_B M) : q_B (fX12_isHere r1 n1 M) := by
  unfold fX12_isHere
  exact B_ite (B_bd (B_fX12_look h) (fun x21 M1 hM1 => B_bd (B_fX12_isLetter hM1) (fun x22 M2 hM2 => B_ite (B_some hM2) (B_ite (B_some hM2) (B_let (B_fX12_isHere_35 _ hM2)))))) (B_some h)
theorem B_fX12_takes {r1 : Nat} {n1 : Nat} {M : q_Mem} (h : p_B M) : q_B (fX12_takes r1 n1 M) := by
  unfold fX12_takes
  exact B_bd (B_fX12_isHere h) (fun x21 M1 hM1 => B_ite (B_some hM1) (B_letM hM1 (by omega) (fun M2 hM2 => B_letM hM2 (by omega) (fun M3 hM3 => B_some hM3))))
theorem B_fX12_asks {r1 : Nat} {n1 : Nat} {M : q_Mem} (h : p_B M) : q_B (fX12_asks r1 n1 M) := by
  unfold fX12_asks
  exact B_ite (B_bd (B_fX12_takes h) (fun x21 M1 hM1 => B_ite (B_bd (B_fX12_fail (by decide) hM1) (fun _ M2 hM2 => B_some hM2)) (B_some hM1))) (B_some h)
theorem B_fX12_takesSign {x1 : Int} {M : q_Mem} (h : p_B M) : q_B (fX12_takesSign x1 M) := by
  unfold fX12_takesSign
  exact B_ite (B_bd (B_fX12_look h) (fun x21 M1 hM1 => B_ite (B_letM hM1 (by omega) (fun M2 hM2 => B_some hM2)) (B_some hM1))) (B_some h)
theorem B_fX12_asksSign {x1 : Int} {M : q_Mem} (h : p_B M) : q_B (fX12_asksSign x1 M) := by
  unfold fX12_asksSign
  exact B_ite (B_bd (B_fX12_takesSign h) (fun x21 M1 hM1 => B_ite (B_bd (B_fX12_fail (by decide) hM1) (fun _ M2 hM2 => B_some hM2)) (B_some hM1))) (B_some h)
theorem B_fX12_number_30 {M : q_Mem} (h : p_B M) : q_B (fX12_number_30  M) := by
  unfold fX12_number_30
  exact B_bd (B_fX12_fail (by decide) h) (fun _ M1 hM1 => B_some hM1)
theorem B_fX12_number_129 {x1 : Int} {x2 : Int} {x3 : Int} {x4 : Int} {M : q_Mem} (h : p_B M) : q_B (fX12_number_129 x1 x2 x3 x4 M) := by
  unfold fX12_number_129
  exact B_letM h (by omega) (fun M1 hM1 => B_bd (B_fX12_isIn hM1) (fun x21 M2 hM2 => B_ite (B_bd (B_fX12_fail (by decide) hM2) (fun _ M3 hM3 => B_some hM3)) (B_some hM2)))
theorem B_fX12_number_49 (n : Nat) : ∀ {x1 x2 x3 x4 : Int} {M : q_Mem}, p_B M → q_B (fX12_number_49  n x1 x2 x3 x4 M) := by
  induction n with
  | zero => intros; exact B_none
  | succ n ih =>
    intro x1 x2 x3 x4 M h
    rw [fX12_number_49]
    exact B_ite (B_ld (fun x21 => B_bd (B_fX12_isDigit h) (fun x22 M1 hM1 => B_ite (B_fX12_number_129 hM1) (B_ite (B_bd (B_fX12_fail (by decide) hM1) (fun _ M3 hM3 => B_some hM3)) (B_ld (fun x23 => B_let (B_letM hM1 (by omega) (fun M2 hM2 => ih hM2)))))))) (B_fX12_number_129 h)
theorem B_fX12_number {x1 : Int} {x2 : Int} {M : q_Mem} (h : p_B M) : q_B (fX12_number x1 x2 M) := by
  unfold fX12_number
  exact B_ite (B_bd (B_fX12_look h) (fun x21 M1 hM1 => B_bd (B_fX12_isDigit hM1) (fun x22 M2 hM2 => B_ite (B_fX12_number_30 hM2) (B_ite (B_fX12_number_30 hM2) (B_let (B_fX12_number_49 _ hM2)))))) (B_some h)
theorem B_fX12_isOwnHere_315 {M : q_Mem} (h : p_B M) : q_B (fX12_isOwnHere_315  M) := by
  unfold fX12_isOwnHere_315
  exact B_some h
theorem B_fX12_isOwnHere_299 {s0 : Int} {M : q_Mem} (h : p_B M) : q_B (fX12_isOwnHere_299 s0 M) := by
  unfold fX12_isOwnHere_299
  exact B_ite (B_bd (B_fX12_isHere h) (fun x21 M1 hM1 => B_ite (B_some hM1) (B_fX12_isOwnHere_315 hM1))) (B_fX12_isOwnHere_315 h)
theorem B_fX12_isOwnHere_294 {M : q_Mem} (h : p_B M) : q_B (fX12_isOwnHere_294  M) := by
  unfold fX12_isOwnHere_294
  exact B_fX12_isOwnHere_299 h
theorem B_fX12_isOwnHere_223 {s0 : Int} {M : q_Mem} (h : p_B M) : q_B (fX12_isOwnHere_223 s0 M) := by
  unfold fX12_isOwnHere_223
  exact B_ite (B_bd (B_fX12_isHere h) (fun x21 M1 hM1 => B_ite (B_bd (B_fX12_isHere hM1) (fun x22 M2 hM2 => B_ite (B_bd (B_fX12_isHere hM2) (fun x23 M3 hM3 => B_ite (B_bd (B_fX12_isHere hM3) (fun x24 M4 hM4 => B_ite (B_bd (B_fX12_isHere hM4) (fun x25 M5 hM5 => B_ite (B_bd (B_fX12_isHere hM5) (fun x26 M6 hM6 => B_ite (B_fX12_isOwnHere_299 hM6) (B_fX12_isOwnHere_294 hM6))) (B_fX12_isOwnHere_294 hM5))) (B_fX12_isOwnHere_294 hM4))) (B_fX12_isOwnHere_294 hM3))) (B_fX12_isOwnHere_294 hM2))) (B_fX12_isOwnHere_294 hM1))) (B_fX12_isOwnHere_294 h)
theorem B_fX12_isOwnHere_218 {M : q_Mem} (h : p_B M) : q_B (fX12_isOwnHere_218  M) := by
  unfold fX12_isOwnHere_218
  exact B_fX12_isOwnHere_223 h
theorem B_fX12_isOwnHere_147 {s0 : Int} {M : q_Mem} (h : p_B M) : q_B (fX12_isOwnHere_147 s0 M) := by
  unfold fX12_isOwnHere_147
  exact B_ite (B_bd (B_fX12_isHere h) (fun x21 M1 hM1 => B_ite (B_bd (B_fX12_isHere hM1) (fun x22 M2 hM2 => B_ite (B_bd (B_fX12_isHere hM2) (fun x23 M3 hM3 => B_ite (B_bd (B_fX12_isHere hM3) (fun x24 M4 hM4 => B_ite (B_bd (B_fX12_isHere hM4) (fun x25 M5 hM5 => B_ite (B_bd (B_fX12_isHere hM5) (fun x26 M6 hM6 => B_ite (B_fX12_isOwnHere_223 hM6) (B_fX12_isOwnHere_218 hM6))) (B_fX12_isOwnHere_218 hM5))) (B_fX12_isOwnHere_218 hM4))) (B_fX12_isOwnHere_218 hM3))) (B_fX12_isOwnHere_218 hM2))) (B_fX12_isOwnHere_218 hM1))) (B_fX12_isOwnHere_218 h)
theorem B_fX12_isOwnHere_142 {M : q_Mem} (h : p_B M) : q_B (fX12_isOwnHere_142  M) := by
  unfold fX12_isOwnHere_142
  exact B_fX12_isOwnHere_147 h
theorem B_fX12_isOwnHere_71 {s0 : Int} {M : q_Mem} (h : p_B M) : q_B (fX12_isOwnHere_71 s0 M) := by
  unfold fX12_isOwnHere_71
  exact B_ite (B_bd (B_fX12_isHere h) (fun x21 M1 hM1 => B_ite (B_bd (B_fX12_isHere hM1) (fun x22 M2 hM2 => B_ite (B_bd (B_fX12_isHere hM2) (fun x23 M3 hM3 => B_ite (B_bd (B_fX12_isHere hM3) (fun x24 M4 hM4 => B_ite (B_bd (B_fX12_isHere hM4) (fun x25 M5 hM5 => B_ite (B_bd (B_fX12_isHere hM5) (fun x26 M6 hM6 => B_ite (B_fX12_isOwnHere_147 hM6) (B_fX12_isOwnHere_142 hM6))) (B_fX12_isOwnHere_142 hM5))) (B_fX12_isOwnHere_142 hM4))) (B_fX12_isOwnHere_142 hM3))) (B_fX12_isOwnHere_142 hM2))) (B_fX12_isOwnHere_142 hM1))) (B_fX12_isOwnHere_142 h)
theorem B_fX12_isOwnHere_66 {M : q_Mem} (h : p_B M) : q_B (fX12_isOwnHere_66  M) := by
  unfold fX12_isOwnHere_66
  exact B_fX12_isOwnHere_71 h
theorem B_fX12_isOwnHere {M : q_Mem} (h : p_B M) : q_B (fX12_isOwnHere  M) := by
  unfold fX12_isOwnHere
  exact B_bd (B_fX12_isHere h) (fun x21 M1 hM1 => B_ite (B_bd (B_fX12_isHere hM1) (fun x22 M2 hM2 => B_ite (B_bd (B_fX12_isHere hM2) (fun x23 M3 hM3 => B_ite (B_bd (B_fX12_isHere hM3) (fun x24 M4 hM4 => B_ite (B_bd (B_fX12_isHere hM4) (fun x25 M5 hM5 => B_ite (B_bd (B_fX12_isHere hM5) (fun x26 M6 hM6 => B_ite (B_fX12_isOwnHere_71 hM6) (B_fX12_isOwnHere_66 hM6))) (B_fX12_isOwnHere_66 hM5))) (B_fX12_isOwnHere_66 hM4))) (B_fX12_isOwnHere_66 hM3))) (B_fX12_isOwnHere_66 hM2))) (B_fX12_isOwnHere_66 hM1))
theorem B_fX12_name_37 {M : q_Mem} (h : p_B M) : q_B (fX12_name_37  M) := by
  unfold fX12_name_37
  exact B_bd (B_fX12_fail (by decide) h) (fun _ M1 hM1 => B_some hM1)
theorem B_fX12_name_145 {x1 : Int} {M : q_Mem} (h : p_B M) : q_B (fX12_name_145 x1 M) := by
  unfold fX12_name_145
  exact B_letM h (by omega) (fun M1 hM1 => B_some hM1)
theorem B_fX12_name_58 (n : Nat) : ∀ {x1 : Int} {M : q_Mem}, p_B M → q_B (fX12_name_58  n x1 M) := by
  induction n with
  | zero => intros; exact B_none
  | succ n ih =>
    intro x1 M h
    rw [fX12_name_58]
    exact B_ite (B_ld (fun x21 => B_bd (B_fX12_isLetter h) (fun x22 M1 hM1 => B_ite (B_fX12_name_145 hM1) (B_ite (B_bd (B_fX12_fail (by decide) hM1) (fun _ M3 hM3 => B_some hM3)) (B_ld (fun x23 => B_let (B_letM hM1 (by omega) (fun M2 hM2 => ih hM2)))))))) (B_fX12_name_145 h)
theorem B_fX12_name {M : q_Mem} (h : p_B M) : q_B (fX12_name  M) := by
  unfold fX12_name
  exact B_ite (B_bd (B_fX12_look h) (fun x21 M1 hM1 => B_bd (B_fX12_isLetter hM1) (fun x22 M2 hM2 => B_ite (B_fX12_name_37 hM2) (B_ite (B_fX12_name_37 hM2) (B_bd (B_fX12_isOwnHere hM2) (fun x23 M3 hM3 => B_ite (B_letM hM3 (by omega) (fun M4 hM4 => B_fX12_name_58 _ hM4)) (B_fX12_name_37 hM3))))))) (B_some h)
theorem B_fX12_isAllowed_57 {M : q_Mem} (h : p_B M) : q_B (fX12_isAllowed_57  M) := by
  unfold fX12_isAllowed_57
  exact B_some h
theorem B_fX12_isAllowed {x1 : Int} {M : q_Mem} (h : p_B M) : q_B (fX12_isAllowed x1 M) := by
  unfold fX12_isAllowed
  exact B_ite (B_ite (B_some h) (B_some h)) (B_ite (B_ite (B_some h) (B_some h)) (B_ite (B_fX12_isAllowed_57 h) (B_ite (B_fX12_isAllowed_57 h) (B_ite (B_fX12_isAllowed_57 h) (B_some h)))))
theorem B_fX12_isFull_23 {M : q_Mem} (h : p_B M) : q_B (fX12_isFull_23  M) := by
  unfold fX12_isFull_23
  exact B_ite (B_some h) (B_some h)
theorem B_fX12_isFull {x1 : Int} {x2 : Int} {x3 : Int} {M : q_Mem} (h : p_B M) : q_B (fX12_isFull x1 x2 x3 M) := by
  unfold fX12_isFull
  exact B_ite (B_ld (fun x21 => B_ite (B_bd (B_fX12_fail (by decide) h) (fun _ M1 hM1 => B_fX12_isFull_23 hM1)) (B_fX12_isFull_23 h))) (B_fX12_isFull_23 h)
theorem B_fX12_newName_59 {K7 : Int → Int → q_Mem → Option (Int × q_Mem)} {K15 : Int → Int → Int → q_Mem → Option (Int × q_Mem)} {x1 : Int} {x3 : Int} {x4 : Int} (hK7 : ∀ {y0 y1 M}, p_B M → q_B (K7 y0 y1 M)) (hK15 : ∀ {y0 y1 y2 M}, p_B M → q_B (K15 y0 y1 y2 M)) {M : q_Mem} (h : p_B M) : q_B (fX12_newName_59 K7 K15 x1 x3 x4 M) := by
  unfold fX12_newName_59
  exact hK15 h
theorem B_fX12_newName_15 {K7 : Int → Int → q_Mem → Option (Int × q_Mem)} (hK7 : ∀ {y0 y1 M}, p_B M → q_B (K7 y0 y1 M)) (n : Nat) : ∀ {x1 x3 x4 : Int} {M : q_Mem}, p_B M → q_B (fX12_newName_15 K7 n x1 x3 x4 M) := by
  induction n with
  | zero => intros; exact B_none
  | succ n ih =>
    intro x1 x3 x4 M h
    rw [fX12_newName_15]
    exact B_ld (fun x21 => B_ite (B_ite (B_ld (fun x22 => B_ite (B_bd (B_fX12_fail (by decide) h) (fun _ M1 hM1 => B_fX12_newName_59 (fun hh => hK7 hh) (fun hh => ih hh) hM1)) (B_fX12_newName_59 (fun hh => hK7 hh) (fun hh => ih hh) h))) (B_fX12_newName_59 (fun hh => hK7 hh) (fun hh => ih hh) h)) (hK7 h))
theorem B_fX12_newName_7 (n : Nat) : ∀ {x1 x3 : Int} {M : q_Mem}, p_B M → q_B (fX12_newName_7  n x1 x3 M) := by
  induction n with
  | zero => intros; exact B_none
  | succ n ih =>
    intro x1 x3 M h
    rw [fX12_newName_7]
    exact B_ite (B_fX12_newName_15 (fun hh => ih hh) _ h) (B_some h)
theorem B_fX12_newName {M : q_Mem} (h : p_B M) : q_B (fX12_newName  M) := by
  unfold fX12_newName
  exact B_bd (B_fX12_name h) (fun x21 M1 hM1 => B_fX12_newName_7 _ hM1)
theorem B_fX12_fairTold {M : q_Mem} (h : p_B M) : q_B (fX12_fairTold  M) := by
  unfold fX12_fairTold
  exact B_bd (B_fX12_asks h) (fun _ M1 hM1 => B_bd (B_fX12_number hM1) (fun x21 M2 hM2 => B_sto hM2 (by decide) (fun M3 hM3 => B_bd (B_fX12_asksSign hM3) (fun _ M4 hM4 => B_some hM4))))
theorem B_fX12_stallTold {x1 : Int} {M : q_Mem} (h : p_B M) : q_B (fX12_stallTold x1 M) := by
  unfold fX12_stallTold
  exact B_bd (B_fX12_isFull h) (fun x21 M1 hM1 => B_ite (B_bd (B_fX12_newName hM1) (fun x22 M2 hM2 => B_bd (B_fX12_asks hM2) (fun _ M3 hM3 => B_bd (B_fX12_number hM3) (fun x23 M4 hM4 => B_bd (B_fX12_asks hM4) (fun _ M5 hM5 => B_bd (B_fX12_number hM5) (fun x24 M6 hM6 => B_bd (B_fX12_asks hM6) (fun _ M7 hM7 => B_bd (B_fX12_number hM7) (fun x25 M8 hM8 => B_bd (B_fX12_asks hM8) (fun _ M9 hM9 => B_bd (B_fX12_number hM9) (fun x26 M10 hM10 => B_ite (B_ld (fun x27 => B_let (B_ld (fun x29 => B_sto hM10 (by decide) (fun M11 hM11 => B_sto hM11 (by decide) (fun M12 hM12 => B_sto hM12 (by decide) (fun M13 hM13 => B_sto hM13 (by decide) (fun M14 hM14 => B_sto hM14 (by decide) (fun M15 hM15 => B_ld (fun x30 => B_sto hM15 (by decide) (fun M16 hM16 => B_some hM16))))))))))) (B_some hM10))))))))))) (B_some hM1))
theorem B_fX12_coinTold {x1 : Int} {M : q_Mem} (h : p_B M) : q_B (fX12_coinTold x1 M) := by
  unfold fX12_coinTold
  exact B_bd (B_fX12_isFull h) (fun x21 M1 hM1 => B_ite (B_bd (B_fX12_newName hM1) (fun x22 M2 hM2 => B_bd (B_fX12_asks hM2) (fun _ M3 hM3 => B_bd (B_fX12_number hM3) (fun x23 M4 hM4 => B_bd (B_fX12_asks hM4) (fun _ M5 hM5 => B_bd (B_fX12_number hM5) (fun x24 M6 hM6 => B_ite (B_ld (fun x25 => B_sto hM6 (by decide) (fun M7 hM7 => B_ld (fun x26 => B_sto hM7 (by decide) (fun M8 hM8 => B_ld (fun x27 => B_sto hM8 (by decide) (fun M9 hM9 => B_ld (fun x28 => B_sto hM9 (by decide) (fun M10 hM10 => B_some hM10))))))))) (B_some hM6))))))) (B_some hM1))
theorem B_fX12_cloudTold {x1 : Int} {M : q_Mem} (h : p_B M) : q_B (fX12_cloudTold x1 M) := by
  unfold fX12_cloudTold
  exact B_bd (B_fX12_isFull h) (fun x21 M1 hM1 => B_ite (B_bd (B_fX12_number hM1) (fun x22 M2 hM2 => B_bd (B_fX12_asks hM2) (fun _ M3 hM3 => B_bd (B_fX12_number hM3) (fun x23 M4 hM4 => B_ite (B_ld (fun x24 => B_sto hM4 (by decide) (fun M5 hM5 => B_ld (fun x25 => B_sto hM5 (by decide) (fun M6 hM6 => B_ld (fun x26 => B_sto hM6 (by decide) (fun M7 hM7 => B_some hM7))))))) (B_some hM4))))) (B_some hM1))
theorem B_fX12_qOpens {x1 : Int} {x2 : Int} {M : q_Mem} (h : p_B M) : q_B (fX12_qOpens x1 x2 M) := by
  unfold fX12_qOpens
  exact B_ite (B_ite (B_bd (B_fX12_fail (by decide) h) (fun _ M4 hM4 => B_some hM4)) (B_letM h (by omega) (fun M1 hM1 => B_sto hM1 (by decide) (fun M2 hM2 => B_letM hM2 (by omega) (fun M3 hM3 => B_some hM3))))) (B_some h)
theorem B_fX12_qCode {x1 : Int} {M : q_Mem} (h : p_B M) : q_B (fX12_qCode x1 M) := by
  unfold fX12_qCode
  exact B_sto h (by decide) (fun M1 hM1 => B_letM hM1 (by omega) (fun M2 hM2 => B_some hM2))
theorem B_fX12_qWordHere {M : q_Mem} (h : p_B M) : q_B (fX12_qWordHere  M) := by
  unfold fX12_qWordHere
  exact B_bd (B_fX12_isHere h) (fun x21 M1 hM1 => B_ite (B_bd (B_fX12_isHere hM1) (fun x22 M2 hM2 => B_ite (B_bd (B_fX12_isHere hM2) (fun x23 M3 hM3 => B_ite (B_bd (B_fX12_isHere hM3) (fun x24 M4 hM4 => B_ite (B_bd (B_fX12_isHere hM4) (fun x25 M5 hM5 => B_ite (B_bd (B_fX12_isHere hM5) (fun x26 M6 hM6 => B_ite (B_bd (B_fX12_isHere hM6) (fun x27 M7 hM7 => B_ite (B_bd (B_fX12_isHere hM7) (fun x28 M8 hM8 => B_ite (B_bd (B_fX12_isHere hM8) (fun x29 M9 hM9 => B_ite (B_bd (B_fX12_isHere hM9) (fun x30 M10 hM10 => B_ite (B_some hM10) (B_some hM10))) (B_some hM9))) (B_some hM8))) (B_some hM7))) (B_some hM6))) (B_some hM5))) (B_some hM4))) (B_some hM3))) (B_some hM2))) (B_some hM1))
theorem B_fX12_qWordOf {x1 : Int} {x2 : Int} {M : q_Mem} (h : p_B M) : q_B (fX12_qWordOf x1 x2 M) := by
  unfold fX12_qWordOf
  exact B_bd (B_fX12_qWordHere h) (fun x21 M1 hM1 => B_ite (B_some hM1) (B_ite (B_bd (B_fX12_isAllowed hM1) (fun x22 M2 hM2 => B_ite (B_some hM2) (B_some hM2))) (B_some hM1)))
theorem B_fX12_qAsksWord {x1 : Int} {M : q_Mem} (h : p_B M) : q_B (fX12_qAsksWord x1 M) := by
  unfold fX12_qAsksWord
  exact B_ite (B_bd (B_fX12_asks h) (fun _ M1 hM1 => B_some hM1)) (B_ite (B_bd (B_fX12_asks h) (fun _ M2 hM2 => B_some hM2)) (B_ite (B_bd (B_fX12_asks h) (fun _ M3 hM3 => B_some hM3)) (B_ite (B_bd (B_fX12_asks h) (fun _ M4 hM4 => B_some hM4)) (B_ite (B_bd (B_fX12_asks h) (fun _ M5 hM5 => B_some hM5)) (B_ite (B_bd (B_fX12_asks h) (fun _ M6 hM6 => B_some hM6)) (B_ite (B_bd (B_fX12_asks h) (fun _ M7 hM7 => B_some hM7)) (B_ite (B_bd (B_fX12_asks h) (fun _ M8 hM8 => B_some hM8)) (B_ite (B_bd (B_fX12_asks h) (fun _ M9 hM9 => B_some hM9)) (B_bd (B_fX12_asks h) (fun _ M10 hM10 => B_some hM10))))))))))
theorem B_fX12_qDrops {M : q_Mem} (h : p_B M) : q_B (fX12_qDrops  M) := by
  unfold fX12_qDrops
  exact B_letM h (by omega) (fun M1 hM1 => B_ld (fun x21 => B_bd (B_fX12_qCode hM1) (fun _ M2 hM2 => B_some hM2)))
theorem B_fX12_qEndsPart_0 (n : Nat) : ∀ {M : q_Mem}, p_B M → q_B (fX12_qEndsPart_0  n  M) := by
  induction n with
  | zero => intros; exact B_none
  | succ n ih =>
    intro  M h
    rw [fX12_qEndsPart_0]
    exact B_ite (B_ite (B_ld (fun x21 => B_ite (B_some h) (B_letM h (by omega) (fun M1 hM1 => B_bd (B_fX12_qDrops hM1) (fun _ M2 hM2 => ih hM2))))) (B_some h)) (B_some h)
theorem B_fX12_qEndsPart {M : q_Mem} (h : p_B M) : q_B (fX12_qEndsPart  M) := by
  unfold fX12_qEndsPart
  exact B_fX12_qEndsPart_0 _ h
theorem B_fX12_qPartTold_183 {K2 : Int → q_Mem → Option (Int × q_Mem)} {x1 : Int} (hK2 : ∀ {y0 M}, p_B M → q_B (K2 y0 M)) {M : q_Mem} (h : p_B M) : q_B (fX12_qPartTold_183 K2 x1 M) := by
  unfold fX12_qPartTold_183
  exact hK2 h
theorem B_fX12_qPartTold_144 {K2 : Int → q_Mem → Option (Int × q_Mem)} {x1 : Int} (hK2 : ∀ {y0 M}, p_B M → q_B (K2 y0 M)) {M : q_Mem} (h : p_B M) : q_B (fX12_qPartTold_144 K2 x1 M) := by
  unfold fX12_qPartTold_144
  exact B_bd (B_fX12_asksSign h) (fun _ M1 hM1 => B_fX12_qPartTold_183 (fun hh => hK2 hh) hM1)
theorem B_fX12_qPartTold_139 {K2 : Int → q_Mem → Option (Int × q_Mem)} {x1 : Int} {x5 : Int} {s0 : Int} (hK2 : ∀ {y0 M}, p_B M → q_B (K2 y0 M)) {M : q_Mem} (h : p_B M) : q_B (fX12_qPartTold_139 K2 x1 x5 s0 M) := by
  unfold fX12_qPartTold_139
  exact B_bd (B_fX12_qOpens h) (fun _ M1 hM1 => B_fX12_qPartTold_144 (fun hh => hK2 hh) hM1)
theorem B_fX12_qPartTold_118 {K2 : Int → q_Mem → Option (Int × q_Mem)} {x1 : Int} {x4 : Int} {s0 : Int} (hK2 : ∀ {y0 M}, p_B M → q_B (K2 y0 M)) {M : q_Mem} (h : p_B M) : q_B (fX12_qPartTold_118 K2 x1 x4 s0 M) := by
  unfold fX12_qPartTold_118
  exact B_ite (B_fX12_qPartTold_144 (fun hh => hK2 hh) h) (B_ite (B_fX12_qPartTold_139 (fun hh => hK2 hh) h) (B_fX12_qPartTold_139 (fun hh => hK2 hh) h))
theorem B_fX12_qPartTold_101 {K2 : Int → q_Mem → Option (Int × q_Mem)} {x1 : Int} {x4 : Int} (hK2 : ∀ {y0 M}, p_B M → q_B (K2 y0 M)) {M : q_Mem} (h : p_B M) : q_B (fX12_qPartTold_101 K2 x1 x4 M) := by
  unfold fX12_qPartTold_101
  exact B_bd (B_fX12_look h) (fun x21 M1 hM1 => B_ite (B_fX12_qPartTold_118 (fun hh => hK2 hh) hM1) (B_fX12_qPartTold_118 (fun hh => hK2 hh) hM1))
theorem B_fX12_qPartTold_78 {K2 : Int → q_Mem → Option (Int × q_Mem)} {x1 : Int} (hK2 : ∀ {y0 M}, p_B M → q_B (K2 y0 M)) {M : q_Mem} (h : p_B M) : q_B (fX12_qPartTold_78 K2 x1 M) := by
  unfold fX12_qPartTold_78
  exact B_bd (B_fX12_takes h) (fun x21 M1 hM1 => B_ite (B_bd (B_fX12_asks hM1) (fun _ M2 hM2 => B_fX12_qPartTold_101 (fun hh => hK2 hh) hM2)) (B_fX12_qPartTold_101 (fun hh => hK2 hh) hM1))
theorem B_fX12_qPartTold_237 {s0 : Int} {M : q_Mem} (h : p_B M) : q_B (fX12_qPartTold_237 s0 M) := by
  unfold fX12_qPartTold_237
  exact B_bd (B_fX12_qCode h) (fun _ M1 hM1 => B_bd (B_fX12_qEndsPart hM1) (fun _ M2 hM2 => B_some hM2))
theorem B_fX12_qPartTold_212 {x2 : Int} {M : q_Mem} (h : p_B M) : q_B (fX12_qPartTold_212 x2 M) := by
  unfold fX12_qPartTold_212
  exact B_ite (B_bd (B_fX12_number h) (fun x21 M1 hM1 => B_fX12_qPartTold_237 hM1)) (B_fX12_qPartTold_237 h)
theorem B_fX12_qPartTold_186 {M : q_Mem} (h : p_B M) : q_B (fX12_qPartTold_186  M) := by
  unfold fX12_qPartTold_186
  exact B_ite (B_bd (B_fX12_qWordOf h) (fun x21 M1 hM1 => B_ite (B_fX12_qPartTold_212 hM1) (B_bd (B_fX12_qAsksWord hM1) (fun _ M2 hM2 => B_fX12_qPartTold_212 hM2)))) (B_some h)
theorem B_fX12_qPartTold_2 (n : Nat) : ∀ {x1 : Int} {M : q_Mem}, p_B M → q_B (fX12_qPartTold_2  n x1 M) := by
  induction n with
  | zero => intros; exact B_none
  | succ n ih =>
    intro x1 M h
    rw [fX12_qPartTold_2]
    exact B_ite (B_fX12_qPartTold_186 h) (B_ite (B_bd (B_fX12_look h) (fun x21 M1 hM1 => B_bd (B_fX12_qWordOf hM1) (fun x22 M2 hM2 => B_ite (B_bd (B_fX12_qOpens hM2) (fun _ M7 hM7 => B_letM hM7 (by omega) (fun M8 hM8 => B_fX12_qPartTold_183 (fun hh => ih hh) hM8))) (B_bd (B_fX12_isHere hM2) (fun x23 M3 hM3 => B_ite (B_bd (B_fX12_isHere hM3) (fun x24 M4 hM4 => B_ite (B_ite (B_fX12_qPartTold_183 (fun hh => ih hh) hM4) (B_bd (B_fX12_qOpens hM4) (fun _ M5 hM5 => B_bd (B_fX12_qAsksWord hM5) (fun _ M6 hM6 => B_fX12_qPartTold_183 (fun hh => ih hh) hM6)))) (B_fX12_qPartTold_78 (fun hh => ih hh) hM4))) (B_fX12_qPartTold_78 (fun hh => ih hh) hM3)))))) (B_fX12_qPartTold_186 h))
theorem B_fX12_qPartTold {M : q_Mem} (h : p_B M) : q_B (fX12_qPartTold  M) := by
  unfold fX12_qPartTold
  exact B_fX12_qPartTold_2 _ h
theorem B_fX12_qIsBracket {x0 : Int} {M : q_Mem} (h : p_B M) : q_B (fX12_qIsBracket x0 M) := by
  unfold fX12_qIsBracket
  exact B_ite (B_some h) (B_ite (B_some h) (B_some h))
theorem B_fX12_qBracket_33 {x1 : Int} {M : q_Mem} (h : p_B M) : q_B (fX12_qBracket_33 x1 M) := by
  unfold fX12_qBracket_33
  exact B_ite (B_some h) (B_ld (fun x21 => B_some h))
theorem B_fX12_qBracket_7 (n : Nat) : ∀ {x1 : Int} {M : q_Mem}, p_B M → q_B (fX12_qBracket_7  n x1 M) := by
  induction n with
  | zero => intros; exact B_none
  | succ n ih =>
    intro x1 M h
    rw [fX12_qBracket_7]
    exact B_ite (B_fX12_qBracket_33 h) (B_ld (fun x21 => B_bd (B_fX12_qIsBracket h) (fun x22 M1 hM1 => B_ite (ih hM1) (B_fX12_qBracket_33 hM1))))
theorem B_fX12_qBracket {M : q_Mem} (h : p_B M) : q_B (fX12_qBracket  M) := by
  unfold fX12_qBracket
  exact B_let (B_fX12_qBracket_7 _ h)
theorem B_fX12_qDropsToBracket_0 (n : Nat) : ∀ {M : q_Mem}, p_B M → q_B (fX12_qDropsToBracket_0  n  M) := by
  induction n with
  | zero => intros; exact B_none
  | succ n ih =>
    intro  M h
    rw [fX12_qDropsToBracket_0]
    exact B_ite (B_ld (fun x21 => B_bd (B_fX12_qIsBracket h) (fun x22 M1 hM1 => B_ite (B_bd (B_fX12_qDrops hM1) (fun _ M2 hM2 => ih hM2)) (B_some hM1)))) (B_some h)
theorem B_fX12_qDropsToBracket {M : q_Mem} (h : p_B M) : q_B (fX12_qDropsToBracket  M) := by
  unfold fX12_qDropsToBracket
  exact B_fX12_qDropsToBracket_0 _ h
theorem B_fX12_qIsOn {x1 : Int} {M : q_Mem} (h : p_B M) : q_B (fX12_qIsOn x1 M) := by
  unfold fX12_qIsOn
  exact B_ite (B_ld (fun x21 => B_ite (B_some h) (B_some h))) (B_some h)
theorem B_fX12_qGoesOn_115 {K0 : q_Mem → Option (Int × q_Mem)} (hK0 : ∀ { M}, p_B M → q_B (K0  M)) {M : q_Mem} (h : p_B M) : q_B (fX12_qGoesOn_115 K0 M) := by
  unfold fX12_qGoesOn_115
  exact B_bd (B_fX12_qEndsPart h) (fun _ M1 hM1 => hK0 hM1)
theorem B_fX12_qGoesOn_112 {K0 : q_Mem → Option (Int × q_Mem)} {s0 : Int} (hK0 : ∀ { M}, p_B M → q_B (K0  M)) {M : q_Mem} (h : p_B M) : q_B (fX12_qGoesOn_112 K0 s0 M) := by
  unfold fX12_qGoesOn_112
  exact B_bd (B_fX12_qCode h) (fun _ M1 hM1 => B_fX12_qGoesOn_115 (fun hh => hK0 hh) hM1)
theorem B_fX12_qGoesOn_43 {K0 : q_Mem → Option (Int × q_Mem)} (hK0 : ∀ { M}, p_B M → q_B (K0  M)) {M : q_Mem} (h : p_B M) : q_B (fX12_qGoesOn_43 K0 M) := by
  unfold fX12_qGoesOn_43
  exact B_letM h (by omega) (fun M1 hM1 => B_bd (B_fX12_qDropsToBracket hM1) (fun _ M2 hM2 => B_letM hM2 (by omega) (fun M3 hM3 => B_letM hM3 (by omega) (fun M4 hM4 => B_ld (fun x21 => B_ite (B_fX12_qGoesOn_115 (fun hh => hK0 hh) hM4) (B_ld (fun x22 => B_ite (B_fX12_qGoesOn_112 (fun hh => hK0 hh) hM4) (B_fX12_qGoesOn_112 (fun hh => hK0 hh) hM4))))))))
theorem B_fX12_qGoesOn_178 {K162 : Int → q_Mem → Option (Int × q_Mem)} {x1 : Int} (hK162 : ∀ {y0 M}, p_B M → q_B (K162 y0 M)) {M : q_Mem} (h : p_B M) : q_B (fX12_qGoesOn_178 K162 x1 M) := by
  unfold fX12_qGoesOn_178
  exact B_bd (B_fX12_qDrops h) (fun _ M1 hM1 => hK162 hM1)
theorem B_fX12_qGoesOn_162 (n : Nat) : ∀ {x1 : Int} {M : q_Mem}, p_B M → q_B (fX12_qGoesOn_162  n x1 M) := by
  induction n with
  | zero => intros; exact B_none
  | succ n ih =>
    intro x1 M h
    rw [fX12_qGoesOn_162]
    exact B_bd (B_fX12_qIsOn h) (fun x21 M1 hM1 => B_ite (B_bd (B_fX12_qIsOn hM1) (fun x22 M2 hM2 => B_ite (B_sto hM2 (by decide) (fun M3 hM3 => B_letM hM3 (by omega) (fun M4 hM4 => B_some hM4))) (B_fX12_qGoesOn_178 (fun hh => ih hh) hM2))) (B_fX12_qGoesOn_178 (fun hh => ih hh) hM1))
theorem B_fX12_qGoesOn_161 {s0 : Int} {M : q_Mem} (h : p_B M) : q_B (fX12_qGoesOn_161 s0 M) := by
  unfold fX12_qGoesOn_161
  exact B_fX12_qGoesOn_162 _ h
theorem B_fX12_qGoesOn_140 {M : q_Mem} (h : p_B M) : q_B (fX12_qGoesOn_140  M) := by
  unfold fX12_qGoesOn_140
  exact B_ld (fun x21 => B_ite (B_fX12_qGoesOn_161 h) (B_fX12_qGoesOn_161 h))
theorem B_fX12_qGoesOn_279 {K247 : Int → q_Mem → Option (Int × q_Mem)} {x1 : Int} (hK247 : ∀ {y0 M}, p_B M → q_B (K247 y0 M)) {M : q_Mem} (h : p_B M) : q_B (fX12_qGoesOn_279 K247 x1 M) := by
  unfold fX12_qGoesOn_279
  exact B_bd (B_fX12_qDrops h) (fun _ M1 hM1 => hK247 hM1)
theorem B_fX12_qGoesOn_247 (n : Nat) : ∀ {x1 : Int} {M : q_Mem}, p_B M → q_B (fX12_qGoesOn_247  n x1 M) := by
  induction n with
  | zero => intros; exact B_none
  | succ n ih =>
    intro x1 M h
    rw [fX12_qGoesOn_247]
    exact B_bd (B_fX12_qIsOn h) (fun x21 M1 hM1 => B_ite (B_bd (B_fX12_qIsOn hM1) (fun x22 M2 hM2 => B_ite (B_bd (B_fX12_qIsOn hM2) (fun x23 M3 hM3 => B_ite (B_bd (B_fX12_qIsOn hM3) (fun x24 M4 hM4 => B_ite (B_sto hM4 (by decide) (fun M5 hM5 => B_letM hM5 (by omega) (fun M6 hM6 => B_some hM6))) (B_fX12_qGoesOn_279 (fun hh => ih hh) hM4))) (B_fX12_qGoesOn_279 (fun hh => ih hh) hM3))) (B_fX12_qGoesOn_279 (fun hh => ih hh) hM2))) (B_fX12_qGoesOn_279 (fun hh => ih hh) hM1))
theorem B_fX12_qGoesOn_246 {s0 : Int} {M : q_Mem} (h : p_B M) : q_B (fX12_qGoesOn_246 s0 M) := by
  unfold fX12_qGoesOn_246
  exact B_fX12_qGoesOn_247 _ h
theorem B_fX12_qGoesOn_225 {M : q_Mem} (h : p_B M) : q_B (fX12_qGoesOn_225  M) := by
  unfold fX12_qGoesOn_225
  exact B_ld (fun x21 => B_ite (B_fX12_qGoesOn_246 h) (B_fX12_qGoesOn_246 h))
theorem B_fX12_qGoesOn_326 {M : q_Mem} (h : p_B M) : q_B (fX12_qGoesOn_326  M) := by
  unfold fX12_qGoesOn_326
  exact B_bd (B_fX12_asksSign h) (fun _ M1 hM1 => B_ite (B_bd (B_fX12_qDropsToBracket hM1) (fun _ M2 hM2 => B_let (B_ld (fun x22 => B_sto hM2 (by decide) (fun M3 hM3 => B_some hM3))))) (B_some hM1))
theorem B_fX12_qGoesOn_122 {M : q_Mem} (h : p_B M) : q_B (fX12_qGoesOn_122  M) := by
  unfold fX12_qGoesOn_122
  exact B_bd (B_fX12_takesSign h) (fun x21 M1 hM1 => B_ite (B_bd (B_fX12_takesSign hM1) (fun x22 M2 hM2 => B_ite (B_bd (B_fX12_takesSign hM2) (fun x23 M3 hM3 => B_ite (B_bd (B_fX12_takesSign hM3) (fun x24 M4 hM4 => B_ite (B_bd (B_fX12_qBracket hM4) (fun x25 M5 hM5 => B_ite (B_fX12_qGoesOn_326 hM5) (B_bd (B_fX12_qBracket hM5) (fun x26 M6 hM6 => B_ite (B_fX12_qGoesOn_326 hM6) (B_bd (B_fX12_qBracket hM6) (fun x27 M7 hM7 => B_ite (B_some hM7) (B_ite (B_bd (B_fX12_fail (by decide) hM7) (fun _ M8 hM8 => B_some hM8)) (B_some hM7)))))))) (B_fX12_qGoesOn_225 hM4))) (B_fX12_qGoesOn_225 hM3))) (B_fX12_qGoesOn_140 hM2))) (B_fX12_qGoesOn_140 hM1))
theorem B_fX12_qGoesOn_0 (n : Nat) : ∀ {M : q_Mem}, p_B M → q_B (fX12_qGoesOn_0  n  M) := by
  induction n with
  | zero => intros; exact B_none
  | succ n ih =>
    intro  M h
    rw [fX12_qGoesOn_0]
    exact B_ite (B_bd (B_fX12_look h) (fun x21 M1 hM1 => B_ite (B_bd (B_fX12_qBracket hM1) (fun x22 M2 hM2 => B_ite (B_fX12_qGoesOn_43 (fun hh => ih hh) hM2) (B_bd (B_fX12_qBracket hM2) (fun x23 M3 hM3 => B_ite (B_fX12_qGoesOn_43 (fun hh => ih hh) hM3) (B_bd (B_fX12_qBracket hM3) (fun x24 M4 hM4 => B_ite (B_fX12_qGoesOn_43 (fun hh => ih hh) hM4) (B_fX12_qGoesOn_122 hM4))))))) (B_fX12_qGoesOn_122 hM1))) (B_fX12_qGoesOn_122 h)
theorem B_fX12_qGoesOn {M : q_Mem} (h : p_B M) : q_B (fX12_qGoesOn  M) := by
  unfold fX12_qGoesOn
  exact B_fX12_qGoesOn_0 _ h
theorem B_fX12_qSums_49 {K15 : Int → Int → q_Mem → Option (Int × q_Mem)} {x1 : Int} {s0 : Int} (hK15 : ∀ {y0 y1 M}, p_B M → q_B (K15 y0 y1 M)) {M : q_Mem} (h : p_B M) : q_B (fX12_qSums_49 K15 x1 s0 M) := by
  unfold fX12_qSums_49
  exact hK15 h
theorem B_fX12_qSums_48 {K15 : Int → Int → q_Mem → Option (Int × q_Mem)} {x1 : Int} (hK15 : ∀ {y0 y1 M}, p_B M → q_B (K15 y0 y1 M)) {M : q_Mem} (h : p_B M) : q_B (fX12_qSums_48 K15 x1 M) := by
  unfold fX12_qSums_48
  exact B_fX12_qSums_49 (fun hh => hK15 hh) h
theorem B_fX12_qSums_78 {x1 : Int} {M : q_Mem} (h : p_B M) : q_B (fX12_qSums_78 x1 M) := by
  unfold fX12_qSums_78
  exact B_letM h (by omega) (fun M1 hM1 => B_some hM1)
theorem B_fX12_qSums_53 (n : Nat) : ∀ {x1 : Int} {M : q_Mem}, p_B M → q_B (fX12_qSums_53  n x1 M) := by
  induction n with
  | zero => intros; exact B_none
  | succ n ih =>
    intro x1 M h
    rw [fX12_qSums_53]
    exact B_ite (B_ite (B_bd (B_fX12_qDrops h) (fun _ M1 hM1 => ih hM1)) (B_fX12_qSums_78 h)) (B_fX12_qSums_78 h)
theorem B_fX12_qSums_15 (n : Nat) : ∀ {x1 x2 : Int} {M : q_Mem}, p_B M → q_B (fX12_qSums_15  n x1 x2 M) := by
  induction n with
  | zero => intros; exact B_none
  | succ n ih =>
    intro x1 x2 M h
    rw [fX12_qSums_15]
    exact B_ite (B_fX12_qSums_53 _ h) (B_ite (B_bd (B_fX12_qPartTold h) (fun _ M1 hM1 => B_ite (B_bd (B_fX12_qGoesOn hM1) (fun x21 M2 hM2 => B_ite (B_fX12_qSums_48 (fun hh => ih hh) hM2) (B_fX12_qSums_49 (fun hh => ih hh) hM2))) (B_fX12_qSums_48 (fun hh => ih hh) hM1))) (B_fX12_qSums_53 _ h))
theorem B_fX12_qSums {M : q_Mem} (h : p_B M) : q_B (fX12_qSums  M) := by
  unfold fX12_qSums
  exact B_let (B_letM h (by omega) (fun M1 hM1 => B_fX12_qSums_15 _ hM1))
theorem B_fX12_qFact_102 {s0 : Int} {M : q_Mem} (h : p_B M) : q_B (fX12_qFact_102 s0 M) := by
  unfold fX12_qFact_102
  exact B_bd (B_fX12_qCode h) (fun _ M1 hM1 => B_some hM1)
theorem B_fX12_qFact_63 {x1 : Int} {M : q_Mem} (h : p_B M) : q_B (fX12_qFact_63 x1 M) := by
  unfold fX12_qFact_63
  exact B_letM h (by omega) (fun M1 hM1 => B_bd (B_fX12_qSums hM1) (fun _ M2 hM2 => B_ite (B_fX12_qFact_102 hM2) (B_ite (B_fX12_qFact_102 hM2) (B_fX12_qFact_102 hM2))))
theorem B_fX12_qFact {M : q_Mem} (h : p_B M) : q_B (fX12_qFact  M) := by
  unfold fX12_qFact
  exact B_bd (B_fX12_takes h) (fun x21 M1 hM1 => B_ite (B_bd (B_fX12_qSums hM1) (fun _ M2 hM2 => B_ite (B_bd (B_fX12_look hM2) (fun x22 M3 hM3 => B_ite (B_fX12_qFact_63 hM3) (B_ite (B_fX12_qFact_63 hM3) (B_ite (B_fX12_qFact_63 hM3) (B_bd (B_fX12_fail (by decide) hM3) (fun _ M4 hM4 => B_some hM4)))))) (B_some hM2))) (B_bd (B_fX12_qCode hM1) (fun _ M5 hM5 => B_some hM5)))
theorem B_fX12_qDropsNots_0 (n : Nat) : ∀ {M : q_Mem}, p_B M → q_B (fX12_qDropsNots_0  n  M) := by
  induction n with
  | zero => intros; exact B_none
  | succ n ih =>
    intro  M h
    rw [fX12_qDropsNots_0]
    exact B_ite (B_bd (B_fX12_qIsOn h) (fun x21 M1 hM1 => B_ite (B_some hM1) (B_letM hM1 (by omega) (fun M2 hM2 => B_bd (B_fX12_qDrops hM2) (fun _ M3 hM3 => ih hM3))))) (B_some h)
theorem B_fX12_qDropsNots {M : q_Mem} (h : p_B M) : q_B (fX12_qDropsNots  M) := by
  unfold fX12_qDropsNots
  exact B_fX12_qDropsNots_0 _ h
theorem B_fX12_qHasSquare_2 (n : Nat) : ∀ {x1 : Int} {M : q_Mem}, p_B M → q_B (fX12_qHasSquare_2  n x1 M) := by
  induction n with
  | zero => intros; exact B_none
  | succ n ih =>
    intro x1 M h
    rw [fX12_qHasSquare_2]
    exact B_ite (B_ld (fun x21 => B_ite (B_some h) (ih h))) (B_some h)
theorem B_fX12_qHasSquare {M : q_Mem} (h : p_B M) : q_B (fX12_qHasSquare  M) := by
  unfold fX12_qHasSquare
  exact B_fX12_qHasSquare_2 _ h
theorem B_fX12_qGoesOnTest_33 {K0 : q_Mem → Option (Int × q_Mem)} (hK0 : ∀ { M}, p_B M → q_B (K0  M)) (n : Nat) : ∀ {M : q_Mem}, p_B M → q_B (fX12_qGoesOnTest_33 K0 n  M) := by
  induction n with
  | zero => intros; exact B_none
  | succ n ih =>
    intro  M h
    rw [fX12_qGoesOnTest_33]
    exact B_bd (B_fX12_qIsOn h) (fun x21 M1 hM1 => B_ite (B_bd (B_fX12_qDrops hM1) (fun _ M5 hM5 => ih hM5)) (B_letM hM1 (by omega) (fun M2 hM2 => B_letM hM2 (by omega) (fun M3 hM3 => B_bd (B_fX12_qDropsNots hM3) (fun _ M4 hM4 => hK0 hM4)))))
theorem B_fX12_qGoesOnTest_87 (n : Nat) : ∀ {M : q_Mem}, p_B M → q_B (fX12_qGoesOnTest_87  n  M) := by
  induction n with
  | zero => intros; exact B_none
  | succ n ih =>
    intro  M h
    rw [fX12_qGoesOnTest_87]
    exact B_bd (B_fX12_qIsOn h) (fun x21 M1 hM1 => B_ite (B_sto hM1 (by decide) (fun M2 hM2 => B_letM hM2 (by omega) (fun M3 hM3 => B_some hM3))) (B_bd (B_fX12_qDrops hM1) (fun _ M4 hM4 => ih hM4)))
theorem B_fX12_qGoesOnTest_155 {K137 : q_Mem → Option (Int × q_Mem)} (hK137 : ∀ { M}, p_B M → q_B (K137  M)) {M : q_Mem} (h : p_B M) : q_B (fX12_qGoesOnTest_155 K137 M) := by
  unfold fX12_qGoesOnTest_155
  exact B_bd (B_fX12_qDrops h) (fun _ M1 hM1 => hK137 hM1)
theorem B_fX12_qGoesOnTest_137 (n : Nat) : ∀ {M : q_Mem}, p_B M → q_B (fX12_qGoesOnTest_137  n  M) := by
  induction n with
  | zero => intros; exact B_none
  | succ n ih =>
    intro  M h
    rw [fX12_qGoesOnTest_137]
    exact B_bd (B_fX12_qIsOn h) (fun x21 M1 hM1 => B_ite (B_bd (B_fX12_qIsOn hM1) (fun x22 M2 hM2 => B_ite (B_sto hM2 (by decide) (fun M3 hM3 => B_letM hM3 (by omega) (fun M4 hM4 => B_some hM4))) (B_fX12_qGoesOnTest_155 (fun hh => ih hh) hM2))) (B_fX12_qGoesOnTest_155 (fun hh => ih hh) hM1))
theorem B_fX12_qGoesOnTest_76 {M : q_Mem} (h : p_B M) : q_B (fX12_qGoesOnTest_76  M) := by
  unfold fX12_qGoesOnTest_76
  exact B_bd (B_fX12_takes h) (fun x21 M1 hM1 => B_ite (B_bd (B_fX12_takes hM1) (fun x22 M2 hM2 => B_ite (B_ite (B_bd (B_fX12_qHasSquare hM2) (fun x23 M3 hM3 => B_ite (B_some hM3) (B_bd (B_fX12_fail (by decide) hM3) (fun _ M4 hM4 => B_some hM4)))) (B_some hM2)) (B_fX12_qGoesOnTest_137 _ hM2))) (B_fX12_qGoesOnTest_87 _ hM1))
theorem B_fX12_qGoesOnTest_0 (n : Nat) : ∀ {M : q_Mem}, p_B M → q_B (fX12_qGoesOnTest_0  n  M) := by
  induction n with
  | zero => intros; exact B_none
  | succ n ih =>
    intro  M h
    rw [fX12_qGoesOnTest_0]
    exact B_ite (B_bd (B_fX12_look h) (fun x21 M1 hM1 => B_ite (B_bd (B_fX12_qHasSquare hM1) (fun x22 M2 hM2 => B_ite (B_fX12_qGoesOnTest_76 hM2) (B_letM hM2 (by omega) (fun M3 hM3 => B_fX12_qGoesOnTest_33 (fun hh => ih hh) _ hM3)))) (B_fX12_qGoesOnTest_76 hM1))) (B_fX12_qGoesOnTest_76 h)
theorem B_fX12_qGoesOnTest {M : q_Mem} (h : p_B M) : q_B (fX12_qGoesOnTest  M) := by
  unfold fX12_qGoesOnTest
  exact B_fX12_qGoesOnTest_0 _ h
theorem B_fX12_qTest_106 {K2 : Int → q_Mem → Option (Int × q_Mem)} {s0 : Int} (hK2 : ∀ {y0 M}, p_B M → q_B (K2 y0 M)) {M : q_Mem} (h : p_B M) : q_B (fX12_qTest_106 K2 s0 M) := by
  unfold fX12_qTest_106
  exact hK2 h
theorem B_fX12_qTest_105 {K2 : Int → q_Mem → Option (Int × q_Mem)} (hK2 : ∀ {y0 M}, p_B M → q_B (K2 y0 M)) {M : q_Mem} (h : p_B M) : q_B (fX12_qTest_105 K2 M) := by
  unfold fX12_qTest_105
  exact B_fX12_qTest_106 (fun hh => hK2 hh) h
theorem B_fX12_qTest_110 (n : Nat) : ∀ {M : q_Mem}, p_B M → q_B (fX12_qTest_110  n  M) := by
  induction n with
  | zero => intros; exact B_none
  | succ n ih =>
    intro  M h
    rw [fX12_qTest_110]
    exact B_ite (B_ite (B_bd (B_fX12_qDrops h) (fun _ M1 hM1 => ih hM1)) (B_some h)) (B_some h)
theorem B_fX12_qTest_2 (n : Nat) : ∀ {x1 : Int} {M : q_Mem}, p_B M → q_B (fX12_qTest_2  n x1 M) := by
  induction n with
  | zero => intros; exact B_none
  | succ n ih =>
    intro x1 M h
    rw [fX12_qTest_2]
    exact B_ite (B_fX12_qTest_110 _ h) (B_ite (B_bd (B_fX12_look h) (fun x21 M1 hM1 => B_ite (B_bd (B_fX12_qOpens hM1) (fun _ M8 hM8 => B_letM hM8 (by omega) (fun M9 hM9 => ih hM9))) (B_bd (B_fX12_isHere hM1) (fun x22 M2 hM2 => B_ite (B_bd (B_fX12_qFact hM2) (fun _ M3 hM3 => B_bd (B_fX12_qDropsNots hM3) (fun _ M4 hM4 => B_ite (B_bd (B_fX12_qGoesOnTest hM4) (fun x23 M5 hM5 => B_ite (B_fX12_qTest_105 (fun hh => ih hh) hM5) (B_fX12_qTest_106 (fun hh => ih hh) hM5))) (B_fX12_qTest_105 (fun hh => ih hh) hM4)))) (B_bd (B_fX12_qOpens hM2) (fun _ M6 hM6 => B_bd (B_fX12_asks hM6) (fun _ M7 hM7 => ih hM7))))))) (B_fX12_qTest_110 _ h))
theorem B_fX12_qTest {M : q_Mem} (h : p_B M) : q_B (fX12_qTest  M) := by
  unfold fX12_qTest
  exact B_fX12_qTest_2 _ h
theorem B_fX12_codesTold_92 (n : Nat) : ∀ {x1 x3 : Int} {M : q_Mem}, p_B M → q_B (fX12_codesTold_92  n x1 x3 M) := by
  induction n with
  | zero => intros; exact B_none
  | succ n ih =>
    intro x1 x3 M h
    rw [fX12_codesTold_92]
    exact B_ite (B_ld (fun x21 => B_sto h (by decide) (fun M2 hM2 => B_letM hM2 (by omega) (fun M3 hM3 => ih hM3)))) (B_sto h (by decide) (fun M1 hM1 => B_some hM1))
theorem B_fX12_codesTold_72 {x1 : Int} {M : q_Mem} (h : p_B M) : q_B (fX12_codesTold_72 x1 M) := by
  unfold fX12_codesTold_72
  exact B_ite (B_sto h (by decide) (fun M1 hM1 => B_fX12_codesTold_92 _ hM1)) (B_some h)
theorem B_fX12_codesTold_23 {x1 : Int} {M : q_Mem} (h : p_B M) : q_B (fX12_codesTold_23 x1 M) := by
  unfold fX12_codesTold_23
  exact B_ite (B_letM h (by omega) (fun M1 hM1 => B_letM hM1 (by omega) (fun M2 hM2 => B_letM hM2 (by omega) (fun M3 hM3 => B_letM hM3 (by omega) (fun M4 hM4 => B_letM hM4 (by omega) (fun M5 hM5 => B_ite (B_bd (B_fX12_qTest hM5) (fun _ M7 hM7 => B_fX12_codesTold_72 hM7)) (B_bd (B_fX12_qSums hM5) (fun _ M6 hM6 => B_fX12_codesTold_72 hM6)))))))) (B_some h)
theorem B_fX12_codesTold {x1 : Int} {x2 : Int} {M : q_Mem} (h : p_B M) : q_B (fX12_codesTold x1 x2 M) := by
  unfold fX12_codesTold
  exact B_ite (B_ld (fun x21 => B_ite (B_fX12_codesTold_23 h) (B_bd (B_fX12_fail (by decide) h) (fun _ M1 hM1 => B_fX12_codesTold_23 hM1)))) (B_fX12_codesTold_23 h)
theorem B_fX12_statementTold_167 {M : q_Mem} (h : p_B M) : q_B (fX12_statementTold_167  M) := by
  unfold fX12_statementTold_167
  exact B_bd (B_fX12_asksSign h) (fun _ M1 hM1 => B_letM hM1 (by omega) (fun M2 hM2 => B_some hM2))
theorem B_fX12_statementTold {M : q_Mem} (h : p_B M) : q_B (fX12_statementTold  M) := by
  unfold fX12_statementTold
  exact B_let (B_ite (B_bd (B_fX12_fail (by decide) h) (fun _ M17 hM17 => B_some hM17)) (B_bd (B_fX12_takes h) (fun x22 M1 hM1 => B_ite (B_bd (B_fX12_takes hM1) (fun x23 M2 hM2 => B_ite (B_bd (B_fX12_takes hM2) (fun x24 M3 hM3 => B_ite (B_bd (B_fX12_takes hM3) (fun x25 M4 hM4 => B_ite (B_bd (B_fX12_takes hM4) (fun x26 M5 hM5 => B_ite (B_bd (B_fX12_takes hM5) (fun x27 M6 hM6 => B_ite (B_bd (B_fX12_asks hM6) (fun _ M7 hM7 => B_bd (B_fX12_number hM7) (fun x28 M8 hM8 => B_sto hM8 (by decide) (fun M9 hM9 => B_fX12_statementTold_167 hM9)))) (B_bd (B_fX12_number hM6) (fun x29 M10 hM10 => B_sto hM10 (by decide) (fun M11 hM11 => B_fX12_statementTold_167 hM11))))) (B_bd (B_fX12_codesTold hM5) (fun _ M12 hM12 => B_fX12_statementTold_167 hM12)))) (B_bd (B_fX12_codesTold hM4) (fun _ M13 hM13 => B_fX12_statementTold_167 hM13)))) (B_bd (B_fX12_cloudTold hM3) (fun _ M14 hM14 => B_fX12_statementTold_167 hM14)))) (B_bd (B_fX12_coinTold hM2) (fun _ M15 hM15 => B_fX12_statementTold_167 hM15)))) (B_bd (B_fX12_stallTold hM1) (fun _ M16 hM16 => B_fX12_statementTold_167 hM16)))))
theorem B_fX12_qKind_76 {s0 : Int} {M : q_Mem} (h : p_B M) : q_B (fX12_qKind_76 s0 M) := by
  unfold fX12_qKind_76
  exact B_ite (B_bd (B_fX12_asks h) (fun _ M1 hM1 => B_some hM1)) (B_some h)
theorem B_fX12_qKind {M : q_Mem} (h : p_B M) : q_B (fX12_qKind  M) := by
  unfold fX12_qKind
  exact B_bd (B_fX12_takes h) (fun x21 M1 hM1 => B_ite (B_bd (B_fX12_takes hM1) (fun x22 M2 hM2 => B_ite (B_bd (B_fX12_takes hM2) (fun x23 M3 hM3 => B_ite (B_bd (B_fX12_takes hM3) (fun x24 M4 hM4 => B_ite (B_bd (B_fX12_takes hM4) (fun x25 M5 hM5 => B_ite (B_fX12_qKind_76 hM5) (B_fX12_qKind_76 hM5))) (B_fX12_qKind_76 hM4))) (B_fX12_qKind_76 hM3))) (B_fX12_qKind_76 hM2))) (B_fX12_qKind_76 hM1))
