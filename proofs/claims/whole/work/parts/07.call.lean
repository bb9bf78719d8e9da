/-! ===== rules of the judgement: calls ===== -/
def q_args : Nat → List q_V → List (Nat × q_V)
  | _, [] => []
  | i, v :: vs => (i, v) :: q_args (if (q_c (fun _ => 0) v).category = 2 then i + 2 else i + 1) vs
theorem q_cat {A : Nat → Nat} (v : q_V) : (q_c A v).category = (q_c (fun _ => 0) v).category := by rcases v with a | a | a <;> rfl
theorem q_args_cl {A : Nat → Nat} : ∀ (vs : List q_V) (i : Nat), q_cl A (q_args i vs) = lv_args i (vs.map (q_c A))
  | [], _ => rfl
  | v :: vs, i => by
    show (i, q_c A v) :: q_cl A (q_args _ vs) = (i, q_c A v) :: lv_args _ (vs.map (q_c A))
    rw [q_args_cl vs, q_cat (A := A) v]
def q_words2 (vs : List q_V) : Nat := (vs.map (fun v => (q_c (fun _ => 0) v).category)).sum
theorem q_lgsl {A : Nat → Nat} : ∀ vs : List q_V, (lg_sl (vs.map (q_c A))).length = q_words2 vs
  | [] => rfl
  | v :: vs => by
    have ih := q_lgsl (A := A) vs
    simp only [lg_sl, q_words2, List.map_cons, List.flatMap_cons, List.length_append, List.sum_cons] at ih ⊢
    rw [ih]
    rcases v with a | a | a <;> simp [q_c, Value.category]
theorem q_sumcat {A : Nat → Nat} (vs : List q_V) : ((vs.map (q_c A)).map fun v => v.category).sum = q_words2 vs := by
  rw [List.map_map]
  unfold q_words2
  congr 1
  apply List.map_congr_left
  intro v _
  exact q_cat v
def q_rm (d mc ms : Nat) : Room := { frames := d, cells := mc, slots := ms, locals := 64 * d }
def q_Pre (D : va_G) (cA : Nat → ClassId) (A : Nat → Nat) (M : q_Mem) (sz : Nat) (U : State) : Prop := U.heap.size = sz ∧ va_P D q_cls (q_ws A cA M) U.heap ∧ va_D (fun _ => True) (q_ws A cA M) ∧ q_Env D cA A (va_A (q_ws A cA M) sz) U U.heap
def q_Qc (ret : Option FieldType) (x : Int) (D : va_G) (cA : Nat → ClassId) (A : Nat → Nat) (M M' : q_Mem) (A1 : Nat → Prop) : Array Value → State → Outcome → State → Prop := fun _ st oc t =>
  (∃ A' : Nat → Nat, oc = .returned ((q_rv ret x).head?.map (q_c A')) ∧ q_Ag M.1 M'.1 A A' ∧ va_P D q_cls (q_ws A' cA M') t.heap ∧ va_D A1 (q_ws A' cA M')) ∧ va_F A1 st t
theorem q_ofW {l : Launch} {y : MethodName} {ws ws' : List Cond} {rm : Room} {Pc : Array Value → State → Prop} {Qc : Array Value → State → Outcome → State → Prop} {mc ms : Nat} {free : Addr → Prop} {cc : ByteArray} {maxL : Nat} {ret : Option FieldType}
    (hy : plainFor y = true) (hw : ws = Cond.code y cc maxL ret :: ws')
    (body : ∀ p e s m args below meth c s₁, BodyLoose p l y (headSpec ws rm) cc maxL ret e s m args below meth c s₁ → c.maxLocals = maxL → Pc args s →
      W p l e (headSpec ws rm).room s m args below meth c s.heap [] 0 0 (MQ below Qc args s mc ms free) (entryFrame m args maxL)) : Met l y ws rm Pc Qc mc ms free := by
  refine MetFree.of_bodySF (code := cc) (maxLocals := maxL) (ret := ret) hy ?_ ?_
  · intro args s m h hn
    obtain ⟨meth, c, h1, h2, h3, h4, h5, h6, -, -⟩ := Cond.code_spec hn (atoms_spec (ws := ws) h _ (by rw [hw]; exact List.mem_cons_self))
    exact ⟨meth, c, h1, h2, h3, h4, h5, h6⟩
  · intro p e s m args below meth c s₁ B hml hP _
    have hh0 : s₁.heap = s.heap := by rw [B.state]; rfl
    obtain ⟨t, a1, o, b1, b2, b3⟩ := body p e s m args below meth c s₁ B hml hP s₁ hh0 (Stand.of_body B)
    exact ⟨t, o, a1, b1, b2, ⟨b3.1, b3.2⟩⟩
theorem q_met {d : Nat} {y : MethodName} {cc : ByteArray} {nL : Nat} {ret : Option FieldType} {As : List q_V} {M M' : q_Mem} {x : Int} (l : Launch) (D : va_G) (cA : Nat → ClassId) (A : Nat → Nat) (sz : Nat) (h : q_Ex d y cc nL ret 0 (q_args 0 As) [] M x M') (hy : plainFor y = true) (hnl : q_words2 As ≤ nL) (hle : M.1 ≤ M'.1) :
    Met l y (.code y cc nL ret :: q_gT) (q_rm d (M'.1 - M.1) (q_sz M'.1 - q_sz M.1)) (va_Pc (As.map (q_c A)) (q_Pre D cA A M sz)) (q_Qc ret x D cA A M M' (va_A (q_ws A cA M) sz)) (M'.1 - M.1) (q_sz M'.1 - q_sz M.1) (va_A (q_ws A cA M) sz) := by
  refine q_ofW (cc := cc) (maxL := nL) (ret := ret) hy rfl ?_
  intro p e s m args below meth c s₁ B hml hv
  obtain ⟨rfl, hsz, hP, hD0, hEnv⟩ := hv
  subst hsz
  have hts := atoms_spec (ws := .code y cc nL ret :: q_gT) B.pre
  have hD := hD0.self (sz := s.heap.size)
  have hl := lv_entry (As.map (q_c A)) (n := nL) (by rw [q_lgsl]; exact hnl)
  rw [lg_entry_eq]
  rw [← q_args_cl] at hl
  have hlocks := B.notSynchronized
  refine h p l e (q_rm d (M'.1 - M.1) (q_sz M'.1 - q_sz M.1)) s m _ below meth c D cA (va_A (q_ws A cA M) s.heap.size) A s.heap [] 0 0 (M'.1 - M.1) (q_sz M'.1 - q_sz M.1) _ _ ⟨B.exec, B.bytes, B.returns, B.notSynchronized, hml, findClass_of_methodNamed B.named, (name_of_methodNamed B.named B.method).1, fun w hw => hts w (List.mem_cons_of_mem _ hw), fun q hq => Or.inr hq, hEnv⟩ trivial hP hD va_S.rf hl ⟨Nat.le_refl _, Nat.le_refl _, Nat.le_refl _, Nat.le_refl _⟩ ⟨hle, by omega, by omega⟩ ?_
  intro A' H' locs' lsA' pc' hAg hP' hD' hS' hret
  cases ret with
  | none => exact W.vret B.exec B.bytes B.returns (fun t ht hW => ⟨⟨A', rfl, hAg, by rw [ht]; exact hP', hD'⟩, hS'.F ht⟩) hS'.2.2 hret
  | some ty =>
    cases ty with
    | int => exact W.iret (v := Int32.ofInt x) B.exec B.bytes B.returns (fun t ht hW => ⟨⟨A', rfl, hAg, by rw [ht]; exact hP', hD'⟩, hS'.F ht⟩) hS'.2.2 hret
    | long => exact W.lret (v := Int64.ofInt x) B.exec B.bytes B.returns (fun t ht hW => ⟨⟨A', rfl, hAg, by rw [ht]; exact hP', hD'⟩, hS'.F ht⟩) hS'.2.2 hret
    | boolean => exact W.zret (v := Int32.ofInt x) (ty := .boolean) B.exec B.bytes B.returns (by rcases hret.2 with rfl | rfl <;> rfl) (fun t ht hW => ⟨⟨A', rfl, hAg, by rw [ht]; exact hP', hD'⟩, hS'.F ht⟩) hS'.2.2 hret.1
    | char => exact W.zret (v := Int32.ofInt x) (ty := .char) B.exec B.bytes B.returns (by
        obtain ⟨n, rfl⟩ := Int.eq_ofNat_of_zero_le hret.2.1
        have hn : n < 65536 := by have := hret.2.2; omega
        have := (pk_charN hn).1
        rw [Int32.ofInt_eq_ofNat]
        exact this) (fun t ht hW => ⟨⟨A', rfl, hAg, by rw [ht]; exact hP', hD'⟩, hS'.F ht⟩) hS'.2.2 hret.1
    | _ => exact hret.elim
theorem q_nest_on : ∀ w ∈ q_nest, w.onTables = true := by
  intro w hw
  have := (List.mem_filter.mp hw).2
  cases w <;> first | (cases this; done) | rfl
theorem q_nest_warm {w : Cond} (hw : w ∈ q_nest) {s U : State} (hW : s.WarmedH U.vm) (h : va_Nw w s) : va_Nw w U := by
  have := (List.mem_filter.mp hw).2
  cases w <;> first | (cases this; done) | exact va_Nw.warmM hW h
theorem q_Zq_to {C n d : String} {A0 A1 : Nat → Prop} {s U : State} {H : Heap} {locs : List Loc} (h : va_Zq C n d A0 s s.heap) (hS : va_S A0 s.heap H locs) (hA : ∀ q, A1 q → A0 q) (hW : s.vm.Alike U.vm) : va_Zq C n d A1 U H := by
  rcases h with h | ⟨t, h⟩
  · exact Or.inl (((h.kept hS.2.1).moved hW).narrow hA)
  · exact Or.inr ⟨t, ((h.kept hS.2.1).moved hW).narrow hA⟩
theorem q_Env_to {D : va_G} {cA : Nat → ClassId} {A : Nat → Nat} {A0 A1 : Nat → Prop} {s U : State} {H : Heap} {locs : List Loc} (h : q_Env D cA A A0 s s.heap) (hS : va_S A0 s.heap H locs) (hA : ∀ q, A1 q → A0 q) (hU : U.heap = H) (hW : s.WarmedH U.vm) : q_Env D cA A A1 U U.heap := by
  obtain ⟨h1, h2, h3, h4, h5, h6, h7⟩ := h
  refine ⟨va_K.moved hW.alike h1, fun w hw => q_nest_warm hw hW (h2 w hw), h3.warm hW, ?_, ?_, ?_, h7.moved hW.alike⟩
  · rw [hU]
    exact ((h4.kept hS.2.1).moved hW.alike).narrow hA
  · rw [hU]
    exact ((h5.kept hS.2.1).moved hW.alike).narrow hA
  · rw [hU]
    exact q_Zq_to h6 hS hA hW.alike
theorem q_blind {D : va_G} {cA : Nat → ClassId} {A : Nat → Nat} {M : q_Mem} {sz : Nat} {As : List Value} : FrameBlind (va_Pc As (q_Pre D cA A M sz)) := by
  intro a U g mk h
  obtain ⟨h1, h2, h3, h4, h5, h6, h7, h8, h9, h10, h11⟩ := h
  refine ⟨h1, h2, h3, h4, ?_⟩
  refine ⟨va_K.moved (u := U) (U := U.calling g mk a) (Vm.Alike.refl U.vm) h5, fun w hw => va_Nw.same (q_nest_on w hw) (u := U) (U := U.calling g mk a) rfl (h6 w hw), vk_R.same (u := U) (U := U.calling g mk a) rfl h7, ?_, ?_, ?_, va_AOA.moved (u := U) (U := U.calling g mk a) (Vm.Alike.refl U.vm) h11⟩
  · exact vk_S.moved (u := U) (U := U.calling g mk a) (Vm.Alike.refl U.vm) h8
  · exact va_Z.moved (u := U) (U := U.calling g mk a) (Vm.Alike.refl U.vm) h9
  · rcases h10 with h | ⟨t, h⟩
    · exact Or.inl (va_Z.moved (u := U) (U := U.calling g mk a) (Vm.Alike.refl U.vm) h)
    · exact Or.inr ⟨t, va_Z.moved (u := U) (U := U.calling g mk a) (Vm.Alike.refl U.vm) h⟩
theorem q_rvL (ret : Option FieldType) (x : Int) (A : Nat → Nat) : ((q_rv ret x).head?.map (q_c A)).toList = (q_rv ret x).map (q_c A) := by
  cases ret with
  | none => rfl
  | some ty => cases ty <;> rfl
section QC
variable {p : Program} {l : Launch} {e : Env} {R : Room} {s : State} {m : MethodId} {args : Array Value} {below : List Frame} {meth : Method} {c : Code} {H : Heap} {locs : List Loc} {cells slots : Nat} {Q : State → Prop}
theorem q_after {pc : Nat} {lsA : Array Slot} {st0 rest : List Value} {ret2 : Option FieldType} {x2 : Int} {D : va_G} {cA : Nat → ClassId} {A : Nat → Nat} {M M2 : q_Mem} {A0 A1 : Nat → Prop} {a : Array Value} {mc2 ms2 : Nat}
    (hr : va_Run p l e R s m args below meth c H locs cells slots mc2 ms2 (F0 m pc lsA st0) rest (q_Qc ret2 x2 D cA A M M2 A1 a) A1) (hS : va_S A0 s.heap H locs) (hA : ∀ q, A1 q → A0 q)
    (kk : ∀ (A' : Nat → Nat) (H1 : Heap) (locs1 : List Loc), q_Ag M.1 M2.1 A A' → va_P D q_cls (q_ws A' cA M2) H1 → va_D A0 (q_ws A' cA M2) → va_S A0 s.heap H1 locs1 → W p l e R s m args below meth c H1 locs1 (cells + mc2) (slots + ms2) Q (F0 m (pc + 3) lsA ((q_rv ret2 x2).map (q_c A') ++ rest))) : W p l e R s m args below meth c H locs cells slots Q (F0 m pc lsA st0) := by
  intro T hT X
  obtain ⟨v, st₀, t, T', L, h0, X', hL, e1, e2, ⟨⟨A', hv, hAg, hP', hD'⟩, hz, hk⟩, st⟩ := hr T hT X
  have hv' : v = (q_rv ret2 x2).head?.map (q_c A') := Outcome.returned.inj hv
  subst hv'
  rw [h0] at hz hk
  obtain ⟨t2, a1, b1⟩ := kk A' T'.heap (locs ++ L) hAg (by rw [e1]; exact hP') (hD'.weaken (fun _ _ _ h => hA _ h))
    ⟨Nat.le_trans hS.1 (by rw [e1]; exact hz), fun q h1 h2 => by rw [e1, hk q (Nat.lt_of_lt_of_le h1 hS.1) (fun z => h2 (hA q z))]; exact hS.2.1 q h1 h2, fun q hq => by
      rcases List.mem_append.mp hq with h | h
      · exact hS.2.2 q h
      · exact hA _ (hL q h)⟩ T' rfl X'
  rw [← q_rvL] at a1
  exact ⟨t2, st t2 a1, b1⟩
end QC
theorem q_good {y : MethodName} {cc : ByteArray} {nL : Nat} {ret : Option FieldType} (h : Cond.code y cc nL ret ∈ q_gT) : GoodIn q_gT (.code y cc nL ret :: q_gT) := by
  intro w hw
  have hm : w ∈ q_gT := by
    rcases List.mem_cons.mp hw with rfl | h1
    · exact h
    · exact h1
  exact ⟨hm, good_of_word (List.mem_filter.mp hm).2⟩
/-- what the tables say of a method that is called: by its own class's link, or by a nest mate's -/
def q_MB (y : MethodName) (cc : ByteArray) (nL : Nat) (ret : Option FieldType) (n : Nat) : Prop := Cond.code y cc nL ret ∈ q_gT ∧ Cond.initialized y.cls ∈ q_gT ∧ (y.cls ≠ "java/lang/invoke/MethodHandle" ∧ y.cls ≠ "java/lang/invoke/VarHandle" ∧ (parseMethodDescriptor y.desc).map (fun d => d.parameters.length) = some n) ∧ plainFor y = true ∧ nL ≤ 45
def q_MV (y : MethodName) : Prop := Cond.instanceMethod y ∈ q_gT ∧ Cond.selects y.cls y y ∈ q_gT
section QD
variable {XP : State → (Nat → Nat) → (Nat → Prop) → Prop} {d : Nat} {y : MethodName} {cc : ByteArray} {nL : Nat} {ret : Option FieldType} {pc pc' : Nat} {ls ls' : List (Nat × q_V)} {st st' st0 : List q_V} {M : q_Mem} {o o1 o2 : Option (Int × q_Mem)} {g : Int → q_Mem → Option (Int × q_Mem)}
variable {y2 : MethodName} {cc2 : ByteArray} {nL2 n idx : Nat} {ret2 : Option FieldType} {As : List q_V}
theorem q_va_A {A0 : Nat → Prop} {ws : va_W} {s : State} {H : Heap} {locs : List Loc} (hD : va_D A0 ws) (hS : va_S A0 s.heap H locs) (hA : ∀ q, s.heap.size ≤ q → A0 q) : ∀ q, va_A ws H.size q → A0 q := by
  intro q h
  rcases h with ⟨k, e, h⟩ | h
  · exact hD.2 k _ h
  · exact hA q (Nat.le_trans hS.1 h)
/-- a call, whatever its instruction: the machine's part is hrun -/
theorem q_call (hO : q_Ok M) (h2 : q_EX d y2 cc2 nL2 ret2 0 (q_args 0 As) [] M o2) (hy : plainFor y2 = true) (hnl : q_words2 As ≤ nL2)
    (hrun : ∀ (p : Program) (l : Launch) (e : Env) (R : Room) (s : State) (m : MethodId) (args : Array Value) (below : List Frame) (meth : Method) (c : Code) (D : va_G) (cA : Nat → ClassId) (A0 : Nat → Prop) (A : Nat → Nat) (H : Heap) (locs : List Loc) (cells slots : Nat) (lsA : Array Slot) (Qc : Array Value → State → Outcome → State → Prop), q_Base y cc nL ret p s m args meth c D cA A0 A → va_P D q_cls (q_ws A cA M) H → lsA.size = nL → d + 1 ≤ R.frames → 64 * (d + 1) ≤ R.locals → cells ≤ R.cells → slots ≤ R.slots →
      Met l y2 (.code y2 cc2 nL2 ret2 :: q_gT) (q_rm d 0 0) (va_Pc (As.map (q_c A)) (q_Pre D cA A M H.size)) Qc 0 0 (va_A (q_ws A cA M) H.size) → FrameBlind (va_Pc (As.map (q_c A)) (q_Pre D cA A M H.size)) → (∀ U : State, U.heap = H → s.WarmedH U.vm → va_Pc (As.map (q_c A)) (q_Pre D cA A M H.size) (As.map (q_c A)).toArray U) →
      va_Run p l e R s m args below meth c H locs cells slots 0 0 (F0 m pc lsA (st0.map (q_c A))) (st.map (q_c A)) (Qc (As.map (q_c A)).toArray) (va_A (q_ws A cA M) H.size))
    (kk : ∀ x M2, o2 = some (x, M2) → q_Ok M2 → q_EXg XP (d + 1) y cc nL ret (pc + 3) ls (q_rv ret2 x ++ st) M2 (g x M2)) : q_EXg XP (d + 1) y cc nL ret pc ls st0 M (q_bd o2 g) := by
  intro x M' ho
  cases ho2 : o2 with
  | none => rw [ho2] at ho; cases ho
  | some z =>
    obtain ⟨x2, M2⟩ := z
    rw [ho2] at ho
    have ho' : g x2 M2 = some (x, M') := ho
    obtain ⟨hE2, hO2, -⟩ := h2 x2 M2 ho2
    have hO2 := hO2 hO
    have k0 := kk x2 M2 ho2 hO2 x M' ho'
    refine ⟨?_, fun _ => k0.2.1 hO2, Nat.le_trans (by rw [hO2.1, hO.1]; exact Nat.le_refl _) k0.2.2.1, fun h6 => absurd hO2.1 (by have := k0.2.2.1; omega)⟩
    intro p l e R s m args below meth c D cA A0 A H locs cells slots mc ms lsA Q hB hX hP hD hS hl hR hn hE
    have hM1 : M2.1 = M.1 := by rw [hO2.1, hO.1]
    have hF := q_va_A hD hS hB.2.2.2.2.2.2.2.2.1
    have hMet := q_met l D cA A H.size hE2 hy hnl (by rw [hM1]; exact Nat.le_refl _)
    have e1 : M2.1 - M.1 = 0 := by omega
    have e2 : q_sz M2.1 - q_sz M.1 = 0 := by rw [hM1]; omega
    rw [e1, e2] at hMet
    refine q_after (hrun p l e R s m args below meth c D cA A0 A H locs cells slots lsA _ hB hP hl.1 hR.1 hR.2.1 (by omega) (by omega) hMet q_blind (fun U hU hW => ⟨rfl, by rw [hU], by rw [hU]; exact hP, hD.weaken (fun _ _ _ _ => trivial), q_Env_to hB.2.2.2.2.2.2.2.2.2 hS hF hU hW⟩)) hS hF ?_
    intro A' H1 locs1 hAg hP1 hD1 hS1
    have hA' : A' = A := hAg.2.1 hM1
    subst hA'
    rw [← List.map_append]
    refine k0.1 p l e R s m args below meth c D cA A0 A' H1 locs1 (cells + 0) (slots + 0) mc ms lsA Q hB hX hP1 hD1 hS1 hl hR ⟨by omega, by omega, by rw [hM1]; omega⟩ ?_
    intro A3 H3 locs3 lsA3 pc3 hAg3
    exact hE A3 H3 locs3 lsA3 pc3 (by rw [hM1] at hAg3; exact hAg3)
/-- invokevirtual, by the class's own link -/
theorem q_callV {r : Nat} {ci : Nat} {T : u_T} {N : Nat} (hO : q_Ok M) (hB2 : q_MB y2 cc2 nL2 ret2 n) (hV : q_MV y2) (hl2 : Cond.methodLink y.cls idx y2 ∈ q_gT) (hsh : q_shp r = (0, ci)) (hc : q_cls[ci]? = some (y2.cls, T, N)) (hn : As.length = n) (hst : q_words2 st ≤ 8) (hs : st0 = As.reverse ++ .inr (.inr r) :: st) (hnl : q_words2 (.inr (.inr r) :: As) ≤ nL2) (hdg : decode cc pc = .ok (.invokevirtual idx, 3))
    (h2 : q_EX d y2 cc2 nL2 ret2 0 (q_args 0 (.inr (.inr r) :: As)) [] M o2) (kk : ∀ x M2, o2 = some (x, M2) → q_Ok M2 → q_EXg XP (d + 1) y cc nL ret (pc + 3) ls (q_rv ret2 x ++ st) M2 (g x M2)) : q_EXg XP (d + 1) y cc nL ret pc ls st0 M (q_bd o2 g) := by
  refine q_call hO h2 hB2.2.2.2.1 hnl ?_ kk
  intro p l e R s m args below meth c D cA A0 A H locs cells slots lsA Qc hB hP hls hfr hlo hce hsl hMet hbl hpre
  have hts := hB.2.2.2.2.2.2.2.1
  have hr := q_in hO hsh (fun h9 => by cases h9)
  have hrec := va_recv hB.2.2.2.2.2.2.2.2.2.1 hP hc (q_obj (A := A) (cA := cA) hsh hr)
  subst hs
  refine va_runV (As := As.map (q_c A)) (rest := st.map (q_c A)) (C := y2.cls) (index := idx) (bytes := cc2) (maxL := nL2) (ret := ret2) (n := n) ⟨hB.1, hB.2.1, hB.2.2.2.2.1, hB.2.2.2.2.2.1, hts⟩ hMet ?_ ⟨hbl, hrec, hpre⟩ rfl (by rw [List.length_map]; exact hn) hls ?_ ?_ hdg ⟨by omega, by omega⟩
  · exact ⟨callB_of n hts (q_good hB2.1) rfl rfl rfl (hts _ hB2.2.1) (hts _ hl2) hB2.2.2.1 ⟨hfr, by have := hB2.2.2.2.2; show 8 + (nL2 + 11) + 64 * d ≤ R.locals; omega⟩, hts _ hV.1, hts _ hV.2⟩
  · show List.map (q_c A) (As.reverse ++ Sum.inr (Sum.inr r) :: st) = _
    rw [List.map_append, List.map_reverse]; rfl
  · show 2 * 0 + _ ≤ 8
    rw [q_sumcat]; omega
/-- invokevirtual of a nest mate's private method -/
theorem q_callVN {r : Nat} {ci : Nat} {T : u_T} {N : Nat} {host : String} (hO : q_Ok M) (hB2 : q_MB y2 cc2 nL2 ret2 n) (hV : q_MV y2) (hl2 : Cond.methodLinkNest y.cls idx y2 host ∈ q_nest) (hsh : q_shp r = (0, ci)) (hc : q_cls[ci]? = some (y2.cls, T, N)) (hn : As.length = n) (hst : q_words2 st ≤ 8) (hs : st0 = As.reverse ++ .inr (.inr r) :: st) (hnl : q_words2 (.inr (.inr r) :: As) ≤ nL2) (hdg : decode cc pc = .ok (.invokevirtual idx, 3))
    (h2 : q_EX d y2 cc2 nL2 ret2 0 (q_args 0 (.inr (.inr r) :: As)) [] M o2) (kk : ∀ x M2, o2 = some (x, M2) → q_Ok M2 → q_EXg XP (d + 1) y cc nL ret (pc + 3) ls (q_rv ret2 x ++ st) M2 (g x M2)) : q_EXg XP (d + 1) y cc nL ret pc ls st0 M (q_bd o2 g) := by
  refine q_call hO h2 hB2.2.2.2.1 hnl ?_ kk
  intro p l e R s m args below meth c D cA A0 A H locs cells slots lsA Qc hB hP hls hfr hlo hce hsl hMet hbl hpre
  have hts := hB.2.2.2.2.2.2.2.1
  have hr := q_in hO hsh (fun h9 => by cases h9)
  have hrec := va_recv hB.2.2.2.2.2.2.2.2.2.1 hP hc (q_obj (A := A) (cA := cA) hsh hr)
  subst hs
  refine va_runVN (As := As.map (q_c A)) (rest := st.map (q_c A)) (C := y2.cls) (host := host) (index := idx) (bytes := cc2) (maxL := nL2) (ret := ret2) (n := n) ⟨hB.1, hB.2.1, hB.2.2.2.2.1, hB.2.2.2.2.2.1, hts⟩ hMet ?_ ⟨hbl, hrec, hpre⟩ rfl (by rw [List.length_map]; exact hn) hls ?_ ?_ hdg ⟨by omega, by omega⟩
  · exact ⟨va_cnB n hts (q_good hB2.1) rfl rfl rfl (hB.2.2.2.2.2.2.2.2.2.2.1 _ hl2) (hts _ hB2.2.1) hB2.2.2.1 ⟨hfr, by have := hB2.2.2.2.2; show 8 + (nL2 + 11) + 64 * d ≤ R.locals; omega⟩, hts _ hV.1, hts _ hV.2⟩
  · show List.map (q_c A) (As.reverse ++ Sum.inr (Sum.inr r) :: st) = _
    rw [List.map_append, List.map_reverse]; rfl
  · show 2 * 0 + _ ≤ 8
    rw [q_sumcat]; omega
/-- invokestatic -/
theorem q_callS (hO : q_Ok M) (hB2 : q_MB y2 cc2 nL2 ret2 n) (hV : Cond.static y2 ∈ q_gT) (hl2 : Cond.methodLink y.cls idx y2 ∈ q_gT) (hn : As.length = n) (hst : q_words2 st ≤ 8) (hs : st0 = As.reverse ++ st) (hnl : q_words2 As ≤ nL2) (hdg : decode cc pc = .ok (.invokestatic idx, 3))
    (h2 : q_EX d y2 cc2 nL2 ret2 0 (q_args 0 As) [] M o2) (kk : ∀ x M2, o2 = some (x, M2) → q_Ok M2 → q_EXg XP (d + 1) y cc nL ret (pc + 3) ls (q_rv ret2 x ++ st) M2 (g x M2)) : q_EXg XP (d + 1) y cc nL ret pc ls st0 M (q_bd o2 g) := by
  refine q_call hO h2 hB2.2.2.2.1 hnl ?_ kk
  intro p l e R s m args below meth c D cA A0 A H locs cells slots lsA Qc hB hP hls hfr hlo hce hsl hMet hbl hpre
  have hts := hB.2.2.2.2.2.2.2.1
  subst hs
  refine va_runS (As := As.map (q_c A)) (rest := st.map (q_c A)) (index := idx) (bytes := cc2) (maxL := nL2) (ret := ret2) (n := n) ⟨hB.1, hB.2.1, hB.2.2.2.2.1, hB.2.2.2.2.2.1, hts⟩ hMet ?_ ⟨hbl, hpre⟩ rfl (by rw [List.length_map]; exact hn) hls ?_ ?_ hdg ⟨by omega, by omega⟩
  · exact ⟨callB_of n hts (q_good hB2.1) rfl rfl rfl (hts _ hB2.2.1) (hts _ hl2) hB2.2.2.1 ⟨hfr, by have := hB2.2.2.2.2; show 8 + (nL2 + 11) + 64 * d ≤ R.locals; omega⟩, hts _ hV⟩
  · show List.map (q_c A) (As.reverse ++ st) = _
    rw [List.map_append, List.map_reverse]
  · show 2 * 0 + _ ≤ 8
    rw [q_sumcat]; omega
end QD
