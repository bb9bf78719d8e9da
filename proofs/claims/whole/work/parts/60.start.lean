/-! THE CLAIM OUT OF ONE WALK OF THE LAW'S BODY. Your part is whole_start (and what it stands on); all else here is the same for every law, but numbers. -/
def R_law : String := "ShadowCoinsLaw"
def lw_P (b : Addr) (xs : List Int32) (args : Array Value) (s : State) : Prop := args = #[.ref b] ∧ s.IntsAt b xs ∧ xs.length ≤ 3072 ∧ (Jvm.Cond.and given_1 narrow_1).before args s = true
def lw_Q (_ : Array Value) (s : State) (o : Outcome) (t : State) : Prop := o = .returned (some (.int 1)) ∧ Framed s o t [] 600000 7302250
def lw_Z (below : List Frame) (a : Array Value) (s : State) : State → Prop := fun t => ∃ o, t.status = .running ∧ Ended t below o ∧ lw_Q a s o t
/-- the law's own end, with 1 on the stack, nothing written that was there before, its room as the claim has it -/
theorem lw_ret {p : Program} {l : Launch} {e : Env} {s : State} {m : MethodId} {below : List Frame} {meth : Method} {c : Code} {b : Nat} (hx : p.tables.exec = Jvm.exec) (hb : c.code = code) (hr : meth.sig.returnType = ret) (hlocks : meth.locks = false) {pc : Nat} {H : Heap} {ls : Array Slot} (hdg : decode code pc = .ok (.ireturn, 1)) : W p l e room_1 s m #[Value.ref b] below meth c H [] 600000 7302250 (lw_Z below #[Value.ref b] s) (F0 m pc ls [.int 1]) := by
  intro T hT X
  obtain ⟨fs, hret, hrun, hended, hW, hframe⟩ := X.leave (v := some (.int 1)) (hlocks := hlocks) (fun h => by rw [hr] at h; cases h)
  have hmeth' : T.vm.method? m = some meth := X.method'
  refine ⟨T.setFrames fs, ?_, .returned (some (.int 1)), hrun, hended, rfl, ⟨_, rfl⟩, hW, hframe⟩
  jvm_step X.here [X.here.top, hx, hb, hdg, hmeth', hr, ret, narrow_b1]
  (try refine ⟨rfl, ?_⟩); (try refine ⟨rfl, ?_⟩)
  first | (intro acts; rw [hret _ acts rfl rfl rfl]) | rw [hret _ _ rfl rfl rfl]
  exact Steps.refl _
/-- what holds at the law's entry: the machine, the code, the tables' words (any of lw_tbl by 'hts w (by decide +kernel)'), the script of L ints xs at the cell b, what the Statement gives of the start (any of its parts by flat_of_before) -/
def lw_At (p : Program) (s : State) (m : MethodId) (meth : Method) (c : Code) (b L : Nat) (xs : Nat → Int32) : Prop :=
  p.tables.exec = Jvm.exec ∧ c.code = code ∧ meth.sig.returnType = ret ∧ c.maxLocals = 4 ∧ s.vm.findClass R_law = some m.cls ∧ (∀ w ∈ lw_tbl, w.before #[Value.ref b] s = true) ∧ va_X b L xs s s.heap ∧ b < s.heap.size ∧ meth.locks = false ∧ (Jvm.Cond.and given_1 narrow_1).before #[Value.ref b] s = true ∧ meth.name = "law"
/-! ===== the law's start: what the Statement gives is the base of the judgement ===== -/
theorem v_sr : Cond.stringRef RX8 q_wix q_words ∈ lw_tbl := tb_3 (List.mem_of_getElem? (i := 81) rfl)
theorem v_l1 : Cond.laysStatic "java/lang/String" "COMPACT_STRINGS" "Z" ∈ lw_tbl := tb_3 (List.mem_of_getElem? (i := 91) rfl)
theorem v_l2 : Cond.laysStatic "jdk/internal/util/Preconditions" "SIOOBE_FORMATTER" "Ljava/util/function/BiFunction;" ∈ lw_tbl := tb_3 (List.mem_of_getElem? (i := 99) rfl)
theorem v_i1 : Cond.initialized "java/lang/String" ∈ lw_tbl := tb_1 (List.mem_of_getElem? (i := 15) rfl)
theorem v_i2 : Cond.initialized "jdk/internal/util/Preconditions" ∈ lw_tbl := tb_1 (List.mem_of_getElem? (i := 17) rfl)
theorem v_ao : Cond.arrayOver (.array .int) ∈ lw_tbl := tb_1 (List.mem_of_getElem? (i := 149) rfl)
theorem v_ba : Cond.arrayClass .byte ∈ q_gT := q_mem (tb_4 (List.mem_of_getElem? (i := 28) rfl)) rfl
def v_F : List Cond := flatC (Jvm.Cond.and given_1 narrow_1)
abbrev v_tm : Term := Term.string RX8 62
abbrev v_val : Term := Term.field v_tm "java/lang/String" "value" "[B"
theorem v_f4 : Cond.eq (Term.static "java/lang/String" "COMPACT_STRINGS" "Z") (Term.int 1) ∈ v_F := List.mem_of_getElem? (i := 4) rfl
theorem v_f5 : Cond.isRef (Term.static "jdk/internal/util/Preconditions" "SIOOBE_FORMATTER" "Ljava/util/function/BiFunction;") ∈ v_F := List.mem_of_getElem? (i := 5) rfl
theorem v_f9 : Cond.exactly v_tm "java/lang/String" ∈ v_F := List.mem_of_getElem? (i := 9) rfl
theorem v_f10 : Cond.eq (Term.field v_tm "java/lang/String" "coder" "B") (Term.int 0) ∈ v_F := List.mem_of_getElem? (i := 10) rfl
theorem v_f11 : Cond.arrayOf v_val .byte ∈ v_F := List.mem_of_getElem? (i := 11) rfl
theorem v_f12 : Cond.eq (Term.length v_val) (Term.int (Int32.ofNat 186)) ∈ v_F := List.mem_of_getElem? (i := 12) rfl
def v_el (j : Nat) : Cond := Cond.eq (Term.elem v_val (Term.int (Int32.ofNat j))) (Term.int (q_wbytes.getD j 0))
set_option maxRecDepth 100000 in
theorem v_els : v_F.drop 13 = (List.range 186).map v_el := rfl
theorem v_fel {j : Nat} (hj : j < 186) : v_el j ∈ v_F := by
  have h : v_el j ∈ v_F.drop 13 := by rw [v_els]; exact List.mem_map.mpr ⟨j, List.mem_range.mpr hj, rfl⟩
  exact List.mem_of_mem_drop h
theorem v_arr {s : State} {args : Array Value} {ty : FieldType} (hty : ∀ C, ty ≠ .object C) (h : (Cond.arrayClass ty).before args s = true) : ∃ cA : ClassId, ArrOfT s cA ty ∧ va_RA s cA ty := by
  obtain ⟨c, k, comp, h1, h2, h3⟩ := Cond.arrayClass_spec h
  refine ⟨c, fun n z => ⟨fun k h => (by cases h), k, h2, comp, h3⟩, ?_⟩
  cases ty <;> first | exact h1 | exact absurd rfl (hty _)
theorem v_aoa {s : State} {args : Array Value} (h : (Cond.arrayOver (.array .int)).before args s = true) : ∃ cA : ClassId, ArrOfT s cA (.array .int) ∧ va_RA s cA (.array .int) := by
  obtain ⟨comp, c, k, h1, h2, h3, h4, h5⟩ := Jvm.Stand.arrayOver_specB h
  exact ⟨c, fun n z => ⟨fun k h => (by cases h), k, h3, comp, h4⟩, h5⟩
theorem v_cls {s : State} {args : Array Value} (hts : ∀ w ∈ q_gT, w.before args s = true) : ∃ (dC : Nat → ClassId) (dI : Nat → Nat → Nat), ∀ (k : Nat) (q : vw_C), q_cls[k]? = some q → u_Kn s q.1 q.2.1 q.2.2 (dC k) (dI k) := by
  obtain ⟨c0, i0, k0⟩ := u_known (C := RX0) (T := TX0) (N := 2) (n := 2) hts uw_0 (hts _ in_0)
  obtain ⟨c1, i1, k1⟩ := u_known (C := RX1) (T := TX1) (N := 13) (n := 13) hts uw_1 (hts _ in_1)
  obtain ⟨c2, i2, k2⟩ := u_known (C := RX2) (T := TX2) (N := 18) (n := 18) hts uw_2 (hts _ in_2)
  obtain ⟨c3, i3, k3⟩ := u_known (C := RX3) (T := TX3) (N := 2) (n := 2) hts uw_3 (hts _ in_3)
  obtain ⟨c4, i4, k4⟩ := u_known (C := RX4) (T := TX4) (N := 4) (n := 4) hts uw_4 (hts _ in_4)
  obtain ⟨c5, i5, k5⟩ := u_known (C := RX5) (T := TX5) (N := 4) (n := 4) hts uw_5 (hts _ in_5)
  obtain ⟨c6, i6, k6⟩ := u_known (C := RX6) (T := TX6) (N := 9) (n := 9) hts uw_6 (hts _ in_6)
  obtain ⟨c7, i7, k7⟩ := u_known (C := RX7) (T := TX7) (N := 13) (n := 13) hts uw_7 (hts _ in_7)
  obtain ⟨c8, i8, k8⟩ := u_known (C := RX8) (T := TX8) (N := 7) (n := 7) hts uw_8 (hts _ in_8)
  obtain ⟨c9, i9, k9⟩ := u_known (C := RX9) (T := TX9) (N := 4) (n := 4) hts uw_9 (hts _ in_9)
  obtain ⟨c10, i10, k10⟩ := u_known (C := RX10) (T := TX10) (N := 2) (n := 2) hts uw_10 (hts _ in_10)
  obtain ⟨c11, i11, k11⟩ := u_known (C := RX11) (T := TX11) (N := 16) (n := 16) hts uw_11 (hts _ in_11)
  obtain ⟨c12, i12, k12⟩ := u_known (C := RX12) (T := TX12) (N := 102) (n := 102) hts uw_12 (hts _ in_12)
  refine ⟨fun k => [c0, c1, c2, c3, c4, c5, c6, c7, c8, c9, c10, c11, c12].getD k c0, fun k => [i0, i1, i2, i3, i4, i5, i6, i7, i8, i9, i10, i11, i12].getD k i0, ?_⟩
  intro k q hq
  match k, hq with
  | 0, hq => cases hq; exact k0
  | 1, hq => cases hq; exact k1
  | 2, hq => cases hq; exact k2
  | 3, hq => cases hq; exact k3
  | 4, hq => cases hq; exact k4
  | 5, hq => cases hq; exact k5
  | 6, hq => cases hq; exact k6
  | 7, hq => cases hq; exact k7
  | 8, hq => cases hq; exact k8
  | 9, hq => cases hq; exact k9
  | 10, hq => cases hq; exact k10
  | 11, hq => cases hq; exact k11
  | 12, hq => cases hq; exact k12
  | k + 13, hq => cases hq
set_option maxHeartbeats 4000000 in
theorem v_start {p : Program} {e : Env} {s : State} {m : MethodId} {below : List Frame} {meth : Method} {c : Code} (l : Launch) {b L : Nat} {xs : Nat → Int32} (hpure : ∃ M', fL_law L xs = some (1, M')) (C0 : lw_At p s m meth c b L xs) : W p l e room_1 s m #[Value.ref b] below meth c s.heap [] 0 0 (lw_Z below #[Value.ref b] s) (entryFrame m ([Value.ref b] : List Value).toArray 4) := by
  obtain ⟨hx, hb, hr, hml, hown, hts, hX, hbl, hlocks, hgv, hname⟩ := id C0
  obtain ⟨M', hM'⟩ := hpure
  have htg : ∀ w ∈ q_gT, w.before #[Value.ref b] s = true := fun w h => hts w (List.mem_filter.mp h).1
  have hfl := flat_of_before _ hgv
  obtain ⟨dC, dI, hKc⟩ := v_cls htg
  obtain ⟨a0, a0h⟩ := v_arr (ty := .int) (fun _ h => by cases h) (htg _ ak_int)
  obtain ⟨a1, a1h⟩ := v_arr (ty := .char) (fun _ h => by cases h) (htg _ ak_char)
  obtain ⟨a2, a2h⟩ := v_arr (ty := .boolean) (fun _ h => by cases h) (htg _ ak_boolean)
  obtain ⟨a3, a3h⟩ := v_arr (ty := .long) (fun _ h => by cases h) (htg _ ak_long)
  obtain ⟨a4, a4h⟩ := v_aoa (hts _ v_ao)
  have hA : ∀ a : Nat, a < s.heap.size → ¬ (fun q : Nat => s.heap.size ≤ q) a := fun a h => Nat.not_le.mpr h
  obtain ⟨adK, adV, hStr, hEv⟩ := vk_Sof (args := #[Value.ref b]) (s := s) (N := 1) (tm := fun _ => v_tm) (len := [186]) (byt := [q_wbytes]) (A := fun q : Nat => s.heap.size ≤ q) (fun i hi => by rw [show i = 0 by omega]; decide) (fun i _ => hfl _ v_f9) (fun i _ => hfl _ v_f10) (fun i _ => hfl _ v_f11) (fun i hi => by rw [show i = 0 by omega]; exact hfl _ v_f12) (fun i hi j hj => by
    have hi0 : i = 0 := by omega
    subst hi0
    exact hfl _ (v_fel hj)) (fun i j hi hj hij => absurd (show i = j by omega) hij) hA
  have hZ : va_Z "java/lang/String" "COMPACT_STRINGS" "Z" (.int 1) (fun q : Nat => s.heap.size ≤ q) s s.heap := va_Zof (hts _ v_l1) (hts _ v_i1) (va_eqt (hfl _ v_f4)) hA
  have hZq : va_Zq "jdk/internal/util/Preconditions" "SIOOBE_FORMATTER" "Ljava/util/function/BiFunction;" (fun q : Nat => s.heap.size ≤ q) s s.heap := va_Zqof (hts _ v_l2) (hts _ v_i2) (hfl _ v_f5) hA
  obtain ⟨A, hAe⟩ : ∃ A : Nat → Nat, A = fun i => if i = 1000 then adK 0 else if i = 1001 then adV 0 else b := ⟨_, rfl⟩
  have e0 : A 1000 = adK 0 := by rw [hAe]; rfl
  have e1 : A 1001 = adV 0 := by rw [hAe]; rfl
  have e2 : A 1002 = b := by rw [hAe]; rfl
  have hEnv : q_Env (dC, dI) (fun k => [a0, a1, a2, a3, a4].getD k a0) A (fun q : Nat => s.heap.size ≤ q) s s.heap := by
    refine ⟨⟨hKc, fun k q hq => ?_⟩, fun w hw => va_Nw.of (q_nest_on w hw) (hts w (List.mem_filter.mp hw).1), ?_, ?_, hZ, hZq, va_AOA.moved (u := s) (Vm.Alike.refl s.vm) (show va_AOA .int s from hts _ v_ao)⟩
    · match k, hq with
      | 0, hq => cases hq; exact a0h
      | 1, hq => cases hq; exact a1h
      | 2, hq => cases hq; exact a2h
      | 3, hq => cases hq; exact a3h
      | 4, hq => cases hq; exact a4h
      | k + 5, hq => cases hq
    · rw [e0]
      exact vk_R.of (hts _ v_sr) (hEv 0 (by decide))
    · rw [e0, e1]
      refine ⟨fun i hi => ?_, fun i j hi hj _ => by omega⟩
      have hi0 : i = 0 := by omega
      subst hi0
      exact hStr.1 0 (by decide)
  have hl := lv_entry ([.ref b]) (n := 4) (Nat.le_of_ble_eq_true rfl)
  rw [lg_entry_eq]
  generalize (lg_sl ([.ref b]) ++ List.replicate (4 - (lg_sl ([.ref b])).length) Slot.unset).toArray = ls at hl ⊢
  have hl : lv_has ls 4 (q_cl A [(0, .inr (.inr 1002))]) := by
    show lv_has ls 4 [(0, Value.ref (A 1002))]
    rw [e2]; exact hl
  have hE := (tL_law (d := 75) (by decide) L xs 1 M' hM').1
  have hO' : q_Ok M' := (tL_law_18 (d := 75) (by decide) L xs q_FU 0 q_Mi q_Mi_ok 1 M' (by rw [← fL_law_eq]; exact hM')).2.1 q_Mi_ok
  have hcnt : M'.1 = 166 := hO'.1
  have hsz : q_sz M'.1 = 48355 := by rw [hcnt]; decide +kernel
  refine hE p l e room_1 s m #[Value.ref b] below meth c (dC, dI) (fun k => [a0, a1, a2, a3, a4].getD k a0) (fun q : Nat => s.heap.size ≤ q) A s.heap [] 0 0 600000 7302250 ls (lw_Z below #[Value.ref b] s) ⟨hx, hb, hr, hlocks, hml, hown, hname, htg, fun _ h => h, hEnv⟩ ?_ ?_ ?_ va_S.rf hl ⟨by decide, by decide, by decide, by decide⟩ ⟨by rw [hcnt]; decide, by rw [hcnt]; decide, by rw [hsz]; decide⟩ ?_
  · exact ⟨by rw [e2]; exact hX, by rw [e2]; exact hbl, by rw [e2]; exact hA b hbl⟩
  · intro k q hq
    cases hq
  · exact ⟨fun i j p q h => (by cases h), fun k q h => (by cases h)⟩
  · intro A' H' locs' lsA' pc' hAg hP' hD' hS' hret
    refine va_forget (fun q hq => hS'.2.2 q hq) ?_
    exact lw_ret hx hb hr hlocks hret.1
