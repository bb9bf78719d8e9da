/-! ===== the one text: its constant, its charAt ===== -/
def q_wat (i : Int) : Option Int := if 0 ≤ q_w i ∧ q_w i < 186 then some ((q_wbytes.getD (q_w i).toNat 0).toInt) else none
theorem s_pre (l : Launch) (i n : Int32) (f : Value) (hf : f.category = 1) (h0 : ¬ i < 0) (h1 : i < n) : Met l yJ3_checkIndex_8e157 (.code yJ3_checkIndex_8e157 cJ3_checkIndex_8e157 3 (some .int) :: q_gT) (q_rm 0 0 0) (va_Pc [.int i, .int n, f] (fun _ => True)) (vp_Si (fun _ => True)) 0 0 (fun _ => False) := by
  refine q_ofW (cc := cJ3_checkIndex_8e157) (maxL := 3) (ret := some .int) (plainFor_of_name np_J3) rfl ?_
  intro p e s m args below meth c s₁ B hml hv
  obtain ⟨rfl, -⟩ := hv
  have hx := B.exec
  have hb := B.bytes
  have hr := B.returns
  have hlocks := B.notSynchronized
  have hl := lv_entry ([.int i, .int n, f]) (n := 3) (by cases f <;> first | exact Nat.le_of_ble_eq_true rfl | exact absurd hf (fun h => by cases h))
  rw [lg_entry_eq]
  generalize (lg_sl ([.int i, .int n, f]) ++ List.replicate (3 - (lg_sl ([.int i, .int n, f])).length) Slot.unset).toArray = ls at hl ⊢
  have hl : lv_has ls 3 [(0, .int i), (1, .int n), (2, f)] := hl
  refine lv_iload_n hx hb dJ3_checkIndex_8e157_0 rfl (lv_at hl 0 rfl) ?_
  refine lv_if_lt (tgt := 9) hx hb dJ3_checkIndex_8e157_1 (by decide) (fun h => absurd h h0) (fun _ => ?_)
  refine lv_iload_n hx hb dJ3_checkIndex_8e157_4 rfl (lv_at hl 0 rfl) ?_
  refine lv_iload_n hx hb dJ3_checkIndex_8e157_5 rfl (lv_at hl 1 rfl) ?_
  refine lv_icmp_lt (tgt := 16) hx hb dJ3_checkIndex_8e157_6 (by decide) (fun _ => ?_) (fun h => absurd h1 h)
  refine lv_iload_n hx hb dJ3_checkIndex_8e157_16 rfl (lv_at hl 0 rfl) ?_
  exact W.iret (v := i) hx hb hr (fun t ht hW => ⟨i, rfl, trivial, ht⟩) (fun q hq => by cases hq) dJ3_checkIndex_8e157_17
abbrev s_F (U : State) : Prop := va_Zq "jdk/internal/util/Preconditions" "SIOOBE_FORMATTER" "Ljava/util/function/BiFunction;" (fun _ => False) U U.heap
theorem s_F_call {U : State} {g : JFrame} {mk : MethodId} {a : Array Value} (h : s_F U) : s_F (U.calling g mk a) := by
  rcases h with h | ⟨t, h⟩
  · exact Or.inl (va_Z.moved (u := U) (U := U.calling g mk a) (Vm.Alike.refl U.vm) h)
  · exact Or.inr ⟨t, va_Z.moved (u := U) (U := U.calling g mk a) (Vm.Alike.refl U.vm) h⟩
theorem s_F_to {s U : State} {H : Heap} (h : s_F s) (hH : H = s.heap) (hU : U.heap = H) (hW : s.WarmedH U.vm) : s_F U := by
  subst hH
  rcases h with h | ⟨t, h⟩
  · exact Or.inl (by rw [hU]; exact va_Z.moved hW.alike h)
  · exact Or.inr ⟨t, by rw [hU]; exact va_Z.moved hW.alike h⟩
theorem s_chk (l : Launch) (i n : Int32) (h0 : ¬ i < 0) (h1 : i < n) : Met l yJ0_checkIndex_df160 (.code yJ0_checkIndex_df160 cJ0_checkIndex_df160 2 none :: q_gT) (q_rm 1 0 0) (va_Pc [.int i, .int n] s_F) (va_Sv (fun _ => True)) 0 0 (fun _ => False) := by
  refine q_ofW (cc := cJ0_checkIndex_df160) (maxL := 2) (ret := none) (plainFor_of_name np_J0) rfl ?_
  intro p e s m args below meth c s₁ B hml hv
  obtain ⟨rfl, hF⟩ := hv
  have hx := B.exec
  have hb := B.bytes
  have hr := B.returns
  have hlocks := B.notSynchronized
  have hown : s.vm.findClass RJ0 = some m.cls := findClass_of_methodNamed B.named
  have hts0 := atoms_spec (ws := .code yJ0_checkIndex_df160 cJ0_checkIndex_df160 2 none :: q_gT) B.pre
  have hts : ∀ w ∈ q_gT, w.before [Value.int i, Value.int n].toArray s = true := fun w hw => hts0 w (List.mem_cons_of_mem _ hw)
  have hl := lv_entry ([.int i, .int n]) (n := 2) (Nat.le_of_ble_eq_true rfl)
  rw [lg_entry_eq]
  generalize (lg_sl ([.int i, .int n]) ++ List.replicate (2 - (lg_sl ([.int i, .int n])).length) Slot.unset).toArray = ls at hl ⊢
  have hl : lv_has ls 2 [(0, .int i), (1, .int n)] := hl
  have go : ∀ f : Value, f.category = 1 → va_Z "jdk/internal/util/Preconditions" "SIOOBE_FORMATTER" "Ljava/util/function/BiFunction;" f (fun _ => False) s s.heap → W p l e (headSpec (.code yJ0_checkIndex_df160 cJ0_checkIndex_df160 2 none :: q_gT) (q_rm 1 0 0)).room s m [Value.int i, Value.int n].toArray below meth c s.heap [] 0 0 (MQ below (va_Sv (fun _ => True)) [Value.int i, Value.int n].toArray s 0 0 (fun _ => False)) (F0 m 0 ls []) := by
    intro f hf hZ
    refine lv_iload_n hx hb dJ0_checkIndex_df160_0 rfl (lv_at hl 0 rfl) ?_
    refine lv_iload_n hx hb dJ0_checkIndex_df160_1 rfl (lv_at hl 1 rfl) ?_
    refine va_gets hx hb hZ va_S.rf hown (hts _ js_1053) (fun _ h => h) dJ0_checkIndex_df160_2 ?_
    refine vp_callSi (W.runS (As := [.int i, .int n, f]) (rest := []) ⟨hx, hb, hml, hown, hts⟩ (s_pre l i n f hf h0 h1) ⟨callB_of 3 hts (q_good mb_J3_checkIndex_8e157.1) rfl rfl rfl (hts _ mb_J3_checkIndex_8e157.2.1) (hts _ ml_J0_1059) mb_J3_checkIndex_8e157.2.2.1 ⟨Nat.le_of_ble_eq_true rfl, Nat.le_of_ble_eq_true rfl⟩, hts _ ms_J3_checkIndex_8e157⟩ ⟨fun _ _ _ _ q => ⟨q.1, trivial⟩, fun U hU hW => ⟨rfl, trivial⟩⟩ rfl rfl hl.1 rfl (Nat.le_of_ble_eq_true rfl) dJ0_checkIndex_df160_5 ⟨Nat.le_refl _, Nat.le_refl _⟩) (fun r _ => ?_)
    refine lv_pop hx hb dJ0_checkIndex_df160_8 rfl ?_
    exact W.vret hx hb hr (fun t ht hW => ⟨rfl, trivial, ht⟩) (fun q hq => by cases hq) dJ0_checkIndex_df160_9
  rcases hF with h | ⟨t, h⟩
  · exact go .null rfl h
  · exact go (.ref t) rfl h
abbrev s_T (b : Nat) (U : State) : Prop := va_T .byte b 186 (fun j => .int (q_wbytes.getD j 0)) (fun _ => False) U U.heap
theorem s_w1 : ∀ k, k < 186 → ((q_wbytes.getD k 0 &&& 255).toUInt32 % 65536).toInt32 = q_wbytes.getD k 0 := by decide +kernel
theorem s_w2 : ∀ k, k < 186 → narrow .char (.int (q_wbytes.getD k 0)) = .int (q_wbytes.getD k 0) := by decide +kernel
theorem s_lt {i : Int32} (h0 : ¬ i < 0) (h1 : i < 186) : i.toNatClampNeg < 186 := by
  rw [Int32.lt_iff_toInt_lt] at h0 h1
  have e0 : (0 : Int32).toInt = 0 := by decide
  have e1 : (186 : Int32).toInt = 186 := by decide
  rw [e0] at h0
  rw [e1] at h1
  show i.toInt.toNat < 186
  omega
theorem s_lat (l : Launch) (b : Nat) (i : Int32) (h0 : ¬ i < 0) (h1 : i < 186) : Met l yJ1_charAt_3b067 (.code yJ1_charAt_3b067 cJ1_charAt_3b067 2 (some .char) :: q_gT) (q_rm 2 0 0) (va_Pc [.ref b, .int i] (fun U => s_F U ∧ s_T b U)) (vp_Si (fun r => r = q_wbytes.getD i.toNatClampNeg 0)) 0 0 (fun _ => False) := by
  refine q_ofW (cc := cJ1_charAt_3b067) (maxL := 2) (ret := some .char) (plainFor_of_name np_J1) rfl ?_
  intro p e s m args below meth c s₁ B hml hv
  obtain ⟨rfl, hF, hT⟩ := hv
  have hx := B.exec
  have hb := B.bytes
  have hr := B.returns
  have hlocks := B.notSynchronized
  have hown : s.vm.findClass RJ1 = some m.cls := findClass_of_methodNamed B.named
  have hts0 := atoms_spec (ws := .code yJ1_charAt_3b067 cJ1_charAt_3b067 2 (some .char) :: q_gT) B.pre
  have hts : ∀ w ∈ q_gT, w.before [Value.ref b, Value.int i].toArray s = true := fun w hw => hts0 w (List.mem_cons_of_mem _ hw)
  have hl := lv_entry ([.ref b, .int i]) (n := 2) (Nat.le_of_ble_eq_true rfl)
  rw [lg_entry_eq]
  generalize (lg_sl ([.ref b, .int i]) ++ List.replicate (2 - (lg_sl ([.ref b, .int i])).length) Slot.unset).toArray = ls at hl ⊢
  have hl : lv_has ls 2 [(0, .ref b), (1, .int i)] := hl
  obtain ⟨cell, g1, g2, g3, g4, g5, g6, -⟩ := hT
  have hk := s_lt h0 h1
  refine lv_iload_n hx hb dJ1_charAt_3b067_0 rfl (lv_at hl 1 rfl) ?_
  refine lv_aload_n hx hb dJ1_charAt_3b067_1 rfl (lv_at hl 0 rfl) ?_
  refine W.alen (n := Int32.ofNat 186) hx hb g1 g2 g5 rfl rfl dJ1_charAt_3b067_2 ?_
  refine W.eq (g2 := F0 m 3 ls [.int (Int32.ofNat 186), .int i]) rfl ?_
  refine va_csv (W.runS (As := [.int i, .int (Int32.ofNat 186)]) (rest := []) ⟨hx, hb, hml, hown, hts⟩ (s_chk l i (Int32.ofNat 186) h0 h1) ⟨callB_of 2 hts (q_good mb_J0_checkIndex_df160.1) rfl rfl rfl (hts _ mb_J0_checkIndex_df160.2.1) (hts _ ml_J1_9) mb_J0_checkIndex_df160.2.2.1 ⟨Nat.le_of_ble_eq_true rfl, Nat.le_of_ble_eq_true rfl⟩, hts _ ms_J0_checkIndex_df160⟩ ⟨fun _ _ _ _ q => ⟨q.1, s_F_call q.2⟩, fun U hU hW => ⟨rfl, s_F_to hF rfl hU hW⟩⟩ rfl rfl hl.1 rfl (Nat.le_of_ble_eq_true rfl) dJ1_charAt_3b067_3 ⟨Nat.le_refl _, Nat.le_refl _⟩) (fun _ => ?_)
  refine lv_aload_n hx hb dJ1_charAt_3b067_6 rfl (lv_at hl 0 rfl) ?_
  refine lv_iload_n hx hb dJ1_charAt_3b067_7 rfl (lv_at hl 1 rfl) ?_
  refine W.bald (v := .int (q_wbytes.getD i.toNatClampNeg 0)) hx hb g1 g2 g3 (fun q => by rcases q with q | q; exact h0 q; omega) (g6 _ hk) rfl rfl dJ1_charAt_3b067_8 ?_
  refine W.eq (g2 := F0 m 9 ls [.int (q_wbytes.getD i.toNatClampNeg 0)]) rfl ?_
  refine lv_sipush (v := 255) hx hb dJ1_charAt_3b067_9 (by decide) ?_
  refine lv_iand hx hb dJ1_charAt_3b067_12 ?_
  refine lv_i2c hx hb dJ1_charAt_3b067_13 (s_w1 _ hk) ?_
  exact W.zret (ty := .char) hx hb hr (s_w2 _ hk) (fun t ht hW => ⟨_, rfl, rfl, ht⟩) (fun q hq => by cases hq) dJ1_charAt_3b067_14
abbrev s_C (a : Nat) (U : State) : Prop := va_Z "java/lang/String" "COMPACT_STRINGS" "Z" (.int 1) (fun _ => False) U U.heap ∧ va_OF "java/lang/String" "coder" "B" (.int 0) a (fun _ => False) U U.heap
theorem s_isl (l : Launch) (a : Nat) : Met l yJ0_isLatin1_aae02 (.code yJ0_isLatin1_aae02 cJ0_isLatin1_aae02 1 (some .boolean) :: q_gT) (q_rm 0 0 0) (va_Pc [.ref a] (s_C a)) (vp_Si (fun r => r = 1)) 0 0 (fun _ => False) := by
  refine q_ofW (cc := cJ0_isLatin1_aae02) (maxL := 1) (ret := some .boolean) (plainFor_of_name np_J0) rfl ?_
  intro p e s m args below meth c s₁ B hml hv
  obtain ⟨rfl, hZ, hO⟩ := hv
  have hx := B.exec
  have hb := B.bytes
  have hr := B.returns
  have hlocks := B.notSynchronized
  have hown : s.vm.findClass RJ0 = some m.cls := findClass_of_methodNamed B.named
  have hts0 := atoms_spec (ws := .code yJ0_isLatin1_aae02 cJ0_isLatin1_aae02 1 (some .boolean) :: q_gT) B.pre
  have hts : ∀ w ∈ q_gT, w.before [Value.ref a].toArray s = true := fun w hw => hts0 w (List.mem_cons_of_mem _ hw)
  have hl := lv_entry ([.ref a]) (n := 1) (Nat.le_of_ble_eq_true rfl)
  rw [lg_entry_eq]
  generalize (lg_sl ([.ref a]) ++ List.replicate (1 - (lg_sl ([.ref a])).length) Slot.unset).toArray = ls at hl ⊢
  have hl : lv_has ls 1 [(0, .ref a)] := hl
  refine va_gets hx hb hZ va_S.rf hown (hts _ js_38) (fun _ h => h) dJ0_isLatin1_aae02_0 ?_
  refine lv_if_eq (tgt := 17) hx hb dJ0_isLatin1_aae02_3 (by decide) (fun h => absurd h (by decide)) (fun _ => ?_)
  refine lv_aload_n hx hb dJ0_isLatin1_aae02_6 rfl (lv_at hl 0 rfl) ?_
  refine vk_getf hx hb hO va_S.rf hown (hts _ js_15) (fun _ h => h) dJ0_isLatin1_aae02_7 ?_
  refine lv_if_ne (tgt := 17) hx hb dJ0_isLatin1_aae02_10 (by decide) (fun h => absurd rfl h) (fun _ => ?_)
  refine lv_iconst (v := 1) hx hb dJ0_isLatin1_aae02_13 (by decide) ?_
  refine lv_goto (tgt := 18) hx hb dJ0_isLatin1_aae02_14 (by decide) ?_
  exact W.zret (ty := .boolean) hx hb hr rfl (fun t ht hW => ⟨_, rfl, rfl, ht⟩) (fun q hq => by cases hq) dJ0_isLatin1_aae02_18
abbrev s_All (a b : Nat) (U : State) : Prop := (s_F U ∧ s_T b U) ∧ s_C a U ∧ va_OF "java/lang/String" "value" "[B" (.ref b) a (fun _ => False) U U.heap ∧ va_O "java/lang/String" a (fun _ => False) U U.heap
theorem s_All_to {a b : Nat} {A0 : Nat → Prop} {s U : State} {H : Heap} {locs : List Loc} (hS : va_S A0 s.heap H locs) (hU : U.heap = H) (hW : s.vm.Alike U.vm) (hF : va_Zq "jdk/internal/util/Preconditions" "SIOOBE_FORMATTER" "Ljava/util/function/BiFunction;" A0 s s.heap) (hT : va_T .byte b 186 (fun j => .int (q_wbytes.getD j 0)) A0 s s.heap) (hZ : va_Z "java/lang/String" "COMPACT_STRINGS" "Z" (.int 1) A0 s s.heap) (hC : va_OF "java/lang/String" "coder" "B" (.int 0) a A0 s s.heap) (hV : va_OF "java/lang/String" "value" "[B" (.ref b) a A0 s s.heap) (hO : va_O "java/lang/String" a A0 s s.heap) : s_All a b U := by
  have nf : ∀ q : Nat, (fun _ : Nat => False) q → A0 q := fun _ h => h.elim
  refine ⟨⟨?_, ?_⟩, ⟨?_, ?_⟩, ?_, ?_⟩
  · have := q_Zq_to (A1 := fun _ => False) hF hS nf hW
    rw [← hU] at this; exact this
  · show va_T _ _ _ _ _ U U.heap
    rw [hU]; exact ((hT.kept hS.2.1).moved hW).narrow nf
  · show va_Z _ _ _ _ _ U U.heap
    rw [hU]; exact ((hZ.kept hS.2.1).moved hW).narrow nf
  · show va_OF _ _ _ _ _ _ U U.heap
    rw [hU]; exact ((hC.kept hS.2.1).moved hW).narrow nf
  · rw [hU]; exact ((hV.kept hS.2.1).moved hW).narrow nf
  · rw [hU]; exact ((hO.kept hS.2.1).moved hW).narrow nf
theorem s_All_at {a b : Nat} {s U : State} (h : s_All a b s) (hU : U.heap = s.heap) (hW : s.vm.Alike U.vm) : s_All a b U := s_All_to (A0 := fun _ => False) (locs := []) va_S.rf hU hW h.1.1 h.1.2 h.2.1.1 h.2.1.2 h.2.2.1 h.2.2.2
theorem s_chr (l : Launch) (a b : Nat) (i : Int32) (h0 : ¬ i < 0) (h1 : i < 186) : Met l yJ0_charAt_5068e (.code yJ0_charAt_5068e cJ0_charAt_5068e 2 (some .char) :: q_gT) (q_rm 3 0 0) (va_Pc [.ref a, .int i] (s_All a b)) (vp_Si (fun r => r = q_wbytes.getD i.toNatClampNeg 0)) 0 0 (fun _ => False) := by
  refine q_ofW (cc := cJ0_charAt_5068e) (maxL := 2) (ret := some .char) (plainFor_of_name np_J0) rfl ?_
  intro p e s m args below meth c s₁ B hml hv
  obtain ⟨rfl, hA⟩ := hv
  have hx := B.exec
  have hb := B.bytes
  have hr := B.returns
  have hlocks := B.notSynchronized
  have hown : s.vm.findClass RJ0 = some m.cls := findClass_of_methodNamed B.named
  have hts0 := atoms_spec (ws := .code yJ0_charAt_5068e cJ0_charAt_5068e 2 (some .char) :: q_gT) B.pre
  have hts : ∀ w ∈ q_gT, w.before [Value.ref a, Value.int i].toArray s = true := fun w hw => hts0 w (List.mem_cons_of_mem _ hw)
  have hl := lv_entry ([.ref a, .int i]) (n := 2) (Nat.le_of_ble_eq_true rfl)
  rw [lg_entry_eq]
  generalize (lg_sl ([.ref a, .int i]) ++ List.replicate (2 - (lg_sl ([.ref a, .int i])).length) Slot.unset).toArray = ls at hl ⊢
  have hl : lv_has ls 2 [(0, .ref a), (1, .int i)] := hl
  have hk := s_lt h0 h1
  obtain ⟨cellO, o1, o2, o3, -⟩ := hA.2.2.2
  refine lv_aload_n hx hb dJ0_charAt_5068e_0 rfl (lv_at hl 0 rfl) ?_
  refine vp_callSi (W.runV (C := RJ0) (As := []) (rest := []) ⟨hx, hb, hml, hown, hts⟩ (s_isl l a) ⟨callB_of 0 hts (q_good mb_J0_isLatin1_aae02.1) rfl rfl rfl (hts _ mb_J0_isLatin1_aae02.2.1) (hts _ ml_J0_492) mb_J0_isLatin1_aae02.2.2.1 ⟨Nat.le_of_ble_eq_true rfl, Nat.le_of_ble_eq_true rfl⟩, hts _ mv_J0_isLatin1_aae02.1, hts _ mv_J0_isLatin1_aae02.2⟩ ⟨fun _ U g mk q => ⟨q.1, va_Z.moved (u := U) (Vm.Alike.refl U.vm) q.2.1, va_OF.moved (u := U) (Vm.Alike.refl U.vm) q.2.2⟩, ⟨cellO, o1, o2, o3⟩, fun U hU hW => ⟨rfl, (s_All_at hA hU hW.alike).2.1⟩⟩ rfl rfl hl.1 rfl (Nat.le_of_ble_eq_true rfl) dJ0_charAt_5068e_1 ⟨Nat.le_refl _, Nat.le_refl _⟩) (fun r hr1 => ?_)
  subst hr1
  refine lv_if_eq (tgt := 16) hx hb dJ0_charAt_5068e_4 (by decide) (fun h => absurd h (by decide)) (fun _ => ?_)
  refine lv_aload_n hx hb dJ0_charAt_5068e_7 rfl (lv_at hl 0 rfl) ?_
  refine vk_getf hx hb hA.2.2.1 va_S.rf hown (hts _ js_9) (fun _ h => h) dJ0_charAt_5068e_8 ?_
  refine lv_iload_n hx hb dJ0_charAt_5068e_11 rfl (lv_at hl 1 rfl) ?_
  refine vp_callSi (W.runS (As := [.ref b, .int i]) (rest := []) ⟨hx, hb, hml, hown, hts⟩ (s_lat l b i h0 h1) ⟨callB_of 2 hts (q_good mb_J1_charAt_3b067.1) rfl rfl rfl (hts _ mb_J1_charAt_3b067.2.1) (hts _ ml_J0_495) mb_J1_charAt_3b067.2.2.1 ⟨Nat.le_of_ble_eq_true rfl, Nat.le_of_ble_eq_true rfl⟩, hts _ ms_J1_charAt_3b067⟩ ⟨fun _ U g mk q => ⟨q.1, s_F_call q.2.1, va_T.moved (u := U) (Vm.Alike.refl U.vm) q.2.2⟩, fun U hU hW => ⟨rfl, (s_All_at hA hU hW.alike).1⟩⟩ rfl rfl hl.1 rfl (Nat.le_of_ble_eq_true rfl) dJ0_charAt_5068e_12 ⟨Nat.le_refl _, Nat.le_refl _⟩) (fun r hr1 => ?_)
  subst hr1
  exact W.zret (ty := .char) hx hb hr (s_w2 _ hk) (fun t ht hW => ⟨_, rfl, rfl, ht⟩) (fun q hq => by cases hq) dJ0_charAt_5068e_15
section QS
variable {XP : State → (Nat → Nat) → (Nat → Prop) → Prop} {d : Nat} {y : MethodName} {cc : ByteArray} {nL : Nat} {ret : Option FieldType} {pc : Nat} {ls : List (Nat × q_V)} {st : List q_V} {M : q_Mem} {o : Option (Int × q_Mem)}
theorem q_ldcS (hy : y.cls = RX8) (hdg : decode cc pc = .ok (.ldc 62, 2)) (kk : q_EXg XP d y cc nL ret (pc + 2) ls (.inr (.inr 1000) :: st) M o) : q_EXg XP d y cc nL ret pc ls st M o :=
  q_lift (fun _ _ _ _ _ _ _ _ _ _ _ _ _ A _ _ _ _ _ _ hB hl k => va_ldcS (own := RX8) (tx := q_words) (q := A 1000) hB.1 hB.2.1 (by rw [← hy]; exact hB.2.2.2.2.2.1) hB.2.2.2.2.2.2.2.2.2.2.2.1 hdg (k _ hl)) kk
theorem q_chat {i : Int} {f : Int → Option (Int × q_Mem)} (hd : 8 ≤ d) (hy : y.cls = RX8) (hst : q_words2 st ≤ 8) (hdg : decode cc pc = .ok (.invokevirtual 64, 3)) (kk : ∀ x, q_EXg XP (d + 1) y cc nL ret (pc + 3) ls (.inl x :: st) M (f x)) : q_EXg XP (d + 1) y cc nL ret pc ls (.inl i :: .inr (.inr 1000) :: st) M ((q_wat i).bind f) := by
  by_cases hi : 0 ≤ q_w i ∧ q_w i < 186
  · have he : q_wat i = some ((q_wbytes.getD (q_w i).toNat 0).toInt) := if_pos hi
    rw [he]
    intro x M' ho
    have k0 := kk _ x M' ho
    refine ⟨?_, k0.2⟩
    intro p l e R s m args below meth c D cA A0 A H locs cells slots mc ms lsA Q hB hX hP hD hS hl hR hn hE
    have hk := k0.1 p l e R s m args below meth c D cA A0 A H locs cells slots mc ms lsA Q hB hX hP hD hS hl hR hn hE
    obtain ⟨hx, hb, -, -, hml, hown, -, hts, -, -, -, hK1, hK2, hK3, hK4, -⟩ := id hB
    obtain ⟨v1, v2, v3, v4⟩ := hK2.1 0 (by decide)
    have h0 : ¬ Int32.ofInt i < 0 := q_nlt hi.1
    have h1 : Int32.ofInt i < 186 := by rw [Int32.lt_iff_toInt_lt]; exact hi.2
    have hAll : ∀ U : State, U.heap = H → s.WarmedH U.vm → s_All (A 1000) (A 1001) U := fun U hU hW => s_All_to hS hU hW.alike hK4 v4 hK3 v2 v3 v1
    obtain ⟨cellO, o1, o2, o3, -⟩ := v1.kept hS.2.1
    refine vp_callSi (W.runV (C := RJ0) (b := A 1000) (As := [.int (Int32.ofInt i)]) (rest := st.map (q_c A)) ⟨hx, hb, hml, hown, hts⟩ (s_chr l (A 1000) (A 1001) (Int32.ofInt i) h0 h1) ⟨callB_of 1 hts (q_good mb_J0_charAt_5068e.1) rfl rfl rfl (hts _ mb_J0_charAt_5068e.2.1) (by rw [hy]; exact hts _ ml_X8_64) mb_J0_charAt_5068e.2.2.1 ⟨by show 3 + 1 ≤ R.frames; omega, by show 8 + (2 + 11) + 64 * 3 ≤ R.locals; omega⟩, hts _ mv_J0_charAt_5068e.1, hts _ mv_J0_charAt_5068e.2⟩ ⟨fun _ U g mk q => ⟨q.1, s_All_at q.2 (U := U.calling g mk _) rfl (Vm.Alike.refl U.vm)⟩, ⟨cellO, o1, o2, o3⟩, fun U hU hW => ⟨rfl, hAll U hU hW⟩⟩ rfl rfl hl.1 rfl (by show 2 * 0 + _ ≤ 8; rw [q_sumcat]; omega) hdg ⟨by omega, by omega⟩) (fun r hr1 => ?_)
    have e1 : Int32.ofInt ((q_wbytes.getD (q_w i).toNat 0).toInt) = r := by rw [hr1, Int32.ofInt_toInt]; rfl
    rw [← e1]
    exact hk
  · have he : q_wat i = none := if_neg hi
    rw [he]
    exact q_none
end QS
