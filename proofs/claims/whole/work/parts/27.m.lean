def fX12_fair_117 (M : q_Mem) : Option (Int × q_Mem) := q_let (q_up M 94 7 (M.2 94 5)) fun M1 => q_let (q_up M1 94 8 (M1.2 94 6)) fun M2 => if q_w (M2.2 94 5) = 0 then (q_bd (fX12_stands M2) fun _ M3 => some ((M3.2 94 46), M3)) else ((q_ld M2 96 6 1).bind fun x21 => (q_sto M2 96 6 1 (x21 + 1)).bind fun M4 => some ((-1), M4))
theorem tX12_fair_117 {d : Nat} (hd : 10 ≤ d) (M : q_Mem) (hO : q_Ok M) : q_EX (d + 1) yX12_fair cX12_fair 2 (some .int) 117 [(0, .inr (.inr 94))] [] M (fX12_fair_117 M) := by
  unfold fX12_fair_117
  refine q_aload_n 0 dX12_fair_117 rfl rfl ?_
  refine q_aload_n 0 dX12_fair_118 rfl rfl ?_
  refine q_geti fl_X12_237 sh_94 (q_inO hO sh_94) rfl dX12_fair_119 ?_
  refine q_puti fl_X12_360 sh_94 (q_inO hO sh_94) (fun h => q_Ok_put h sh_94 rfl) rfl dX12_fair_122 (fun M1 hM1 => ?_)
  have hO1 : q_Ok M1 := by rw [hM1]; exact q_Ok_put hO sh_94 rfl
  refine q_aload_n 0 dX12_fair_125 rfl rfl ?_
  refine q_aload_n 0 dX12_fair_126 rfl rfl ?_
  refine q_geti fl_X12_240 sh_94 (q_inO hO1 sh_94) rfl dX12_fair_127 ?_
  refine q_puti fl_X12_13 sh_94 (q_inO hO1 sh_94) (fun h => q_Ok_put h sh_94 rfl) rfl dX12_fair_130 (fun M2 hM2 => ?_)
  have hO2 : q_Ok M2 := by rw [hM2]; exact q_Ok_put hO1 sh_94 rfl
  refine q_aload_n 0 dX12_fair_133 rfl rfl ?_
  refine q_geti fl_X12_237 sh_94 (q_inO hO2 sh_94) rfl dX12_fair_134 ?_
  refine q_ifeq (tgt := 152) dX12_fair_137 (by decide) ?_ ?_
  · refine q_aload_n 0 dX12_fair_152 rfl rfl ?_
    refine q_callVv (As := []) hO2 mb_X12_stands mv_X12_stands ml_X12_363 sh_94 rfl dX12_fair_153 (fun _ => rfl) rfl (Nat.le_of_ble_eq_true rfl) rfl (Nat.le_of_ble_eq_true rfl) (tX12_stands M2 hO2) (fun _ M3 _ hO3 => ?_)
    refine q_aload_n 0 dX12_fair_156 rfl rfl ?_
    refine q_geti fl_X12_339 sh_94 (q_inO hO3 sh_94) rfl dX12_fair_157 ?_
    exact q_ret dX12_fair_160 rfl
  · refine q_aload_n 0 dX12_fair_140 rfl rfl ?_
    refine q_getx fl_X12_17 hO2 sh_94 rfl fx_94_9 dX12_fair_141 ?_
    refine q_iconst dX12_fair_144 ?_
    refine q_dup2 dX12_fair_145 rfl rfl ?_
    refine q_iald sh_96 (q_inA hO2 sh_96 (by decide)) dX12_fair_146 (fun x21 _ _ _ => ?_)
    refine q_iconst dX12_fair_147 ?_
    refine q_iadd dX12_fair_148 ?_
    refine q_iast sh_96 (q_inA hO2 sh_96 (by decide)) dX12_fair_149 (fun M4 _ _ hM4 => ?_)
    have hO4 : q_Ok M4 := by rw [hM4]; exact q_Ok_arr (t := 0) hO2 sh_96 (by decide)
    refine q_iconst dX12_fair_150 ?_
    exact q_ret dX12_fair_151 rfl
def fX12_fair_95  : Nat → q_Mem → Option (Int × q_Mem)
  | 0, _ => none
  | n + 1, M => if q_w (M.2 94 5) = 0 then (q_bd (fX12_look M) fun x21 M1 => if q_w x21 = q_w (-1) then ((fX12_fair_117 M1)) else (q_bd (fX12_statementTold M1) fun _ M2 => (fX12_fair_95 n M2))) else ((fX12_fair_117 M))
theorem tX12_fair_95 {d : Nat} (hd : 10 ≤ d) : ∀ (n : Nat)  (M : q_Mem), q_Ok M → q_EX (d + 1) yX12_fair cX12_fair 2 (some .int) 95 [(0, .inr (.inr 94))] [] M (fX12_fair_95 n M) := by
  intro n
  induction n with
  | zero => intro M hO; exact q_none
  | succ n ih =>
    intro M hO
    rw [fX12_fair_95]
    refine q_aload_n 0 dX12_fair_95 rfl rfl ?_
    refine q_geti fl_X12_237 sh_94 (q_inO hO sh_94) rfl dX12_fair_96 ?_
    refine q_ifne (tgt := 117) dX12_fair_99 (by decide) ?_ ?_
    · refine q_sub [0] rfl ?_
      exact tX12_fair_117 hd M hO
    · refine q_aload_n 0 dX12_fair_102 rfl rfl ?_
      refine q_callVi (As := []) hO mb_X12_look mv_X12_look ml_X12_249 sh_94 rfl dX12_fair_103 (fun _ => rfl) rfl (Nat.le_of_ble_eq_true rfl) rfl (Nat.le_of_ble_eq_true rfl) (tX12_look M hO) (fun x21 M1 _ hO1 => ?_)
      refine q_iconst dX12_fair_106 ?_
      refine q_icmpeq (tgt := 117) dX12_fair_107 (by decide) ?_ ?_
      · refine q_sub [0] rfl ?_
        exact tX12_fair_117 hd M1 hO1
      · refine q_aload_n 0 dX12_fair_110 rfl rfl ?_
        refine q_callVv (As := []) hO1 mb_X12_statementTold mv_X12_statementTold ml_X12_357 sh_94 rfl dX12_fair_111 (fun _ => rfl) rfl (Nat.le_of_ble_eq_true rfl) rfl (Nat.le_of_ble_eq_true rfl) (tX12_statementTold (by omega) M1 hO1) (fun _ M2 _ hO2 => ?_)
        refine q_goto (tgt := 95) dX12_fair_114 (by decide) ?_
        refine q_sub [0] rfl ?_
        exact ih M2 hO2
def fX12_fair_40  : Nat → Int → q_Mem → Option (Int × q_Mem)
  | 0, _, _ => none
  | n + 1, x1, M => if q_w x1 < q_w 3 then ((q_sto M 123 6 x1 0).bind fun M7 => (fX12_fair_40 n (x1 + 1) M7)) else ((q_sto M 128 4 0 (-1)).bind fun M1 => (q_sto M1 128 4 1 (-1)).bind fun M2 => (q_sto M2 122 6 1 0).bind fun M3 => (q_sto M3 122 6 2 0).bind fun M4 => q_bd (fX12_fairTold M4) fun _ M5 => q_let (q_up M5 94 46 1) fun M6 => (fX12_fair_95 q_FU M6))
theorem tX12_fair_40 {d : Nat} (hd : 10 ≤ d) : ∀ (n : Nat) (x1 : Int) (M : q_Mem), q_Ok M → q_EX (d + 1) yX12_fair cX12_fair 2 (some .int) 40 [(0, .inr (.inr 94)), (1, .inl x1)] [] M (fX12_fair_40 n x1 M) := by
  intro n
  induction n with
  | zero => intro x1 M hO; exact q_none
  | succ n ih =>
    intro x1 M hO
    rw [fX12_fair_40]
    refine q_iload_n 1 dX12_fair_40 rfl rfl ?_
    refine q_iconst dX12_fair_41 ?_
    refine q_icmpge (tgt := 58) dX12_fair_42 (by decide) ?_ ?_
    · refine q_aload_n 0 dX12_fair_58 rfl rfl ?_
      refine q_getx fl_X12_115 hO sh_94 rfl fx_94_42 dX12_fair_59 ?_
      refine q_iconst dX12_fair_62 ?_
      refine q_iconst dX12_fair_63 ?_
      refine q_iast sh_128 (q_inA hO sh_128 (by decide)) dX12_fair_64 (fun M1 _ _ hM1 => ?_)
      have hO1 : q_Ok M1 := by rw [hM1]; exact q_Ok_arr (t := 0) hO sh_128 (by decide)
      refine q_aload_n 0 dX12_fair_65 rfl rfl ?_
      refine q_getx fl_X12_115 hO1 sh_94 rfl fx_94_42 dX12_fair_66 ?_
      refine q_iconst dX12_fair_69 ?_
      refine q_iconst dX12_fair_70 ?_
      refine q_iast sh_128 (q_inA hO1 sh_128 (by decide)) dX12_fair_71 (fun M2 _ _ hM2 => ?_)
      have hO2 : q_Ok M2 := by rw [hM2]; exact q_Ok_arr (t := 0) hO1 sh_128 (by decide)
      refine q_aload_n 0 dX12_fair_72 rfl rfl ?_
      refine q_getx fl_X12_96 hO2 sh_94 rfl fx_94_36 dX12_fair_73 ?_
      refine q_iconst dX12_fair_76 ?_
      refine q_iconst dX12_fair_77 ?_
      refine q_iast sh_122 (q_inA hO2 sh_122 (by decide)) dX12_fair_78 (fun M3 _ _ hM3 => ?_)
      have hO3 : q_Ok M3 := by rw [hM3]; exact q_Ok_arr (t := 0) hO2 sh_122 (by decide)
      refine q_aload_n 0 dX12_fair_79 rfl rfl ?_
      refine q_getx fl_X12_96 hO3 sh_94 rfl fx_94_36 dX12_fair_80 ?_
      refine q_iconst dX12_fair_83 ?_
      refine q_iconst dX12_fair_84 ?_
      refine q_iast sh_122 (q_inA hO3 sh_122 (by decide)) dX12_fair_85 (fun M4 _ _ hM4 => ?_)
      have hO4 : q_Ok M4 := by rw [hM4]; exact q_Ok_arr (t := 0) hO3 sh_122 (by decide)
      refine q_aload_n 0 dX12_fair_86 rfl rfl ?_
      refine q_callVv (As := []) hO4 mb_X12_fairTold mv_X12_fairTold ml_X12_354 sh_94 rfl dX12_fair_87 (fun _ => rfl) rfl (Nat.le_of_ble_eq_true rfl) rfl (Nat.le_of_ble_eq_true rfl) (tX12_fairTold (by omega) M4 hO4) (fun _ M5 _ hO5 => ?_)
      refine q_aload_n 0 dX12_fair_90 rfl rfl ?_
      refine q_iconst dX12_fair_91 ?_
      refine q_puti fl_X12_339 sh_94 (q_inO hO5 sh_94) (fun h => q_Ok_put h sh_94 rfl) rfl dX12_fair_92 (fun M6 hM6 => ?_)
      have hO6 : q_Ok M6 := by rw [hM6]; exact q_Ok_put hO5 sh_94 rfl
      refine q_sub [0] rfl ?_
      exact tX12_fair_95 hd q_FU M6 hO6
    · refine q_aload_n 0 dX12_fair_45 rfl rfl ?_
      refine q_getx fl_X12_99 hO sh_94 rfl fx_94_37 dX12_fair_46 ?_
      refine q_iload_n 1 dX12_fair_49 rfl rfl ?_
      refine q_iconst dX12_fair_50 ?_
      refine q_iast sh_123 (q_inA hO sh_123 (by decide)) dX12_fair_51 (fun M7 _ _ hM7 => ?_)
      have hO7 : q_Ok M7 := by rw [hM7]; exact q_Ok_arr (t := 0) hO sh_123 (by decide)
      refine q_iinc (ls' := [(1, .inl (x1 + 1)), (0, .inr (.inr 94))]) 1 dX12_fair_52 rfl (by decide) rfl ?_
      refine q_goto (tgt := 40) dX12_fair_55 (by decide) ?_
      refine q_sub [1, 0] rfl ?_
      exact ih (x1 + 1) M7 hO7
def fX12_fair (M : q_Mem) : Option (Int × q_Mem) := q_let (q_up M 94 3 (M.2 94 1)) fun M1 => q_let (q_up M1 94 1 0) fun M2 => q_let (q_up M2 94 2 0) fun M3 => q_let (q_up M3 94 4 (-1)) fun M4 => q_let (q_up M4 94 5 0) fun M5 => q_let (q_up M5 94 6 (-1)) fun M6 => q_let (q_up M6 94 45 0) fun M7 => (fX12_fair_40 q_FU 0 M7)
theorem tX12_fair {d : Nat} (hd : 11 ≤ d) (M : q_Mem) (hO : q_Ok M) : q_EX d yX12_fair cX12_fair 2 (some .int) 0 (q_args 0 [.inr (.inr 94)]) [] M (fX12_fair M) := by
  obtain ⟨d, rfl⟩ : ∃ d', d = d' + 1 := ⟨d - 1, by omega⟩
  have hd : 10 ≤ d := by omega
  show q_EX _ _ _ _ _ 0 [(0, .inr (.inr 94))] [] M _
  unfold fX12_fair
  refine q_aload_n 0 dX12_fair_0 rfl rfl ?_
  refine q_aload_n 0 dX12_fair_1 rfl rfl ?_
  refine q_geti fl_X12_234 sh_94 (q_inO hO sh_94) rfl dX12_fair_2 ?_
  refine q_puti fl_X12_246 sh_94 (q_inO hO sh_94) (fun h => q_Ok_put h sh_94 rfl) rfl dX12_fair_5 (fun M1 hM1 => ?_)
  have hO1 : q_Ok M1 := by rw [hM1]; exact q_Ok_put hO sh_94 rfl
  refine q_aload_n 0 dX12_fair_8 rfl rfl ?_
  refine q_iconst dX12_fair_9 ?_
  refine q_puti fl_X12_234 sh_94 (q_inO hO1 sh_94) (fun h => q_Ok_put h sh_94 rfl) rfl dX12_fair_10 (fun M2 hM2 => ?_)
  have hO2 : q_Ok M2 := by rw [hM2]; exact q_Ok_put hO1 sh_94 rfl
  refine q_aload_n 0 dX12_fair_13 rfl rfl ?_
  refine q_iconst dX12_fair_14 ?_
  refine q_puti fl_X12_243 sh_94 (q_inO hO2 sh_94) (fun h => q_Ok_put h sh_94 rfl) rfl dX12_fair_15 (fun M3 hM3 => ?_)
  have hO3 : q_Ok M3 := by rw [hM3]; exact q_Ok_put hO2 sh_94 rfl
  refine q_aload_n 0 dX12_fair_18 rfl rfl ?_
  refine q_iconst dX12_fair_19 ?_
  refine q_puti fl_X12_257 sh_94 (q_inO hO3 sh_94) (fun h => q_Ok_put h sh_94 rfl) rfl dX12_fair_20 (fun M4 hM4 => ?_)
  have hO4 : q_Ok M4 := by rw [hM4]; exact q_Ok_put hO3 sh_94 rfl
  refine q_aload_n 0 dX12_fair_23 rfl rfl ?_
  refine q_iconst dX12_fair_24 ?_
  refine q_puti fl_X12_237 sh_94 (q_inO hO4 sh_94) (fun h => q_Ok_put h sh_94 rfl) rfl dX12_fair_25 (fun M5 hM5 => ?_)
  have hO5 : q_Ok M5 := by rw [hM5]; exact q_Ok_put hO4 sh_94 rfl
  refine q_aload_n 0 dX12_fair_28 rfl rfl ?_
  refine q_iconst dX12_fair_29 ?_
  refine q_puti fl_X12_240 sh_94 (q_inO hO5 sh_94) (fun h => q_Ok_put h sh_94 rfl) rfl dX12_fair_30 (fun M6 hM6 => ?_)
  have hO6 : q_Ok M6 := by rw [hM6]; exact q_Ok_put hO5 sh_94 rfl
  refine q_aload_n 0 dX12_fair_33 rfl rfl ?_
  refine q_iconst dX12_fair_34 ?_
  refine q_puti fl_X12_336 sh_94 (q_inO hO6 sh_94) (fun h => q_Ok_put h sh_94 rfl) rfl dX12_fair_35 (fun M7 hM7 => ?_)
  have hO7 : q_Ok M7 := by rw [hM7]; exact q_Ok_put hO6 sh_94 rfl
  refine q_iconst dX12_fair_38 ?_
  refine q_istore_n (ls' := [(1, .inl 0), (0, .inr (.inr 94))]) dX12_fair_39 rfl (by decide) rfl ?_
  refine q_sub [1, 0] rfl ?_
  exact tX12_fair_40 hd q_FU 0 M7 hO7
def fX12_fault (x1 : Int) (M : q_Mem) : Option (Int × q_Mem) := if q_w x1 = 0 then (some ((M.2 94 7), M)) else (if q_w x1 = q_w 1 then (some ((M.2 94 8), M)) else (some ((-1), M)))
theorem tX12_fault {d : Nat} (x1 : Int) (M : q_Mem) (hO : q_Ok M) : q_EX d yX12_fault cX12_fault 2 (some .int) 0 (q_args 0 [.inr (.inr 94), .inl x1]) [] M (fX12_fault x1 M) := by
  show q_EX _ _ _ _ _ 0 [(0, .inr (.inr 94)), (1, .inl x1)] [] M _
  unfold fX12_fault
  refine q_iload_n 1 dX12_fault_0 rfl rfl ?_
  refine q_ifne (tgt := 11) dX12_fault_1 (by decide) ?_ ?_
  · refine q_iload_n 1 dX12_fault_11 rfl rfl ?_
    refine q_iconst dX12_fault_12 ?_
    refine q_icmpne (tgt := 23) dX12_fault_13 (by decide) ?_ ?_
    · refine q_iconst dX12_fault_23 ?_
      exact q_ret dX12_fault_24 rfl
    · refine q_aload_n 0 dX12_fault_16 rfl rfl ?_
      refine q_geti fl_X12_13 sh_94 (q_inO hO sh_94) rfl dX12_fault_17 ?_
      refine q_goto (tgt := 24) dX12_fault_20 (by decide) ?_
      exact q_ret dX12_fault_24 rfl
  · refine q_aload_n 0 dX12_fault_4 rfl rfl ?_
    refine q_geti fl_X12_360 sh_94 (q_inO hO sh_94) rfl dX12_fault_5 ?_
    refine q_goto (tgt := 24) dX12_fault_8 (by decide) ?_
    exact q_ret dX12_fault_24 rfl
def fX12_fairMinutes (M : q_Mem) : Option (Int × q_Mem) := (q_ld M 122 6 3).bind fun x21 => some (x21, M)
theorem tX12_fairMinutes {d : Nat} (M : q_Mem) (hO : q_Ok M) : q_EX d yX12_fairMinutes cX12_fairMinutes 1 (some .int) 0 (q_args 0 [.inr (.inr 94)]) [] M (fX12_fairMinutes M) := by
  show q_EX _ _ _ _ _ 0 [(0, .inr (.inr 94))] [] M _
  unfold fX12_fairMinutes
  refine q_aload_n 0 dX12_fairMinutes_0 rfl rfl ?_
  refine q_getx fl_X12_96 hO sh_94 rfl fx_94_36 dX12_fairMinutes_1 ?_
  refine q_iconst dX12_fairMinutes_4 ?_
  refine q_iald sh_122 (q_inA hO sh_122 (by decide)) dX12_fairMinutes_5 (fun x21 _ _ _ => ?_)
  exact q_ret dX12_fairMinutes_6 rfl
def fX12_stallMany (M : q_Mem) : Option (Int × q_Mem) := (q_ld M 123 6 3).bind fun x21 => some (x21, M)
theorem tX12_stallMany {d : Nat} (M : q_Mem) (hO : q_Ok M) : q_EX d yX12_stallMany cX12_stallMany 1 (some .int) 0 (q_args 0 [.inr (.inr 94)]) [] M (fX12_stallMany M) := by
  show q_EX _ _ _ _ _ 0 [(0, .inr (.inr 94))] [] M _
  unfold fX12_stallMany
  refine q_aload_n 0 dX12_stallMany_0 rfl rfl ?_
  refine q_getx fl_X12_99 hO sh_94 rfl fx_94_37 dX12_stallMany_1 ?_
  refine q_iconst dX12_stallMany_4 ?_
  refine q_iald sh_123 (q_inA hO sh_123 (by decide)) dX12_stallMany_5 (fun x21 _ _ _ => ?_)
  exact q_ret dX12_stallMany_6 rfl
def fX12_coinMany (M : q_Mem) : Option (Int × q_Mem) := (q_ld M 123 6 4).bind fun x21 => some (x21, M)
theorem tX12_coinMany {d : Nat} (M : q_Mem) (hO : q_Ok M) : q_EX d yX12_coinMany cX12_coinMany 1 (some .int) 0 (q_args 0 [.inr (.inr 94)]) [] M (fX12_coinMany M) := by
  show q_EX _ _ _ _ _ 0 [(0, .inr (.inr 94))] [] M _
  unfold fX12_coinMany
  refine q_aload_n 0 dX12_coinMany_0 rfl rfl ?_
  refine q_getx fl_X12_99 hO sh_94 rfl fx_94_37 dX12_coinMany_1 ?_
  refine q_iconst dX12_coinMany_4 ?_
  refine q_iald sh_123 (q_inA hO sh_123 (by decide)) dX12_coinMany_5 (fun x21 _ _ _ => ?_)
  exact q_ret dX12_coinMany_6 rfl
def fX12_isStall (x1 : Int) (M : q_Mem) : Option (Int × q_Mem) := q_bd (fX12_stallMany M) fun x21 M1 => q_bd (fX12_isIn x1 0 (q_w (x21 - 1)) M1) fun x22 M2 => if x22 = 0 ∨ x22 = 1 then some (x22, M2) else none
theorem tX12_isStall {d : Nat} (hd : 1 ≤ d) (x1 : Int) (M : q_Mem) (hO : q_Ok M) : q_EX d yX12_isStall cX12_isStall 3 (some .boolean) 0 (q_args 0 [.inr (.inr 94), .inr (.inl x1)]) [] M (fX12_isStall x1 M) := by
  obtain ⟨d, rfl⟩ : ∃ d', d = d' + 1 := ⟨d - 1, by omega⟩
  have hd : 0 ≤ d := by omega
  show q_EX _ _ _ _ _ 0 [(0, .inr (.inr 94)), (1, .inr (.inl x1))] [] M _
  unfold fX12_isStall
  refine q_lload_n 1 dX12_isStall_0 rfl rfl ?_
  refine q_lconst (v := 0) dX12_isStall_1 (by decide) ?_
  refine q_aload_n 0 dX12_isStall_2 rfl rfl ?_
  refine q_callVi (As := []) hO mb_X12_stallMany mv_X12_stallMany ml_X12_376 sh_94 rfl dX12_isStall_3 (fun _ => rfl) rfl (Nat.le_of_ble_eq_true rfl) rfl (Nat.le_of_ble_eq_true rfl) (tX12_stallMany M hO) (fun x21 M1 _ hO1 => ?_)
  refine q_iconst dX12_isStall_6 ?_
  refine q_isub dX12_isStall_7 ?_
  refine q_i2l dX12_isStall_8 ?_
  refine q_callSi (As := [.inr (.inl x1), .inr (.inl 0), .inr (.inl (q_w (x21 - 1)))]) hO1 mb_X12_isIn ms_X12_isIn ml_X12_277 dX12_isStall_9 (fun _ => rfl) rfl (Nat.le_of_ble_eq_true rfl) rfl (Nat.le_of_ble_eq_true rfl) (tX12_isIn x1 0 (q_w (x21 - 1)) M1 hO1) (fun x22 M2 _ hO2 => ?_)
  exact q_retz dX12_isStall_12 rfl
def fX12_isCoin (x1 : Int) (M : q_Mem) : Option (Int × q_Mem) := q_bd (fX12_coinMany M) fun x21 M1 => q_bd (fX12_isIn (q_w x1) 0 (q_w (x21 - 1)) M1) fun x22 M2 => if x22 = 0 ∨ x22 = 1 then some (x22, M2) else none
theorem tX12_isCoin {d : Nat} (hd : 1 ≤ d) (x1 : Int) (M : q_Mem) (hO : q_Ok M) : q_EX d yX12_isCoin cX12_isCoin 2 (some .boolean) 0 (q_args 0 [.inr (.inr 94), .inl x1]) [] M (fX12_isCoin x1 M) := by
  obtain ⟨d, rfl⟩ : ∃ d', d = d' + 1 := ⟨d - 1, by omega⟩
  have hd : 0 ≤ d := by omega
  show q_EX _ _ _ _ _ 0 [(0, .inr (.inr 94)), (1, .inl x1)] [] M _
  unfold fX12_isCoin
  refine q_iload_n 1 dX12_isCoin_0 rfl rfl ?_
  refine q_i2l dX12_isCoin_1 ?_
  refine q_lconst (v := 0) dX12_isCoin_2 (by decide) ?_
  refine q_aload_n 0 dX12_isCoin_3 rfl rfl ?_
  refine q_callVi (As := []) hO mb_X12_coinMany mv_X12_coinMany ml_X12_379 sh_94 rfl dX12_isCoin_4 (fun _ => rfl) rfl (Nat.le_of_ble_eq_true rfl) rfl (Nat.le_of_ble_eq_true rfl) (tX12_coinMany M hO) (fun x21 M1 _ hO1 => ?_)
  refine q_iconst dX12_isCoin_7 ?_
  refine q_isub dX12_isCoin_8 ?_
  refine q_i2l dX12_isCoin_9 ?_
  refine q_callSi (As := [.inr (.inl (q_w x1)), .inr (.inl 0), .inr (.inl (q_w (x21 - 1)))]) hO1 mb_X12_isIn ms_X12_isIn ml_X12_277 dX12_isCoin_10 (fun _ => rfl) rfl (Nat.le_of_ble_eq_true rfl) rfl (Nat.le_of_ble_eq_true rfl) (tX12_isIn (q_w x1) 0 (q_w (x21 - 1)) M1 hO1) (fun x22 M2 _ hO2 => ?_)
  exact q_retz dX12_isCoin_13 rfl
def fX12_isMinute (x1 : Int) (M : q_Mem) : Option (Int × q_Mem) := if q_w (M.2 94 47) = 0 then (some (0, M)) else (q_bd (fX12_fairMinutes M) fun x21 M1 => q_bd (fX12_isIn (q_w x1) 0 (q_w x21) M1) fun x22 M2 => if q_w x22 = 0 then (some (0, M2)) else (some (1, M2)))
theorem tX12_isMinute {d : Nat} (hd : 1 ≤ d) (x1 : Int) (M : q_Mem) (hO : q_Ok M) : q_EX d yX12_isMinute cX12_isMinute 2 (some .boolean) 0 (q_args 0 [.inr (.inr 94), .inl x1]) [] M (fX12_isMinute x1 M) := by
  obtain ⟨d, rfl⟩ : ∃ d', d = d' + 1 := ⟨d - 1, by omega⟩
  have hd : 0 ≤ d := by omega
  show q_EX _ _ _ _ _ 0 [(0, .inr (.inr 94)), (1, .inl x1)] [] M _
  unfold fX12_isMinute
  refine q_aload_n 0 dX12_isMinute_0 rfl rfl ?_
  refine q_geti fl_X12_366 sh_94 (q_inO hO sh_94) rfl dX12_isMinute_1 ?_
  refine q_ifeq (tgt := 25) dX12_isMinute_4 (by decide) ?_ ?_
  · refine q_iconst dX12_isMinute_25 ?_
    exact q_ret ⟨dX12_isMinute_26, by decide⟩ rfl
  · refine q_iload_n 1 dX12_isMinute_7 rfl rfl ?_
    refine q_i2l dX12_isMinute_8 ?_
    refine q_lconst (v := 0) dX12_isMinute_9 (by decide) ?_
    refine q_aload_n 0 dX12_isMinute_10 rfl rfl ?_
    refine q_callVi (As := []) hO mb_X12_fairMinutes mv_X12_fairMinutes ml_X12_382 sh_94 rfl dX12_isMinute_11 (fun _ => rfl) rfl (Nat.le_of_ble_eq_true rfl) rfl (Nat.le_of_ble_eq_true rfl) (tX12_fairMinutes M hO) (fun x21 M1 _ hO1 => ?_)
    refine q_i2l dX12_isMinute_14 ?_
    refine q_callSi (As := [.inr (.inl (q_w x1)), .inr (.inl 0), .inr (.inl (q_w x21))]) hO1 mb_X12_isIn ms_X12_isIn ml_X12_277 dX12_isMinute_15 (fun _ => rfl) rfl (Nat.le_of_ble_eq_true rfl) rfl (Nat.le_of_ble_eq_true rfl) (tX12_isIn (q_w x1) 0 (q_w x21) M1 hO1) (fun x22 M2 _ hO2 => ?_)
    refine q_ifeq (tgt := 25) dX12_isMinute_18 (by decide) ?_ ?_
    · refine q_iconst dX12_isMinute_25 ?_
      exact q_ret ⟨dX12_isMinute_26, by decide⟩ rfl
    · refine q_iconst dX12_isMinute_21 ?_
      refine q_goto (tgt := 26) dX12_isMinute_22 (by decide) ?_
      exact q_ret ⟨dX12_isMinute_26, by decide⟩ rfl
def fX12_placeOf (x1 : Int) (M : q_Mem) : Option (Int × q_Mem) := (q_ld M 125 48 (24 + (4 * x1))).bind fun x21 => some (x21, M)
theorem tX12_placeOf {d : Nat} (x1 : Int) (M : q_Mem) (hO : q_Ok M) : q_EX d yX12_placeOf cX12_placeOf 2 (some .int) 0 (q_args 0 [.inr (.inr 94), .inl x1]) [] M (fX12_placeOf x1 M) := by
  show q_EX _ _ _ _ _ 0 [(0, .inr (.inr 94)), (1, .inl x1)] [] M _
  unfold fX12_placeOf
  refine q_aload_n 0 dX12_placeOf_0 rfl rfl ?_
  refine q_getx fl_X12_106 hO sh_94 rfl fx_94_39 dX12_placeOf_1 ?_
  refine q_bipush dX12_placeOf_4 (by decide) ?_
  refine q_iconst dX12_placeOf_6 ?_
  refine q_iload_n 1 dX12_placeOf_7 rfl rfl ?_
  refine q_imul dX12_placeOf_8 ?_
  refine q_iadd dX12_placeOf_9 ?_
  refine q_iald sh_125 (q_inA hO sh_125 (by decide)) dX12_placeOf_10 (fun x21 _ _ _ => ?_)
  exact q_ret dX12_placeOf_11 rfl
def fX12_turnOf (x1 : Int) (M : q_Mem) : Option (Int × q_Mem) := (q_ld M 125 48 (25 + (4 * x1))).bind fun x21 => some (x21, M)
theorem tX12_turnOf {d : Nat} (x1 : Int) (M : q_Mem) (hO : q_Ok M) : q_EX d yX12_turnOf cX12_turnOf 2 (some .int) 0 (q_args 0 [.inr (.inr 94), .inl x1]) [] M (fX12_turnOf x1 M) := by
  show q_EX _ _ _ _ _ 0 [(0, .inr (.inr 94)), (1, .inl x1)] [] M _
  unfold fX12_turnOf
  refine q_aload_n 0 dX12_turnOf_0 rfl rfl ?_
  refine q_getx fl_X12_106 hO sh_94 rfl fx_94_39 dX12_turnOf_1 ?_
  refine q_bipush dX12_turnOf_4 (by decide) ?_
  refine q_iconst dX12_turnOf_6 ?_
  refine q_iload_n 1 dX12_turnOf_7 rfl rfl ?_
  refine q_imul dX12_turnOf_8 ?_
  refine q_iadd dX12_turnOf_9 ?_
  refine q_iald sh_125 (q_inA hO sh_125 (by decide)) dX12_turnOf_10 (fun x21 _ _ _ => ?_)
  exact q_ret dX12_turnOf_11 rfl
def fX12_priceOf (x1 : Int) (M : q_Mem) : Option (Int × q_Mem) := (q_ld M 125 48 (26 + (4 * x1))).bind fun x21 => some (x21, M)
theorem tX12_priceOf {d : Nat} (x1 : Int) (M : q_Mem) (hO : q_Ok M) : q_EX d yX12_priceOf cX12_priceOf 2 (some .int) 0 (q_args 0 [.inr (.inr 94), .inl x1]) [] M (fX12_priceOf x1 M) := by
  show q_EX _ _ _ _ _ 0 [(0, .inr (.inr 94)), (1, .inl x1)] [] M _
  unfold fX12_priceOf
  refine q_aload_n 0 dX12_priceOf_0 rfl rfl ?_
  refine q_getx fl_X12_106 hO sh_94 rfl fx_94_39 dX12_priceOf_1 ?_
  refine q_bipush dX12_priceOf_4 (by decide) ?_
  refine q_iconst dX12_priceOf_6 ?_
  refine q_iload_n 1 dX12_priceOf_7 rfl rfl ?_
  refine q_imul dX12_priceOf_8 ?_
  refine q_iadd dX12_priceOf_9 ?_
  refine q_iald sh_125 (q_inA hO sh_125 (by decide)) dX12_priceOf_10 (fun x21 _ _ _ => ?_)
  exact q_ret dX12_priceOf_11 rfl
def fX12_shutOf (x1 : Int) (M : q_Mem) : Option (Int × q_Mem) := (q_ld M 125 48 (27 + (4 * x1))).bind fun x21 => some (x21, M)
theorem tX12_shutOf {d : Nat} (x1 : Int) (M : q_Mem) (hO : q_Ok M) : q_EX d yX12_shutOf cX12_shutOf 2 (some .int) 0 (q_args 0 [.inr (.inr 94), .inl x1]) [] M (fX12_shutOf x1 M) := by
  show q_EX _ _ _ _ _ 0 [(0, .inr (.inr 94)), (1, .inl x1)] [] M _
  unfold fX12_shutOf
  refine q_aload_n 0 dX12_shutOf_0 rfl rfl ?_
  refine q_getx fl_X12_106 hO sh_94 rfl fx_94_39 dX12_shutOf_1 ?_
  refine q_bipush dX12_shutOf_4 (by decide) ?_
  refine q_iconst dX12_shutOf_6 ?_
  refine q_iload_n 1 dX12_shutOf_7 rfl rfl ?_
  refine q_imul dX12_shutOf_8 ?_
  refine q_iadd dX12_shutOf_9 ?_
  refine q_iald sh_125 (q_inA hO sh_125 (by decide)) dX12_shutOf_10 (fun x21 _ _ _ => ?_)
  exact q_ret dX12_shutOf_11 rfl
def fX12_isBought (x1 : Int) (M : q_Mem) : Option (Int × q_Mem) := (q_ld M 131 141 2).bind fun x21 => if q_w (q_and (q_shr x21 x1) 1) = q_w 1 then (some (1, M)) else (some (0, M))
theorem tX12_isBought {d : Nat} (x1 : Int) (M : q_Mem) (hO : q_Ok M) : q_EX d yX12_isBought cX12_isBought 2 (some .boolean) 0 (q_args 0 [.inr (.inr 94), .inl x1]) [] M (fX12_isBought x1 M) := by
  show q_EX _ _ _ _ _ 0 [(0, .inr (.inr 94)), (1, .inl x1)] [] M _
  unfold fX12_isBought
  refine q_aload_n 0 dX12_isBought_0 rfl rfl ?_
  refine q_getx fl_X12_124 hO sh_94 rfl fx_94_49 dX12_isBought_1 ?_
  refine q_iconst dX12_isBought_4 ?_
  refine q_iald sh_131 (q_inA hO sh_131 (by decide)) dX12_isBought_5 (fun x21 _ _ _ => ?_)
  refine q_iload_n 1 dX12_isBought_6 rfl rfl ?_
  refine q_ishr dX12_isBought_7 ?_
  refine q_iconst dX12_isBought_8 ?_
  refine q_iand dX12_isBought_9 ?_
  refine q_iconst dX12_isBought_10 ?_
  refine q_icmpne (tgt := 18) dX12_isBought_11 (by decide) ?_ ?_
  · refine q_iconst dX12_isBought_18 ?_
    exact q_ret ⟨dX12_isBought_19, by decide⟩ rfl
  · refine q_iconst dX12_isBought_14 ?_
    refine q_goto (tgt := 19) dX12_isBought_15 (by decide) ?_
    exact q_ret ⟨dX12_isBought_19, by decide⟩ rfl
def fX12_isCloud_54  : Nat → Int → Int → q_Mem → Option (Int × q_Mem)
  | 0, _, _, _ => none
  | n + 1, x1, x2, M => (q_ld M 131 141 3).bind fun x21 => if q_w x2 < q_w x21 then ((q_ld M 131 141 (4 + x2)).bind fun x22 => if q_w x22 = q_w x1 then (some (1, M)) else ((fX12_isCloud_54 n x1 (x2 + 1) M))) else (some (0, M))
theorem tX12_isCloud_54 {d : Nat} (hd : 0 ≤ d) : ∀ (n : Nat) (x1 : Int) (x2 : Int) (M : q_Mem), q_Ok M → q_EX (d + 1) yX12_isCloud cX12_isCloud 3 (some .boolean) 54 [(0, .inr (.inr 94)), (1, .inl x1), (2, .inl x2)] [] M (fX12_isCloud_54 n x1 x2 M) := by
  intro n
  induction n with
  | zero => intro x1 x2 M hO; exact q_none
  | succ n ih =>
    intro x1 x2 M hO
    rw [fX12_isCloud_54]
    refine q_iload_n 2 dX12_isCloud_54 rfl rfl ?_
    refine q_aload_n 0 dX12_isCloud_55 rfl rfl ?_
    refine q_getx fl_X12_124 hO sh_94 rfl fx_94_49 dX12_isCloud_56 ?_
    refine q_iconst dX12_isCloud_59 ?_
    refine q_iald sh_131 (q_inA hO sh_131 (by decide)) dX12_isCloud_60 (fun x21 _ _ _ => ?_)
    refine q_icmpge (tgt := 84) dX12_isCloud_61 (by decide) ?_ ?_
    · refine q_iconst dX12_isCloud_84 ?_
      exact q_ret ⟨dX12_isCloud_85, by decide⟩ rfl
    · refine q_aload_n 0 dX12_isCloud_64 rfl rfl ?_
      refine q_getx fl_X12_124 hO sh_94 rfl fx_94_49 dX12_isCloud_65 ?_
      refine q_iconst dX12_isCloud_68 ?_
      refine q_iload_n 2 dX12_isCloud_69 rfl rfl ?_
      refine q_iadd dX12_isCloud_70 ?_
      refine q_iald sh_131 (q_inA hO sh_131 (by decide)) dX12_isCloud_71 (fun x22 _ _ _ => ?_)
      refine q_iload_n 1 dX12_isCloud_72 rfl rfl ?_
      refine q_icmpne (tgt := 78) dX12_isCloud_73 (by decide) ?_ ?_
      · refine q_iinc (ls' := [(2, .inl (x2 + 1)), (0, .inr (.inr 94)), (1, .inl x1)]) 2 dX12_isCloud_78 rfl (by decide) rfl ?_
        refine q_goto (tgt := 54) dX12_isCloud_81 (by decide) ?_
        refine q_sub [1, 2, 0] rfl ?_
        exact ih x1 (x2 + 1) M hO
      · refine q_iconst dX12_isCloud_76 ?_
        exact q_ret ⟨dX12_isCloud_77, by decide⟩ rfl
def fX12_isCloud_2  : Nat → Int → Int → q_Mem → Option (Int × q_Mem)
  | 0, _, _, _ => none
  | n + 1, x1, x2, M => (q_ld M 123 6 5).bind fun x21 => if q_w x2 < q_w x21 then ((q_ld M 127 32 (16 + (2 * x2))).bind fun x22 => (q_ld M 127 32 (17 + (2 * x2))).bind fun x23 => q_bd (fX12_isIn (q_w x1) (q_w x22) (q_w x23) M) fun x24 M1 => if q_w x24 = 0 then ((fX12_isCloud_2 n x1 (x2 + 1) M1)) else (some (1, M1))) else ((fX12_isCloud_54 q_FU x1 0 M))
theorem tX12_isCloud_2 {d : Nat} (hd : 0 ≤ d) : ∀ (n : Nat) (x1 : Int) (x2 : Int) (M : q_Mem), q_Ok M → q_EX (d + 1) yX12_isCloud cX12_isCloud 3 (some .boolean) 2 [(0, .inr (.inr 94)), (1, .inl x1), (2, .inl x2)] [] M (fX12_isCloud_2 n x1 x2 M) := by
  intro n
  induction n with
  | zero => intro x1 x2 M hO; exact q_none
  | succ n ih =>
    intro x1 x2 M hO
    rw [fX12_isCloud_2]
    refine q_iload_n 2 dX12_isCloud_2 rfl rfl ?_
    refine q_aload_n 0 dX12_isCloud_3 rfl rfl ?_
    refine q_getx fl_X12_99 hO sh_94 rfl fx_94_37 dX12_isCloud_4 ?_
    refine q_iconst dX12_isCloud_7 ?_
    refine q_iald sh_123 (q_inA hO sh_123 (by decide)) dX12_isCloud_8 (fun x21 _ _ _ => ?_)
    refine q_icmpge (tgt := 52) dX12_isCloud_9 (by decide) ?_ ?_
    · refine q_iconst dX12_isCloud_52 ?_
      refine q_istore_n (ls' := [(2, .inl 0), (0, .inr (.inr 94)), (1, .inl x1)]) dX12_isCloud_53 rfl (by decide) rfl ?_
      refine q_sub [1, 2, 0] rfl ?_
      exact tX12_isCloud_54 hd q_FU x1 0 M hO
    · refine q_iload_n 1 dX12_isCloud_12 rfl rfl ?_
      refine q_i2l dX12_isCloud_13 ?_
      refine q_aload_n 0 dX12_isCloud_14 rfl rfl ?_
      refine q_getx fl_X12_112 hO sh_94 rfl fx_94_41 dX12_isCloud_15 ?_
      refine q_bipush dX12_isCloud_18 (by decide) ?_
      refine q_iconst dX12_isCloud_20 ?_
      refine q_iload_n 2 dX12_isCloud_21 rfl rfl ?_
      refine q_imul dX12_isCloud_22 ?_
      refine q_iadd dX12_isCloud_23 ?_
      refine q_iald sh_127 (q_inA hO sh_127 (by decide)) dX12_isCloud_24 (fun x22 _ _ _ => ?_)
      refine q_i2l dX12_isCloud_25 ?_
      refine q_aload_n 0 dX12_isCloud_26 rfl rfl ?_
      refine q_getx fl_X12_112 hO sh_94 rfl fx_94_41 dX12_isCloud_27 ?_
      refine q_bipush dX12_isCloud_30 (by decide) ?_
      refine q_iconst dX12_isCloud_32 ?_
      refine q_iload_n 2 dX12_isCloud_33 rfl rfl ?_
      refine q_imul dX12_isCloud_34 ?_
      refine q_iadd dX12_isCloud_35 ?_
      refine q_iald sh_127 (q_inA hO sh_127 (by decide)) dX12_isCloud_36 (fun x23 _ _ _ => ?_)
      refine q_i2l dX12_isCloud_37 ?_
      refine q_callSi (As := [.inr (.inl (q_w x1)), .inr (.inl (q_w x22)), .inr (.inl (q_w x23))]) hO mb_X12_isIn ms_X12_isIn ml_X12_277 dX12_isCloud_38 (fun _ => rfl) rfl (Nat.le_of_ble_eq_true rfl) rfl (Nat.le_of_ble_eq_true rfl) (tX12_isIn (q_w x1) (q_w x22) (q_w x23) M hO) (fun x24 M1 _ hO1 => ?_)
      refine q_ifeq (tgt := 46) dX12_isCloud_41 (by decide) ?_ ?_
      · refine q_iinc (ls' := [(2, .inl (x2 + 1)), (0, .inr (.inr 94)), (1, .inl x1)]) 2 dX12_isCloud_46 rfl (by decide) rfl ?_
        refine q_goto (tgt := 2) dX12_isCloud_49 (by decide) ?_
        refine q_sub [1, 2, 0] rfl ?_
        exact ih x1 (x2 + 1) M1 hO1
      · refine q_iconst dX12_isCloud_44 ?_
        exact q_ret ⟨dX12_isCloud_45, by decide⟩ rfl
def fX12_isCloud (x1 : Int) (M : q_Mem) : Option (Int × q_Mem) := (fX12_isCloud_2 q_FU x1 0 M)
theorem tX12_isCloud {d : Nat} (hd : 1 ≤ d) (x1 : Int) (M : q_Mem) (hO : q_Ok M) : q_EX d yX12_isCloud cX12_isCloud 3 (some .boolean) 0 (q_args 0 [.inr (.inr 94), .inl x1]) [] M (fX12_isCloud x1 M) := by
  obtain ⟨d, rfl⟩ : ∃ d', d = d' + 1 := ⟨d - 1, by omega⟩
  have hd : 0 ≤ d := by omega
  show q_EX _ _ _ _ _ 0 [(0, .inr (.inr 94)), (1, .inl x1)] [] M _
  unfold fX12_isCloud
  refine q_iconst dX12_isCloud_0 ?_
  refine q_istore_n (ls' := [(2, .inl 0), (0, .inr (.inr 94)), (1, .inl x1)]) dX12_isCloud_1 rfl (by decide) rfl ?_
  refine q_sub [1, 2, 0] rfl ?_
  exact tX12_isCloud_2 hd q_FU x1 0 M hO
def fX12_qPuts (x1 : Int) (M : q_Mem) : Option (Int × q_Mem) := (q_sto M 164 1700 (M.2 94 97) x1).bind fun M1 => q_let (q_up M1 94 97 ((M1.2 94 97) + 1)) fun M2 => some (0, M2)
theorem tX12_qPuts {d : Nat} (x1 : Int) (M : q_Mem) (hO : q_Ok M) : q_EX d yX12_qPuts cX12_qPuts 3 none 0 (q_args 0 [.inr (.inr 94), .inr (.inl x1)]) [] M (fX12_qPuts x1 M) := by
  show q_EX _ _ _ _ _ 0 [(0, .inr (.inr 94)), (1, .inr (.inl x1))] [] M _
  unfold fX12_qPuts
  refine q_aload_n 0 dX12_qPuts_0 rfl rfl ?_
  refine q_getx fl_X12_228 hO sh_94 rfl fx_94_96 dX12_qPuts_1 ?_
  refine q_aload_n 0 dX12_qPuts_4 rfl rfl ?_
  refine q_geti fl_X12_385 sh_94 (q_inO hO sh_94) rfl dX12_qPuts_5 ?_
  refine q_lload_n 1 dX12_qPuts_8 rfl rfl ?_
  refine q_last sh_164 (q_inA hO sh_164 (by decide)) dX12_qPuts_9 (fun M1 _ _ hM1 => ?_)
  have hO1 : q_Ok M1 := by rw [hM1]; exact q_Ok_arr (t := 3) hO sh_164 (by decide)
  refine q_aload_n 0 dX12_qPuts_10 rfl rfl ?_
  refine q_dup dX12_qPuts_11 rfl ?_
  refine q_geti fl_X12_385 sh_94 (q_inO hO1 sh_94) rfl dX12_qPuts_12 ?_
  refine q_iconst dX12_qPuts_15 ?_
  refine q_iadd dX12_qPuts_16 ?_
  refine q_puti fl_X12_385 sh_94 (q_inO hO1 sh_94) (fun h => q_Ok_put h sh_94 rfl) rfl dX12_qPuts_17 (fun M2 hM2 => ?_)
  have hO2 : q_Ok M2 := by rw [hM2]; exact q_Ok_put hO1 sh_94 rfl
  exact q_ret dX12_qPuts_20 rfl
def fX12_qPartOf (x1 : Int) (x2 : Int) (M : q_Mem) : Option (Int × q_Mem) := if q_w x1 = 0 then (q_ld M 126 32 (16 + (2 * x2))).bind fun x21 => some ((q_w x21), M) else (if q_w x1 = 1 then (q_ld M 126 32 (17 + (2 * x2))).bind fun x22 => some ((q_w x22), M) else (if q_w x1 = 2 then q_bd (fX12_turnOf (M.2 94 50) M) fun x23 M1 => some ((q_w x23), M1) else (if q_w x1 = 3 then some ((q_w (M.2 94 51)), M) else (if q_w x1 = 4 then some ((q_w (M.2 94 52)), M) else (if q_w x1 = 5 then q_bd (fX12_priceOf (M.2 94 50) M) fun x24 M2 => some ((q_w x24), M2) else (if q_w x1 = 6 then some ((q_w x2), M) else (if q_w (M.2 94 53) = q_w (-1) then (some ((-1), M)) else ((q_ld M 132 48 ((6 * x2) + (M.2 94 53))).bind fun x25 => some ((q_w x25), M)))))))))
theorem tX12_qPartOf {d : Nat} (hd : 1 ≤ d) (x1 : Int) (x2 : Int) (M : q_Mem) (hO : q_Ok M) : q_EX d yX12_qPartOf cX12_qPartOf 3 (some .long) 0 (q_args 0 [.inr (.inr 94), .inl x1, .inl x2]) [] M (fX12_qPartOf x1 x2 M) := by
  obtain ⟨d, rfl⟩ : ∃ d', d = d' + 1 := ⟨d - 1, by omega⟩
  have hd : 0 ≤ d := by omega
  show q_EX _ _ _ _ _ 0 [(0, .inr (.inr 94)), (1, .inl x1), (2, .inl x2)] [] M _
  unfold fX12_qPartOf
  refine q_iload_n 1 dX12_qPartOf_0 rfl rfl ?_
  refine q_case (fun h1 => ?_) (fun h1 => ?_)
  · refine q_tswI (tgt := 44) h1 dX12_qPartOf_1 (by decide) (by decide) rfl (by decide) ?_
    refine q_aload_n 0 dX12_qPartOf_44 rfl rfl ?_
    refine q_getx fl_X12_109 hO sh_94 rfl fx_94_40 dX12_qPartOf_45 ?_
    refine q_bipush dX12_qPartOf_48 (by decide) ?_
    refine q_iconst dX12_qPartOf_50 ?_
    refine q_iload_n 2 dX12_qPartOf_51 rfl rfl ?_
    refine q_imul dX12_qPartOf_52 ?_
    refine q_iadd dX12_qPartOf_53 ?_
    refine q_iald sh_126 (q_inA hO sh_126 (by decide)) dX12_qPartOf_54 (fun x21 _ _ _ => ?_)
    refine q_i2l dX12_qPartOf_55 ?_
    exact q_ret dX12_qPartOf_56 rfl
  · refine q_case (fun h2 => ?_) (fun h2 => ?_)
    · refine q_tswI (tgt := 57) h2 dX12_qPartOf_1 (by decide) (by decide) rfl (by decide) ?_
      refine q_aload_n 0 dX12_qPartOf_57 rfl rfl ?_
      refine q_getx fl_X12_109 hO sh_94 rfl fx_94_40 dX12_qPartOf_58 ?_
      refine q_bipush dX12_qPartOf_61 (by decide) ?_
      refine q_iconst dX12_qPartOf_63 ?_
      refine q_iload_n 2 dX12_qPartOf_64 rfl rfl ?_
      refine q_imul dX12_qPartOf_65 ?_
      refine q_iadd dX12_qPartOf_66 ?_
      refine q_iald sh_126 (q_inA hO sh_126 (by decide)) dX12_qPartOf_67 (fun x22 _ _ _ => ?_)
      refine q_i2l dX12_qPartOf_68 ?_
      exact q_ret dX12_qPartOf_69 rfl
    · refine q_case (fun h3 => ?_) (fun h3 => ?_)
      · refine q_tswI (tgt := 70) h3 dX12_qPartOf_1 (by decide) (by decide) rfl (by decide) ?_
        refine q_aload_n 0 dX12_qPartOf_70 rfl rfl ?_
        refine q_aload_n 0 dX12_qPartOf_71 rfl rfl ?_
        refine q_geti fl_X12_402 sh_94 (q_inO hO sh_94) rfl dX12_qPartOf_72 ?_
        refine q_callVi (As := [.inl (M.2 94 50)]) hO mb_X12_turnOf mv_X12_turnOf ml_X12_588 sh_94 rfl dX12_qPartOf_75 (fun _ => rfl) rfl (Nat.le_of_ble_eq_true rfl) rfl (Nat.le_of_ble_eq_true rfl) (tX12_turnOf (M.2 94 50) M hO) (fun x23 M1 _ hO1 => ?_)
        refine q_i2l dX12_qPartOf_78 ?_
        exact q_ret dX12_qPartOf_79 rfl
      · refine q_case (fun h4 => ?_) (fun h4 => ?_)
        · refine q_tswI (tgt := 80) h4 dX12_qPartOf_1 (by decide) (by decide) rfl (by decide) ?_
          refine q_aload_n 0 dX12_qPartOf_80 rfl rfl ?_
          refine q_geti fl_X12_405 sh_94 (q_inO hO sh_94) rfl dX12_qPartOf_81 ?_
          refine q_i2l dX12_qPartOf_84 ?_
          exact q_ret dX12_qPartOf_85 rfl
        · refine q_case (fun h5 => ?_) (fun h5 => ?_)
          · refine q_tswI (tgt := 86) h5 dX12_qPartOf_1 (by decide) (by decide) rfl (by decide) ?_
            refine q_aload_n 0 dX12_qPartOf_86 rfl rfl ?_
            refine q_geti fl_X12_424 sh_94 (q_inO hO sh_94) rfl dX12_qPartOf_87 ?_
            refine q_i2l dX12_qPartOf_90 ?_
            exact q_ret dX12_qPartOf_91 rfl
          · refine q_case (fun h6 => ?_) (fun h6 => ?_)
            · refine q_tswI (tgt := 92) h6 dX12_qPartOf_1 (by decide) (by decide) rfl (by decide) ?_
              refine q_aload_n 0 dX12_qPartOf_92 rfl rfl ?_
              refine q_aload_n 0 dX12_qPartOf_93 rfl rfl ?_
              refine q_geti fl_X12_402 sh_94 (q_inO hO sh_94) rfl dX12_qPartOf_94 ?_
              refine q_callVi (As := [.inl (M.2 94 50)]) hO mb_X12_priceOf mv_X12_priceOf ml_X12_421 sh_94 rfl dX12_qPartOf_97 (fun _ => rfl) rfl (Nat.le_of_ble_eq_true rfl) rfl (Nat.le_of_ble_eq_true rfl) (tX12_priceOf (M.2 94 50) M hO) (fun x24 M2 _ hO2 => ?_)
              refine q_i2l dX12_qPartOf_100 ?_
              exact q_ret dX12_qPartOf_101 rfl
            · refine q_case (fun h7 => ?_) (fun h7 => ?_)
              · refine q_tswI (tgt := 102) h7 dX12_qPartOf_1 (by decide) (by decide) rfl (by decide) ?_
                refine q_iload_n 2 dX12_qPartOf_102 rfl rfl ?_
                refine q_i2l dX12_qPartOf_103 ?_
                exact q_ret dX12_qPartOf_104 rfl
              · refine q_tswO (tgt := 105) (by omega) dX12_qPartOf_1 (by decide) ?_
                refine q_aload_n 0 dX12_qPartOf_105 rfl rfl ?_
                refine q_geti fl_X12_427 sh_94 (q_inO hO sh_94) rfl dX12_qPartOf_106 ?_
                refine q_iconst dX12_qPartOf_109 ?_
                refine q_icmpne (tgt := 119) dX12_qPartOf_110 (by decide) ?_ ?_
                · refine q_aload_n 0 dX12_qPartOf_119 rfl rfl ?_
                  refine q_getx fl_X12_127 hO sh_94 rfl fx_94_54 dX12_qPartOf_120 ?_
                  refine q_bipush dX12_qPartOf_123 (by decide) ?_
                  refine q_iload_n 2 dX12_qPartOf_125 rfl rfl ?_
                  refine q_imul dX12_qPartOf_126 ?_
                  refine q_aload_n 0 dX12_qPartOf_127 rfl rfl ?_
                  refine q_geti fl_X12_427 sh_94 (q_inO hO sh_94) rfl dX12_qPartOf_128 ?_
                  refine q_iadd dX12_qPartOf_131 ?_
                  refine q_iald sh_132 (q_inA hO sh_132 (by decide)) dX12_qPartOf_132 (fun x25 _ _ _ => ?_)
                  refine q_i2l dX12_qPartOf_133 ?_
                  exact q_ret dX12_qPartOf_134 rfl
                · refine q_ldc2 dX12_qPartOf_113 kl_X12_482 (n := (-1)) rfl ?_
                  refine q_goto (tgt := 134) dX12_qPartOf_116 (by decide) ?_
                  exact q_ret dX12_qPartOf_134 rfl
def fX12_qClip (x0 : Int) (M : q_Mem) : Option (Int × q_Mem) := if 0 < q_w (q_lcmp x0 1000000) then (some (1000000, M)) else (if q_w (q_lcmp x0 (-1000000)) < 0 then (some ((-1000000), M)) else (some (x0, M)))
theorem tX12_qClip {d : Nat} (x0 : Int) (M : q_Mem) (hO : q_Ok M) : q_EX d yX12_qClip cX12_qClip 2 (some .long) 0 (q_args 0 [.inr (.inl x0)]) [] M (fX12_qClip x0 M) := by
  show q_EX _ _ _ _ _ 0 [(0, .inr (.inl x0))] [] M _
  unfold fX12_qClip
  refine q_lload_n 0 dX12_qClip_0 rfl rfl ?_
  refine q_ldc2 dX12_qClip_1 kl_X12_576 (n := 1000000) rfl ?_
  refine q_lcmpR dX12_qClip_4 ?_
  refine q_ifle (tgt := 14) dX12_qClip_5 (by decide) ?_ ?_
  · refine q_lload_n 0 dX12_qClip_14 rfl rfl ?_
    refine q_ldc2 dX12_qClip_15 kl_X12_578 (n := (-1000000)) rfl ?_
    refine q_lcmpR dX12_qClip_18 ?_
    refine q_ifge (tgt := 28) dX12_qClip_19 (by decide) ?_ ?_
    · refine q_lload_n 0 dX12_qClip_28 rfl rfl ?_
      exact q_ret dX12_qClip_29 rfl
    · refine q_ldc2 dX12_qClip_22 kl_X12_578 (n := (-1000000)) rfl ?_
      refine q_goto (tgt := 29) dX12_qClip_25 (by decide) ?_
      exact q_ret dX12_qClip_29 rfl
  · refine q_ldc2 dX12_qClip_8 kl_X12_576 (n := 1000000) rfl ?_
    refine q_goto (tgt := 29) dX12_qClip_11 (by decide) ?_
    exact q_ret dX12_qClip_29 rfl
def fX12_qFloor_43 (x4 : Int) (s0 : Int) (s1 : Int) (M : q_Mem) : Option (Int × q_Mem) := if q_w s1 = q_w s0 then (some (x4, M)) else (some ((x4 - 1), M))
theorem tX12_qFloor_43 {d : Nat} (x4 : Int) (s0 : Int) (s1 : Int) (M : q_Mem) (hO : q_Ok M) : q_EX d yX12_qFloor cX12_qFloor 6 (some .long) 43 [(4, .inr (.inl x4))] [.inl s0, .inl s1] M (fX12_qFloor_43 x4 s0 s1 M) := by
  unfold fX12_qFloor_43
  refine q_icmpeq (tgt := 53) dX12_qFloor_43 (by decide) ?_ ?_
  · refine q_lload 0 dX12_qFloor_53 rfl ?_
    exact q_ret dX12_qFloor_55 rfl
  · refine q_lload 0 dX12_qFloor_46 rfl ?_
    refine q_lconst (v := 1) dX12_qFloor_48 (by decide) ?_
    refine q_lsub dX12_qFloor_49 ?_
    refine q_goto (tgt := 55) dX12_qFloor_50 (by decide) ?_
    exact q_ret dX12_qFloor_55 rfl
def fX12_qFloor_32 (x2 : Int) (x4 : Int) (s0 : Int) (M : q_Mem) : Option (Int × q_Mem) := if q_w (q_lcmp x2 0) < 0 then ((fX12_qFloor_43 x4 1 s0 M)) else ((fX12_qFloor_43 x4 0 s0 M))
theorem tX12_qFloor_32 {d : Nat} (x2 : Int) (x4 : Int) (s0 : Int) (M : q_Mem) (hO : q_Ok M) : q_EX d yX12_qFloor cX12_qFloor 6 (some .long) 32 [(2, .inr (.inl x2)), (4, .inr (.inl x4))] [.inl s0] M (fX12_qFloor_32 x2 x4 s0 M) := by
  unfold fX12_qFloor_32
  refine q_lload_n 0 dX12_qFloor_32 rfl rfl ?_
  refine q_lconst (v := 0) dX12_qFloor_33 (by decide) ?_
  refine q_lcmpR dX12_qFloor_34 ?_
  refine q_ifge (tgt := 42) dX12_qFloor_35 (by decide) ?_ ?_
  · refine q_iconst dX12_qFloor_42 ?_
    refine q_sub [1] rfl ?_
    exact tX12_qFloor_43 x4 0 s0 M hO
  · refine q_iconst dX12_qFloor_38 ?_
    refine q_goto (tgt := 43) dX12_qFloor_39 (by decide) ?_
    refine q_sub [1] rfl ?_
    exact tX12_qFloor_43 x4 1 s0 M hO
def fX12_qFloor (x0 : Int) (x2 : Int) (M : q_Mem) : Option (Int × q_Mem) := if q_w (q_lcmp x2 0) = 0 then (some (0, M)) else (if q_wl x2 = 0 then none else q_let (q_ldiv x0 x2) fun x21 => if q_wl x2 = 0 then none else if q_w (q_lcmp (q_lrem x0 x2) 0) = 0 then (some (x21, M)) else (if q_w (q_lcmp x0 0) < 0 then ((fX12_qFloor_32 x2 x21 1 M)) else ((fX12_qFloor_32 x2 x21 0 M))))
theorem tX12_qFloor {d : Nat} (x0 : Int) (x2 : Int) (M : q_Mem) (hO : q_Ok M) : q_EX d yX12_qFloor cX12_qFloor 6 (some .long) 0 (q_args 0 [.inr (.inl x0), .inr (.inl x2)]) [] M (fX12_qFloor x0 x2 M) := by
  show q_EX _ _ _ _ _ 0 [(0, .inr (.inl x0)), (2, .inr (.inl x2))] [] M _
  unfold fX12_qFloor
  refine q_lload_n 1 dX12_qFloor_0 rfl rfl ?_
  refine q_lconst (v := 0) dX12_qFloor_1 (by decide) ?_
  refine q_lcmpR dX12_qFloor_2 ?_
  refine q_ifne (tgt := 8) dX12_qFloor_3 (by decide) ?_ ?_
  · refine q_lload_n 0 dX12_qFloor_8 rfl rfl ?_
    refine q_lload_n 1 dX12_qFloor_9 rfl rfl ?_
    refine q_ifnone (fun h1 => ?_)
    refine q_ldivR dX12_qFloor_10 h1 ?_
    refine q_nameL (fun x21 _ => ?_)
    refine q_lstore (ls' := [(4, .inr (.inl x21)), (0, .inr (.inl x0)), (2, .inr (.inl x2))]) dX12_qFloor_11 (by decide) rfl ?_
    refine q_lload_n 1 dX12_qFloor_13 rfl rfl ?_
    refine q_lload_n 2 dX12_qFloor_14 rfl rfl ?_
    refine q_ifnone (fun h2 => ?_)
    refine q_lremR dX12_qFloor_15 h2 ?_
    refine q_lconst (v := 0) dX12_qFloor_16 (by decide) ?_
    refine q_lcmpR dX12_qFloor_17 ?_
    refine q_ifeq (tgt := 53) dX12_qFloor_18 (by decide) ?_ ?_
    · refine q_lload 0 dX12_qFloor_53 rfl ?_
      exact q_ret dX12_qFloor_55 rfl
    · refine q_lload_n 1 dX12_qFloor_21 rfl rfl ?_
      refine q_lconst (v := 0) dX12_qFloor_22 (by decide) ?_
      refine q_lcmpR dX12_qFloor_23 ?_
      refine q_ifge (tgt := 31) dX12_qFloor_24 (by decide) ?_ ?_
      · refine q_iconst dX12_qFloor_31 ?_
        refine q_sub [2, 0] rfl ?_
        exact tX12_qFloor_32 x2 x21 0 M hO
      · refine q_iconst dX12_qFloor_27 ?_
        refine q_goto (tgt := 32) dX12_qFloor_28 (by decide) ?_
        refine q_sub [2, 0] rfl ?_
        exact tX12_qFloor_32 x2 x21 1 M hO
  · refine q_lconst (v := 0) dX12_qFloor_6 (by decide) ?_
    exact q_ret dX12_qFloor_7 rfl
def fX12_qJoins_161 (s0 : Int) (M : q_Mem) : Option (Int × q_Mem) := q_bd (fX12_qPuts s0 M) fun _ M1 => some (0, M1)
theorem tX12_qJoins_161 {d : Nat} (hd : 0 ≤ d) (s0 : Int) (M : q_Mem) (hO : q_Ok M) : q_EX (d + 1) yX12_qJoins cX12_qJoins 6 none 161 [] [.inr (.inl s0), .inr (.inr 94)] M (fX12_qJoins_161 s0 M) := by
  unfold fX12_qJoins_161
  refine q_callVv (As := [.inr (.inl s0)]) hO mb_X12_qPuts mv_X12_qPuts ml_X12_388 sh_94 rfl dX12_qJoins_161 (fun _ => rfl) rfl (Nat.le_of_ble_eq_true rfl) rfl (Nat.le_of_ble_eq_true rfl) (tX12_qPuts s0 M hO) (fun _ M1 _ hO1 => ?_)
  refine q_goto (tgt := 273) dX12_qJoins_164 (by decide) ?_
  exact q_ret dX12_qJoins_273 rfl
def fX12_qJoins_181 (s0 : Int) (M : q_Mem) : Option (Int × q_Mem) := q_bd (fX12_qPuts s0 M) fun _ M1 => some (0, M1)
theorem tX12_qJoins_181 {d : Nat} (hd : 0 ≤ d) (s0 : Int) (M : q_Mem) (hO : q_Ok M) : q_EX (d + 1) yX12_qJoins cX12_qJoins 6 none 181 [] [.inr (.inl s0), .inr (.inr 94)] M (fX12_qJoins_181 s0 M) := by
  unfold fX12_qJoins_181
  refine q_callVv (As := [.inr (.inl s0)]) hO mb_X12_qPuts mv_X12_qPuts ml_X12_388 sh_94 rfl dX12_qJoins_181 (fun _ => rfl) rfl (Nat.le_of_ble_eq_true rfl) rfl (Nat.le_of_ble_eq_true rfl) (tX12_qPuts s0 M hO) (fun _ M1 _ hO1 => ?_)
  refine q_goto (tgt := 273) dX12_qJoins_184 (by decide) ?_
  exact q_ret dX12_qJoins_273 rfl
def fX12_qJoins_200 (s0 : Int) (M : q_Mem) : Option (Int × q_Mem) := q_bd (fX12_qPuts s0 M) fun _ M1 => some (0, M1)
theorem tX12_qJoins_200 {d : Nat} (hd : 0 ≤ d) (s0 : Int) (M : q_Mem) (hO : q_Ok M) : q_EX (d + 1) yX12_qJoins cX12_qJoins 6 none 200 [] [.inr (.inl s0), .inr (.inr 94)] M (fX12_qJoins_200 s0 M) := by
  unfold fX12_qJoins_200
  refine q_callVv (As := [.inr (.inl s0)]) hO mb_X12_qPuts mv_X12_qPuts ml_X12_388 sh_94 rfl dX12_qJoins_200 (fun _ => rfl) rfl (Nat.le_of_ble_eq_true rfl) rfl (Nat.le_of_ble_eq_true rfl) (tX12_qPuts s0 M hO) (fun _ M1 _ hO1 => ?_)
  refine q_goto (tgt := 273) dX12_qJoins_203 (by decide) ?_
  exact q_ret dX12_qJoins_273 rfl
def fX12_qJoins_219 (s0 : Int) (M : q_Mem) : Option (Int × q_Mem) := q_bd (fX12_qPuts s0 M) fun _ M1 => some (0, M1)
theorem tX12_qJoins_219 {d : Nat} (hd : 0 ≤ d) (s0 : Int) (M : q_Mem) (hO : q_Ok M) : q_EX (d + 1) yX12_qJoins cX12_qJoins 6 none 219 [] [.inr (.inl s0), .inr (.inr 94)] M (fX12_qJoins_219 s0 M) := by
  unfold fX12_qJoins_219
  refine q_callVv (As := [.inr (.inl s0)]) hO mb_X12_qPuts mv_X12_qPuts ml_X12_388 sh_94 rfl dX12_qJoins_219 (fun _ => rfl) rfl (Nat.le_of_ble_eq_true rfl) rfl (Nat.le_of_ble_eq_true rfl) (tX12_qPuts s0 M hO) (fun _ M1 _ hO1 => ?_)
  refine q_goto (tgt := 273) dX12_qJoins_222 (by decide) ?_
  exact q_ret dX12_qJoins_273 rfl
def fX12_qJoins_238 (s0 : Int) (M : q_Mem) : Option (Int × q_Mem) := q_bd (fX12_qPuts s0 M) fun _ M1 => some (0, M1)
theorem tX12_qJoins_238 {d : Nat} (hd : 0 ≤ d) (s0 : Int) (M : q_Mem) (hO : q_Ok M) : q_EX (d + 1) yX12_qJoins cX12_qJoins 6 none 238 [] [.inr (.inl s0), .inr (.inr 94)] M (fX12_qJoins_238 s0 M) := by
  unfold fX12_qJoins_238
  refine q_callVv (As := [.inr (.inl s0)]) hO mb_X12_qPuts mv_X12_qPuts ml_X12_388 sh_94 rfl dX12_qJoins_238 (fun _ => rfl) rfl (Nat.le_of_ble_eq_true rfl) rfl (Nat.le_of_ble_eq_true rfl) (tX12_qPuts s0 M hO) (fun _ M1 _ hO1 => ?_)
  refine q_goto (tgt := 273) dX12_qJoins_241 (by decide) ?_
  exact q_ret dX12_qJoins_273 rfl
def fX12_qJoins_270 (s0 : Int) (M : q_Mem) : Option (Int × q_Mem) := q_bd (fX12_qPuts s0 M) fun _ M1 => some (0, M1)
theorem tX12_qJoins_270 {d : Nat} (hd : 0 ≤ d) (s0 : Int) (M : q_Mem) (hO : q_Ok M) : q_EX (d + 1) yX12_qJoins cX12_qJoins 6 none 270 [] [.inr (.inl s0), .inr (.inr 94)] M (fX12_qJoins_270 s0 M) := by
  unfold fX12_qJoins_270
  refine q_callVv (As := [.inr (.inl s0)]) hO mb_X12_qPuts mv_X12_qPuts ml_X12_388 sh_94 rfl dX12_qJoins_270 (fun _ => rfl) rfl (Nat.le_of_ble_eq_true rfl) rfl (Nat.le_of_ble_eq_true rfl) (tX12_qPuts s0 M hO) (fun _ M1 _ hO1 => ?_)
  exact q_ret dX12_qJoins_273 rfl
def fX12_qJoins (x1 : Int) (M : q_Mem) : Option (Int × q_Mem) := (q_ld M 164 1700 ((M.2 94 97) - 1)).bind fun x21 => (q_ld M 164 1700 ((M.2 94 97) - 2)).bind fun x22 => q_let (q_up M 94 97 ((M.2 94 97) - 2)) fun M1 => if q_w x1 = 1 then q_bd (fX12_qClip (x22 + x21) M1) fun x23 M2 => q_bd (fX12_qPuts x23 M2) fun _ M3 => some (0, M3) else (if q_w x1 = 2 then q_bd (fX12_qClip (x22 - x21) M1) fun x24 M4 => q_bd (fX12_qPuts x24 M4) fun _ M5 => some (0, M5) else (if q_w x1 = 3 then q_bd (fX12_qClip (x22 * x21) M1) fun x25 M6 => q_bd (fX12_qPuts x25 M6) fun _ M7 => some (0, M7) else (if q_w x1 = 4 then q_bd (fX12_qFloor x22 x21 M1) fun x26 M8 => q_bd (fX12_qPuts x26 M8) fun _ M9 => some (0, M9) else (if q_w x1 = 5 then if q_w (q_lcmp x22 x21) < 0 then ((fX12_qJoins_161 x22 M1)) else ((fX12_qJoins_161 x21 M1)) else (if q_w x1 = 6 then if 0 < q_w (q_lcmp x22 x21) then ((fX12_qJoins_181 x22 M1)) else ((fX12_qJoins_181 x21 M1)) else (if q_w x1 = 7 then if q_w (q_lcmp x22 x21) < 0 then ((fX12_qJoins_200 1 M1)) else ((fX12_qJoins_200 0 M1)) else (if q_w x1 = 8 then if 0 < q_w (q_lcmp x22 x21) then ((fX12_qJoins_219 1 M1)) else ((fX12_qJoins_219 0 M1)) else (if q_w x1 = 9 then if q_w (q_lcmp x22 x21) = 0 then ((fX12_qJoins_238 1 M1)) else ((fX12_qJoins_238 0 M1)) else (if q_w x1 = 10 then q_bd (fX12_qPuts (x22 * x21) M1) fun _ M10 => some (0, M10) else (if 0 < q_w (q_lcmp (x22 + x21) 0) then ((fX12_qJoins_270 1 M1)) else ((fX12_qJoins_270 0 M1))))))))))))
theorem tX12_qJoins {d : Nat} (hd : 1 ≤ d) (x1 : Int) (M : q_Mem) (hO : q_Ok M) : q_EX d yX12_qJoins cX12_qJoins 6 none 0 (q_args 0 [.inr (.inr 94), .inl x1]) [] M (fX12_qJoins x1 M) := by
  obtain ⟨d, rfl⟩ : ∃ d', d = d' + 1 := ⟨d - 1, by omega⟩
  have hd : 0 ≤ d := by omega
  show q_EX _ _ _ _ _ 0 [(0, .inr (.inr 94)), (1, .inl x1)] [] M _
  unfold fX12_qJoins
  refine q_aload_n 0 dX12_qJoins_0 rfl rfl ?_
  refine q_getx fl_X12_228 hO sh_94 rfl fx_94_96 dX12_qJoins_1 ?_
  refine q_aload_n 0 dX12_qJoins_4 rfl rfl ?_
  refine q_geti fl_X12_385 sh_94 (q_inO hO sh_94) rfl dX12_qJoins_5 ?_
  refine q_iconst dX12_qJoins_8 ?_
  refine q_isub dX12_qJoins_9 ?_
  refine q_lald sh_164 (q_inA hO sh_164 (by decide)) dX12_qJoins_10 (fun x21 _ _ _ => ?_)
  refine q_lstore_n (ls' := [(2, .inr (.inl x21)), (0, .inr (.inr 94)), (1, .inl x1)]) dX12_qJoins_11 rfl (by decide) rfl ?_
  refine q_aload_n 1 dX12_qJoins_12 rfl rfl ?_
  refine q_getx fl_X12_228 hO sh_94 rfl fx_94_96 dX12_qJoins_13 ?_
  refine q_aload_n 1 dX12_qJoins_16 rfl rfl ?_
  refine q_geti fl_X12_385 sh_94 (q_inO hO sh_94) rfl dX12_qJoins_17 ?_
  refine q_iconst dX12_qJoins_20 ?_
  refine q_isub dX12_qJoins_21 ?_
  refine q_lald sh_164 (q_inA hO sh_164 (by decide)) dX12_qJoins_22 (fun x22 _ _ _ => ?_)
  refine q_lstore (ls' := [(4, .inr (.inl x22)), (2, .inr (.inl x21)), (0, .inr (.inr 94)), (1, .inl x1)]) dX12_qJoins_23 (by decide) rfl ?_
  refine q_aload_n 2 dX12_qJoins_25 rfl rfl ?_
  refine q_dup dX12_qJoins_26 rfl ?_
  refine q_geti fl_X12_385 sh_94 (q_inO hO sh_94) rfl dX12_qJoins_27 ?_
  refine q_iconst dX12_qJoins_30 ?_
  refine q_isub dX12_qJoins_31 ?_
  refine q_puti fl_X12_385 sh_94 (q_inO hO sh_94) (fun h => q_Ok_put h sh_94 rfl) rfl dX12_qJoins_32 (fun M1 hM1 => ?_)
  have hO1 : q_Ok M1 := by rw [hM1]; exact q_Ok_put hO sh_94 rfl
  refine q_iload_n 3 dX12_qJoins_35 rfl rfl ?_
  refine q_case (fun h1 => ?_) (fun h1 => ?_)
  · refine q_tswI (tgt := 92) h1 dX12_qJoins_36 (by decide) (by decide) rfl (by decide) ?_
    refine q_aload_n 2 dX12_qJoins_92 rfl rfl ?_
    refine q_lload 0 dX12_qJoins_93 rfl ?_
    refine q_lload_n 1 dX12_qJoins_95 rfl rfl ?_
    refine q_ladd dX12_qJoins_96 ?_
    refine q_callSl (As := [.inr (.inl (x22 + x21))]) hO1 mb_X12_qClip ms_X12_qClip ml_X12_580 dX12_qJoins_97 (fun _ => rfl) rfl (Nat.le_of_ble_eq_true rfl) rfl (Nat.le_of_ble_eq_true rfl) (tX12_qClip (x22 + x21) M1 hO1) (fun x23 M2 _ hO2 => ?_)
    refine q_callVv (As := [.inr (.inl x23)]) hO2 mb_X12_qPuts mv_X12_qPuts ml_X12_388 sh_94 rfl dX12_qJoins_100 (fun _ => rfl) rfl (Nat.le_of_ble_eq_true rfl) rfl (Nat.le_of_ble_eq_true rfl) (tX12_qPuts x23 M2 hO2) (fun _ M3 _ hO3 => ?_)
    refine q_goto (tgt := 273) dX12_qJoins_103 (by decide) ?_
    exact q_ret dX12_qJoins_273 rfl
  · refine q_case (fun h2 => ?_) (fun h2 => ?_)
    · refine q_tswI (tgt := 106) h2 dX12_qJoins_36 (by decide) (by decide) rfl (by decide) ?_
      refine q_aload_n 2 dX12_qJoins_106 rfl rfl ?_
      refine q_lload 0 dX12_qJoins_107 rfl ?_
      refine q_lload_n 1 dX12_qJoins_109 rfl rfl ?_
      refine q_lsub dX12_qJoins_110 ?_
      refine q_callSl (As := [.inr (.inl (x22 - x21))]) hO1 mb_X12_qClip ms_X12_qClip ml_X12_580 dX12_qJoins_111 (fun _ => rfl) rfl (Nat.le_of_ble_eq_true rfl) rfl (Nat.le_of_ble_eq_true rfl) (tX12_qClip (x22 - x21) M1 hO1) (fun x24 M4 _ hO4 => ?_)
      refine q_callVv (As := [.inr (.inl x24)]) hO4 mb_X12_qPuts mv_X12_qPuts ml_X12_388 sh_94 rfl dX12_qJoins_114 (fun _ => rfl) rfl (Nat.le_of_ble_eq_true rfl) rfl (Nat.le_of_ble_eq_true rfl) (tX12_qPuts x24 M4 hO4) (fun _ M5 _ hO5 => ?_)
      refine q_goto (tgt := 273) dX12_qJoins_117 (by decide) ?_
      exact q_ret dX12_qJoins_273 rfl
    · refine q_case (fun h3 => ?_) (fun h3 => ?_)
      · refine q_tswI (tgt := 120) h3 dX12_qJoins_36 (by decide) (by decide) rfl (by decide) ?_
        refine q_aload_n 2 dX12_qJoins_120 rfl rfl ?_
        refine q_lload 0 dX12_qJoins_121 rfl ?_
        refine q_lload_n 1 dX12_qJoins_123 rfl rfl ?_
        refine q_lmul dX12_qJoins_124 ?_
        refine q_callSl (As := [.inr (.inl (x22 * x21))]) hO1 mb_X12_qClip ms_X12_qClip ml_X12_580 dX12_qJoins_125 (fun _ => rfl) rfl (Nat.le_of_ble_eq_true rfl) rfl (Nat.le_of_ble_eq_true rfl) (tX12_qClip (x22 * x21) M1 hO1) (fun x25 M6 _ hO6 => ?_)
        refine q_callVv (As := [.inr (.inl x25)]) hO6 mb_X12_qPuts mv_X12_qPuts ml_X12_388 sh_94 rfl dX12_qJoins_128 (fun _ => rfl) rfl (Nat.le_of_ble_eq_true rfl) rfl (Nat.le_of_ble_eq_true rfl) (tX12_qPuts x25 M6 hO6) (fun _ M7 _ hO7 => ?_)
        refine q_goto (tgt := 273) dX12_qJoins_131 (by decide) ?_
        exact q_ret dX12_qJoins_273 rfl
      · refine q_case (fun h4 => ?_) (fun h4 => ?_)
        · refine q_tswI (tgt := 134) h4 dX12_qJoins_36 (by decide) (by decide) rfl (by decide) ?_
          refine q_aload_n 2 dX12_qJoins_134 rfl rfl ?_
          refine q_lload 0 dX12_qJoins_135 rfl ?_
          refine q_lload_n 1 dX12_qJoins_137 rfl rfl ?_
          refine q_callSl (As := [.inr (.inl x22), .inr (.inl x21)]) hO1 mb_X12_qFloor ms_X12_qFloor ml_X12_584 dX12_qJoins_138 (fun _ => rfl) rfl (Nat.le_of_ble_eq_true rfl) rfl (Nat.le_of_ble_eq_true rfl) (tX12_qFloor x22 x21 M1 hO1) (fun x26 M8 _ hO8 => ?_)
          refine q_callVv (As := [.inr (.inl x26)]) hO8 mb_X12_qPuts mv_X12_qPuts ml_X12_388 sh_94 rfl dX12_qJoins_141 (fun _ => rfl) rfl (Nat.le_of_ble_eq_true rfl) rfl (Nat.le_of_ble_eq_true rfl) (tX12_qPuts x26 M8 hO8) (fun _ M9 _ hO9 => ?_)
          refine q_goto (tgt := 273) dX12_qJoins_144 (by decide) ?_
          exact q_ret dX12_qJoins_273 rfl
        · refine q_case (fun h5 => ?_) (fun h5 => ?_)
          · refine q_tswI (tgt := 147) h5 dX12_qJoins_36 (by decide) (by decide) rfl (by decide) ?_
            refine q_aload_n 2 dX12_qJoins_147 rfl rfl ?_
            refine q_lload 0 dX12_qJoins_148 rfl ?_
            refine q_lload_n 1 dX12_qJoins_150 rfl rfl ?_
            refine q_lcmpR dX12_qJoins_151 ?_
            refine q_ifge (tgt := 160) dX12_qJoins_152 (by decide) ?_ ?_
            · refine q_lload_n 1 dX12_qJoins_160 rfl rfl ?_
              refine q_sub [] rfl ?_
              exact tX12_qJoins_161 hd x21 M1 hO1
            · refine q_lload 0 dX12_qJoins_155 rfl ?_
              refine q_goto (tgt := 161) dX12_qJoins_157 (by decide) ?_
              refine q_sub [] rfl ?_
              exact tX12_qJoins_161 hd x22 M1 hO1
          · refine q_case (fun h6 => ?_) (fun h6 => ?_)
            · refine q_tswI (tgt := 167) h6 dX12_qJoins_36 (by decide) (by decide) rfl (by decide) ?_
              refine q_aload_n 2 dX12_qJoins_167 rfl rfl ?_
              refine q_lload 0 dX12_qJoins_168 rfl ?_
              refine q_lload_n 1 dX12_qJoins_170 rfl rfl ?_
              refine q_lcmpR dX12_qJoins_171 ?_
              refine q_ifle (tgt := 180) dX12_qJoins_172 (by decide) ?_ ?_
              · refine q_lload_n 1 dX12_qJoins_180 rfl rfl ?_
                refine q_sub [] rfl ?_
                exact tX12_qJoins_181 hd x21 M1 hO1
              · refine q_lload 0 dX12_qJoins_175 rfl ?_
                refine q_goto (tgt := 181) dX12_qJoins_177 (by decide) ?_
                refine q_sub [] rfl ?_
                exact tX12_qJoins_181 hd x22 M1 hO1
            · refine q_case (fun h7 => ?_) (fun h7 => ?_)
              · refine q_tswI (tgt := 187) h7 dX12_qJoins_36 (by decide) (by decide) rfl (by decide) ?_
                refine q_aload_n 2 dX12_qJoins_187 rfl rfl ?_
                refine q_lload 0 dX12_qJoins_188 rfl ?_
                refine q_lload_n 1 dX12_qJoins_190 rfl rfl ?_
                refine q_lcmpR dX12_qJoins_191 ?_
                refine q_ifge (tgt := 199) dX12_qJoins_192 (by decide) ?_ ?_
                · refine q_lconst (v := 0) dX12_qJoins_199 (by decide) ?_
                  refine q_sub [] rfl ?_
                  exact tX12_qJoins_200 hd 0 M1 hO1
                · refine q_lconst (v := 1) dX12_qJoins_195 (by decide) ?_
                  refine q_goto (tgt := 200) dX12_qJoins_196 (by decide) ?_
                  refine q_sub [] rfl ?_
                  exact tX12_qJoins_200 hd 1 M1 hO1
              · refine q_case (fun h8 => ?_) (fun h8 => ?_)
                · refine q_tswI (tgt := 206) h8 dX12_qJoins_36 (by decide) (by decide) rfl (by decide) ?_
                  refine q_aload_n 2 dX12_qJoins_206 rfl rfl ?_
                  refine q_lload 0 dX12_qJoins_207 rfl ?_
                  refine q_lload_n 1 dX12_qJoins_209 rfl rfl ?_
                  refine q_lcmpR dX12_qJoins_210 ?_
                  refine q_ifle (tgt := 218) dX12_qJoins_211 (by decide) ?_ ?_
                  · refine q_lconst (v := 0) dX12_qJoins_218 (by decide) ?_
                    refine q_sub [] rfl ?_
                    exact tX12_qJoins_219 hd 0 M1 hO1
                  · refine q_lconst (v := 1) dX12_qJoins_214 (by decide) ?_
                    refine q_goto (tgt := 219) dX12_qJoins_215 (by decide) ?_
                    refine q_sub [] rfl ?_
                    exact tX12_qJoins_219 hd 1 M1 hO1
                · refine q_case (fun h9 => ?_) (fun h9 => ?_)
                  · refine q_tswI (tgt := 225) h9 dX12_qJoins_36 (by decide) (by decide) rfl (by decide) ?_
                    refine q_aload_n 2 dX12_qJoins_225 rfl rfl ?_
                    refine q_lload 0 dX12_qJoins_226 rfl ?_
                    refine q_lload_n 1 dX12_qJoins_228 rfl rfl ?_
                    refine q_lcmpR dX12_qJoins_229 ?_
                    refine q_ifne (tgt := 237) dX12_qJoins_230 (by decide) ?_ ?_
                    · refine q_lconst (v := 0) dX12_qJoins_237 (by decide) ?_
                      refine q_sub [] rfl ?_
                      exact tX12_qJoins_238 hd 0 M1 hO1
                    · refine q_lconst (v := 1) dX12_qJoins_233 (by decide) ?_
                      refine q_goto (tgt := 238) dX12_qJoins_234 (by decide) ?_
                      refine q_sub [] rfl ?_
                      exact tX12_qJoins_238 hd 1 M1 hO1
                  · refine q_case (fun h10 => ?_) (fun h10 => ?_)
                    · refine q_tswI (tgt := 244) h10 dX12_qJoins_36 (by decide) (by decide) rfl (by decide) ?_
                      refine q_aload_n 2 dX12_qJoins_244 rfl rfl ?_
                      refine q_lload 0 dX12_qJoins_245 rfl ?_
                      refine q_lload_n 1 dX12_qJoins_247 rfl rfl ?_
                      refine q_lmul dX12_qJoins_248 ?_
                      refine q_callVv (As := [.inr (.inl (x22 * x21))]) hO1 mb_X12_qPuts mv_X12_qPuts ml_X12_388 sh_94 rfl dX12_qJoins_249 (fun _ => rfl) rfl (Nat.le_of_ble_eq_true rfl) rfl (Nat.le_of_ble_eq_true rfl) (tX12_qPuts (x22 * x21) M1 hO1) (fun _ M10 _ hO10 => ?_)
                      refine q_goto (tgt := 273) dX12_qJoins_252 (by decide) ?_
                      exact q_ret dX12_qJoins_273 rfl
                    · refine q_tswO (tgt := 255) (by omega) dX12_qJoins_36 (by decide) ?_
                      refine q_aload_n 2 dX12_qJoins_255 rfl rfl ?_
                      refine q_lload 0 dX12_qJoins_256 rfl ?_
                      refine q_lload_n 1 dX12_qJoins_258 rfl rfl ?_
                      refine q_ladd dX12_qJoins_259 ?_
                      refine q_lconst (v := 0) dX12_qJoins_260 (by decide) ?_
                      refine q_lcmpR dX12_qJoins_261 ?_
                      refine q_ifle (tgt := 269) dX12_qJoins_262 (by decide) ?_ ?_
                      · refine q_lconst (v := 0) dX12_qJoins_269 (by decide) ?_
                        refine q_sub [] rfl ?_
                        exact tX12_qJoins_270 hd 0 M1 hO1
                      · refine q_lconst (v := 1) dX12_qJoins_265 (by decide) ?_
                        refine q_goto (tgt := 270) dX12_qJoins_266 (by decide) ?_
                        refine q_sub [] rfl ?_
                        exact tX12_qJoins_270 hd 1 M1 hO1
def fX12_codesTell_144 (K19 : Int → Int → Int → q_Mem → Option (Int × q_Mem)) (x1 : Int) (x2 : Int) (x3 : Int) (M : q_Mem) : Option (Int × q_Mem) := (K19 x1 x2 (x3 + 1) M)
theorem tX12_codesTell_144 {d : Nat} (hd : 1 ≤ d) (K19 : Int → Int → Int → q_Mem → Option (Int × q_Mem)) (hK19 : ∀ (x1 : Int) (x2 : Int) (x3 : Int) (M : q_Mem), q_Ok M → q_EX (d + 1) yX12_codesTell cX12_codesTell 5 (some .long) 19 [(0, .inr (.inr 94)), (1, .inl x1), (2, .inl x2), (3, .inl x3)] [] M (K19 x1 x2 x3 M)) (x1 : Int) (x2 : Int) (x3 : Int) (M : q_Mem) (hO : q_Ok M) : q_EX (d + 1) yX12_codesTell cX12_codesTell 5 (some .long) 144 [(0, .inr (.inr 94)), (1, .inl x1), (2, .inl x2), (3, .inl x3)] [] M (fX12_codesTell_144 K19 x1 x2 x3 M) := by
  unfold fX12_codesTell_144
  refine q_iinc (ls' := [(3, .inl (x3 + 1)), (0, .inr (.inr 94)), (1, .inl x1), (2, .inl x2)]) 3 dX12_codesTell_144 rfl (by decide) rfl ?_
  refine q_goto (tgt := 19) dX12_codesTell_147 (by decide) ?_
  refine q_sub [1, 2, 3, 0] rfl ?_
  exact hK19 x1 x2 (x3 + 1) M hO
def fX12_codesTell_19  : Nat → Int → Int → Int → q_Mem → Option (Int × q_Mem)
  | 0, _, _, _, _ => none
  | n + 1, x1, x2, x3, M => (q_ld M 129 4 (2 + x1)).bind fun x21 => if q_w x3 < q_w x21 then ((q_ld M 130 3200 (1600 + x3)).bind fun x23 => if q_w x23 < q_w 1000 then (if q_w x23 < q_w 40 then (if q_w x23 = q_w 13 then (q_bd (fX12_qPuts 1 M) fun _ M3 => (fX12_codesTell_144 (fX12_codesTell_19 n) x1 x2 x3 M3)) else (if q_w x23 = q_w 12 then ((q_ld M 164 1700 ((M.2 94 97) - 1)).bind fun x24 => (q_sto M 164 1700 ((M.2 94 97) - 1) (1 - x24)).bind fun M2 => (fX12_codesTell_144 (fX12_codesTell_19 n) x1 x2 x3 M2)) else (q_bd (fX12_qJoins x23 M) fun _ M1 => (fX12_codesTell_144 (fX12_codesTell_19 n) x1 x2 x3 M1)))) else (q_bd (fX12_qPartOf (x23 - 40) x2 M) fun x25 M4 => q_bd (fX12_qPuts x25 M4) fun _ M5 => (fX12_codesTell_144 (fX12_codesTell_19 n) x1 x2 x3 M5))) else (q_bd (fX12_qPuts (q_w (x23 - 1000)) M) fun _ M6 => (fX12_codesTell_144 (fX12_codesTell_19 n) x1 x2 x3 M6))) else ((q_ld M 164 1700 0).bind fun x22 => some (x22, M))
theorem tX12_codesTell_19 {d : Nat} (hd : 1 ≤ d) : ∀ (n : Nat) (x1 : Int) (x2 : Int) (x3 : Int) (M : q_Mem), q_Ok M → q_EX (d + 1) yX12_codesTell cX12_codesTell 5 (some .long) 19 [(0, .inr (.inr 94)), (1, .inl x1), (2, .inl x2), (3, .inl x3)] [] M (fX12_codesTell_19 n x1 x2 x3 M) := by
  intro n
  induction n with
  | zero => intro x1 x2 x3 M hO; exact q_none
  | succ n ih =>
    intro x1 x2 x3 M hO
    rw [fX12_codesTell_19]
    refine q_iload_n 3 dX12_codesTell_19 rfl rfl ?_
    refine q_aload_n 0 dX12_codesTell_20 rfl rfl ?_
    refine q_getx fl_X12_118 hO sh_94 rfl fx_94_43 dX12_codesTell_21 ?_
    refine q_iconst dX12_codesTell_24 ?_
    refine q_iload_n 1 dX12_codesTell_25 rfl rfl ?_
    refine q_iadd dX12_codesTell_26 ?_
    refine q_iald sh_129 (q_inA hO sh_129 (by decide)) dX12_codesTell_27 (fun x21 _ _ _ => ?_)
    refine q_icmpge (tgt := 150) dX12_codesTell_28 (by decide) ?_ ?_
    · refine q_aload_n 0 dX12_codesTell_150 rfl rfl ?_
      refine q_getx fl_X12_228 hO sh_94 rfl fx_94_96 dX12_codesTell_151 ?_
      refine q_iconst dX12_codesTell_154 ?_
      refine q_lald sh_164 (q_inA hO sh_164 (by decide)) dX12_codesTell_155 (fun x22 _ _ _ => ?_)
      exact q_ret dX12_codesTell_156 rfl
    · refine q_aload_n 0 dX12_codesTell_31 rfl rfl ?_
      refine q_getx fl_X12_121 hO sh_94 rfl fx_94_44 dX12_codesTell_32 ?_
      refine q_sipush dX12_codesTell_35 (by decide) ?_
      refine q_iload_n 3 dX12_codesTell_38 rfl rfl ?_
      refine q_iadd dX12_codesTell_39 ?_
      refine q_iald sh_130 (q_inA hO sh_130 (by decide)) dX12_codesTell_40 (fun x23 _ _ _ => ?_)
      refine q_istore (ls' := [(4, .inl x23), (0, .inr (.inr 94)), (1, .inl x1), (2, .inl x2), (3, .inl x3)]) dX12_codesTell_41 (by decide) rfl ?_
      refine q_iload 0 dX12_codesTell_43 rfl ?_
      refine q_sipush dX12_codesTell_45 (by decide) ?_
      refine q_icmplt (tgt := 65) dX12_codesTell_48 (by decide) ?_ ?_
      · refine q_iload 0 dX12_codesTell_65 rfl ?_
        refine q_bipush dX12_codesTell_67 (by decide) ?_
        refine q_icmplt (tgt := 89) dX12_codesTell_69 (by decide) ?_ ?_
        · refine q_iload 0 dX12_codesTell_89 rfl ?_
          refine q_bipush dX12_codesTell_91 (by decide) ?_
          refine q_icmpne (tgt := 104) dX12_codesTell_93 (by decide) ?_ ?_
          · refine q_iload 0 dX12_codesTell_104 rfl ?_
            refine q_bipush dX12_codesTell_106 (by decide) ?_
            refine q_icmpne (tgt := 138) dX12_codesTell_108 (by decide) ?_ ?_
            · refine q_aload_n 1 dX12_codesTell_138 rfl rfl ?_
              refine q_iload 0 dX12_codesTell_139 rfl ?_
              refine q_callVv (As := [.inl x23]) hO mb_X12_qJoins mv_X12_qJoins ml_X12_396 sh_94 rfl dX12_codesTell_141 (fun _ => rfl) rfl (Nat.le_of_ble_eq_true rfl) rfl (Nat.le_of_ble_eq_true rfl) (tX12_qJoins (by omega) x23 M hO) (fun _ M1 _ hO1 => ?_)
              refine q_sub [1, 2, 3, 4] rfl ?_
              exact tX12_codesTell_144 hd (fX12_codesTell_19 n) ih x1 x2 x3 M1 hO1
            · refine q_aload_n 1 dX12_codesTell_111 rfl rfl ?_
              refine q_getx fl_X12_228 hO sh_94 rfl fx_94_96 dX12_codesTell_112 ?_
              refine q_aload_n 1 dX12_codesTell_115 rfl rfl ?_
              refine q_geti fl_X12_385 sh_94 (q_inO hO sh_94) rfl dX12_codesTell_116 ?_
              refine q_iconst dX12_codesTell_119 ?_
              refine q_isub dX12_codesTell_120 ?_
              refine q_lconst (v := 1) dX12_codesTell_121 (by decide) ?_
              refine q_aload_n 1 dX12_codesTell_122 rfl rfl ?_
              refine q_getx fl_X12_228 hO sh_94 rfl fx_94_96 dX12_codesTell_123 ?_
              refine q_aload_n 1 dX12_codesTell_126 rfl rfl ?_
              refine q_geti fl_X12_385 sh_94 (q_inO hO sh_94) rfl dX12_codesTell_127 ?_
              refine q_iconst dX12_codesTell_130 ?_
              refine q_isub dX12_codesTell_131 ?_
              refine q_lald sh_164 (q_inA hO sh_164 (by decide)) dX12_codesTell_132 (fun x24 _ _ _ => ?_)
              refine q_lsub dX12_codesTell_133 ?_
              refine q_last sh_164 (q_inA hO sh_164 (by decide)) dX12_codesTell_134 (fun M2 _ _ hM2 => ?_)
              have hO2 : q_Ok M2 := by rw [hM2]; exact q_Ok_arr (t := 3) hO sh_164 (by decide)
              refine q_goto (tgt := 144) dX12_codesTell_135 (by decide) ?_
              refine q_sub [1, 2, 3, 4] rfl ?_
              exact tX12_codesTell_144 hd (fX12_codesTell_19 n) ih x1 x2 x3 M2 hO2
          · refine q_aload_n 1 dX12_codesTell_96 rfl rfl ?_
            refine q_lconst (v := 1) dX12_codesTell_97 (by decide) ?_
            refine q_callVv (As := [.inr (.inl 1)]) hO mb_X12_qPuts mv_X12_qPuts ml_X12_388 sh_94 rfl dX12_codesTell_98 (fun _ => rfl) rfl (Nat.le_of_ble_eq_true rfl) rfl (Nat.le_of_ble_eq_true rfl) (tX12_qPuts 1 M hO) (fun _ M3 _ hO3 => ?_)
            refine q_goto (tgt := 144) dX12_codesTell_101 (by decide) ?_
            refine q_sub [1, 2, 3, 4] rfl ?_
            exact tX12_codesTell_144 hd (fX12_codesTell_19 n) ih x1 x2 x3 M3 hO3
        · refine q_aload_n 1 dX12_codesTell_72 rfl rfl ?_
          refine q_aload_n 1 dX12_codesTell_73 rfl rfl ?_
          refine q_iload 0 dX12_codesTell_74 rfl ?_
          refine q_bipush dX12_codesTell_76 (by decide) ?_
          refine q_isub dX12_codesTell_78 ?_
          refine q_iload_n 3 dX12_codesTell_79 rfl rfl ?_
          refine q_callVl (As := [.inl (x23 - 40), .inl x2]) hO mb_X12_qPartOf mv_X12_qPartOf ml_X12_392 sh_94 rfl dX12_codesTell_80 (fun _ => rfl) rfl (Nat.le_of_ble_eq_true rfl) rfl (Nat.le_of_ble_eq_true rfl) (tX12_qPartOf (by omega) (x23 - 40) x2 M hO) (fun x25 M4 _ hO4 => ?_)
          refine q_callVv (As := [.inr (.inl x25)]) hO4 mb_X12_qPuts mv_X12_qPuts ml_X12_388 sh_94 rfl dX12_codesTell_83 (fun _ => rfl) rfl (Nat.le_of_ble_eq_true rfl) rfl (Nat.le_of_ble_eq_true rfl) (tX12_qPuts x25 M4 hO4) (fun _ M5 _ hO5 => ?_)
          refine q_goto (tgt := 144) dX12_codesTell_86 (by decide) ?_
          refine q_sub [1, 2, 3, 4] rfl ?_
          exact tX12_codesTell_144 hd (fX12_codesTell_19 n) ih x1 x2 x3 M5 hO5
      · refine q_aload_n 1 dX12_codesTell_51 rfl rfl ?_
        refine q_iload 0 dX12_codesTell_52 rfl ?_
        refine q_sipush dX12_codesTell_54 (by decide) ?_
        refine q_isub dX12_codesTell_57 ?_
        refine q_i2l dX12_codesTell_58 ?_
        refine q_callVv (As := [.inr (.inl (q_w (x23 - 1000)))]) hO mb_X12_qPuts mv_X12_qPuts ml_X12_388 sh_94 rfl dX12_codesTell_59 (fun _ => rfl) rfl (Nat.le_of_ble_eq_true rfl) rfl (Nat.le_of_ble_eq_true rfl) (tX12_qPuts (q_w (x23 - 1000)) M hO) (fun _ M6 _ hO6 => ?_)
        refine q_goto (tgt := 144) dX12_codesTell_62 (by decide) ?_
        refine q_sub [1, 2, 3, 4] rfl ?_
        exact tX12_codesTell_144 hd (fX12_codesTell_19 n) ih x1 x2 x3 M6 hO6
def fX12_codesTell (x1 : Int) (x2 : Int) (M : q_Mem) : Option (Int × q_Mem) := q_let (q_up M 94 48 x1) fun M1 => q_let (q_up M1 94 97 0) fun M2 => (q_ld M2 128 4 (2 + x1)).bind fun x21 => (fX12_codesTell_19 q_FU x1 x2 x21 M2)
theorem tX12_codesTell {d : Nat} (hd : 2 ≤ d) (x1 : Int) (x2 : Int) (M : q_Mem) (hO : q_Ok M) : q_EX d yX12_codesTell cX12_codesTell 5 (some .long) 0 (q_args 0 [.inr (.inr 94), .inl x1, .inl x2]) [] M (fX12_codesTell x1 x2 M) := by
  obtain ⟨d, rfl⟩ : ∃ d', d = d' + 1 := ⟨d - 1, by omega⟩
  have hd : 1 ≤ d := by omega
  show q_EX _ _ _ _ _ 0 [(0, .inr (.inr 94)), (1, .inl x1), (2, .inl x2)] [] M _
  unfold fX12_codesTell
  refine q_aload_n 0 dX12_codesTell_0 rfl rfl ?_
  refine q_iload_n 1 dX12_codesTell_1 rfl rfl ?_
  refine q_puti fl_X12_292 sh_94 (q_inO hO sh_94) (fun h => q_Ok_put h sh_94 rfl) rfl dX12_codesTell_2 (fun M1 hM1 => ?_)
  have hO1 : q_Ok M1 := by rw [hM1]; exact q_Ok_put hO sh_94 rfl
  refine q_aload_n 0 dX12_codesTell_5 rfl rfl ?_
  refine q_iconst dX12_codesTell_6 ?_
  refine q_puti fl_X12_385 sh_94 (q_inO hO1 sh_94) (fun h => q_Ok_put h sh_94 rfl) rfl dX12_codesTell_7 (fun M2 hM2 => ?_)
  have hO2 : q_Ok M2 := by rw [hM2]; exact q_Ok_put hO1 sh_94 rfl
  refine q_aload_n 0 dX12_codesTell_10 rfl rfl ?_
  refine q_getx fl_X12_115 hO2 sh_94 rfl fx_94_42 dX12_codesTell_11 ?_
  refine q_iconst dX12_codesTell_14 ?_
  refine q_iload_n 1 dX12_codesTell_15 rfl rfl ?_
  refine q_iadd dX12_codesTell_16 ?_
  refine q_iald sh_128 (q_inA hO2 sh_128 (by decide)) dX12_codesTell_17 (fun x21 _ _ _ => ?_)
  refine q_istore_n (ls' := [(3, .inl x21), (0, .inr (.inr 94)), (1, .inl x1), (2, .inl x2)]) dX12_codesTell_18 rfl (by decide) rfl ?_
  refine q_sub [1, 2, 3, 0] rfl ?_
  exact tX12_codesTell_19 hd q_FU x1 x2 x21 M2 hO2
def fX12_shadowOf (x1 : Int) (x2 : Int) (x3 : Int) (M : q_Mem) : Option (Int × q_Mem) := q_bd (fX12_isCloud x3 M) fun x21 M1 => if q_w x21 = 0 then ((q_ld M1 128 4 2).bind fun x22 => if q_w x22 = q_w (-1) then ((q_ld M1 126 32 (16 + (2 * x1))).bind fun x24 => some (x24, M1)) else (q_let (q_up M1 94 50 x2) fun M2 => q_let (q_up M2 94 51 x3) fun M3 => q_bd (fX12_codesTell 0 x1 M3) fun x23 M4 => if q_w (q_lcmp x23 0) < 0 then (some (0, M4)) else (if 0 < q_w (q_lcmp x23 999) then (some (999, M4)) else (some (x23, M4))))) else (some (0, M1))
theorem tX12_shadowOf {d : Nat} (hd : 3 ≤ d) (x1 : Int) (x2 : Int) (x3 : Int) (M : q_Mem) (hO : q_Ok M) : q_EX d yX12_shadowOf cX12_shadowOf 6 (some .int) 0 (q_args 0 [.inr (.inr 94), .inl x1, .inl x2, .inl x3]) [] M (fX12_shadowOf x1 x2 x3 M) := by
  obtain ⟨d, rfl⟩ : ∃ d', d = d' + 1 := ⟨d - 1, by omega⟩
  have hd : 2 ≤ d := by omega
  show q_EX _ _ _ _ _ 0 [(0, .inr (.inr 94)), (1, .inl x1), (2, .inl x2), (3, .inl x3)] [] M _
  unfold fX12_shadowOf
  refine q_aload_n 0 dX12_shadowOf_0 rfl rfl ?_
  refine q_iload_n 3 dX12_shadowOf_1 rfl rfl ?_
  refine q_callVi (As := [.inl x3]) hO mb_X12_isCloud mv_X12_isCloud ml_X12_399 sh_94 rfl dX12_shadowOf_2 (fun _ => rfl) rfl (Nat.le_of_ble_eq_true rfl) rfl (Nat.le_of_ble_eq_true rfl) (tX12_isCloud (by omega) x3 M hO) (fun x21 M1 _ hO1 => ?_)
  refine q_ifeq (tgt := 10) dX12_shadowOf_5 (by decide) ?_ ?_
  · refine q_aload_n 0 dX12_shadowOf_10 rfl rfl ?_
    refine q_getx fl_X12_115 hO1 sh_94 rfl fx_94_42 dX12_shadowOf_11 ?_
    refine q_iconst dX12_shadowOf_14 ?_
    refine q_iald sh_128 (q_inA hO1 sh_128 (by decide)) dX12_shadowOf_15 (fun x22 _ _ _ => ?_)
    refine q_iconst dX12_shadowOf_16 ?_
    refine q_icmpne (tgt := 32) dX12_shadowOf_17 (by decide) ?_ ?_
    · refine q_aload_n 0 dX12_shadowOf_32 rfl rfl ?_
      refine q_iload_n 2 dX12_shadowOf_33 rfl rfl ?_
      refine q_puti fl_X12_402 sh_94 (q_inO hO1 sh_94) (fun h => q_Ok_put h sh_94 rfl) rfl dX12_shadowOf_34 (fun M2 hM2 => ?_)
      have hO2 : q_Ok M2 := by rw [hM2]; exact q_Ok_put hO1 sh_94 rfl
      refine q_aload_n 0 dX12_shadowOf_37 rfl rfl ?_
      refine q_iload_n 3 dX12_shadowOf_38 rfl rfl ?_
      refine q_puti fl_X12_405 sh_94 (q_inO hO2 sh_94) (fun h => q_Ok_put h sh_94 rfl) rfl dX12_shadowOf_39 (fun M3 hM3 => ?_)
      have hO3 : q_Ok M3 := by rw [hM3]; exact q_Ok_put hO2 sh_94 rfl
      refine q_aload_n 0 dX12_shadowOf_42 rfl rfl ?_
      refine q_iconst dX12_shadowOf_43 ?_
      refine q_iload_n 1 dX12_shadowOf_44 rfl rfl ?_
      refine q_callVl (As := [.inl 0, .inl x1]) hO3 mb_X12_codesTell mv_X12_codesTell ml_X12_408 sh_94 rfl dX12_shadowOf_45 (fun _ => rfl) rfl (Nat.le_of_ble_eq_true rfl) rfl (Nat.le_of_ble_eq_true rfl) (tX12_codesTell (by omega) 0 x1 M3 hO3) (fun x23 M4 _ hO4 => ?_)
      refine q_lstore (ls' := [(4, .inr (.inl x23)), (0, .inr (.inr 94)), (1, .inl x1), (2, .inl x2), (3, .inl x3)]) dX12_shadowOf_48 (by decide) rfl ?_
      refine q_lload 0 dX12_shadowOf_50 rfl ?_
      refine q_lconst (v := 0) dX12_shadowOf_52 (by decide) ?_
      refine q_lcmpR dX12_shadowOf_53 ?_
      refine q_ifge (tgt := 61) dX12_shadowOf_54 (by decide) ?_ ?_
      · refine q_lload 0 dX12_shadowOf_61 rfl ?_
        refine q_ldc2 dX12_shadowOf_63 kl_X12_411 (n := 999) rfl ?_
        refine q_lcmpR dX12_shadowOf_66 ?_
        refine q_ifle (tgt := 76) dX12_shadowOf_67 (by decide) ?_ ?_
        · refine q_lload 0 dX12_shadowOf_76 rfl ?_
          refine q_l2i dX12_shadowOf_78 ?_
          exact q_ret dX12_shadowOf_79 rfl
        · refine q_sipush dX12_shadowOf_70 (by decide) ?_
          refine q_goto (tgt := 79) dX12_shadowOf_73 (by decide) ?_
          exact q_ret dX12_shadowOf_79 rfl
      · refine q_iconst dX12_shadowOf_57 ?_
        refine q_goto (tgt := 79) dX12_shadowOf_58 (by decide) ?_
        exact q_ret dX12_shadowOf_79 rfl
    · refine q_aload_n 0 dX12_shadowOf_20 rfl rfl ?_
      refine q_getx fl_X12_109 hO1 sh_94 rfl fx_94_40 dX12_shadowOf_21 ?_
      refine q_bipush dX12_shadowOf_24 (by decide) ?_
      refine q_iconst dX12_shadowOf_26 ?_
      refine q_iload_n 1 dX12_shadowOf_27 rfl rfl ?_
      refine q_imul dX12_shadowOf_28 ?_
      refine q_iadd dX12_shadowOf_29 ?_
      refine q_iald sh_126 (q_inA hO1 sh_126 (by decide)) dX12_shadowOf_30 (fun x24 _ _ _ => ?_)
      exact q_ret dX12_shadowOf_31 rfl
  · refine q_iconst dX12_shadowOf_8 ?_
    exact q_ret dX12_shadowOf_9 rfl
def fX12_doesBuy (x1 : Int) (x2 : Int) (x3 : Int) (M : q_Mem) : Option (Int × q_Mem) := q_bd (fX12_shutOf x2 M) fun x21 M1 => if q_w x3 < q_w x21 then (q_bd (fX12_fairMinutes M1) fun x22 M2 => if q_w x22 < q_w x3 then (some (0, M2)) else (q_bd (fX12_isCloud x3 M2) fun x23 M3 => if q_w x23 = 0 then (q_bd (fX12_shadowOf x1 x2 x3 M3) fun x24 M4 => q_bd (fX12_priceOf x2 M4) fun x25 M5 => if q_w x24 < q_w x25 then (some (0, M5)) else ((q_ld M5 128 4 3).bind fun x26 => if q_w x26 = q_w (-1) then (some (1, M5)) else (q_let (q_up M5 94 50 x2) fun M6 => q_let (q_up M6 94 51 x3) fun M7 => q_let (q_up M7 94 52 x24) fun M8 => q_bd (fX12_codesTell 1 x1 M8) fun x27 M9 => if q_w (q_lcmp x27 1) = 0 then (some (0, M9)) else (some (1, M9))))) else (some (0, M3)))) else (some (0, M1))
theorem tX12_doesBuy {d : Nat} (hd : 4 ≤ d) (x1 : Int) (x2 : Int) (x3 : Int) (M : q_Mem) (hO : q_Ok M) : q_EX d yX12_doesBuy cX12_doesBuy 5 (some .boolean) 0 (q_args 0 [.inr (.inr 94), .inl x1, .inl x2, .inl x3]) [] M (fX12_doesBuy x1 x2 x3 M) := by
  obtain ⟨d, rfl⟩ : ∃ d', d = d' + 1 := ⟨d - 1, by omega⟩
  have hd : 3 ≤ d := by omega
  show q_EX _ _ _ _ _ 0 [(0, .inr (.inr 94)), (1, .inl x1), (2, .inl x2), (3, .inl x3)] [] M _
  unfold fX12_doesBuy
  refine q_iload_n 3 dX12_doesBuy_0 rfl rfl ?_
  refine q_aload_n 0 dX12_doesBuy_1 rfl rfl ?_
  refine q_iload_n 2 dX12_doesBuy_2 rfl rfl ?_
  refine q_callVi (As := [.inl x2]) hO mb_X12_shutOf mv_X12_shutOf ml_X12_413 sh_94 rfl dX12_doesBuy_3 (fun _ => rfl) rfl (Nat.le_of_ble_eq_true rfl) rfl (Nat.le_of_ble_eq_true rfl) (tX12_shutOf x2 M hO) (fun x21 M1 _ hO1 => ?_)
  refine q_icmpge (tgt := 25) dX12_doesBuy_6 (by decide) ?_ ?_
  · refine q_iconst dX12_doesBuy_25 ?_
    exact q_ret ⟨dX12_doesBuy_26, by decide⟩ rfl
  · refine q_iload_n 3 dX12_doesBuy_9 rfl rfl ?_
    refine q_aload_n 0 dX12_doesBuy_10 rfl rfl ?_
    refine q_callVi (As := []) hO1 mb_X12_fairMinutes mv_X12_fairMinutes ml_X12_382 sh_94 rfl dX12_doesBuy_11 (fun _ => rfl) rfl (Nat.le_of_ble_eq_true rfl) rfl (Nat.le_of_ble_eq_true rfl) (tX12_fairMinutes M1 hO1) (fun x22 M2 _ hO2 => ?_)
    refine q_icmpgt (tgt := 25) dX12_doesBuy_14 (by decide) ?_ ?_
    · refine q_iconst dX12_doesBuy_25 ?_
      exact q_ret ⟨dX12_doesBuy_26, by decide⟩ rfl
    · refine q_aload_n 0 dX12_doesBuy_17 rfl rfl ?_
      refine q_iload_n 3 dX12_doesBuy_18 rfl rfl ?_
      refine q_callVi (As := [.inl x3]) hO2 mb_X12_isCloud mv_X12_isCloud ml_X12_399 sh_94 rfl dX12_doesBuy_19 (fun _ => rfl) rfl (Nat.le_of_ble_eq_true rfl) rfl (Nat.le_of_ble_eq_true rfl) (tX12_isCloud (by omega) x3 M2 hO2) (fun x23 M3 _ hO3 => ?_)
      refine q_ifeq (tgt := 27) dX12_doesBuy_22 (by decide) ?_ ?_
      · refine q_aload_n 0 dX12_doesBuy_27 rfl rfl ?_
        refine q_iload_n 1 dX12_doesBuy_28 rfl rfl ?_
        refine q_iload_n 2 dX12_doesBuy_29 rfl rfl ?_
        refine q_iload_n 3 dX12_doesBuy_30 rfl rfl ?_
        refine q_callVi (As := [.inl x1, .inl x2, .inl x3]) hO3 mb_X12_shadowOf mv_X12_shadowOf ml_X12_417 sh_94 rfl dX12_doesBuy_31 (fun _ => rfl) rfl (Nat.le_of_ble_eq_true rfl) rfl (Nat.le_of_ble_eq_true rfl) (tX12_shadowOf (by omega) x1 x2 x3 M3 hO3) (fun x24 M4 _ hO4 => ?_)
        refine q_istore (ls' := [(4, .inl x24), (0, .inr (.inr 94)), (1, .inl x1), (2, .inl x2), (3, .inl x3)]) dX12_doesBuy_34 (by decide) rfl ?_
        refine q_iload 0 dX12_doesBuy_36 rfl ?_
        refine q_aload_n 1 dX12_doesBuy_38 rfl rfl ?_
        refine q_iload_n 3 dX12_doesBuy_39 rfl rfl ?_
        refine q_callVi (As := [.inl x2]) hO4 mb_X12_priceOf mv_X12_priceOf ml_X12_421 sh_94 rfl dX12_doesBuy_40 (fun _ => rfl) rfl (Nat.le_of_ble_eq_true rfl) rfl (Nat.le_of_ble_eq_true rfl) (tX12_priceOf x2 M4 hO4) (fun x25 M5 _ hO5 => ?_)
        refine q_icmpge (tgt := 48) dX12_doesBuy_43 (by decide) ?_ ?_
        · refine q_aload_n 1 dX12_doesBuy_48 rfl rfl ?_
          refine q_getx fl_X12_115 hO5 sh_94 rfl fx_94_42 dX12_doesBuy_49 ?_
          refine q_iconst dX12_doesBuy_52 ?_
          refine q_iald sh_128 (q_inA hO5 sh_128 (by decide)) dX12_doesBuy_53 (fun x26 _ _ _ => ?_)
          refine q_iconst dX12_doesBuy_54 ?_
          refine q_icmpne (tgt := 60) dX12_doesBuy_55 (by decide) ?_ ?_
          · refine q_aload_n 1 dX12_doesBuy_60 rfl rfl ?_
            refine q_iload_n 3 dX12_doesBuy_61 rfl rfl ?_
            refine q_puti fl_X12_402 sh_94 (q_inO hO5 sh_94) (fun h => q_Ok_put h sh_94 rfl) rfl dX12_doesBuy_62 (fun M6 hM6 => ?_)
            have hO6 : q_Ok M6 := by rw [hM6]; exact q_Ok_put hO5 sh_94 rfl
            refine q_aload_n 1 dX12_doesBuy_65 rfl rfl ?_
            refine q_iload_n 4 dX12_doesBuy_66 rfl rfl ?_
            refine q_puti fl_X12_405 sh_94 (q_inO hO6 sh_94) (fun h => q_Ok_put h sh_94 rfl) rfl dX12_doesBuy_67 (fun M7 hM7 => ?_)
            have hO7 : q_Ok M7 := by rw [hM7]; exact q_Ok_put hO6 sh_94 rfl
            refine q_aload_n 1 dX12_doesBuy_70 rfl rfl ?_
            refine q_iload 0 dX12_doesBuy_71 rfl ?_
            refine q_puti fl_X12_424 sh_94 (q_inO hO7 sh_94) (fun h => q_Ok_put h sh_94 rfl) rfl dX12_doesBuy_73 (fun M8 hM8 => ?_)
            have hO8 : q_Ok M8 := by rw [hM8]; exact q_Ok_put hO7 sh_94 rfl
            refine q_aload_n 1 dX12_doesBuy_76 rfl rfl ?_
            refine q_iconst dX12_doesBuy_77 ?_
            refine q_iload_n 2 dX12_doesBuy_78 rfl rfl ?_
            refine q_callVl (As := [.inl 1, .inl x1]) hO8 mb_X12_codesTell mv_X12_codesTell ml_X12_408 sh_94 rfl dX12_doesBuy_79 (fun _ => rfl) rfl (Nat.le_of_ble_eq_true rfl) rfl (Nat.le_of_ble_eq_true rfl) (tX12_codesTell (by omega) 1 x1 M8 hO8) (fun x27 M9 _ hO9 => ?_)
            refine q_lconst (v := 1) dX12_doesBuy_82 (by decide) ?_
            refine q_lcmpR dX12_doesBuy_83 ?_
            refine q_ifeq (tgt := 91) dX12_doesBuy_84 (by decide) ?_ ?_
            · refine q_iconst dX12_doesBuy_91 ?_
              exact q_ret ⟨dX12_doesBuy_92, by decide⟩ rfl
            · refine q_iconst dX12_doesBuy_87 ?_
              refine q_goto (tgt := 92) dX12_doesBuy_88 (by decide) ?_
              exact q_ret ⟨dX12_doesBuy_92, by decide⟩ rfl
          · refine q_iconst dX12_doesBuy_58 ?_
            exact q_ret ⟨dX12_doesBuy_59, by decide⟩ rfl
        · refine q_iconst dX12_doesBuy_46 ?_
          exact q_ret ⟨dX12_doesBuy_47, by decide⟩ rfl
      · refine q_iconst dX12_doesBuy_25 ?_
        exact q_ret ⟨dX12_doesBuy_26, by decide⟩ rfl
def fX12_laysNow_37 (K12 : Int → q_Mem → Option (Int × q_Mem)) : Nat → Int → Int → q_Mem → Option (Int × q_Mem)
  | 0, _, _, _ => none
  | n + 1, x1, x2, M => q_bd (fX12_coinMany M) fun x21 M1 => if q_w x2 < q_w x21 then ((q_ld M1 131 141 0).bind fun x22 => q_bd (fX12_shadowOf x2 x1 x22 M1) fun x23 M2 => (q_sto M2 132 48 ((6 * x2) + x1) x23).bind fun M3 => (q_ld M3 131 141 0).bind fun x24 => q_bd (fX12_doesBuy x2 x1 x24 M3) fun x25 M4 => if ¬ (x25 = 0 ∨ x25 = 1) then none else (q_sto M4 133 48 ((6 * x2) + x1) x25).bind fun M5 => (fX12_laysNow_37 K12 n x1 (x2 + 1) M5)) else ((K12 (x1 + (-1)) M1))
theorem tX12_laysNow_37 {d : Nat} (hd : 4 ≤ d) (K12 : Int → q_Mem → Option (Int × q_Mem)) (hK12 : ∀ (x1 : Int) (M : q_Mem), q_Ok M → q_EX (d + 1) yX12_laysNow cX12_laysNow 3 none 12 [(0, .inr (.inr 94)), (1, .inl x1)] [] M (K12 x1 M)) : ∀ (n : Nat) (x1 : Int) (x2 : Int) (M : q_Mem), q_Ok M → q_EX (d + 1) yX12_laysNow cX12_laysNow 3 none 37 [(0, .inr (.inr 94)), (1, .inl x1), (2, .inl x2)] [] M (fX12_laysNow_37 K12 n x1 x2 M) := by
  intro n
  induction n with
  | zero => intro x1 x2 M hO; exact q_none
  | succ n ih =>
    intro x1 x2 M hO
    rw [fX12_laysNow_37]
    refine q_iload_n 2 dX12_laysNow_37 rfl rfl ?_
    refine q_aload_n 0 dX12_laysNow_38 rfl rfl ?_
    refine q_callVi (As := []) hO mb_X12_coinMany mv_X12_coinMany ml_X12_379 sh_94 rfl dX12_laysNow_39 (fun _ => rfl) rfl (Nat.le_of_ble_eq_true rfl) rfl (Nat.le_of_ble_eq_true rfl) (tX12_coinMany M hO) (fun x21 M1 _ hO1 => ?_)
    refine q_icmpge (tgt := 97) dX12_laysNow_42 (by decide) ?_ ?_
    · refine q_iinc (ls' := [(1, .inl (x1 + (-1))), (0, .inr (.inr 94)), (2, .inl x2)]) 1 dX12_laysNow_97 rfl (by decide) rfl ?_
      refine q_goto (tgt := 12) dX12_laysNow_100 (by decide) ?_
      refine q_sub [1, 0] rfl ?_
      exact hK12 (x1 + (-1)) M1 hO1
    · refine q_aload_n 0 dX12_laysNow_45 rfl rfl ?_
      refine q_getx fl_X12_127 hO1 sh_94 rfl fx_94_54 dX12_laysNow_46 ?_
      refine q_bipush dX12_laysNow_49 (by decide) ?_
      refine q_iload_n 2 dX12_laysNow_51 rfl rfl ?_
      refine q_imul dX12_laysNow_52 ?_
      refine q_iload_n 1 dX12_laysNow_53 rfl rfl ?_
      refine q_iadd dX12_laysNow_54 ?_
      refine q_aload_n 0 dX12_laysNow_55 rfl rfl ?_
      refine q_iload_n 2 dX12_laysNow_56 rfl rfl ?_
      refine q_iload_n 1 dX12_laysNow_57 rfl rfl ?_
      refine q_aload_n 0 dX12_laysNow_58 rfl rfl ?_
      refine q_getx fl_X12_124 hO1 sh_94 rfl fx_94_49 dX12_laysNow_59 ?_
      refine q_iconst dX12_laysNow_62 ?_
      refine q_iald sh_131 (q_inA hO1 sh_131 (by decide)) dX12_laysNow_63 (fun x22 _ _ _ => ?_)
      refine q_callVi (As := [.inl x2, .inl x1, .inl x22]) hO1 mb_X12_shadowOf mv_X12_shadowOf ml_X12_417 sh_94 rfl dX12_laysNow_64 (fun _ => rfl) rfl (Nat.le_of_ble_eq_true rfl) rfl (Nat.le_of_ble_eq_true rfl) (tX12_shadowOf (by omega) x2 x1 x22 M1 hO1) (fun x23 M2 _ hO2 => ?_)
      refine q_iast sh_132 (q_inA hO2 sh_132 (by decide)) dX12_laysNow_67 (fun M3 _ _ hM3 => ?_)
      have hO3 : q_Ok M3 := by rw [hM3]; exact q_Ok_arr (t := 0) hO2 sh_132 (by decide)
      refine q_aload_n 0 dX12_laysNow_68 rfl rfl ?_
      refine q_getx fl_X12_130 hO3 sh_94 rfl fx_94_55 dX12_laysNow_69 ?_
      refine q_bipush dX12_laysNow_72 (by decide) ?_
      refine q_iload_n 2 dX12_laysNow_74 rfl rfl ?_
      refine q_imul dX12_laysNow_75 ?_
      refine q_iload_n 1 dX12_laysNow_76 rfl rfl ?_
      refine q_iadd dX12_laysNow_77 ?_
      refine q_aload_n 0 dX12_laysNow_78 rfl rfl ?_
      refine q_iload_n 2 dX12_laysNow_79 rfl rfl ?_
      refine q_iload_n 1 dX12_laysNow_80 rfl rfl ?_
      refine q_aload_n 0 dX12_laysNow_81 rfl rfl ?_
      refine q_getx fl_X12_124 hO3 sh_94 rfl fx_94_49 dX12_laysNow_82 ?_
      refine q_iconst dX12_laysNow_85 ?_
      refine q_iald sh_131 (q_inA hO3 sh_131 (by decide)) dX12_laysNow_86 (fun x24 _ _ _ => ?_)
      refine q_callVi (As := [.inl x2, .inl x1, .inl x24]) hO3 mb_X12_doesBuy mv_X12_doesBuy ml_X12_433 sh_94 rfl dX12_laysNow_87 (fun _ => rfl) rfl (Nat.le_of_ble_eq_true rfl) rfl (Nat.le_of_ble_eq_true rfl) (tX12_doesBuy (by omega) x2 x1 x24 M3 hO3) (fun x25 M4 _ hO4 => ?_)
      refine q_ifnone (fun h1 => ?_)
      refine q_zast sh_133 (q_inA hO4 sh_133 (by decide)) (Classical.not_not.mp h1) dX12_laysNow_90 (fun M5 _ _ hM5 => ?_)
      have hO5 : q_Ok M5 := by rw [hM5]; exact q_Ok_arr (t := 2) hO4 sh_133 (by decide)
      refine q_iinc (ls' := [(2, .inl (x2 + 1)), (0, .inr (.inr 94)), (1, .inl x1)]) 2 dX12_laysNow_91 rfl (by decide) rfl ?_
      refine q_goto (tgt := 37) dX12_laysNow_94 (by decide) ?_
      refine q_sub [1, 2, 0] rfl ?_
      exact ih x1 (x2 + 1) M5 hO5
def fX12_laysNow_35 (K12 : Int → q_Mem → Option (Int × q_Mem)) (x1 : Int) (M : q_Mem) : Option (Int × q_Mem) := (fX12_laysNow_37 K12 q_FU x1 0 M)
theorem tX12_laysNow_35 {d : Nat} (hd : 4 ≤ d) (K12 : Int → q_Mem → Option (Int × q_Mem)) (hK12 : ∀ (x1 : Int) (M : q_Mem), q_Ok M → q_EX (d + 1) yX12_laysNow cX12_laysNow 3 none 12 [(0, .inr (.inr 94)), (1, .inl x1)] [] M (K12 x1 M)) (x1 : Int) (M : q_Mem) (hO : q_Ok M) : q_EX (d + 1) yX12_laysNow cX12_laysNow 3 none 35 [(0, .inr (.inr 94)), (1, .inl x1)] [] M (fX12_laysNow_35 K12 x1 M) := by
  unfold fX12_laysNow_35
  refine q_iconst dX12_laysNow_35 ?_
  refine q_istore_n (ls' := [(2, .inl 0), (0, .inr (.inr 94)), (1, .inl x1)]) dX12_laysNow_36 rfl (by decide) rfl ?_
  refine q_sub [1, 2, 0] rfl ?_
  exact tX12_laysNow_37 hd K12 hK12 q_FU x1 0 M hO
def fX12_laysNow_12  : Nat → Int → q_Mem → Option (Int × q_Mem)
  | 0, _, _ => none
  | n + 1, x1, M => if q_w x1 < 0 then (some (0, M)) else (q_bd (fX12_placeOf x1 M) fun x21 M1 => (q_ld M1 131 141 1).bind fun x22 => if q_w x21 = q_w x22 then (q_let (q_up M1 94 53 x1) fun M2 => (fX12_laysNow_35 (fX12_laysNow_12 n) x1 M2)) else ((fX12_laysNow_35 (fX12_laysNow_12 n) x1 M1)))
theorem tX12_laysNow_12 {d : Nat} (hd : 4 ≤ d) : ∀ (n : Nat) (x1 : Int) (M : q_Mem), q_Ok M → q_EX (d + 1) yX12_laysNow cX12_laysNow 3 none 12 [(0, .inr (.inr 94)), (1, .inl x1)] [] M (fX12_laysNow_12 n x1 M) := by
  intro n
  induction n with
  | zero => intro x1 M hO; exact q_none
  | succ n ih =>
    intro x1 M hO
    rw [fX12_laysNow_12]
    refine q_iload_n 1 dX12_laysNow_12 rfl rfl ?_
    refine q_iflt (tgt := 103) dX12_laysNow_13 (by decide) ?_ ?_
    · exact q_ret dX12_laysNow_103 rfl
    · refine q_aload_n 0 dX12_laysNow_16 rfl rfl ?_
      refine q_iload_n 1 dX12_laysNow_17 rfl rfl ?_
      refine q_callVi (As := [.inl x1]) hO mb_X12_placeOf mv_X12_placeOf ml_X12_430 sh_94 rfl dX12_laysNow_18 (fun _ => rfl) rfl (Nat.le_of_ble_eq_true rfl) rfl (Nat.le_of_ble_eq_true rfl) (tX12_placeOf x1 M hO) (fun x21 M1 _ hO1 => ?_)
      refine q_aload_n 0 dX12_laysNow_21 rfl rfl ?_
      refine q_getx fl_X12_124 hO1 sh_94 rfl fx_94_49 dX12_laysNow_22 ?_
      refine q_iconst dX12_laysNow_25 ?_
      refine q_iald sh_131 (q_inA hO1 sh_131 (by decide)) dX12_laysNow_26 (fun x22 _ _ _ => ?_)
      refine q_icmpne (tgt := 35) dX12_laysNow_27 (by decide) ?_ ?_
      · refine q_sub [0, 1] rfl ?_
        exact tX12_laysNow_35 hd (fX12_laysNow_12 n) ih x1 M1 hO1
      · refine q_aload_n 0 dX12_laysNow_30 rfl rfl ?_
        refine q_iload_n 1 dX12_laysNow_31 rfl rfl ?_
        refine q_puti fl_X12_427 sh_94 (q_inO hO1 sh_94) (fun h => q_Ok_put h sh_94 rfl) rfl dX12_laysNow_32 (fun M2 hM2 => ?_)
        have hO2 : q_Ok M2 := by rw [hM2]; exact q_Ok_put hO1 sh_94 rfl
        refine q_sub [0, 1] rfl ?_
        exact tX12_laysNow_35 hd (fX12_laysNow_12 n) ih x1 M2 hO2
def fX12_laysNow (M : q_Mem) : Option (Int × q_Mem) := q_let (q_up M 94 53 (-1)) fun M1 => q_bd (fX12_stallMany M1) fun x21 M2 => q_let (x21 - 1) fun x22 => (fX12_laysNow_12 q_FU x22 M2)
theorem tX12_laysNow {d : Nat} (hd : 5 ≤ d) (M : q_Mem) (hO : q_Ok M) : q_EX d yX12_laysNow cX12_laysNow 3 none 0 (q_args 0 [.inr (.inr 94)]) [] M (fX12_laysNow M) := by
  obtain ⟨d, rfl⟩ : ∃ d', d = d' + 1 := ⟨d - 1, by omega⟩
  have hd : 4 ≤ d := by omega
  show q_EX _ _ _ _ _ 0 [(0, .inr (.inr 94))] [] M _
  unfold fX12_laysNow
  refine q_aload_n 0 dX12_laysNow_0 rfl rfl ?_
  refine q_iconst dX12_laysNow_1 ?_
  refine q_puti fl_X12_427 sh_94 (q_inO hO sh_94) (fun h => q_Ok_put h sh_94 rfl) rfl dX12_laysNow_2 (fun M1 hM1 => ?_)
  have hO1 : q_Ok M1 := by rw [hM1]; exact q_Ok_put hO sh_94 rfl
  refine q_aload_n 0 dX12_laysNow_5 rfl rfl ?_
  refine q_callVi (As := []) hO1 mb_X12_stallMany mv_X12_stallMany ml_X12_376 sh_94 rfl dX12_laysNow_6 (fun _ => rfl) rfl (Nat.le_of_ble_eq_true rfl) rfl (Nat.le_of_ble_eq_true rfl) (tX12_stallMany M1 hO1) (fun x21 M2 _ hO2 => ?_)
  refine q_iconst dX12_laysNow_9 ?_
  refine q_isub dX12_laysNow_10 ?_
  refine q_nameI (fun x22 _ => ?_)
  refine q_istore_n (ls' := [(1, .inl x22), (0, .inr (.inr 94))]) dX12_laysNow_11 rfl (by decide) rfl ?_
  refine q_sub [1, 0] rfl ?_
  exact tX12_laysNow_12 hd q_FU x22 M2 hO2
def fX12_bits_4  : Nat → Int → Int → q_Mem → Option (Int × q_Mem)
  | 0, _, _, _ => none
  | n + 1, x1, x2, M => if q_w x2 = 0 then (some (x1, M)) else (q_let (q_and x2 (x2 - 1)) fun x21 => (fX12_bits_4 n (x1 + 1) x21 M))
theorem tX12_bits_4 {d : Nat} : ∀ (n : Nat) (x1 : Int) (x2 : Int) (M : q_Mem), q_Ok M → q_EX d yX12_bits cX12_bits 3 (some .int) 4 [(1, .inl x1), (2, .inl x2)] [] M (fX12_bits_4 n x1 x2 M) := by
  intro n
  induction n with
  | zero => intro x1 x2 M hO; exact q_none
  | succ n ih =>
    intro x1 x2 M hO
    rw [fX12_bits_4]
    refine q_iload_n 1 dX12_bits_4 rfl rfl ?_
    refine q_ifeq (tgt := 20) dX12_bits_5 (by decide) ?_ ?_
    · refine q_iload_n 0 dX12_bits_20 rfl rfl ?_
      exact q_ret dX12_bits_21 rfl
    · refine q_iinc (ls' := [(1, .inl (x1 + 1)), (2, .inl x2)]) 0 dX12_bits_8 rfl (by decide) rfl ?_
      refine q_iload_n 1 dX12_bits_11 rfl rfl ?_
      refine q_iload_n 1 dX12_bits_12 rfl rfl ?_
      refine q_iconst dX12_bits_13 ?_
      refine q_isub dX12_bits_14 ?_
      refine q_iand dX12_bits_15 ?_
      refine q_nameI (fun x21 _ => ?_)
      refine q_istore_n (ls' := [(2, .inl x21), (1, .inl (x1 + 1))]) dX12_bits_16 rfl (by decide) rfl ?_
      refine q_goto (tgt := 4) dX12_bits_17 (by decide) ?_
      refine q_sub [1, 0] rfl ?_
      exact ih (x1 + 1) x21 M hO
def fX12_bits (x0 : Int) (M : q_Mem) : Option (Int × q_Mem) := (fX12_bits_4 q_FU 0 x0 M)
theorem tX12_bits {d : Nat} (x0 : Int) (M : q_Mem) (hO : q_Ok M) : q_EX d yX12_bits cX12_bits 3 (some .int) 0 (q_args 0 [.inl x0]) [] M (fX12_bits x0 M) := by
  show q_EX _ _ _ _ _ 0 [(0, .inl x0)] [] M _
  unfold fX12_bits
  refine q_iconst dX12_bits_0 ?_
  refine q_istore_n (ls' := [(1, .inl 0), (0, .inl x0)]) dX12_bits_1 rfl (by decide) rfl ?_
  refine q_iload_n 1 dX12_bits_2 rfl rfl ?_
  refine q_istore_n (ls' := [(2, .inl x0), (1, .inl 0), (0, .inl x0)]) dX12_bits_3 rfl (by decide) rfl ?_
  refine q_sub [1, 0] rfl ?_
  exact tX12_bits_4 q_FU 0 x0 M hO
def fX12_has (x1 : Int) (M : q_Mem) : Option (Int × q_Mem) := if q_w x1 = 0 then q_bd (fX12_fairMinutes M) fun x21 M1 => some (x21, M1) else (if q_w x1 = 1 then (q_ld M 123 6 ((3 + x1) - 1)).bind fun x22 => some (x22, M) else (if q_w x1 = 2 then (q_ld M 123 6 ((3 + x1) - 1)).bind fun x23 => some (x23, M) else (if q_w x1 = 3 then (q_ld M 123 6 5).bind fun x24 => (q_ld M 131 141 3).bind fun x25 => some ((x24 + x25), M) else (if q_w x1 = 4 then (q_ld M 131 141 (x1 - 4)).bind fun x26 => some (x26, M) else (if q_w x1 = 5 then (q_ld M 131 141 (x1 - 4)).bind fun x27 => some (x27, M) else (if q_w x1 = 6 then (q_ld M 131 141 2).bind fun x28 => q_bd (fX12_bits x28 M) fun x29 M2 => some (x29, M2) else (if q_w x1 = 7 then (q_ld M 131 141 0).bind fun x30 => q_bd (fX12_isCloud x30 M) fun x31 M3 => if q_w x31 = 0 then (some (0, M3)) else (some (1, M3)) else (if q_w x1 = 8 then (q_ld M 131 141 20).bind fun x32 => some (x32, M) else (if q_w x1 = 9 then some ((M.2 94 62), M) else (if q_w x1 = 10 then some ((M.2 94 65), M) else (some ((-1), M))))))))))))
theorem tX12_has {d : Nat} (hd : 2 ≤ d) (x1 : Int) (M : q_Mem) (hO : q_Ok M) : q_EX d yX12_has cX12_has 2 (some .int) 0 (q_args 0 [.inr (.inr 94), .inl x1]) [] M (fX12_has x1 M) := by
  obtain ⟨d, rfl⟩ : ∃ d', d = d' + 1 := ⟨d - 1, by omega⟩
  have hd : 1 ≤ d := by omega
  show q_EX _ _ _ _ _ 0 [(0, .inr (.inr 94)), (1, .inl x1)] [] M _
  unfold fX12_has
  refine q_iload_n 1 dX12_has_0 rfl rfl ?_
  refine q_case (fun h1 => ?_) (fun h1 => ?_)
  · refine q_tswI (tgt := 60) h1 dX12_has_1 (by decide) (by decide) rfl (by decide) ?_
    refine q_aload_n 0 dX12_has_60 rfl rfl ?_
    refine q_callVi (As := []) hO mb_X12_fairMinutes mv_X12_fairMinutes ml_X12_382 sh_94 rfl dX12_has_61 (fun _ => rfl) rfl (Nat.le_of_ble_eq_true rfl) rfl (Nat.le_of_ble_eq_true rfl) (tX12_fairMinutes M hO) (fun x21 M1 _ hO1 => ?_)
    exact q_ret dX12_has_64 rfl
  · refine q_case (fun h2 => ?_) (fun h2 => ?_)
    · refine q_tswI (tgt := 65) h2 dX12_has_1 (by decide) (by decide) rfl (by decide) ?_
      refine q_aload_n 0 dX12_has_65 rfl rfl ?_
      refine q_getx fl_X12_99 hO sh_94 rfl fx_94_37 dX12_has_66 ?_
      refine q_iconst dX12_has_69 ?_
      refine q_iload_n 1 dX12_has_70 rfl rfl ?_
      refine q_iadd dX12_has_71 ?_
      refine q_iconst dX12_has_72 ?_
      refine q_isub dX12_has_73 ?_
      refine q_iald sh_123 (q_inA hO sh_123 (by decide)) dX12_has_74 (fun x22 _ _ _ => ?_)
      exact q_ret dX12_has_75 rfl
    · refine q_case (fun h3 => ?_) (fun h3 => ?_)
      · refine q_tswI (tgt := 65) h3 dX12_has_1 (by decide) (by decide) rfl (by decide) ?_
        refine q_aload_n 0 dX12_has_65 rfl rfl ?_
        refine q_getx fl_X12_99 hO sh_94 rfl fx_94_37 dX12_has_66 ?_
        refine q_iconst dX12_has_69 ?_
        refine q_iload_n 1 dX12_has_70 rfl rfl ?_
        refine q_iadd dX12_has_71 ?_
        refine q_iconst dX12_has_72 ?_
        refine q_isub dX12_has_73 ?_
        refine q_iald sh_123 (q_inA hO sh_123 (by decide)) dX12_has_74 (fun x23 _ _ _ => ?_)
        exact q_ret dX12_has_75 rfl
      · refine q_case (fun h4 => ?_) (fun h4 => ?_)
        · refine q_tswI (tgt := 76) h4 dX12_has_1 (by decide) (by decide) rfl (by decide) ?_
          refine q_aload_n 0 dX12_has_76 rfl rfl ?_
          refine q_getx fl_X12_99 hO sh_94 rfl fx_94_37 dX12_has_77 ?_
          refine q_iconst dX12_has_80 ?_
          refine q_iald sh_123 (q_inA hO sh_123 (by decide)) dX12_has_81 (fun x24 _ _ _ => ?_)
          refine q_aload_n 0 dX12_has_82 rfl rfl ?_
          refine q_getx fl_X12_124 hO sh_94 rfl fx_94_49 dX12_has_83 ?_
          refine q_iconst dX12_has_86 ?_
          refine q_iald sh_131 (q_inA hO sh_131 (by decide)) dX12_has_87 (fun x25 _ _ _ => ?_)
          refine q_iadd dX12_has_88 ?_
          exact q_ret dX12_has_89 rfl
        · refine q_case (fun h5 => ?_) (fun h5 => ?_)
          · refine q_tswI (tgt := 90) h5 dX12_has_1 (by decide) (by decide) rfl (by decide) ?_
            refine q_aload_n 0 dX12_has_90 rfl rfl ?_
            refine q_getx fl_X12_124 hO sh_94 rfl fx_94_49 dX12_has_91 ?_
            refine q_iload_n 1 dX12_has_94 rfl rfl ?_
            refine q_iconst dX12_has_95 ?_
            refine q_isub dX12_has_96 ?_
            refine q_iald sh_131 (q_inA hO sh_131 (by decide)) dX12_has_97 (fun x26 _ _ _ => ?_)
            exact q_ret dX12_has_98 rfl
          · refine q_case (fun h6 => ?_) (fun h6 => ?_)
            · refine q_tswI (tgt := 90) h6 dX12_has_1 (by decide) (by decide) rfl (by decide) ?_
              refine q_aload_n 0 dX12_has_90 rfl rfl ?_
              refine q_getx fl_X12_124 hO sh_94 rfl fx_94_49 dX12_has_91 ?_
              refine q_iload_n 1 dX12_has_94 rfl rfl ?_
              refine q_iconst dX12_has_95 ?_
              refine q_isub dX12_has_96 ?_
              refine q_iald sh_131 (q_inA hO sh_131 (by decide)) dX12_has_97 (fun x27 _ _ _ => ?_)
              exact q_ret dX12_has_98 rfl
            · refine q_case (fun h7 => ?_) (fun h7 => ?_)
              · refine q_tswI (tgt := 99) h7 dX12_has_1 (by decide) (by decide) rfl (by decide) ?_
                refine q_aload_n 0 dX12_has_99 rfl rfl ?_
                refine q_getx fl_X12_124 hO sh_94 rfl fx_94_49 dX12_has_100 ?_
                refine q_iconst dX12_has_103 ?_
                refine q_iald sh_131 (q_inA hO sh_131 (by decide)) dX12_has_104 (fun x28 _ _ _ => ?_)
                refine q_callSi (As := [.inl x28]) hO mb_X12_bits ms_X12_bits ml_X12_436 dX12_has_105 (fun _ => rfl) rfl (Nat.le_of_ble_eq_true rfl) rfl (Nat.le_of_ble_eq_true rfl) (tX12_bits x28 M hO) (fun x29 M2 _ hO2 => ?_)
                exact q_ret dX12_has_108 rfl
              · refine q_case (fun h8 => ?_) (fun h8 => ?_)
                · refine q_tswI (tgt := 109) h8 dX12_has_1 (by decide) (by decide) rfl (by decide) ?_
                  refine q_aload_n 0 dX12_has_109 rfl rfl ?_
                  refine q_aload_n 0 dX12_has_110 rfl rfl ?_
                  refine q_getx fl_X12_124 hO sh_94 rfl fx_94_49 dX12_has_111 ?_
                  refine q_iconst dX12_has_114 ?_
                  refine q_iald sh_131 (q_inA hO sh_131 (by decide)) dX12_has_115 (fun x30 _ _ _ => ?_)
                  refine q_callVi (As := [.inl x30]) hO mb_X12_isCloud mv_X12_isCloud ml_X12_399 sh_94 rfl dX12_has_116 (fun _ => rfl) rfl (Nat.le_of_ble_eq_true rfl) rfl (Nat.le_of_ble_eq_true rfl) (tX12_isCloud (by omega) x30 M hO) (fun x31 M3 _ hO3 => ?_)
                  refine q_ifeq (tgt := 126) dX12_has_119 (by decide) ?_ ?_
                  · refine q_iconst dX12_has_126 ?_
                    exact q_ret dX12_has_127 rfl
                  · refine q_iconst dX12_has_122 ?_
                    refine q_goto (tgt := 127) dX12_has_123 (by decide) ?_
                    exact q_ret dX12_has_127 rfl
                · refine q_case (fun h9 => ?_) (fun h9 => ?_)
                  · refine q_tswI (tgt := 128) h9 dX12_has_1 (by decide) (by decide) rfl (by decide) ?_
                    refine q_aload_n 0 dX12_has_128 rfl rfl ?_
                    refine q_getx fl_X12_124 hO sh_94 rfl fx_94_49 dX12_has_129 ?_
                    refine q_bipush dX12_has_132 (by decide) ?_
                    refine q_iald sh_131 (q_inA hO sh_131 (by decide)) dX12_has_134 (fun x32 _ _ _ => ?_)
                    exact q_ret dX12_has_135 rfl
                  · refine q_case (fun h10 => ?_) (fun h10 => ?_)
                    · refine q_tswI (tgt := 136) h10 dX12_has_1 (by decide) (by decide) rfl (by decide) ?_
                      refine q_aload_n 0 dX12_has_136 rfl rfl ?_
                      refine q_geti fl_X12_373 sh_94 (q_inO hO sh_94) rfl dX12_has_137 ?_
                      exact q_ret dX12_has_140 rfl
                    · refine q_case (fun h11 => ?_) (fun h11 => ?_)
                      · refine q_tswI (tgt := 141) h11 dX12_has_1 (by decide) (by decide) rfl (by decide) ?_
                        refine q_aload_n 0 dX12_has_141 rfl rfl ?_
                        refine q_geti fl_X12_370 sh_94 (q_inO hO sh_94) rfl dX12_has_142 ?_
                        exact q_ret dX12_has_145 rfl
                      · refine q_tswO (tgt := 146) (by omega) dX12_has_1 (by decide) ?_
                        refine q_iconst dX12_has_146 ?_
                        exact q_ret dX12_has_147 rfl
def fX12_letter_102  : Nat → Int → Int → Int → q_Mem → Option (Int × q_Mem)
  | 0, _, _, _, _ => none
  | n + 1, x3, x4, x7, M => if q_w x3 < q_w x7 then (q_let (q_ldiv x4 27) fun x21 => (fX12_letter_102 n x3 x21 (x7 + (-1)) M)) else (some ((q_lrem x4 27), M))
theorem tX12_letter_102 {d : Nat} (hd : 0 ≤ d) : ∀ (n : Nat) (x3 : Int) (x4 : Int) (x7 : Int) (M : q_Mem), q_Ok M → q_EX (d + 1) yX12_letter cX12_letter 9 (some .int) 102 [(3, .inl x3), (4, .inr (.inl x4)), (7, .inl x7)] [] M (fX12_letter_102 n x3 x4 x7 M) := by
  intro n
  induction n with
  | zero => intro x3 x4 x7 M hO; exact q_none
  | succ n ih =>
    intro x3 x4 x7 M hO
    rw [fX12_letter_102]
    refine q_iload 2 dX12_letter_102 rfl ?_
    refine q_iload_n 0 dX12_letter_104 rfl rfl ?_
    refine q_icmple (tgt := 122) dX12_letter_105 (by decide) ?_ ?_
    · refine q_lload 1 dX12_letter_122 rfl ?_
      refine q_ldc2 dX12_letter_124 kl_X12_288 (n := 27) rfl ?_
      refine q_lremR dX12_letter_127 (by decide) ?_
      refine q_l2i dX12_letter_128 ?_
      exact q_ret dX12_letter_129 rfl
    · refine q_lload 1 dX12_letter_108 rfl ?_
      refine q_ldc2 dX12_letter_110 kl_X12_288 (n := 27) rfl ?_
      refine q_ldivR dX12_letter_113 (by decide) ?_
      refine q_nameL (fun x21 _ => ?_)
      refine q_lstore (ls' := [(4, .inr (.inl x21)), (3, .inl x3), (7, .inl x7)]) dX12_letter_114 (by decide) rfl ?_
      refine q_iinc (ls' := [(7, .inl (x7 + (-1))), (4, .inr (.inl x21)), (3, .inl x3)]) 2 dX12_letter_116 rfl (by decide) rfl ?_
      refine q_goto (tgt := 102) dX12_letter_119 (by decide) ?_
      refine q_sub [2, 1, 0] rfl ?_
      exact ih x3 x21 (x7 + (-1)) M hO
def fX12_letter_67  : Nat → Int → Int → Int → Int → q_Mem → Option (Int × q_Mem)
  | 0, _, _, _, _, _ => none
  | n + 1, x3, x4, x6, x7, M => if 0 < q_w (q_lcmp x7 0) then (q_let (q_ldiv x7 27) fun x22 => (fX12_letter_67 n x3 x4 (x6 + 1) x22 M)) else (if q_w x3 < q_w x6 then (q_let (x6 - 1) fun x21 => (fX12_letter_102 q_FU x3 x4 x21 M)) else (some (0, M)))
theorem tX12_letter_67 {d : Nat} (hd : 0 ≤ d) : ∀ (n : Nat) (x3 : Int) (x4 : Int) (x6 : Int) (x7 : Int) (M : q_Mem), q_Ok M → q_EX (d + 1) yX12_letter cX12_letter 9 (some .int) 67 [(3, .inl x3), (4, .inr (.inl x4)), (6, .inl x6), (7, .inr (.inl x7))] [] M (fX12_letter_67 n x3 x4 x6 x7 M) := by
  intro n
  induction n with
  | zero => intro x3 x4 x6 x7 M hO; exact q_none
  | succ n ih =>
    intro x3 x4 x6 x7 M hO
    rw [fX12_letter_67]
    refine q_lload 3 dX12_letter_67 rfl ?_
    refine q_lconst (v := 0) dX12_letter_69 (by decide) ?_
    refine q_lcmpR dX12_letter_70 ?_
    refine q_ifle (tgt := 88) dX12_letter_71 (by decide) ?_ ?_
    · refine q_iload_n 0 dX12_letter_88 rfl rfl ?_
      refine q_iload 2 dX12_letter_89 rfl ?_
      refine q_icmplt (tgt := 96) dX12_letter_91 (by decide) ?_ ?_
      · refine q_iload 2 dX12_letter_96 rfl ?_
        refine q_iconst dX12_letter_98 ?_
        refine q_isub dX12_letter_99 ?_
        refine q_nameI (fun x21 _ => ?_)
        refine q_istore (ls' := [(7, .inl x21), (3, .inl x3), (4, .inr (.inl x4)), (6, .inl x6)]) dX12_letter_100 (by decide) rfl ?_
        refine q_sub [1, 2, 0] rfl ?_
        exact tX12_letter_102 hd q_FU x3 x4 x21 M hO
      · refine q_iconst dX12_letter_94 ?_
        exact q_ret dX12_letter_95 rfl
    · refine q_iinc (ls' := [(6, .inl (x6 + 1)), (3, .inl x3), (4, .inr (.inl x4)), (7, .inr (.inl x7))]) 2 dX12_letter_74 rfl (by decide) rfl ?_
      refine q_lload 3 dX12_letter_77 rfl ?_
      refine q_ldc2 dX12_letter_79 kl_X12_288 (n := 27) rfl ?_
      refine q_ldivR dX12_letter_82 (by decide) ?_
      refine q_nameL (fun x22 _ => ?_)
      refine q_lstore (ls' := [(7, .inr (.inl x22)), (6, .inl (x6 + 1)), (3, .inl x3), (4, .inr (.inl x4))]) dX12_letter_83 (by decide) rfl ?_
      refine q_goto (tgt := 67) dX12_letter_85 (by decide) ?_
      refine q_sub [2, 3, 1, 0] rfl ?_
      exact ih x3 x4 (x6 + 1) x22 M hO
def fX12_letter (x1 : Int) (x2 : Int) (x3 : Int) (M : q_Mem) : Option (Int × q_Mem) := q_bd (fX12_isIn (q_w x1) 0 1 M) fun x21 M1 => if q_w x21 = 0 then (some ((-1), M1)) else ((q_ld M1 123 6 (3 + x1)).bind fun x22 => q_bd (fX12_isIn (q_w x2) 0 (q_w (x22 - 1)) M1) fun x23 M2 => if q_w x23 = 0 then (some ((-1), M2)) else (q_bd (fX12_isIn (q_w x3) 0 5 M2) fun x24 M3 => if q_w x24 = 0 then (some ((-1), M3)) else ((q_ld M3 124 32 ((16 + (8 * x1)) + x2)).bind fun x25 => (fX12_letter_67 q_FU x3 x25 0 x25 M3))))
theorem tX12_letter {d : Nat} (hd : 1 ≤ d) (x1 : Int) (x2 : Int) (x3 : Int) (M : q_Mem) (hO : q_Ok M) : q_EX d yX12_letter cX12_letter 9 (some .int) 0 (q_args 0 [.inr (.inr 94), .inl x1, .inl x2, .inl x3]) [] M (fX12_letter x1 x2 x3 M) := by
  obtain ⟨d, rfl⟩ : ∃ d', d = d' + 1 := ⟨d - 1, by omega⟩
  have hd : 0 ≤ d := by omega
  show q_EX _ _ _ _ _ 0 [(0, .inr (.inr 94)), (1, .inl x1), (2, .inl x2), (3, .inl x3)] [] M _
  unfold fX12_letter
  refine q_iload_n 1 dX12_letter_0 rfl rfl ?_
  refine q_i2l dX12_letter_1 ?_
  refine q_lconst (v := 0) dX12_letter_2 (by decide) ?_
  refine q_lconst (v := 1) dX12_letter_3 (by decide) ?_
  refine q_callSi (As := [.inr (.inl (q_w x1)), .inr (.inl 0), .inr (.inl 1)]) hO mb_X12_isIn ms_X12_isIn ml_X12_277 dX12_letter_4 (fun _ => rfl) rfl (Nat.le_of_ble_eq_true rfl) rfl (Nat.le_of_ble_eq_true rfl) (tX12_isIn (q_w x1) 0 1 M hO) (fun x21 M1 _ hO1 => ?_)
  refine q_ifeq (tgt := 42) dX12_letter_7 (by decide) ?_ ?_
  · refine q_iconst dX12_letter_42 ?_
    exact q_ret dX12_letter_43 rfl
  · refine q_iload_n 2 dX12_letter_10 rfl rfl ?_
    refine q_i2l dX12_letter_11 ?_
    refine q_lconst (v := 0) dX12_letter_12 (by decide) ?_
    refine q_aload_n 0 dX12_letter_13 rfl rfl ?_
    refine q_getx fl_X12_99 hO1 sh_94 rfl fx_94_37 dX12_letter_14 ?_
    refine q_iconst dX12_letter_17 ?_
    refine q_iload_n 1 dX12_letter_18 rfl rfl ?_
    refine q_iadd dX12_letter_19 ?_
    refine q_iald sh_123 (q_inA hO1 sh_123 (by decide)) dX12_letter_20 (fun x22 _ _ _ => ?_)
    refine q_iconst dX12_letter_21 ?_
    refine q_isub dX12_letter_22 ?_
    refine q_i2l dX12_letter_23 ?_
    refine q_callSi (As := [.inr (.inl (q_w x2)), .inr (.inl 0), .inr (.inl (q_w (x22 - 1)))]) hO1 mb_X12_isIn ms_X12_isIn ml_X12_277 dX12_letter_24 (fun _ => rfl) rfl (Nat.le_of_ble_eq_true rfl) rfl (Nat.le_of_ble_eq_true rfl) (tX12_isIn (q_w x2) 0 (q_w (x22 - 1)) M1 hO1) (fun x23 M2 _ hO2 => ?_)
    refine q_ifeq (tgt := 42) dX12_letter_27 (by decide) ?_ ?_
    · refine q_iconst dX12_letter_42 ?_
      exact q_ret dX12_letter_43 rfl
    · refine q_iload_n 3 dX12_letter_30 rfl rfl ?_
      refine q_i2l dX12_letter_31 ?_
      refine q_lconst (v := 0) dX12_letter_32 (by decide) ?_
      refine q_ldc2 dX12_letter_33 kl_X12_439 (n := 5) rfl ?_
      refine q_callSi (As := [.inr (.inl (q_w x3)), .inr (.inl 0), .inr (.inl 5)]) hO2 mb_X12_isIn ms_X12_isIn ml_X12_277 dX12_letter_36 (fun _ => rfl) rfl (Nat.le_of_ble_eq_true rfl) rfl (Nat.le_of_ble_eq_true rfl) (tX12_isIn (q_w x3) 0 5 M2 hO2) (fun x24 M3 _ hO3 => ?_)
      refine q_ifne (tgt := 44) dX12_letter_39 (by decide) ?_ ?_
      · refine q_aload_n 0 dX12_letter_44 rfl rfl ?_
        refine q_getx fl_X12_102 hO3 sh_94 rfl fx_94_38 dX12_letter_45 ?_
        refine q_bipush dX12_letter_48 (by decide) ?_
        refine q_bipush dX12_letter_50 (by decide) ?_
        refine q_iload_n 1 dX12_letter_52 rfl rfl ?_
        refine q_imul dX12_letter_53 ?_
        refine q_iadd dX12_letter_54 ?_
        refine q_iload_n 2 dX12_letter_55 rfl rfl ?_
        refine q_iadd dX12_letter_56 ?_
        refine q_lald sh_124 (q_inA hO3 sh_124 (by decide)) dX12_letter_57 (fun x25 _ _ _ => ?_)
        refine q_lstore (ls' := [(4, .inr (.inl x25)), (0, .inr (.inr 94)), (1, .inl x1), (2, .inl x2), (3, .inl x3)]) dX12_letter_58 (by decide) rfl ?_
        refine q_iconst dX12_letter_60 ?_
        refine q_istore (ls' := [(6, .inl 0), (4, .inr (.inl x25)), (0, .inr (.inr 94)), (1, .inl x1), (2, .inl x2), (3, .inl x3)]) dX12_letter_61 (by decide) rfl ?_
        refine q_lload 1 dX12_letter_63 rfl ?_
        refine q_lstore (ls' := [(7, .inr (.inl x25)), (6, .inl 0), (4, .inr (.inl x25)), (0, .inr (.inr 94)), (1, .inl x1), (2, .inl x2), (3, .inl x3)]) dX12_letter_65 (by decide) rfl ?_
        refine q_sub [6, 2, 1, 0] rfl ?_
        exact tX12_letter_67 hd q_FU x3 x25 0 x25 M3 hO3
      · refine q_iconst dX12_letter_42 ?_
        exact q_ret dX12_letter_43 rfl
def fX12_stall (x1 : Int) (x2 : Int) (M : q_Mem) : Option (Int × q_Mem) := q_bd (fX12_isStall (q_w x1) M) fun x21 M1 => if q_w x21 = 0 then (some ((-1), M1)) else (q_bd (fX12_isIn (q_w x2) 0 3 M1) fun x22 M2 => if q_w x22 = 0 then (if q_w x2 = q_w 4 then (q_bd (fX12_isBought x1 M2) fun x23 M3 => if q_w x23 = 0 then (some (0, M3)) else (some (1, M3))) else (some ((-1), M2))) else ((q_ld M2 125 48 ((24 + (4 * x1)) + x2)).bind fun x24 => some (x24, M2)))
theorem tX12_stall {d : Nat} (hd : 2 ≤ d) (x1 : Int) (x2 : Int) (M : q_Mem) (hO : q_Ok M) : q_EX d yX12_stall cX12_stall 3 (some .int) 0 (q_args 0 [.inr (.inr 94), .inl x1, .inl x2]) [] M (fX12_stall x1 x2 M) := by
  obtain ⟨d, rfl⟩ : ∃ d', d = d' + 1 := ⟨d - 1, by omega⟩
  have hd : 1 ≤ d := by omega
  show q_EX _ _ _ _ _ 0 [(0, .inr (.inr 94)), (1, .inl x1), (2, .inl x2)] [] M _
  unfold fX12_stall
  refine q_aload_n 0 dX12_stall_0 rfl rfl ?_
  refine q_iload_n 1 dX12_stall_1 rfl rfl ?_
  refine q_i2l dX12_stall_2 ?_
  refine q_callVi (As := [.inr (.inl (q_w x1))]) hO mb_X12_isStall mv_X12_isStall ml_X12_441 sh_94 rfl dX12_stall_3 (fun _ => rfl) rfl (Nat.le_of_ble_eq_true rfl) rfl (Nat.le_of_ble_eq_true rfl) (tX12_isStall (by omega) (q_w x1) M hO) (fun x21 M1 _ hO1 => ?_)
  refine q_ifne (tgt := 11) dX12_stall_6 (by decide) ?_ ?_
  · refine q_iload_n 2 dX12_stall_11 rfl rfl ?_
    refine q_i2l dX12_stall_12 ?_
    refine q_lconst (v := 0) dX12_stall_13 (by decide) ?_
    refine q_ldc2 dX12_stall_14 kl_X12_445 (n := 3) rfl ?_
    refine q_callSi (As := [.inr (.inl (q_w x2)), .inr (.inl 0), .inr (.inl 3)]) hO1 mb_X12_isIn ms_X12_isIn ml_X12_277 dX12_stall_17 (fun _ => rfl) rfl (Nat.le_of_ble_eq_true rfl) rfl (Nat.le_of_ble_eq_true rfl) (tX12_isIn (q_w x2) 0 3 M1 hO1) (fun x22 M2 _ hO2 => ?_)
    refine q_ifeq (tgt := 39) dX12_stall_20 (by decide) ?_ ?_
    · refine q_iload_n 2 dX12_stall_39 rfl rfl ?_
      refine q_iconst dX12_stall_40 ?_
      refine q_icmpne (tgt := 60) dX12_stall_41 (by decide) ?_ ?_
      · refine q_iconst dX12_stall_60 ?_
        exact q_ret dX12_stall_61 rfl
      · refine q_aload_n 0 dX12_stall_44 rfl rfl ?_
        refine q_iload_n 1 dX12_stall_45 rfl rfl ?_
        refine q_callVi (As := [.inl x1]) hO2 mb_X12_isBought mv_X12_isBought ml_X12_447 sh_94 rfl dX12_stall_46 (fun _ => rfl) rfl (Nat.le_of_ble_eq_true rfl) rfl (Nat.le_of_ble_eq_true rfl) (tX12_isBought x1 M2 hO2) (fun x23 M3 _ hO3 => ?_)
        refine q_ifeq (tgt := 56) dX12_stall_49 (by decide) ?_ ?_
        · refine q_iconst dX12_stall_56 ?_
          refine q_goto (tgt := 61) dX12_stall_57 (by decide) ?_
          exact q_ret dX12_stall_61 rfl
        · refine q_iconst dX12_stall_52 ?_
          refine q_goto (tgt := 61) dX12_stall_53 (by decide) ?_
          exact q_ret dX12_stall_61 rfl
    · refine q_aload_n 0 dX12_stall_23 rfl rfl ?_
      refine q_getx fl_X12_106 hO2 sh_94 rfl fx_94_39 dX12_stall_24 ?_
      refine q_bipush dX12_stall_27 (by decide) ?_
      refine q_iconst dX12_stall_29 ?_
      refine q_iload_n 1 dX12_stall_30 rfl rfl ?_
      refine q_imul dX12_stall_31 ?_
      refine q_iadd dX12_stall_32 ?_
      refine q_iload_n 2 dX12_stall_33 rfl rfl ?_
      refine q_iadd dX12_stall_34 ?_
      refine q_iald sh_125 (q_inA hO2 sh_125 (by decide)) dX12_stall_35 (fun x24 _ _ _ => ?_)
      refine q_goto (tgt := 61) dX12_stall_36 (by decide) ?_
      exact q_ret dX12_stall_61 rfl
  · refine q_iconst dX12_stall_9 ?_
    exact q_ret dX12_stall_10 rfl
def fX12_coin (x1 : Int) (x2 : Int) (M : q_Mem) : Option (Int × q_Mem) := q_bd (fX12_isCoin x1 M) fun x21 M1 => if q_w x21 = 0 then (some ((-1), M1)) else (q_bd (fX12_isIn (q_w x2) 0 1 M1) fun x22 M2 => if q_w x22 = 0 then (some ((-1), M2)) else ((q_ld M2 126 32 ((16 + (2 * x1)) + x2)).bind fun x23 => some (x23, M2)))
theorem tX12_coin {d : Nat} (hd : 2 ≤ d) (x1 : Int) (x2 : Int) (M : q_Mem) (hO : q_Ok M) : q_EX d yX12_coin cX12_coin 3 (some .int) 0 (q_args 0 [.inr (.inr 94), .inl x1, .inl x2]) [] M (fX12_coin x1 x2 M) := by
  obtain ⟨d, rfl⟩ : ∃ d', d = d' + 1 := ⟨d - 1, by omega⟩
  have hd : 1 ≤ d := by omega
  show q_EX _ _ _ _ _ 0 [(0, .inr (.inr 94)), (1, .inl x1), (2, .inl x2)] [] M _
  unfold fX12_coin
  refine q_aload_n 0 dX12_coin_0 rfl rfl ?_
  refine q_iload_n 1 dX12_coin_1 rfl rfl ?_
  refine q_callVi (As := [.inl x1]) hO mb_X12_isCoin mv_X12_isCoin ml_X12_450 sh_94 rfl dX12_coin_2 (fun _ => rfl) rfl (Nat.le_of_ble_eq_true rfl) rfl (Nat.le_of_ble_eq_true rfl) (tX12_isCoin (by omega) x1 M hO) (fun x21 M1 _ hO1 => ?_)
  refine q_ifeq (tgt := 34) dX12_coin_5 (by decide) ?_ ?_
  · refine q_iconst dX12_coin_34 ?_
    exact q_ret dX12_coin_35 rfl
  · refine q_iload_n 2 dX12_coin_8 rfl rfl ?_
    refine q_i2l dX12_coin_9 ?_
    refine q_lconst (v := 0) dX12_coin_10 (by decide) ?_
    refine q_lconst (v := 1) dX12_coin_11 (by decide) ?_
    refine q_callSi (As := [.inr (.inl (q_w x2)), .inr (.inl 0), .inr (.inl 1)]) hO1 mb_X12_isIn ms_X12_isIn ml_X12_277 dX12_coin_12 (fun _ => rfl) rfl (Nat.le_of_ble_eq_true rfl) rfl (Nat.le_of_ble_eq_true rfl) (tX12_isIn (q_w x2) 0 1 M1 hO1) (fun x22 M2 _ hO2 => ?_)
    refine q_ifeq (tgt := 34) dX12_coin_15 (by decide) ?_ ?_
    · refine q_iconst dX12_coin_34 ?_
      exact q_ret dX12_coin_35 rfl
    · refine q_aload_n 0 dX12_coin_18 rfl rfl ?_
      refine q_getx fl_X12_109 hO2 sh_94 rfl fx_94_40 dX12_coin_19 ?_
      refine q_bipush dX12_coin_22 (by decide) ?_
      refine q_iconst dX12_coin_24 ?_
      refine q_iload_n 1 dX12_coin_25 rfl rfl ?_
      refine q_imul dX12_coin_26 ?_
      refine q_iadd dX12_coin_27 ?_
      refine q_iload_n 2 dX12_coin_28 rfl rfl ?_
      refine q_iadd dX12_coin_29 ?_
      refine q_iald sh_126 (q_inA hO2 sh_126 (by decide)) dX12_coin_30 (fun x23 _ _ _ => ?_)
      refine q_goto (tgt := 35) dX12_coin_31 (by decide) ?_
      exact q_ret dX12_coin_35 rfl
def fX12_shadow (x1 : Int) (x2 : Int) (x3 : Int) (M : q_Mem) : Option (Int × q_Mem) := q_bd (fX12_isCoin x1 M) fun x21 M1 => if q_w x21 = 0 then (some ((-1), M1)) else (q_bd (fX12_isStall (q_w x2) M1) fun x22 M2 => if q_w x22 = 0 then (some ((-1), M2)) else (q_bd (fX12_isMinute x3 M2) fun x23 M3 => if q_w x23 = 0 then (some ((-1), M3)) else (q_bd (fX12_shadowOf x1 x2 x3 M3) fun x24 M4 => some (x24, M4))))
theorem tX12_shadow {d : Nat} (hd : 4 ≤ d) (x1 : Int) (x2 : Int) (x3 : Int) (M : q_Mem) (hO : q_Ok M) : q_EX d yX12_shadow cX12_shadow 4 (some .int) 0 (q_args 0 [.inr (.inr 94), .inl x1, .inl x2, .inl x3]) [] M (fX12_shadow x1 x2 x3 M) := by
  obtain ⟨d, rfl⟩ : ∃ d', d = d' + 1 := ⟨d - 1, by omega⟩
  have hd : 3 ≤ d := by omega
  show q_EX _ _ _ _ _ 0 [(0, .inr (.inr 94)), (1, .inl x1), (2, .inl x2), (3, .inl x3)] [] M _
  unfold fX12_shadow
  refine q_aload_n 0 dX12_shadow_0 rfl rfl ?_
  refine q_iload_n 1 dX12_shadow_1 rfl rfl ?_
  refine q_callVi (As := [.inl x1]) hO mb_X12_isCoin mv_X12_isCoin ml_X12_450 sh_94 rfl dX12_shadow_2 (fun _ => rfl) rfl (Nat.le_of_ble_eq_true rfl) rfl (Nat.le_of_ble_eq_true rfl) (tX12_isCoin (by omega) x1 M hO) (fun x21 M1 _ hO1 => ?_)
  refine q_ifeq (tgt := 35) dX12_shadow_5 (by decide) ?_ ?_
  · refine q_iconst dX12_shadow_35 ?_
    exact q_ret dX12_shadow_36 rfl
  · refine q_aload_n 0 dX12_shadow_8 rfl rfl ?_
    refine q_iload_n 2 dX12_shadow_9 rfl rfl ?_
    refine q_i2l dX12_shadow_10 ?_
    refine q_callVi (As := [.inr (.inl (q_w x2))]) hO1 mb_X12_isStall mv_X12_isStall ml_X12_441 sh_94 rfl dX12_shadow_11 (fun _ => rfl) rfl (Nat.le_of_ble_eq_true rfl) rfl (Nat.le_of_ble_eq_true rfl) (tX12_isStall (by omega) (q_w x2) M1 hO1) (fun x22 M2 _ hO2 => ?_)
    refine q_ifeq (tgt := 35) dX12_shadow_14 (by decide) ?_ ?_
    · refine q_iconst dX12_shadow_35 ?_
      exact q_ret dX12_shadow_36 rfl
    · refine q_aload_n 0 dX12_shadow_17 rfl rfl ?_
      refine q_iload_n 3 dX12_shadow_18 rfl rfl ?_
      refine q_callVi (As := [.inl x3]) hO2 mb_X12_isMinute mv_X12_isMinute ml_X12_453 sh_94 rfl dX12_shadow_19 (fun _ => rfl) rfl (Nat.le_of_ble_eq_true rfl) rfl (Nat.le_of_ble_eq_true rfl) (tX12_isMinute (by omega) x3 M2 hO2) (fun x23 M3 _ hO3 => ?_)
      refine q_ifeq (tgt := 35) dX12_shadow_22 (by decide) ?_ ?_
      · refine q_iconst dX12_shadow_35 ?_
        exact q_ret dX12_shadow_36 rfl
      · refine q_aload_n 0 dX12_shadow_25 rfl rfl ?_
        refine q_iload_n 1 dX12_shadow_26 rfl rfl ?_
        refine q_iload_n 2 dX12_shadow_27 rfl rfl ?_
        refine q_iload_n 3 dX12_shadow_28 rfl rfl ?_
        refine q_callVi (As := [.inl x1, .inl x2, .inl x3]) hO3 mb_X12_shadowOf mv_X12_shadowOf ml_X12_417 sh_94 rfl dX12_shadow_29 (fun _ => rfl) rfl (Nat.le_of_ble_eq_true rfl) rfl (Nat.le_of_ble_eq_true rfl) (tX12_shadowOf (by omega) x1 x2 x3 M3 hO3) (fun x24 M4 _ hO4 => ?_)
        refine q_goto (tgt := 36) dX12_shadow_32 (by decide) ?_
        exact q_ret dX12_shadow_36 rfl
