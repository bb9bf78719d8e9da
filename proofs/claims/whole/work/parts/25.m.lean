def fX12_asksSign (x1 : Int) (M : q_Mem) : Option (Int × q_Mem) := if q_w (M.2 94 5) = 0 then (q_bd (fX12_takesSign x1 M) fun x21 M1 => if q_w x21 = 0 then (q_bd (fX12_fail 1 (M1.2 94 2) M1) fun _ M2 => some (0, M2)) else (some (0, M1))) else (some (0, M))
theorem tX12_asksSign {d : Nat} (hd : 2 ≤ d) (x1 : Int) (M : q_Mem) (hO : q_Ok M) : q_EX d yX12_asksSign cX12_asksSign 2 none 0 (q_args 0 [.inr (.inr 94), .inl x1]) [] M (fX12_asksSign x1 M) := by
  obtain ⟨d, rfl⟩ : ∃ d', d = d' + 1 := ⟨d - 1, by omega⟩
  have hd : 1 ≤ d := by omega
  show q_EX _ _ _ _ _ 0 [(0, .inr (.inr 94)), (1, .inl x1)] [] M _
  unfold fX12_asksSign
  refine q_aload_n 0 dX12_asksSign_0 rfl rfl ?_
  refine q_geti fl_X12_237 sh_94 (q_inO hO sh_94) rfl dX12_asksSign_1 ?_
  refine q_ifne (tgt := 24) dX12_asksSign_4 (by decide) ?_ ?_
  · exact q_ret dX12_asksSign_24 rfl
  · refine q_aload_n 0 dX12_asksSign_7 rfl rfl ?_
    refine q_iload_n 1 dX12_asksSign_8 rfl rfl ?_
    refine q_callVi (As := [.inl x1]) hO mb_X12_takesSign mv_X12_takesSign ml_X12_271 sh_94 rfl dX12_asksSign_9 (fun _ => rfl) rfl (Nat.le_of_ble_eq_true rfl) rfl (Nat.le_of_ble_eq_true rfl) (tX12_takesSign (by omega) x1 M hO) (fun x21 M1 _ hO1 => ?_)
    refine q_ifne (tgt := 24) dX12_asksSign_12 (by decide) ?_ ?_
    · exact q_ret dX12_asksSign_24 rfl
    · refine q_aload_n 0 dX12_asksSign_15 rfl rfl ?_
      refine q_iconst dX12_asksSign_16 ?_
      refine q_aload_n 0 dX12_asksSign_17 rfl rfl ?_
      refine q_geti fl_X12_243 sh_94 (q_inO hO1 sh_94) rfl dX12_asksSign_18 ?_
      refine q_callVv (As := [.inl 1, .inl (M1.2 94 2)]) hO1 mb_X12_fail mv_X12_fail ml_X12_267 sh_94 rfl dX12_asksSign_21 (fun _ => rfl) rfl (Nat.le_of_ble_eq_true rfl) rfl (Nat.le_of_ble_eq_true rfl) (tX12_fail 1 (M1.2 94 2) M1 hO1) (fun _ M2 _ hO2 => ?_)
      exact q_ret dX12_asksSign_24 rfl
def fX12_number_30 (M : q_Mem) : Option (Int × q_Mem) := q_bd (fX12_fail 1 (M.2 94 2) M) fun _ M1 => some (0, M1)
theorem tX12_number_30 {d : Nat} (hd : 0 ≤ d) (M : q_Mem) (hO : q_Ok M) : q_EX (d + 1) yX12_number cX12_number 5 (some .int) 30 [(0, .inr (.inr 94))] [] M (fX12_number_30 M) := by
  unfold fX12_number_30
  refine q_aload_n 0 dX12_number_30 rfl rfl ?_
  refine q_iconst dX12_number_31 ?_
  refine q_aload_n 0 dX12_number_32 rfl rfl ?_
  refine q_geti fl_X12_243 sh_94 (q_inO hO sh_94) rfl dX12_number_33 ?_
  refine q_callVv (As := [.inl 1, .inl (M.2 94 2)]) hO mb_X12_fail mv_X12_fail ml_X12_267 sh_94 rfl dX12_number_36 (fun _ => rfl) rfl (Nat.le_of_ble_eq_true rfl) rfl (Nat.le_of_ble_eq_true rfl) (tX12_fail 1 (M.2 94 2) M hO) (fun _ M1 _ hO1 => ?_)
  refine q_iconst dX12_number_39 ?_
  exact q_ret dX12_number_40 rfl
def fX12_number_129 (x1 : Int) (x2 : Int) (x3 : Int) (x4 : Int) (M : q_Mem) : Option (Int × q_Mem) := q_let (q_up M 94 4 (M.2 94 2)) fun M1 => q_bd (fX12_isIn (q_w x4) (q_w x1) (q_w x2) M1) fun x21 M2 => if q_w x21 = 0 then (q_bd (fX12_fail 2 x3 M2) fun _ M3 => some (x4, M3)) else (some (x4, M2))
theorem tX12_number_129 {d : Nat} (hd : 0 ≤ d) (x1 : Int) (x2 : Int) (x3 : Int) (x4 : Int) (M : q_Mem) (hO : q_Ok M) : q_EX (d + 1) yX12_number cX12_number 5 (some .int) 129 [(0, .inr (.inr 94)), (1, .inl x1), (2, .inl x2), (3, .inl x3), (4, .inl x4)] [] M (fX12_number_129 x1 x2 x3 x4 M) := by
  unfold fX12_number_129
  refine q_aload_n 0 dX12_number_129 rfl rfl ?_
  refine q_aload_n 0 dX12_number_130 rfl rfl ?_
  refine q_geti fl_X12_243 sh_94 (q_inO hO sh_94) rfl dX12_number_131 ?_
  refine q_puti fl_X12_257 sh_94 (q_inO hO sh_94) (fun h => q_Ok_put h sh_94 rfl) rfl dX12_number_134 (fun M1 hM1 => ?_)
  have hO1 : q_Ok M1 := by rw [hM1]; exact q_Ok_put hO sh_94 rfl
  refine q_iload 4 dX12_number_137 rfl ?_
  refine q_i2l dX12_number_139 ?_
  refine q_iload_n 1 dX12_number_140 rfl rfl ?_
  refine q_i2l dX12_number_141 ?_
  refine q_iload_n 2 dX12_number_142 rfl rfl ?_
  refine q_i2l dX12_number_143 ?_
  refine q_callSi (As := [.inr (.inl (q_w x4)), .inr (.inl (q_w x1)), .inr (.inl (q_w x2))]) hO1 mb_X12_isIn ms_X12_isIn ml_X12_277 dX12_number_144 (fun _ => rfl) rfl (Nat.le_of_ble_eq_true rfl) rfl (Nat.le_of_ble_eq_true rfl) (tX12_isIn (q_w x4) (q_w x1) (q_w x2) M1 hO1) (fun x21 M2 _ hO2 => ?_)
  refine q_ifne (tgt := 156) dX12_number_147 (by decide) ?_ ?_
  · refine q_iload 4 dX12_number_156 rfl ?_
    exact q_ret dX12_number_158 rfl
  · refine q_aload_n 0 dX12_number_150 rfl rfl ?_
    refine q_iconst dX12_number_151 ?_
    refine q_iload_n 3 dX12_number_152 rfl rfl ?_
    refine q_callVv (As := [.inl 2, .inl x3]) hO2 mb_X12_fail mv_X12_fail ml_X12_267 sh_94 rfl dX12_number_153 (fun _ => rfl) rfl (Nat.le_of_ble_eq_true rfl) rfl (Nat.le_of_ble_eq_true rfl) (tX12_fail 2 x3 M2 hO2) (fun _ M3 _ hO3 => ?_)
    refine q_iload 4 dX12_number_156 rfl ?_
    exact q_ret dX12_number_158 rfl
def fX12_number_49  : Nat → Int → Int → Int → Int → q_Mem → Option (Int × q_Mem)
  | 0, _, _, _, _, _ => none
  | n + 1, x1, x2, x3, x4, M => if q_w (M.2 94 2) < q_w (M.2 94 3) then ((q_ld M 95 1600 (M.2 94 2)).bind fun x21 => q_bd (fX12_isDigit x21 M) fun x22 M1 => if q_w x22 = 0 then ((fX12_number_129 x1 x2 x3 x4 M1)) else (if q_w ((M1.2 94 2) - x3) = q_w 4 then (q_bd (fX12_fail 1 (M1.2 94 2) M1) fun _ M3 => some (0, M3)) else ((q_ld M1 95 1600 (M1.2 94 2)).bind fun x23 => q_let (((10 * x4) + x23) - 48) fun x24 => q_let (q_up M1 94 2 ((M1.2 94 2) + 1)) fun M2 => (fX12_number_49 n x1 x2 x3 x24 M2)))) else ((fX12_number_129 x1 x2 x3 x4 M))
theorem tX12_number_49 {d : Nat} (hd : 0 ≤ d) : ∀ (n : Nat) (x1 : Int) (x2 : Int) (x3 : Int) (x4 : Int) (M : q_Mem), q_Ok M → q_EX (d + 1) yX12_number cX12_number 5 (some .int) 49 [(0, .inr (.inr 94)), (1, .inl x1), (2, .inl x2), (3, .inl x3), (4, .inl x4)] [] M (fX12_number_49 n x1 x2 x3 x4 M) := by
  intro n
  induction n with
  | zero => intro x1 x2 x3 x4 M hO; exact q_none
  | succ n ih =>
    intro x1 x2 x3 x4 M hO
    rw [fX12_number_49]
    refine q_aload_n 0 dX12_number_49 rfl rfl ?_
    refine q_geti fl_X12_243 sh_94 (q_inO hO sh_94) rfl dX12_number_50 ?_
    refine q_aload_n 0 dX12_number_53 rfl rfl ?_
    refine q_geti fl_X12_246 sh_94 (q_inO hO sh_94) rfl dX12_number_54 ?_
    refine q_icmpge (tgt := 129) dX12_number_57 (by decide) ?_ ?_
    · refine q_sub [0, 1, 2, 3, 4] rfl ?_
      exact tX12_number_129 hd x1 x2 x3 x4 M hO
    · refine q_aload_n 0 dX12_number_60 rfl rfl ?_
      refine q_getx fl_X12_7 hO sh_94 rfl fx_94_0 dX12_number_61 ?_
      refine q_aload_n 0 dX12_number_64 rfl rfl ?_
      refine q_geti fl_X12_243 sh_94 (q_inO hO sh_94) rfl dX12_number_65 ?_
      refine q_iald sh_95 (q_inA hO sh_95 (by decide)) dX12_number_68 (fun x21 _ _ _ => ?_)
      refine q_callSi (As := [.inl x21]) hO mb_X12_isDigit ms_X12_isDigit ml_X12_274 dX12_number_69 (fun _ => rfl) rfl (Nat.le_of_ble_eq_true rfl) rfl (Nat.le_of_ble_eq_true rfl) (tX12_isDigit x21 M hO) (fun x22 M1 _ hO1 => ?_)
      refine q_ifeq (tgt := 129) dX12_number_72 (by decide) ?_ ?_
      · refine q_sub [0, 1, 2, 3, 4] rfl ?_
        exact tX12_number_129 hd x1 x2 x3 x4 M1 hO1
      · refine q_aload_n 0 dX12_number_75 rfl rfl ?_
        refine q_geti fl_X12_243 sh_94 (q_inO hO1 sh_94) rfl dX12_number_76 ?_
        refine q_iload_n 3 dX12_number_79 rfl rfl ?_
        refine q_isub dX12_number_80 ?_
        refine q_iconst dX12_number_81 ?_
        refine q_icmpne (tgt := 96) dX12_number_82 (by decide) ?_ ?_
        · refine q_bipush dX12_number_96 (by decide) ?_
          refine q_iload 4 dX12_number_98 rfl ?_
          refine q_imul dX12_number_100 ?_
          refine q_aload_n 0 dX12_number_101 rfl rfl ?_
          refine q_getx fl_X12_7 hO1 sh_94 rfl fx_94_0 dX12_number_102 ?_
          refine q_aload_n 0 dX12_number_105 rfl rfl ?_
          refine q_geti fl_X12_243 sh_94 (q_inO hO1 sh_94) rfl dX12_number_106 ?_
          refine q_iald sh_95 (q_inA hO1 sh_95 (by decide)) dX12_number_109 (fun x23 _ _ _ => ?_)
          refine q_iadd dX12_number_110 ?_
          refine q_bipush dX12_number_111 (by decide) ?_
          refine q_isub dX12_number_113 ?_
          refine q_nameI (fun x24 _ => ?_)
          refine q_istore (ls' := [(4, .inl x24), (0, .inr (.inr 94)), (1, .inl x1), (2, .inl x2), (3, .inl x3)]) dX12_number_114 (by decide) rfl ?_
          refine q_aload_n 1 dX12_number_116 rfl rfl ?_
          refine q_dup dX12_number_117 rfl ?_
          refine q_geti fl_X12_243 sh_94 (q_inO hO1 sh_94) rfl dX12_number_118 ?_
          refine q_iconst dX12_number_121 ?_
          refine q_iadd dX12_number_122 ?_
          refine q_puti fl_X12_243 sh_94 (q_inO hO1 sh_94) (fun h => q_Ok_put h sh_94 rfl) rfl dX12_number_123 (fun M2 hM2 => ?_)
          have hO2 : q_Ok M2 := by rw [hM2]; exact q_Ok_put hO1 sh_94 rfl
          refine q_goto (tgt := 49) dX12_number_126 (by decide) ?_
          refine q_sub [1, 2, 3, 4, 0] rfl ?_
          exact ih x1 x2 x3 x24 M2 hO2
        · refine q_aload_n 0 dX12_number_85 rfl rfl ?_
          refine q_iconst dX12_number_86 ?_
          refine q_aload_n 0 dX12_number_87 rfl rfl ?_
          refine q_geti fl_X12_243 sh_94 (q_inO hO1 sh_94) rfl dX12_number_88 ?_
          refine q_callVv (As := [.inl 1, .inl (M1.2 94 2)]) hO1 mb_X12_fail mv_X12_fail ml_X12_267 sh_94 rfl dX12_number_91 (fun _ => rfl) rfl (Nat.le_of_ble_eq_true rfl) rfl (Nat.le_of_ble_eq_true rfl) (tX12_fail 1 (M1.2 94 2) M1 hO1) (fun _ M3 _ hO3 => ?_)
          refine q_iconst dX12_number_94 ?_
          exact q_ret dX12_number_95 rfl
def fX12_number (x1 : Int) (x2 : Int) (M : q_Mem) : Option (Int × q_Mem) := if q_w (M.2 94 5) = 0 then (q_bd (fX12_look M) fun x21 M1 => q_bd (fX12_isDigit x21 M1) fun x22 M2 => if q_w x22 = 0 then ((fX12_number_30 M2)) else (if q_w (M2.2 94 2) = q_w (M2.2 94 4) then ((fX12_number_30 M2)) else (q_let (M2.2 94 2) fun x23 => (fX12_number_49 q_FU x1 x2 x23 0 M2)))) else (some (0, M))
theorem tX12_number {d : Nat} (hd : 1 ≤ d) (x1 : Int) (x2 : Int) (M : q_Mem) (hO : q_Ok M) : q_EX d yX12_number cX12_number 5 (some .int) 0 (q_args 0 [.inr (.inr 94), .inl x1, .inl x2]) [] M (fX12_number x1 x2 M) := by
  obtain ⟨d, rfl⟩ : ∃ d', d = d' + 1 := ⟨d - 1, by omega⟩
  have hd : 0 ≤ d := by omega
  show q_EX _ _ _ _ _ 0 [(0, .inr (.inr 94)), (1, .inl x1), (2, .inl x2)] [] M _
  unfold fX12_number
  refine q_aload_n 0 dX12_number_0 rfl rfl ?_
  refine q_geti fl_X12_237 sh_94 (q_inO hO sh_94) rfl dX12_number_1 ?_
  refine q_ifeq (tgt := 9) dX12_number_4 (by decide) ?_ ?_
  · refine q_aload_n 0 dX12_number_9 rfl rfl ?_
    refine q_callVi (As := []) hO mb_X12_look mv_X12_look ml_X12_249 sh_94 rfl dX12_number_10 (fun _ => rfl) rfl (Nat.le_of_ble_eq_true rfl) rfl (Nat.le_of_ble_eq_true rfl) (tX12_look M hO) (fun x21 M1 _ hO1 => ?_)
    refine q_callSi (As := [.inl x21]) hO1 mb_X12_isDigit ms_X12_isDigit ml_X12_274 dX12_number_13 (fun _ => rfl) rfl (Nat.le_of_ble_eq_true rfl) rfl (Nat.le_of_ble_eq_true rfl) (tX12_isDigit x21 M1 hO1) (fun x22 M2 _ hO2 => ?_)
    refine q_ifeq (tgt := 30) dX12_number_16 (by decide) ?_ ?_
    · refine q_sub [0] rfl ?_
      exact tX12_number_30 hd M2 hO2
    · refine q_aload_n 0 dX12_number_19 rfl rfl ?_
      refine q_geti fl_X12_243 sh_94 (q_inO hO2 sh_94) rfl dX12_number_20 ?_
      refine q_aload_n 0 dX12_number_23 rfl rfl ?_
      refine q_geti fl_X12_257 sh_94 (q_inO hO2 sh_94) rfl dX12_number_24 ?_
      refine q_icmpne (tgt := 41) dX12_number_27 (by decide) ?_ ?_
      · refine q_aload_n 0 dX12_number_41 rfl rfl ?_
        refine q_geti fl_X12_243 sh_94 (q_inO hO2 sh_94) rfl dX12_number_42 ?_
        refine q_nameI (fun x23 _ => ?_)
        refine q_istore_n (ls' := [(3, .inl x23), (0, .inr (.inr 94)), (1, .inl x1), (2, .inl x2)]) dX12_number_45 rfl (by decide) rfl ?_
        refine q_iconst dX12_number_46 ?_
        refine q_istore (ls' := [(4, .inl 0), (3, .inl x23), (0, .inr (.inr 94)), (1, .inl x1), (2, .inl x2)]) dX12_number_47 (by decide) rfl ?_
        refine q_sub [2, 3, 4, 1, 0] rfl ?_
        exact tX12_number_49 hd q_FU x1 x2 x23 0 M2 hO2
      · refine q_sub [0] rfl ?_
        exact tX12_number_30 hd M2 hO2
  · refine q_iconst dX12_number_7 ?_
    exact q_ret dX12_number_8 rfl
def fX12_isOwnHere_315 (M : q_Mem) : Option (Int × q_Mem) := some (1, M)
theorem tX12_isOwnHere_315 {d : Nat} (hd : 1 ≤ d) (M : q_Mem) (hO : q_Ok M) : q_EX (d + 1) yX12_isOwnHere cX12_isOwnHere 2 (some .boolean) 315 [] [] M (fX12_isOwnHere_315 M) := by
  unfold fX12_isOwnHere_315
  refine q_iconst dX12_isOwnHere_315 ?_
  refine q_goto (tgt := 320) dX12_isOwnHere_316 (by decide) ?_
  refine q_istore_n (ls' := [(1, .inl 1)]) dX12_isOwnHere_320 rfl (by decide) rfl ?_
  refine q_iload_n 0 dX12_isOwnHere_321 rfl rfl ?_
  exact q_ret ⟨dX12_isOwnHere_322, by decide⟩ rfl
def fX12_isOwnHere_299 (s0 : Int) (M : q_Mem) : Option (Int × q_Mem) := if q_w s0 = 0 then (q_bd (fX12_isHere 121 3 M) fun x21 M1 => if q_w x21 = 0 then (some (0, M1)) else ((fX12_isOwnHere_315 M1))) else ((fX12_isOwnHere_315 M))
theorem tX12_isOwnHere_299 {d : Nat} (hd : 1 ≤ d) (s0 : Int) (M : q_Mem) (hO : q_Ok M) : q_EX (d + 1) yX12_isOwnHere cX12_isOwnHere 2 (some .boolean) 299 [(0, .inr (.inr 94))] [.inl s0] M (fX12_isOwnHere_299 s0 M) := by
  unfold fX12_isOwnHere_299
  refine q_istore_n (ls' := [(1, .inl s0), (0, .inr (.inr 94))]) dX12_isOwnHere_299 rfl (by decide) rfl ?_
  refine q_iload_n 0 dX12_isOwnHere_300 rfl rfl ?_
  refine q_ifne (tgt := 315) dX12_isOwnHere_301 (by decide) ?_ ?_
  · refine q_sub [] rfl ?_
    exact tX12_isOwnHere_315 hd M hO
  · refine q_aload_n 1 dX12_isOwnHere_304 rfl rfl ?_
    refine q_aload_n 1 dX12_isOwnHere_305 rfl rfl ?_
    refine q_getx fl_X12_93 hO sh_94 rfl fx_94_34 dX12_isOwnHere_306 ?_
    refine q_callVi (As := [.inr (.inr 121)]) hO mb_X12_isHere mv_X12_isHere ml_X12_260 sh_94 rfl dX12_isOwnHere_309 (fun _ => rfl) rfl (Nat.le_of_ble_eq_true rfl) rfl (Nat.le_of_ble_eq_true rfl) (tX12_isHere (by omega) 121 3 M hO sh_121) (fun x21 M1 _ hO1 => ?_)
    refine q_ifeq (tgt := 319) dX12_isOwnHere_312 (by decide) ?_ ?_
    · refine q_iconst dX12_isOwnHere_319 ?_
      refine q_istore_n (ls' := [(1, .inl 0), (0, .inr (.inr 94))]) dX12_isOwnHere_320 rfl (by decide) rfl ?_
      refine q_iload_n 0 dX12_isOwnHere_321 rfl rfl ?_
      exact q_ret ⟨dX12_isOwnHere_322, by decide⟩ rfl
    · refine q_sub [] rfl ?_
      exact tX12_isOwnHere_315 hd M1 hO1
def fX12_isOwnHere_294 (M : q_Mem) : Option (Int × q_Mem) := (fX12_isOwnHere_299 1 M)
theorem tX12_isOwnHere_294 {d : Nat} (hd : 1 ≤ d) (M : q_Mem) (hO : q_Ok M) : q_EX (d + 1) yX12_isOwnHere cX12_isOwnHere 2 (some .boolean) 294 [(0, .inr (.inr 94))] [] M (fX12_isOwnHere_294 M) := by
  unfold fX12_isOwnHere_294
  refine q_iconst dX12_isOwnHere_294 ?_
  refine q_goto (tgt := 299) dX12_isOwnHere_295 (by decide) ?_
  refine q_sub [0] rfl ?_
  exact tX12_isOwnHere_299 hd 1 M hO
def fX12_isOwnHere_223 (s0 : Int) (M : q_Mem) : Option (Int × q_Mem) := if q_w s0 = 0 then (q_bd (fX12_isHere 115 4 M) fun x21 M1 => if q_w x21 = 0 then (q_bd (fX12_isHere 116 2 M1) fun x22 M2 => if q_w x22 = 0 then (q_bd (fX12_isHere 117 3 M2) fun x23 M3 => if q_w x23 = 0 then (q_bd (fX12_isHere 118 3 M3) fun x24 M4 => if q_w x24 = 0 then (q_bd (fX12_isHere 119 3 M4) fun x25 M5 => if q_w x25 = 0 then (q_bd (fX12_isHere 120 3 M5) fun x26 M6 => if q_w x26 = 0 then ((fX12_isOwnHere_299 0 M6)) else ((fX12_isOwnHere_294 M6))) else ((fX12_isOwnHere_294 M5))) else ((fX12_isOwnHere_294 M4))) else ((fX12_isOwnHere_294 M3))) else ((fX12_isOwnHere_294 M2))) else ((fX12_isOwnHere_294 M1))) else ((fX12_isOwnHere_294 M))
theorem tX12_isOwnHere_223 {d : Nat} (hd : 1 ≤ d) (s0 : Int) (M : q_Mem) (hO : q_Ok M) : q_EX (d + 1) yX12_isOwnHere cX12_isOwnHere 2 (some .boolean) 223 [(0, .inr (.inr 94))] [.inl s0] M (fX12_isOwnHere_223 s0 M) := by
  unfold fX12_isOwnHere_223
  refine q_istore_n (ls' := [(1, .inl s0), (0, .inr (.inr 94))]) dX12_isOwnHere_223 rfl (by decide) rfl ?_
  refine q_iload_n 0 dX12_isOwnHere_224 rfl rfl ?_
  refine q_ifne (tgt := 294) dX12_isOwnHere_225 (by decide) ?_ ?_
  · refine q_sub [1] rfl ?_
    exact tX12_isOwnHere_294 hd M hO
  · refine q_aload_n 1 dX12_isOwnHere_228 rfl rfl ?_
    refine q_aload_n 1 dX12_isOwnHere_229 rfl rfl ?_
    refine q_getx fl_X12_75 hO sh_94 rfl fx_94_28 dX12_isOwnHere_230 ?_
    refine q_callVi (As := [.inr (.inr 115)]) hO mb_X12_isHere mv_X12_isHere ml_X12_260 sh_94 rfl dX12_isOwnHere_233 (fun _ => rfl) rfl (Nat.le_of_ble_eq_true rfl) rfl (Nat.le_of_ble_eq_true rfl) (tX12_isHere (by omega) 115 4 M hO sh_115) (fun x21 M1 _ hO1 => ?_)
    refine q_ifne (tgt := 294) dX12_isOwnHere_236 (by decide) ?_ ?_
    · refine q_sub [1] rfl ?_
      exact tX12_isOwnHere_294 hd M1 hO1
    · refine q_aload_n 1 dX12_isOwnHere_239 rfl rfl ?_
      refine q_aload_n 1 dX12_isOwnHere_240 rfl rfl ?_
      refine q_getx fl_X12_78 hO1 sh_94 rfl fx_94_29 dX12_isOwnHere_241 ?_
      refine q_callVi (As := [.inr (.inr 116)]) hO1 mb_X12_isHere mv_X12_isHere ml_X12_260 sh_94 rfl dX12_isOwnHere_244 (fun _ => rfl) rfl (Nat.le_of_ble_eq_true rfl) rfl (Nat.le_of_ble_eq_true rfl) (tX12_isHere (by omega) 116 2 M1 hO1 sh_116) (fun x22 M2 _ hO2 => ?_)
      refine q_ifne (tgt := 294) dX12_isOwnHere_247 (by decide) ?_ ?_
      · refine q_sub [1] rfl ?_
        exact tX12_isOwnHere_294 hd M2 hO2
      · refine q_aload_n 1 dX12_isOwnHere_250 rfl rfl ?_
        refine q_aload_n 1 dX12_isOwnHere_251 rfl rfl ?_
        refine q_getx fl_X12_81 hO2 sh_94 rfl fx_94_30 dX12_isOwnHere_252 ?_
        refine q_callVi (As := [.inr (.inr 117)]) hO2 mb_X12_isHere mv_X12_isHere ml_X12_260 sh_94 rfl dX12_isOwnHere_255 (fun _ => rfl) rfl (Nat.le_of_ble_eq_true rfl) rfl (Nat.le_of_ble_eq_true rfl) (tX12_isHere (by omega) 117 3 M2 hO2 sh_117) (fun x23 M3 _ hO3 => ?_)
        refine q_ifne (tgt := 294) dX12_isOwnHere_258 (by decide) ?_ ?_
        · refine q_sub [1] rfl ?_
          exact tX12_isOwnHere_294 hd M3 hO3
        · refine q_aload_n 1 dX12_isOwnHere_261 rfl rfl ?_
          refine q_aload_n 1 dX12_isOwnHere_262 rfl rfl ?_
          refine q_getx fl_X12_84 hO3 sh_94 rfl fx_94_31 dX12_isOwnHere_263 ?_
          refine q_callVi (As := [.inr (.inr 118)]) hO3 mb_X12_isHere mv_X12_isHere ml_X12_260 sh_94 rfl dX12_isOwnHere_266 (fun _ => rfl) rfl (Nat.le_of_ble_eq_true rfl) rfl (Nat.le_of_ble_eq_true rfl) (tX12_isHere (by omega) 118 3 M3 hO3 sh_118) (fun x24 M4 _ hO4 => ?_)
          refine q_ifne (tgt := 294) dX12_isOwnHere_269 (by decide) ?_ ?_
          · refine q_sub [1] rfl ?_
            exact tX12_isOwnHere_294 hd M4 hO4
          · refine q_aload_n 1 dX12_isOwnHere_272 rfl rfl ?_
            refine q_aload_n 1 dX12_isOwnHere_273 rfl rfl ?_
            refine q_getx fl_X12_87 hO4 sh_94 rfl fx_94_32 dX12_isOwnHere_274 ?_
            refine q_callVi (As := [.inr (.inr 119)]) hO4 mb_X12_isHere mv_X12_isHere ml_X12_260 sh_94 rfl dX12_isOwnHere_277 (fun _ => rfl) rfl (Nat.le_of_ble_eq_true rfl) rfl (Nat.le_of_ble_eq_true rfl) (tX12_isHere (by omega) 119 3 M4 hO4 sh_119) (fun x25 M5 _ hO5 => ?_)
            refine q_ifne (tgt := 294) dX12_isOwnHere_280 (by decide) ?_ ?_
            · refine q_sub [1] rfl ?_
              exact tX12_isOwnHere_294 hd M5 hO5
            · refine q_aload_n 1 dX12_isOwnHere_283 rfl rfl ?_
              refine q_aload_n 1 dX12_isOwnHere_284 rfl rfl ?_
              refine q_getx fl_X12_90 hO5 sh_94 rfl fx_94_33 dX12_isOwnHere_285 ?_
              refine q_callVi (As := [.inr (.inr 120)]) hO5 mb_X12_isHere mv_X12_isHere ml_X12_260 sh_94 rfl dX12_isOwnHere_288 (fun _ => rfl) rfl (Nat.le_of_ble_eq_true rfl) rfl (Nat.le_of_ble_eq_true rfl) (tX12_isHere (by omega) 120 3 M5 hO5 sh_120) (fun x26 M6 _ hO6 => ?_)
              refine q_ifeq (tgt := 298) dX12_isOwnHere_291 (by decide) ?_ ?_
              · refine q_iconst dX12_isOwnHere_298 ?_
                refine q_sub [1] rfl ?_
                exact tX12_isOwnHere_299 hd 0 M6 hO6
              · refine q_sub [1] rfl ?_
                exact tX12_isOwnHere_294 hd M6 hO6
def fX12_isOwnHere_218 (M : q_Mem) : Option (Int × q_Mem) := (fX12_isOwnHere_223 1 M)
theorem tX12_isOwnHere_218 {d : Nat} (hd : 1 ≤ d) (M : q_Mem) (hO : q_Ok M) : q_EX (d + 1) yX12_isOwnHere cX12_isOwnHere 2 (some .boolean) 218 [(0, .inr (.inr 94))] [] M (fX12_isOwnHere_218 M) := by
  unfold fX12_isOwnHere_218
  refine q_iconst dX12_isOwnHere_218 ?_
  refine q_goto (tgt := 223) dX12_isOwnHere_219 (by decide) ?_
  refine q_sub [0] rfl ?_
  exact tX12_isOwnHere_223 hd 1 M hO
def fX12_isOwnHere_147 (s0 : Int) (M : q_Mem) : Option (Int × q_Mem) := if q_w s0 = 0 then (q_bd (fX12_isHere 109 6 M) fun x21 M1 => if q_w x21 = 0 then (q_bd (fX12_isHere 110 6 M1) fun x22 M2 => if q_w x22 = 0 then (q_bd (fX12_isHere 111 4 M2) fun x23 M3 => if q_w x23 = 0 then (q_bd (fX12_isHere 112 4 M3) fun x24 M4 => if q_w x24 = 0 then (q_bd (fX12_isHere 113 6 M4) fun x25 M5 => if q_w x25 = 0 then (q_bd (fX12_isHere 114 6 M5) fun x26 M6 => if q_w x26 = 0 then ((fX12_isOwnHere_223 0 M6)) else ((fX12_isOwnHere_218 M6))) else ((fX12_isOwnHere_218 M5))) else ((fX12_isOwnHere_218 M4))) else ((fX12_isOwnHere_218 M3))) else ((fX12_isOwnHere_218 M2))) else ((fX12_isOwnHere_218 M1))) else ((fX12_isOwnHere_218 M))
theorem tX12_isOwnHere_147 {d : Nat} (hd : 1 ≤ d) (s0 : Int) (M : q_Mem) (hO : q_Ok M) : q_EX (d + 1) yX12_isOwnHere cX12_isOwnHere 2 (some .boolean) 147 [(0, .inr (.inr 94))] [.inl s0] M (fX12_isOwnHere_147 s0 M) := by
  unfold fX12_isOwnHere_147
  refine q_istore_n (ls' := [(1, .inl s0), (0, .inr (.inr 94))]) dX12_isOwnHere_147 rfl (by decide) rfl ?_
  refine q_iload_n 0 dX12_isOwnHere_148 rfl rfl ?_
  refine q_ifne (tgt := 218) dX12_isOwnHere_149 (by decide) ?_ ?_
  · refine q_sub [1] rfl ?_
    exact tX12_isOwnHere_218 hd M hO
  · refine q_aload_n 1 dX12_isOwnHere_152 rfl rfl ?_
    refine q_aload_n 1 dX12_isOwnHere_153 rfl rfl ?_
    refine q_getx fl_X12_57 hO sh_94 rfl fx_94_22 dX12_isOwnHere_154 ?_
    refine q_callVi (As := [.inr (.inr 109)]) hO mb_X12_isHere mv_X12_isHere ml_X12_260 sh_94 rfl dX12_isOwnHere_157 (fun _ => rfl) rfl (Nat.le_of_ble_eq_true rfl) rfl (Nat.le_of_ble_eq_true rfl) (tX12_isHere (by omega) 109 6 M hO sh_109) (fun x21 M1 _ hO1 => ?_)
    refine q_ifne (tgt := 218) dX12_isOwnHere_160 (by decide) ?_ ?_
    · refine q_sub [1] rfl ?_
      exact tX12_isOwnHere_218 hd M1 hO1
    · refine q_aload_n 1 dX12_isOwnHere_163 rfl rfl ?_
      refine q_aload_n 1 dX12_isOwnHere_164 rfl rfl ?_
      refine q_getx fl_X12_60 hO1 sh_94 rfl fx_94_23 dX12_isOwnHere_165 ?_
      refine q_callVi (As := [.inr (.inr 110)]) hO1 mb_X12_isHere mv_X12_isHere ml_X12_260 sh_94 rfl dX12_isOwnHere_168 (fun _ => rfl) rfl (Nat.le_of_ble_eq_true rfl) rfl (Nat.le_of_ble_eq_true rfl) (tX12_isHere (by omega) 110 6 M1 hO1 sh_110) (fun x22 M2 _ hO2 => ?_)
      refine q_ifne (tgt := 218) dX12_isOwnHere_171 (by decide) ?_ ?_
      · refine q_sub [1] rfl ?_
        exact tX12_isOwnHere_218 hd M2 hO2
      · refine q_aload_n 1 dX12_isOwnHere_174 rfl rfl ?_
        refine q_aload_n 1 dX12_isOwnHere_175 rfl rfl ?_
        refine q_getx fl_X12_63 hO2 sh_94 rfl fx_94_24 dX12_isOwnHere_176 ?_
        refine q_callVi (As := [.inr (.inr 111)]) hO2 mb_X12_isHere mv_X12_isHere ml_X12_260 sh_94 rfl dX12_isOwnHere_179 (fun _ => rfl) rfl (Nat.le_of_ble_eq_true rfl) rfl (Nat.le_of_ble_eq_true rfl) (tX12_isHere (by omega) 111 4 M2 hO2 sh_111) (fun x23 M3 _ hO3 => ?_)
        refine q_ifne (tgt := 218) dX12_isOwnHere_182 (by decide) ?_ ?_
        · refine q_sub [1] rfl ?_
          exact tX12_isOwnHere_218 hd M3 hO3
        · refine q_aload_n 1 dX12_isOwnHere_185 rfl rfl ?_
          refine q_aload_n 1 dX12_isOwnHere_186 rfl rfl ?_
          refine q_getx fl_X12_66 hO3 sh_94 rfl fx_94_25 dX12_isOwnHere_187 ?_
          refine q_callVi (As := [.inr (.inr 112)]) hO3 mb_X12_isHere mv_X12_isHere ml_X12_260 sh_94 rfl dX12_isOwnHere_190 (fun _ => rfl) rfl (Nat.le_of_ble_eq_true rfl) rfl (Nat.le_of_ble_eq_true rfl) (tX12_isHere (by omega) 112 4 M3 hO3 sh_112) (fun x24 M4 _ hO4 => ?_)
          refine q_ifne (tgt := 218) dX12_isOwnHere_193 (by decide) ?_ ?_
          · refine q_sub [1] rfl ?_
            exact tX12_isOwnHere_218 hd M4 hO4
          · refine q_aload_n 1 dX12_isOwnHere_196 rfl rfl ?_
            refine q_aload_n 1 dX12_isOwnHere_197 rfl rfl ?_
            refine q_getx fl_X12_69 hO4 sh_94 rfl fx_94_26 dX12_isOwnHere_198 ?_
            refine q_callVi (As := [.inr (.inr 113)]) hO4 mb_X12_isHere mv_X12_isHere ml_X12_260 sh_94 rfl dX12_isOwnHere_201 (fun _ => rfl) rfl (Nat.le_of_ble_eq_true rfl) rfl (Nat.le_of_ble_eq_true rfl) (tX12_isHere (by omega) 113 6 M4 hO4 sh_113) (fun x25 M5 _ hO5 => ?_)
            refine q_ifne (tgt := 218) dX12_isOwnHere_204 (by decide) ?_ ?_
            · refine q_sub [1] rfl ?_
              exact tX12_isOwnHere_218 hd M5 hO5
            · refine q_aload_n 1 dX12_isOwnHere_207 rfl rfl ?_
              refine q_aload_n 1 dX12_isOwnHere_208 rfl rfl ?_
              refine q_getx fl_X12_72 hO5 sh_94 rfl fx_94_27 dX12_isOwnHere_209 ?_
              refine q_callVi (As := [.inr (.inr 114)]) hO5 mb_X12_isHere mv_X12_isHere ml_X12_260 sh_94 rfl dX12_isOwnHere_212 (fun _ => rfl) rfl (Nat.le_of_ble_eq_true rfl) rfl (Nat.le_of_ble_eq_true rfl) (tX12_isHere (by omega) 114 6 M5 hO5 sh_114) (fun x26 M6 _ hO6 => ?_)
              refine q_ifeq (tgt := 222) dX12_isOwnHere_215 (by decide) ?_ ?_
              · refine q_iconst dX12_isOwnHere_222 ?_
                refine q_sub [1] rfl ?_
                exact tX12_isOwnHere_223 hd 0 M6 hO6
              · refine q_sub [1] rfl ?_
                exact tX12_isOwnHere_218 hd M6 hO6
def fX12_isOwnHere_142 (M : q_Mem) : Option (Int × q_Mem) := (fX12_isOwnHere_147 1 M)
theorem tX12_isOwnHere_142 {d : Nat} (hd : 1 ≤ d) (M : q_Mem) (hO : q_Ok M) : q_EX (d + 1) yX12_isOwnHere cX12_isOwnHere 2 (some .boolean) 142 [(0, .inr (.inr 94))] [] M (fX12_isOwnHere_142 M) := by
  unfold fX12_isOwnHere_142
  refine q_iconst dX12_isOwnHere_142 ?_
  refine q_goto (tgt := 147) dX12_isOwnHere_143 (by decide) ?_
  refine q_sub [0] rfl ?_
  exact tX12_isOwnHere_147 hd 1 M hO
def fX12_isOwnHere_71 (s0 : Int) (M : q_Mem) : Option (Int × q_Mem) := if q_w s0 = 0 then (q_bd (fX12_isHere 103 4 M) fun x21 M1 => if q_w x21 = 0 then (q_bd (fX12_isHere 104 5 M1) fun x22 M2 => if q_w x22 = 0 then (q_bd (fX12_isHere 105 4 M2) fun x23 M3 => if q_w x23 = 0 then (q_bd (fX12_isHere 106 5 M3) fun x24 M4 => if q_w x24 = 0 then (q_bd (fX12_isHere 107 2 M4) fun x25 M5 => if q_w x25 = 0 then (q_bd (fX12_isHere 108 5 M5) fun x26 M6 => if q_w x26 = 0 then ((fX12_isOwnHere_147 0 M6)) else ((fX12_isOwnHere_142 M6))) else ((fX12_isOwnHere_142 M5))) else ((fX12_isOwnHere_142 M4))) else ((fX12_isOwnHere_142 M3))) else ((fX12_isOwnHere_142 M2))) else ((fX12_isOwnHere_142 M1))) else ((fX12_isOwnHere_142 M))
theorem tX12_isOwnHere_71 {d : Nat} (hd : 1 ≤ d) (s0 : Int) (M : q_Mem) (hO : q_Ok M) : q_EX (d + 1) yX12_isOwnHere cX12_isOwnHere 2 (some .boolean) 71 [(0, .inr (.inr 94))] [.inl s0] M (fX12_isOwnHere_71 s0 M) := by
  unfold fX12_isOwnHere_71
  refine q_istore_n (ls' := [(1, .inl s0), (0, .inr (.inr 94))]) dX12_isOwnHere_71 rfl (by decide) rfl ?_
  refine q_iload_n 0 dX12_isOwnHere_72 rfl rfl ?_
  refine q_ifne (tgt := 142) dX12_isOwnHere_73 (by decide) ?_ ?_
  · refine q_sub [1] rfl ?_
    exact tX12_isOwnHere_142 hd M hO
  · refine q_aload_n 1 dX12_isOwnHere_76 rfl rfl ?_
    refine q_aload_n 1 dX12_isOwnHere_77 rfl rfl ?_
    refine q_getx fl_X12_39 hO sh_94 rfl fx_94_16 dX12_isOwnHere_78 ?_
    refine q_callVi (As := [.inr (.inr 103)]) hO mb_X12_isHere mv_X12_isHere ml_X12_260 sh_94 rfl dX12_isOwnHere_81 (fun _ => rfl) rfl (Nat.le_of_ble_eq_true rfl) rfl (Nat.le_of_ble_eq_true rfl) (tX12_isHere (by omega) 103 4 M hO sh_103) (fun x21 M1 _ hO1 => ?_)
    refine q_ifne (tgt := 142) dX12_isOwnHere_84 (by decide) ?_ ?_
    · refine q_sub [1] rfl ?_
      exact tX12_isOwnHere_142 hd M1 hO1
    · refine q_aload_n 1 dX12_isOwnHere_87 rfl rfl ?_
      refine q_aload_n 1 dX12_isOwnHere_88 rfl rfl ?_
      refine q_getx fl_X12_42 hO1 sh_94 rfl fx_94_17 dX12_isOwnHere_89 ?_
      refine q_callVi (As := [.inr (.inr 104)]) hO1 mb_X12_isHere mv_X12_isHere ml_X12_260 sh_94 rfl dX12_isOwnHere_92 (fun _ => rfl) rfl (Nat.le_of_ble_eq_true rfl) rfl (Nat.le_of_ble_eq_true rfl) (tX12_isHere (by omega) 104 5 M1 hO1 sh_104) (fun x22 M2 _ hO2 => ?_)
      refine q_ifne (tgt := 142) dX12_isOwnHere_95 (by decide) ?_ ?_
      · refine q_sub [1] rfl ?_
        exact tX12_isOwnHere_142 hd M2 hO2
      · refine q_aload_n 1 dX12_isOwnHere_98 rfl rfl ?_
        refine q_aload_n 1 dX12_isOwnHere_99 rfl rfl ?_
        refine q_getx fl_X12_45 hO2 sh_94 rfl fx_94_18 dX12_isOwnHere_100 ?_
        refine q_callVi (As := [.inr (.inr 105)]) hO2 mb_X12_isHere mv_X12_isHere ml_X12_260 sh_94 rfl dX12_isOwnHere_103 (fun _ => rfl) rfl (Nat.le_of_ble_eq_true rfl) rfl (Nat.le_of_ble_eq_true rfl) (tX12_isHere (by omega) 105 4 M2 hO2 sh_105) (fun x23 M3 _ hO3 => ?_)
        refine q_ifne (tgt := 142) dX12_isOwnHere_106 (by decide) ?_ ?_
        · refine q_sub [1] rfl ?_
          exact tX12_isOwnHere_142 hd M3 hO3
        · refine q_aload_n 1 dX12_isOwnHere_109 rfl rfl ?_
          refine q_aload_n 1 dX12_isOwnHere_110 rfl rfl ?_
          refine q_getx fl_X12_48 hO3 sh_94 rfl fx_94_19 dX12_isOwnHere_111 ?_
          refine q_callVi (As := [.inr (.inr 106)]) hO3 mb_X12_isHere mv_X12_isHere ml_X12_260 sh_94 rfl dX12_isOwnHere_114 (fun _ => rfl) rfl (Nat.le_of_ble_eq_true rfl) rfl (Nat.le_of_ble_eq_true rfl) (tX12_isHere (by omega) 106 5 M3 hO3 sh_106) (fun x24 M4 _ hO4 => ?_)
          refine q_ifne (tgt := 142) dX12_isOwnHere_117 (by decide) ?_ ?_
          · refine q_sub [1] rfl ?_
            exact tX12_isOwnHere_142 hd M4 hO4
          · refine q_aload_n 1 dX12_isOwnHere_120 rfl rfl ?_
            refine q_aload_n 1 dX12_isOwnHere_121 rfl rfl ?_
            refine q_getx fl_X12_51 hO4 sh_94 rfl fx_94_20 dX12_isOwnHere_122 ?_
            refine q_callVi (As := [.inr (.inr 107)]) hO4 mb_X12_isHere mv_X12_isHere ml_X12_260 sh_94 rfl dX12_isOwnHere_125 (fun _ => rfl) rfl (Nat.le_of_ble_eq_true rfl) rfl (Nat.le_of_ble_eq_true rfl) (tX12_isHere (by omega) 107 2 M4 hO4 sh_107) (fun x25 M5 _ hO5 => ?_)
            refine q_ifne (tgt := 142) dX12_isOwnHere_128 (by decide) ?_ ?_
            · refine q_sub [1] rfl ?_
              exact tX12_isOwnHere_142 hd M5 hO5
            · refine q_aload_n 1 dX12_isOwnHere_131 rfl rfl ?_
              refine q_aload_n 1 dX12_isOwnHere_132 rfl rfl ?_
              refine q_getx fl_X12_54 hO5 sh_94 rfl fx_94_21 dX12_isOwnHere_133 ?_
              refine q_callVi (As := [.inr (.inr 108)]) hO5 mb_X12_isHere mv_X12_isHere ml_X12_260 sh_94 rfl dX12_isOwnHere_136 (fun _ => rfl) rfl (Nat.le_of_ble_eq_true rfl) rfl (Nat.le_of_ble_eq_true rfl) (tX12_isHere (by omega) 108 5 M5 hO5 sh_108) (fun x26 M6 _ hO6 => ?_)
              refine q_ifeq (tgt := 146) dX12_isOwnHere_139 (by decide) ?_ ?_
              · refine q_iconst dX12_isOwnHere_146 ?_
                refine q_sub [1] rfl ?_
                exact tX12_isOwnHere_147 hd 0 M6 hO6
              · refine q_sub [1] rfl ?_
                exact tX12_isOwnHere_142 hd M6 hO6
def fX12_isOwnHere_66 (M : q_Mem) : Option (Int × q_Mem) := (fX12_isOwnHere_71 1 M)
theorem tX12_isOwnHere_66 {d : Nat} (hd : 1 ≤ d) (M : q_Mem) (hO : q_Ok M) : q_EX (d + 1) yX12_isOwnHere cX12_isOwnHere 2 (some .boolean) 66 [(0, .inr (.inr 94))] [] M (fX12_isOwnHere_66 M) := by
  unfold fX12_isOwnHere_66
  refine q_iconst dX12_isOwnHere_66 ?_
  refine q_goto (tgt := 71) dX12_isOwnHere_67 (by decide) ?_
  refine q_sub [0] rfl ?_
  exact tX12_isOwnHere_71 hd 1 M hO
def fX12_isOwnHere (M : q_Mem) : Option (Int × q_Mem) := q_bd (fX12_isHere 97 4 M) fun x21 M1 => if q_w x21 = 0 then (q_bd (fX12_isHere 98 5 M1) fun x22 M2 => if q_w x22 = 0 then (q_bd (fX12_isHere 99 2 M2) fun x23 M3 => if q_w x23 = 0 then (q_bd (fX12_isHere 100 4 M3) fun x24 M4 => if q_w x24 = 0 then (q_bd (fX12_isHere 101 5 M4) fun x25 M5 => if q_w x25 = 0 then (q_bd (fX12_isHere 102 4 M5) fun x26 M6 => if q_w x26 = 0 then ((fX12_isOwnHere_71 0 M6)) else ((fX12_isOwnHere_66 M6))) else ((fX12_isOwnHere_66 M5))) else ((fX12_isOwnHere_66 M4))) else ((fX12_isOwnHere_66 M3))) else ((fX12_isOwnHere_66 M2))) else ((fX12_isOwnHere_66 M1))
theorem tX12_isOwnHere {d : Nat} (hd : 2 ≤ d) (M : q_Mem) (hO : q_Ok M) : q_EX d yX12_isOwnHere cX12_isOwnHere 2 (some .boolean) 0 (q_args 0 [.inr (.inr 94)]) [] M (fX12_isOwnHere M) := by
  obtain ⟨d, rfl⟩ : ∃ d', d = d' + 1 := ⟨d - 1, by omega⟩
  have hd : 1 ≤ d := by omega
  show q_EX _ _ _ _ _ 0 [(0, .inr (.inr 94))] [] M _
  unfold fX12_isOwnHere
  refine q_aload_n 0 dX12_isOwnHere_0 rfl rfl ?_
  refine q_aload_n 0 dX12_isOwnHere_1 rfl rfl ?_
  refine q_getx fl_X12_20 hO sh_94 rfl fx_94_10 dX12_isOwnHere_2 ?_
  refine q_callVi (As := [.inr (.inr 97)]) hO mb_X12_isHere mv_X12_isHere ml_X12_260 sh_94 rfl dX12_isOwnHere_5 (fun _ => rfl) rfl (Nat.le_of_ble_eq_true rfl) rfl (Nat.le_of_ble_eq_true rfl) (tX12_isHere (by omega) 97 4 M hO sh_97) (fun x21 M1 _ hO1 => ?_)
  refine q_ifne (tgt := 66) dX12_isOwnHere_8 (by decide) ?_ ?_
  · refine q_sub [0] rfl ?_
    exact tX12_isOwnHere_66 hd M1 hO1
  · refine q_aload_n 0 dX12_isOwnHere_11 rfl rfl ?_
    refine q_aload_n 0 dX12_isOwnHere_12 rfl rfl ?_
    refine q_getx fl_X12_24 hO1 sh_94 rfl fx_94_11 dX12_isOwnHere_13 ?_
    refine q_callVi (As := [.inr (.inr 98)]) hO1 mb_X12_isHere mv_X12_isHere ml_X12_260 sh_94 rfl dX12_isOwnHere_16 (fun _ => rfl) rfl (Nat.le_of_ble_eq_true rfl) rfl (Nat.le_of_ble_eq_true rfl) (tX12_isHere (by omega) 98 5 M1 hO1 sh_98) (fun x22 M2 _ hO2 => ?_)
    refine q_ifne (tgt := 66) dX12_isOwnHere_19 (by decide) ?_ ?_
    · refine q_sub [0] rfl ?_
      exact tX12_isOwnHere_66 hd M2 hO2
    · refine q_aload_n 0 dX12_isOwnHere_22 rfl rfl ?_
      refine q_aload_n 0 dX12_isOwnHere_23 rfl rfl ?_
      refine q_getx fl_X12_27 hO2 sh_94 rfl fx_94_12 dX12_isOwnHere_24 ?_
      refine q_callVi (As := [.inr (.inr 99)]) hO2 mb_X12_isHere mv_X12_isHere ml_X12_260 sh_94 rfl dX12_isOwnHere_27 (fun _ => rfl) rfl (Nat.le_of_ble_eq_true rfl) rfl (Nat.le_of_ble_eq_true rfl) (tX12_isHere (by omega) 99 2 M2 hO2 sh_99) (fun x23 M3 _ hO3 => ?_)
      refine q_ifne (tgt := 66) dX12_isOwnHere_30 (by decide) ?_ ?_
      · refine q_sub [0] rfl ?_
        exact tX12_isOwnHere_66 hd M3 hO3
      · refine q_aload_n 0 dX12_isOwnHere_33 rfl rfl ?_
        refine q_aload_n 0 dX12_isOwnHere_34 rfl rfl ?_
        refine q_getx fl_X12_30 hO3 sh_94 rfl fx_94_13 dX12_isOwnHere_35 ?_
        refine q_callVi (As := [.inr (.inr 100)]) hO3 mb_X12_isHere mv_X12_isHere ml_X12_260 sh_94 rfl dX12_isOwnHere_38 (fun _ => rfl) rfl (Nat.le_of_ble_eq_true rfl) rfl (Nat.le_of_ble_eq_true rfl) (tX12_isHere (by omega) 100 4 M3 hO3 sh_100) (fun x24 M4 _ hO4 => ?_)
        refine q_ifne (tgt := 66) dX12_isOwnHere_41 (by decide) ?_ ?_
        · refine q_sub [0] rfl ?_
          exact tX12_isOwnHere_66 hd M4 hO4
        · refine q_aload_n 0 dX12_isOwnHere_44 rfl rfl ?_
          refine q_aload_n 0 dX12_isOwnHere_45 rfl rfl ?_
          refine q_getx fl_X12_33 hO4 sh_94 rfl fx_94_14 dX12_isOwnHere_46 ?_
          refine q_callVi (As := [.inr (.inr 101)]) hO4 mb_X12_isHere mv_X12_isHere ml_X12_260 sh_94 rfl dX12_isOwnHere_49 (fun _ => rfl) rfl (Nat.le_of_ble_eq_true rfl) rfl (Nat.le_of_ble_eq_true rfl) (tX12_isHere (by omega) 101 5 M4 hO4 sh_101) (fun x25 M5 _ hO5 => ?_)
          refine q_ifne (tgt := 66) dX12_isOwnHere_52 (by decide) ?_ ?_
          · refine q_sub [0] rfl ?_
            exact tX12_isOwnHere_66 hd M5 hO5
          · refine q_aload_n 0 dX12_isOwnHere_55 rfl rfl ?_
            refine q_aload_n 0 dX12_isOwnHere_56 rfl rfl ?_
            refine q_getx fl_X12_36 hO5 sh_94 rfl fx_94_15 dX12_isOwnHere_57 ?_
            refine q_callVi (As := [.inr (.inr 102)]) hO5 mb_X12_isHere mv_X12_isHere ml_X12_260 sh_94 rfl dX12_isOwnHere_60 (fun _ => rfl) rfl (Nat.le_of_ble_eq_true rfl) rfl (Nat.le_of_ble_eq_true rfl) (tX12_isHere (by omega) 102 4 M5 hO5 sh_102) (fun x26 M6 _ hO6 => ?_)
            refine q_ifeq (tgt := 70) dX12_isOwnHere_63 (by decide) ?_ ?_
            · refine q_iconst dX12_isOwnHere_70 ?_
              refine q_sub [0] rfl ?_
              exact tX12_isOwnHere_71 hd 0 M6 hO6
            · refine q_sub [0] rfl ?_
              exact tX12_isOwnHere_66 hd M6 hO6
def fX12_name_37 (M : q_Mem) : Option (Int × q_Mem) := q_bd (fX12_fail 1 (M.2 94 2) M) fun _ M1 => some (0, M1)
theorem tX12_name_37 {d : Nat} (hd : 2 ≤ d) (M : q_Mem) (hO : q_Ok M) : q_EX (d + 1) yX12_name cX12_name 3 (some .long) 37 [(0, .inr (.inr 94))] [] M (fX12_name_37 M) := by
  unfold fX12_name_37
  refine q_aload_n 0 dX12_name_37 rfl rfl ?_
  refine q_iconst dX12_name_38 ?_
  refine q_aload_n 0 dX12_name_39 rfl rfl ?_
  refine q_geti fl_X12_243 sh_94 (q_inO hO sh_94) rfl dX12_name_40 ?_
  refine q_callVv (As := [.inl 1, .inl (M.2 94 2)]) hO mb_X12_fail mv_X12_fail ml_X12_267 sh_94 rfl dX12_name_43 (fun _ => rfl) rfl (Nat.le_of_ble_eq_true rfl) rfl (Nat.le_of_ble_eq_true rfl) (tX12_fail 1 (M.2 94 2) M hO) (fun _ M1 _ hO1 => ?_)
  refine q_lconst (v := 0) dX12_name_46 (by decide) ?_
  exact q_ret dX12_name_47 rfl
def fX12_name_145 (x1 : Int) (M : q_Mem) : Option (Int × q_Mem) := q_let (q_up M 94 4 (M.2 94 2)) fun M1 => some (x1, M1)
theorem tX12_name_145 {d : Nat} (hd : 2 ≤ d) (x1 : Int) (M : q_Mem) (hO : q_Ok M) : q_EX (d + 1) yX12_name cX12_name 3 (some .long) 145 [(0, .inr (.inr 94)), (1, .inr (.inl x1))] [] M (fX12_name_145 x1 M) := by
  unfold fX12_name_145
  refine q_aload_n 0 dX12_name_145 rfl rfl ?_
  refine q_aload_n 0 dX12_name_146 rfl rfl ?_
  refine q_geti fl_X12_243 sh_94 (q_inO hO sh_94) rfl dX12_name_147 ?_
  refine q_puti fl_X12_257 sh_94 (q_inO hO sh_94) (fun h => q_Ok_put h sh_94 rfl) rfl dX12_name_150 (fun M1 hM1 => ?_)
  have hO1 : q_Ok M1 := by rw [hM1]; exact q_Ok_put hO sh_94 rfl
  refine q_lload_n 1 dX12_name_153 rfl rfl ?_
  exact q_ret dX12_name_154 rfl
def fX12_name_58  : Nat → Int → q_Mem → Option (Int × q_Mem)
  | 0, _, _ => none
  | n + 1, x1, M => if q_w (M.2 94 2) < q_w (M.2 94 3) then ((q_ld M 95 1600 (M.2 94 2)).bind fun x21 => q_bd (fX12_isLetter x21 M) fun x22 M1 => if q_w x22 = 0 then ((fX12_name_145 x1 M1)) else (if q_w ((M1.2 94 2) - (M1.2 94 35)) = q_w 6 then (q_bd (fX12_fail 1 (M1.2 94 2) M1) fun _ M3 => some (0, M3)) else ((q_ld M1 95 1600 (M1.2 94 2)).bind fun x23 => q_let ((((27 * x1) + (q_w x23)) - 97) + 1) fun x24 => q_let (q_up M1 94 2 ((M1.2 94 2) + 1)) fun M2 => (fX12_name_58 n x24 M2)))) else ((fX12_name_145 x1 M))
theorem tX12_name_58 {d : Nat} (hd : 2 ≤ d) : ∀ (n : Nat) (x1 : Int) (M : q_Mem), q_Ok M → q_EX (d + 1) yX12_name cX12_name 3 (some .long) 58 [(0, .inr (.inr 94)), (1, .inr (.inl x1))] [] M (fX12_name_58 n x1 M) := by
  intro n
  induction n with
  | zero => intro x1 M hO; exact q_none
  | succ n ih =>
    intro x1 M hO
    rw [fX12_name_58]
    refine q_aload_n 0 dX12_name_58 rfl rfl ?_
    refine q_geti fl_X12_243 sh_94 (q_inO hO sh_94) rfl dX12_name_59 ?_
    refine q_aload_n 0 dX12_name_62 rfl rfl ?_
    refine q_geti fl_X12_246 sh_94 (q_inO hO sh_94) rfl dX12_name_63 ?_
    refine q_icmpge (tgt := 145) dX12_name_66 (by decide) ?_ ?_
    · refine q_sub [0, 1] rfl ?_
      exact tX12_name_145 hd x1 M hO
    · refine q_aload_n 0 dX12_name_69 rfl rfl ?_
      refine q_getx fl_X12_7 hO sh_94 rfl fx_94_0 dX12_name_70 ?_
      refine q_aload_n 0 dX12_name_73 rfl rfl ?_
      refine q_geti fl_X12_243 sh_94 (q_inO hO sh_94) rfl dX12_name_74 ?_
      refine q_iald sh_95 (q_inA hO sh_95 (by decide)) dX12_name_77 (fun x21 _ _ _ => ?_)
      refine q_callSi (As := [.inl x21]) hO mb_X12_isLetter ms_X12_isLetter ml_X12_253 dX12_name_78 (fun _ => rfl) rfl (Nat.le_of_ble_eq_true rfl) rfl (Nat.le_of_ble_eq_true rfl) (tX12_isLetter x21 M hO) (fun x22 M1 _ hO1 => ?_)
      refine q_ifeq (tgt := 145) dX12_name_81 (by decide) ?_ ?_
      · refine q_sub [0, 1] rfl ?_
        exact tX12_name_145 hd x1 M1 hO1
      · refine q_aload_n 0 dX12_name_84 rfl rfl ?_
        refine q_geti fl_X12_243 sh_94 (q_inO hO1 sh_94) rfl dX12_name_85 ?_
        refine q_aload_n 0 dX12_name_88 rfl rfl ?_
        refine q_geti fl_X12_285 sh_94 (q_inO hO1 sh_94) rfl dX12_name_89 ?_
        refine q_isub dX12_name_92 ?_
        refine q_bipush dX12_name_93 (by decide) ?_
        refine q_icmpne (tgt := 109) dX12_name_95 (by decide) ?_ ?_
        · refine q_ldc2 dX12_name_109 kl_X12_288 (n := 27) rfl ?_
          refine q_lload_n 1 dX12_name_112 rfl rfl ?_
          refine q_lmul dX12_name_113 ?_
          refine q_aload_n 0 dX12_name_114 rfl rfl ?_
          refine q_getx fl_X12_7 hO1 sh_94 rfl fx_94_0 dX12_name_115 ?_
          refine q_aload_n 0 dX12_name_118 rfl rfl ?_
          refine q_geti fl_X12_243 sh_94 (q_inO hO1 sh_94) rfl dX12_name_119 ?_
          refine q_iald sh_95 (q_inA hO1 sh_95 (by decide)) dX12_name_122 (fun x23 _ _ _ => ?_)
          refine q_i2l dX12_name_123 ?_
          refine q_ladd dX12_name_124 ?_
          refine q_ldc2 dX12_name_125 kl_X12_290 (n := 97) rfl ?_
          refine q_lsub dX12_name_128 ?_
          refine q_lconst (v := 1) dX12_name_129 (by decide) ?_
          refine q_ladd dX12_name_130 ?_
          refine q_nameL (fun x24 _ => ?_)
          refine q_lstore_n (ls' := [(1, .inr (.inl x24)), (0, .inr (.inr 94))]) dX12_name_131 rfl (by decide) rfl ?_
          refine q_aload_n 1 dX12_name_132 rfl rfl ?_
          refine q_dup dX12_name_133 rfl ?_
          refine q_geti fl_X12_243 sh_94 (q_inO hO1 sh_94) rfl dX12_name_134 ?_
          refine q_iconst dX12_name_137 ?_
          refine q_iadd dX12_name_138 ?_
          refine q_puti fl_X12_243 sh_94 (q_inO hO1 sh_94) (fun h => q_Ok_put h sh_94 rfl) rfl dX12_name_139 (fun M2 hM2 => ?_)
          have hO2 : q_Ok M2 := by rw [hM2]; exact q_Ok_put hO1 sh_94 rfl
          refine q_goto (tgt := 58) dX12_name_142 (by decide) ?_
          refine q_sub [1, 0] rfl ?_
          exact ih x24 M2 hO2
        · refine q_aload_n 0 dX12_name_98 rfl rfl ?_
          refine q_iconst dX12_name_99 ?_
          refine q_aload_n 0 dX12_name_100 rfl rfl ?_
          refine q_geti fl_X12_243 sh_94 (q_inO hO1 sh_94) rfl dX12_name_101 ?_
          refine q_callVv (As := [.inl 1, .inl (M1.2 94 2)]) hO1 mb_X12_fail mv_X12_fail ml_X12_267 sh_94 rfl dX12_name_104 (fun _ => rfl) rfl (Nat.le_of_ble_eq_true rfl) rfl (Nat.le_of_ble_eq_true rfl) (tX12_fail 1 (M1.2 94 2) M1 hO1) (fun _ M3 _ hO3 => ?_)
          refine q_lconst (v := 0) dX12_name_107 (by decide) ?_
          exact q_ret dX12_name_108 rfl
def fX12_name (M : q_Mem) : Option (Int × q_Mem) := if q_w (M.2 94 5) = 0 then (q_bd (fX12_look M) fun x21 M1 => q_bd (fX12_isLetter x21 M1) fun x22 M2 => if q_w x22 = 0 then ((fX12_name_37 M2)) else (if q_w (M2.2 94 2) = q_w (M2.2 94 4) then ((fX12_name_37 M2)) else (q_bd (fX12_isOwnHere M2) fun x23 M3 => if q_w x23 = 0 then (q_let (q_up M3 94 35 (M3.2 94 2)) fun M4 => (fX12_name_58 q_FU 0 M4)) else ((fX12_name_37 M3))))) else (some (0, M))
theorem tX12_name {d : Nat} (hd : 3 ≤ d) (M : q_Mem) (hO : q_Ok M) : q_EX d yX12_name cX12_name 3 (some .long) 0 (q_args 0 [.inr (.inr 94)]) [] M (fX12_name M) := by
  obtain ⟨d, rfl⟩ : ∃ d', d = d' + 1 := ⟨d - 1, by omega⟩
  have hd : 2 ≤ d := by omega
  show q_EX _ _ _ _ _ 0 [(0, .inr (.inr 94))] [] M _
  unfold fX12_name
  refine q_aload_n 0 dX12_name_0 rfl rfl ?_
  refine q_geti fl_X12_237 sh_94 (q_inO hO sh_94) rfl dX12_name_1 ?_
  refine q_ifeq (tgt := 9) dX12_name_4 (by decide) ?_ ?_
  · refine q_aload_n 0 dX12_name_9 rfl rfl ?_
    refine q_callVi (As := []) hO mb_X12_look mv_X12_look ml_X12_249 sh_94 rfl dX12_name_10 (fun _ => rfl) rfl (Nat.le_of_ble_eq_true rfl) rfl (Nat.le_of_ble_eq_true rfl) (tX12_look M hO) (fun x21 M1 _ hO1 => ?_)
    refine q_callSi (As := [.inl x21]) hO1 mb_X12_isLetter ms_X12_isLetter ml_X12_253 dX12_name_13 (fun _ => rfl) rfl (Nat.le_of_ble_eq_true rfl) rfl (Nat.le_of_ble_eq_true rfl) (tX12_isLetter x21 M1 hO1) (fun x22 M2 _ hO2 => ?_)
    refine q_ifeq (tgt := 37) dX12_name_16 (by decide) ?_ ?_
    · refine q_sub [0] rfl ?_
      exact tX12_name_37 hd M2 hO2
    · refine q_aload_n 0 dX12_name_19 rfl rfl ?_
      refine q_geti fl_X12_243 sh_94 (q_inO hO2 sh_94) rfl dX12_name_20 ?_
      refine q_aload_n 0 dX12_name_23 rfl rfl ?_
      refine q_geti fl_X12_257 sh_94 (q_inO hO2 sh_94) rfl dX12_name_24 ?_
      refine q_icmpeq (tgt := 37) dX12_name_27 (by decide) ?_ ?_
      · refine q_sub [0] rfl ?_
        exact tX12_name_37 hd M2 hO2
      · refine q_aload_n 0 dX12_name_30 rfl rfl ?_
        refine q_callVi (As := []) hO2 mb_X12_isOwnHere mv_X12_isOwnHere ml_X12_281 sh_94 rfl dX12_name_31 (fun _ => rfl) rfl (Nat.le_of_ble_eq_true rfl) rfl (Nat.le_of_ble_eq_true rfl) (tX12_isOwnHere (by omega) M2 hO2) (fun x23 M3 _ hO3 => ?_)
        refine q_ifeq (tgt := 48) dX12_name_34 (by decide) ?_ ?_
        · refine q_aload_n 0 dX12_name_48 rfl rfl ?_
          refine q_aload_n 0 dX12_name_49 rfl rfl ?_
          refine q_geti fl_X12_243 sh_94 (q_inO hO3 sh_94) rfl dX12_name_50 ?_
          refine q_puti fl_X12_285 sh_94 (q_inO hO3 sh_94) (fun h => q_Ok_put h sh_94 rfl) rfl dX12_name_53 (fun M4 hM4 => ?_)
          have hO4 : q_Ok M4 := by rw [hM4]; exact q_Ok_put hO3 sh_94 rfl
          refine q_lconst (v := 0) dX12_name_56 (by decide) ?_
          refine q_lstore_n (ls' := [(1, .inr (.inl 0)), (0, .inr (.inr 94))]) dX12_name_57 rfl (by decide) rfl ?_
          refine q_sub [1, 0] rfl ?_
          exact tX12_name_58 hd q_FU 0 M4 hO4
        · refine q_sub [0] rfl ?_
          exact tX12_name_37 hd M3 hO3
  · refine q_lconst (v := 0) dX12_name_7 (by decide) ?_
    exact q_ret dX12_name_8 rfl
def fX12_isAllowed_57 (M : q_Mem) : Option (Int × q_Mem) := some (1, M)
theorem tX12_isAllowed_57 {d : Nat} (M : q_Mem) (hO : q_Ok M) : q_EX d yX12_isAllowed cX12_isAllowed 2 (some .boolean) 57 [] [] M (fX12_isAllowed_57 M) := by
  unfold fX12_isAllowed_57
  refine q_iconst dX12_isAllowed_57 ?_
  refine q_goto (tgt := 62) dX12_isAllowed_58 (by decide) ?_
  exact q_ret ⟨dX12_isAllowed_62, by decide⟩ rfl
def fX12_isAllowed (x1 : Int) (M : q_Mem) : Option (Int × q_Mem) := if q_w (M.2 94 48) = 0 then (if q_w x1 < q_w 4 then (some (1, M)) else (some (0, M))) else (if q_w (M.2 94 48) = q_w 1 then (if q_w x1 < q_w 6 then (some (1, M)) else (some (0, M))) else (if q_w x1 < q_w 2 then ((fX12_isAllowed_57 M)) else (if q_w x1 = q_w 3 then ((fX12_isAllowed_57 M)) else (if q_w 5 < q_w x1 then ((fX12_isAllowed_57 M)) else (some (0, M))))))
theorem tX12_isAllowed {d : Nat} (x1 : Int) (M : q_Mem) (hO : q_Ok M) : q_EX d yX12_isAllowed cX12_isAllowed 2 (some .boolean) 0 (q_args 0 [.inr (.inr 94), .inl x1]) [] M (fX12_isAllowed x1 M) := by
  show q_EX _ _ _ _ _ 0 [(0, .inr (.inr 94)), (1, .inl x1)] [] M _
  unfold fX12_isAllowed
  refine q_aload_n 0 dX12_isAllowed_0 rfl rfl ?_
  refine q_geti fl_X12_292 sh_94 (q_inO hO sh_94) rfl dX12_isAllowed_1 ?_
  refine q_ifne (tgt := 20) dX12_isAllowed_4 (by decide) ?_ ?_
  · refine q_aload_n 0 dX12_isAllowed_20 rfl rfl ?_
    refine q_geti fl_X12_292 sh_94 (q_inO hO sh_94) rfl dX12_isAllowed_21 ?_
    refine q_iconst dX12_isAllowed_24 ?_
    refine q_icmpne (tgt := 42) dX12_isAllowed_25 (by decide) ?_ ?_
    · refine q_iload_n 1 dX12_isAllowed_42 rfl rfl ?_
      refine q_iconst dX12_isAllowed_43 ?_
      refine q_icmplt (tgt := 57) dX12_isAllowed_44 (by decide) ?_ ?_
      · refine q_sub [] rfl ?_
        exact tX12_isAllowed_57 M hO
      · refine q_iload_n 1 dX12_isAllowed_47 rfl rfl ?_
        refine q_iconst dX12_isAllowed_48 ?_
        refine q_icmpeq (tgt := 57) dX12_isAllowed_49 (by decide) ?_ ?_
        · refine q_sub [] rfl ?_
          exact tX12_isAllowed_57 M hO
        · refine q_iload_n 1 dX12_isAllowed_52 rfl rfl ?_
          refine q_iconst dX12_isAllowed_53 ?_
          refine q_icmple (tgt := 61) dX12_isAllowed_54 (by decide) ?_ ?_
          · refine q_iconst dX12_isAllowed_61 ?_
            exact q_ret ⟨dX12_isAllowed_62, by decide⟩ rfl
          · refine q_sub [] rfl ?_
            exact tX12_isAllowed_57 M hO
    · refine q_iload_n 1 dX12_isAllowed_28 rfl rfl ?_
      refine q_bipush dX12_isAllowed_29 (by decide) ?_
      refine q_icmpge (tgt := 38) dX12_isAllowed_31 (by decide) ?_ ?_
      · refine q_iconst dX12_isAllowed_38 ?_
        refine q_goto (tgt := 62) dX12_isAllowed_39 (by decide) ?_
        exact q_ret ⟨dX12_isAllowed_62, by decide⟩ rfl
      · refine q_iconst dX12_isAllowed_34 ?_
        refine q_goto (tgt := 62) dX12_isAllowed_35 (by decide) ?_
        exact q_ret ⟨dX12_isAllowed_62, by decide⟩ rfl
  · refine q_iload_n 1 dX12_isAllowed_7 rfl rfl ?_
    refine q_iconst dX12_isAllowed_8 ?_
    refine q_icmpge (tgt := 16) dX12_isAllowed_9 (by decide) ?_ ?_
    · refine q_iconst dX12_isAllowed_16 ?_
      refine q_goto (tgt := 62) dX12_isAllowed_17 (by decide) ?_
      exact q_ret ⟨dX12_isAllowed_62, by decide⟩ rfl
    · refine q_iconst dX12_isAllowed_12 ?_
      refine q_goto (tgt := 62) dX12_isAllowed_13 (by decide) ?_
      exact q_ret ⟨dX12_isAllowed_62, by decide⟩ rfl
def fX12_isFull_23 (M : q_Mem) : Option (Int × q_Mem) := if q_w (M.2 94 5) = 0 then (some (0, M)) else (some (1, M))
theorem tX12_isFull_23 {d : Nat} (hd : 0 ≤ d) (M : q_Mem) (hO : q_Ok M) : q_EX (d + 1) yX12_isFull cX12_isFull 4 (some .boolean) 23 [(0, .inr (.inr 94))] [] M (fX12_isFull_23 M) := by
  unfold fX12_isFull_23
  refine q_aload_n 0 dX12_isFull_23 rfl rfl ?_
  refine q_geti fl_X12_237 sh_94 (q_inO hO sh_94) rfl dX12_isFull_24 ?_
  refine q_ifeq (tgt := 34) dX12_isFull_27 (by decide) ?_ ?_
  · refine q_iconst dX12_isFull_34 ?_
    exact q_ret ⟨dX12_isFull_35, by decide⟩ rfl
  · refine q_iconst dX12_isFull_30 ?_
    refine q_goto (tgt := 35) dX12_isFull_31 (by decide) ?_
    exact q_ret ⟨dX12_isFull_35, by decide⟩ rfl
def fX12_isFull (x1 : Int) (x2 : Int) (x3 : Int) (M : q_Mem) : Option (Int × q_Mem) := if q_w (M.2 94 5) = 0 then ((q_ld M 123 6 x1).bind fun x21 => if q_w x21 = q_w x2 then (q_bd (fX12_fail 5 x3 M) fun _ M1 => (fX12_isFull_23 M1)) else ((fX12_isFull_23 M))) else ((fX12_isFull_23 M))
theorem tX12_isFull {d : Nat} (hd : 1 ≤ d) (x1 : Int) (x2 : Int) (x3 : Int) (M : q_Mem) (hO : q_Ok M) : q_EX d yX12_isFull cX12_isFull 4 (some .boolean) 0 (q_args 0 [.inr (.inr 94), .inl x1, .inl x2, .inl x3]) [] M (fX12_isFull x1 x2 x3 M) := by
  obtain ⟨d, rfl⟩ : ∃ d', d = d' + 1 := ⟨d - 1, by omega⟩
  have hd : 0 ≤ d := by omega
  show q_EX _ _ _ _ _ 0 [(0, .inr (.inr 94)), (1, .inl x1), (2, .inl x2), (3, .inl x3)] [] M _
  unfold fX12_isFull
  refine q_aload_n 0 dX12_isFull_0 rfl rfl ?_
  refine q_geti fl_X12_237 sh_94 (q_inO hO sh_94) rfl dX12_isFull_1 ?_
  refine q_ifne (tgt := 23) dX12_isFull_4 (by decide) ?_ ?_
  · refine q_sub [0] rfl ?_
    exact tX12_isFull_23 hd M hO
  · refine q_aload_n 0 dX12_isFull_7 rfl rfl ?_
    refine q_getx fl_X12_99 hO sh_94 rfl fx_94_37 dX12_isFull_8 ?_
    refine q_iload_n 1 dX12_isFull_11 rfl rfl ?_
    refine q_iald sh_123 (q_inA hO sh_123 (by decide)) dX12_isFull_12 (fun x21 _ _ _ => ?_)
    refine q_iload_n 2 dX12_isFull_13 rfl rfl ?_
    refine q_icmpne (tgt := 23) dX12_isFull_14 (by decide) ?_ ?_
    · refine q_sub [0] rfl ?_
      exact tX12_isFull_23 hd M hO
    · refine q_aload_n 0 dX12_isFull_17 rfl rfl ?_
      refine q_iconst dX12_isFull_18 ?_
      refine q_iload_n 3 dX12_isFull_19 rfl rfl ?_
      refine q_callVv (As := [.inl 5, .inl x3]) hO mb_X12_fail mv_X12_fail ml_X12_267 sh_94 rfl dX12_isFull_20 (fun _ => rfl) rfl (Nat.le_of_ble_eq_true rfl) rfl (Nat.le_of_ble_eq_true rfl) (tX12_fail 5 x3 M hO) (fun _ M1 _ hO1 => ?_)
      refine q_sub [0] rfl ?_
      exact tX12_isFull_23 hd M1 hO1
def fX12_newName_59 (K7 : Int → Int → q_Mem → Option (Int × q_Mem)) (K15 : Int → Int → Int → q_Mem → Option (Int × q_Mem)) (x1 : Int) (x3 : Int) (x4 : Int) (M : q_Mem) : Option (Int × q_Mem) := (K15 x1 x3 (x4 + 1) M)
theorem tX12_newName_59 {d : Nat} (hd : 3 ≤ d) (K7 : Int → Int → q_Mem → Option (Int × q_Mem)) (hK7 : ∀ (x1 : Int) (x3 : Int) (M : q_Mem), q_Ok M → q_EX (d + 1) yX12_newName cX12_newName 5 (some .long) 7 [(0, .inr (.inr 94)), (1, .inr (.inl x1)), (3, .inl x3)] [] M (K7 x1 x3 M)) (K15 : Int → Int → Int → q_Mem → Option (Int × q_Mem)) (hK15 : ∀ (x1 : Int) (x3 : Int) (x4 : Int) (M : q_Mem), q_Ok M → q_EX (d + 1) yX12_newName cX12_newName 5 (some .long) 15 [(0, .inr (.inr 94)), (1, .inr (.inl x1)), (3, .inl x3), (4, .inl x4)] [] M (K15 x1 x3 x4 M)) (x1 : Int) (x3 : Int) (x4 : Int) (M : q_Mem) (hO : q_Ok M) : q_EX (d + 1) yX12_newName cX12_newName 5 (some .long) 59 [(0, .inr (.inr 94)), (1, .inr (.inl x1)), (3, .inl x3), (4, .inl x4)] [] M (fX12_newName_59 K7 K15 x1 x3 x4 M) := by
  unfold fX12_newName_59
  refine q_iinc (ls' := [(4, .inl (x4 + 1)), (0, .inr (.inr 94)), (1, .inr (.inl x1)), (3, .inl x3)]) 3 dX12_newName_59 rfl (by decide) rfl ?_
  refine q_goto (tgt := 15) dX12_newName_62 (by decide) ?_
  refine q_sub [1, 2, 3, 0] rfl ?_
  exact hK15 x1 x3 (x4 + 1) M hO
def fX12_newName_15 (K7 : Int → Int → q_Mem → Option (Int × q_Mem)) : Nat → Int → Int → Int → q_Mem → Option (Int × q_Mem)
  | 0, _, _, _, _ => none
  | n + 1, x1, x3, x4, M => (q_ld M 123 6 x3).bind fun x21 => if q_w x4 < q_w x21 then (if q_w (M.2 94 5) = 0 then ((q_ld M 124 32 ((8 * x3) + x4)).bind fun x22 => if q_w (q_lcmp x22 x1) = 0 then (q_bd (fX12_fail 3 (M.2 94 35) M) fun _ M1 => (fX12_newName_59 K7 (fX12_newName_15 K7 n) x1 x3 x4 M1)) else ((fX12_newName_59 K7 (fX12_newName_15 K7 n) x1 x3 x4 M))) else ((fX12_newName_59 K7 (fX12_newName_15 K7 n) x1 x3 x4 M))) else ((K7 x1 (x3 + 1) M))
theorem tX12_newName_15 {d : Nat} (hd : 3 ≤ d) (K7 : Int → Int → q_Mem → Option (Int × q_Mem)) (hK7 : ∀ (x1 : Int) (x3 : Int) (M : q_Mem), q_Ok M → q_EX (d + 1) yX12_newName cX12_newName 5 (some .long) 7 [(0, .inr (.inr 94)), (1, .inr (.inl x1)), (3, .inl x3)] [] M (K7 x1 x3 M)) : ∀ (n : Nat) (x1 : Int) (x3 : Int) (x4 : Int) (M : q_Mem), q_Ok M → q_EX (d + 1) yX12_newName cX12_newName 5 (some .long) 15 [(0, .inr (.inr 94)), (1, .inr (.inl x1)), (3, .inl x3), (4, .inl x4)] [] M (fX12_newName_15 K7 n x1 x3 x4 M) := by
  intro n
  induction n with
  | zero => intro x1 x3 x4 M hO; exact q_none
  | succ n ih =>
    intro x1 x3 x4 M hO
    rw [fX12_newName_15]
    refine q_iload 3 dX12_newName_15 rfl ?_
    refine q_aload_n 0 dX12_newName_17 rfl rfl ?_
    refine q_getx fl_X12_99 hO sh_94 rfl fx_94_37 dX12_newName_18 ?_
    refine q_iload_n 2 dX12_newName_21 rfl rfl ?_
    refine q_iald sh_123 (q_inA hO sh_123 (by decide)) dX12_newName_22 (fun x21 _ _ _ => ?_)
    refine q_icmpge (tgt := 65) dX12_newName_23 (by decide) ?_ ?_
    · refine q_iinc (ls' := [(3, .inl (x3 + 1)), (0, .inr (.inr 94)), (1, .inr (.inl x1)), (4, .inl x4)]) 2 dX12_newName_65 rfl (by decide) rfl ?_
      refine q_goto (tgt := 7) dX12_newName_68 (by decide) ?_
      refine q_sub [1, 2, 0] rfl ?_
      exact hK7 x1 (x3 + 1) M hO
    · refine q_aload_n 0 dX12_newName_26 rfl rfl ?_
      refine q_geti fl_X12_237 sh_94 (q_inO hO sh_94) rfl dX12_newName_27 ?_
      refine q_ifne (tgt := 59) dX12_newName_30 (by decide) ?_ ?_
      · refine q_sub [0, 1, 2, 3] rfl ?_
        exact tX12_newName_59 hd K7 hK7 (fX12_newName_15 K7 n) ih x1 x3 x4 M hO
      · refine q_aload_n 0 dX12_newName_33 rfl rfl ?_
        refine q_getx fl_X12_102 hO sh_94 rfl fx_94_38 dX12_newName_34 ?_
        refine q_bipush dX12_newName_37 (by decide) ?_
        refine q_iload_n 2 dX12_newName_39 rfl rfl ?_
        refine q_imul dX12_newName_40 ?_
        refine q_iload 3 dX12_newName_41 rfl ?_
        refine q_iadd dX12_newName_43 ?_
        refine q_lald sh_124 (q_inA hO sh_124 (by decide)) dX12_newName_44 (fun x22 _ _ _ => ?_)
        refine q_lload_n 1 dX12_newName_45 rfl rfl ?_
        refine q_lcmpR dX12_newName_46 ?_
        refine q_ifne (tgt := 59) dX12_newName_47 (by decide) ?_ ?_
        · refine q_sub [0, 1, 2, 3] rfl ?_
          exact tX12_newName_59 hd K7 hK7 (fX12_newName_15 K7 n) ih x1 x3 x4 M hO
        · refine q_aload_n 0 dX12_newName_50 rfl rfl ?_
          refine q_iconst dX12_newName_51 ?_
          refine q_aload_n 0 dX12_newName_52 rfl rfl ?_
          refine q_geti fl_X12_285 sh_94 (q_inO hO sh_94) rfl dX12_newName_53 ?_
          refine q_callVv (As := [.inl 3, .inl (M.2 94 35)]) hO mb_X12_fail mv_X12_fail ml_X12_267 sh_94 rfl dX12_newName_56 (fun _ => rfl) rfl (Nat.le_of_ble_eq_true rfl) rfl (Nat.le_of_ble_eq_true rfl) (tX12_fail 3 (M.2 94 35) M hO) (fun _ M1 _ hO1 => ?_)
          refine q_sub [0, 1, 2, 3] rfl ?_
          exact tX12_newName_59 hd K7 hK7 (fX12_newName_15 K7 n) ih x1 x3 x4 M1 hO1
def fX12_newName_7  : Nat → Int → Int → q_Mem → Option (Int × q_Mem)
  | 0, _, _, _ => none
  | n + 1, x1, x3, M => if q_w x3 < q_w 2 then ((fX12_newName_15 (fX12_newName_7 n) q_FU x1 x3 0 M)) else (some (x1, M))
theorem tX12_newName_7 {d : Nat} (hd : 3 ≤ d) : ∀ (n : Nat) (x1 : Int) (x3 : Int) (M : q_Mem), q_Ok M → q_EX (d + 1) yX12_newName cX12_newName 5 (some .long) 7 [(0, .inr (.inr 94)), (1, .inr (.inl x1)), (3, .inl x3)] [] M (fX12_newName_7 n x1 x3 M) := by
  intro n
  induction n with
  | zero => intro x1 x3 M hO; exact q_none
  | succ n ih =>
    intro x1 x3 M hO
    rw [fX12_newName_7]
    refine q_iload_n 2 dX12_newName_7 rfl rfl ?_
    refine q_iconst dX12_newName_8 ?_
    refine q_icmpge (tgt := 71) dX12_newName_9 (by decide) ?_ ?_
    · refine q_lload_n 1 dX12_newName_71 rfl rfl ?_
      exact q_ret dX12_newName_72 rfl
    · refine q_iconst dX12_newName_12 ?_
      refine q_istore (ls' := [(4, .inl 0), (0, .inr (.inr 94)), (1, .inr (.inl x1)), (3, .inl x3)]) dX12_newName_13 (by decide) rfl ?_
      refine q_sub [1, 2, 3, 0] rfl ?_
      exact tX12_newName_15 hd (fX12_newName_7 n) ih q_FU x1 x3 0 M hO
def fX12_newName (M : q_Mem) : Option (Int × q_Mem) := q_bd (fX12_name M) fun x21 M1 => (fX12_newName_7 q_FU x21 0 M1)
theorem tX12_newName {d : Nat} (hd : 4 ≤ d) (M : q_Mem) (hO : q_Ok M) : q_EX d yX12_newName cX12_newName 5 (some .long) 0 (q_args 0 [.inr (.inr 94)]) [] M (fX12_newName M) := by
  obtain ⟨d, rfl⟩ : ∃ d', d = d' + 1 := ⟨d - 1, by omega⟩
  have hd : 3 ≤ d := by omega
  show q_EX _ _ _ _ _ 0 [(0, .inr (.inr 94))] [] M _
  unfold fX12_newName
  refine q_aload_n 0 dX12_newName_0 rfl rfl ?_
  refine q_callVl (As := []) hO mb_X12_name mv_X12_name ml_X12_295 sh_94 rfl dX12_newName_1 (fun _ => rfl) rfl (Nat.le_of_ble_eq_true rfl) rfl (Nat.le_of_ble_eq_true rfl) (tX12_name (by omega) M hO) (fun x21 M1 _ hO1 => ?_)
  refine q_lstore_n (ls' := [(1, .inr (.inl x21)), (0, .inr (.inr 94))]) dX12_newName_4 rfl (by decide) rfl ?_
  refine q_iconst dX12_newName_5 ?_
  refine q_istore_n (ls' := [(3, .inl 0), (1, .inr (.inl x21)), (0, .inr (.inr 94))]) dX12_newName_6 rfl (by decide) rfl ?_
  refine q_sub [2, 1, 0] rfl ?_
  exact tX12_newName_7 hd q_FU x21 0 M1 hO1
def fX12_fairTold (M : q_Mem) : Option (Int × q_Mem) := q_bd (fX12_asks 97 4 M) fun _ M1 => q_bd (fX12_number 10 400 M1) fun x21 M2 => (q_sto M2 122 6 0 x21).bind fun M3 => q_bd (fX12_asksSign 59 M3) fun _ M4 => some (0, M4)
theorem tX12_fairTold {d : Nat} (hd : 4 ≤ d) (M : q_Mem) (hO : q_Ok M) : q_EX d yX12_fairTold cX12_fairTold 1 none 0 (q_args 0 [.inr (.inr 94)]) [] M (fX12_fairTold M) := by
  obtain ⟨d, rfl⟩ : ∃ d', d = d' + 1 := ⟨d - 1, by omega⟩
  have hd : 3 ≤ d := by omega
  show q_EX _ _ _ _ _ 0 [(0, .inr (.inr 94))] [] M _
  unfold fX12_fairTold
  refine q_aload_n 0 dX12_fairTold_0 rfl rfl ?_
  refine q_aload_n 0 dX12_fairTold_1 rfl rfl ?_
  refine q_getx fl_X12_20 hO sh_94 rfl fx_94_10 dX12_fairTold_2 ?_
  refine q_callVv (As := [.inr (.inr 97)]) hO mb_X12_asks mv_X12_asks ml_X12_299 sh_94 rfl dX12_fairTold_5 (fun _ => rfl) rfl (Nat.le_of_ble_eq_true rfl) rfl (Nat.le_of_ble_eq_true rfl) (tX12_asks (by omega) 97 4 M hO sh_97) (fun _ M1 _ hO1 => ?_)
  refine q_aload_n 0 dX12_fairTold_8 rfl rfl ?_
  refine q_getx fl_X12_96 hO1 sh_94 rfl fx_94_36 dX12_fairTold_9 ?_
  refine q_iconst dX12_fairTold_12 ?_
  refine q_aload_n 0 dX12_fairTold_13 rfl rfl ?_
  refine q_bipush dX12_fairTold_14 (by decide) ?_
  refine q_sipush dX12_fairTold_16 (by decide) ?_
  refine q_callVi (As := [.inl 10, .inl 400]) hO1 mb_X12_number mv_X12_number ml_X12_303 sh_94 rfl dX12_fairTold_19 (fun _ => rfl) rfl (Nat.le_of_ble_eq_true rfl) rfl (Nat.le_of_ble_eq_true rfl) (tX12_number (by omega) 10 400 M1 hO1) (fun x21 M2 _ hO2 => ?_)
  refine q_iast sh_122 (q_inA hO2 sh_122 (by decide)) dX12_fairTold_22 (fun M3 _ _ hM3 => ?_)
  have hO3 : q_Ok M3 := by rw [hM3]; exact q_Ok_arr (t := 0) hO2 sh_122 (by decide)
  refine q_aload_n 0 dX12_fairTold_23 rfl rfl ?_
  refine q_bipush dX12_fairTold_24 (by decide) ?_
  refine q_callVv (As := [.inl 59]) hO3 mb_X12_asksSign mv_X12_asksSign ml_X12_307 sh_94 rfl dX12_fairTold_26 (fun _ => rfl) rfl (Nat.le_of_ble_eq_true rfl) rfl (Nat.le_of_ble_eq_true rfl) (tX12_asksSign (by omega) 59 M3 hO3) (fun _ M4 _ hO4 => ?_)
  exact q_ret dX12_fairTold_29 rfl
def fX12_stallTold (x1 : Int) (M : q_Mem) : Option (Int × q_Mem) := q_bd (fX12_isFull 0 6 x1 M) fun x21 M1 => if q_w x21 = 0 then (q_bd (fX12_newName M1) fun x22 M2 => q_bd (fX12_asks 99 2 M2) fun _ M3 => q_bd (fX12_number 0 99 M3) fun x23 M4 => q_bd (fX12_asks 100 4 M4) fun _ M5 => q_bd (fX12_number 0 9 M5) fun x24 M6 => q_bd (fX12_asks 101 5 M6) fun _ M7 => q_bd (fX12_number 0 999 M7) fun x25 M8 => q_bd (fX12_asks 102 4 M8) fun _ M9 => q_bd (fX12_number 0 400 M9) fun x26 M10 => if q_w (M10.2 94 5) = 0 then ((q_ld M10 123 6 0).bind fun x27 => q_let (4 * x27) fun x28 => (q_ld M10 123 6 0).bind fun x29 => (q_sto M10 124 32 x29 x22).bind fun M11 => (q_sto M11 125 48 x28 x23).bind fun M12 => (q_sto M12 125 48 (x28 + 1) x24).bind fun M13 => (q_sto M13 125 48 (x28 + 2) x25).bind fun M14 => (q_sto M14 125 48 (x28 + 3) x26).bind fun M15 => (q_ld M15 123 6 0).bind fun x30 => (q_sto M15 123 6 0 (x30 + 1)).bind fun M16 => some (0, M16)) else (some (0, M10))) else (some (0, M1))
theorem tX12_stallTold {d : Nat} (hd : 5 ≤ d) (x1 : Int) (M : q_Mem) (hO : q_Ok M) : q_EX d yX12_stallTold cX12_stallTold 9 none 0 (q_args 0 [.inr (.inr 94), .inl x1]) [] M (fX12_stallTold x1 M) := by
  obtain ⟨d, rfl⟩ : ∃ d', d = d' + 1 := ⟨d - 1, by omega⟩
  have hd : 4 ≤ d := by omega
  show q_EX _ _ _ _ _ 0 [(0, .inr (.inr 94)), (1, .inl x1)] [] M _
  unfold fX12_stallTold
  refine q_aload_n 0 dX12_stallTold_0 rfl rfl ?_
  refine q_iconst dX12_stallTold_1 ?_
  refine q_bipush dX12_stallTold_2 (by decide) ?_
  refine q_iload_n 1 dX12_stallTold_4 rfl rfl ?_
  refine q_callVi (As := [.inl 0, .inl 6, .inl x1]) hO mb_X12_isFull mv_X12_isFull ml_X12_311 sh_94 rfl dX12_stallTold_5 (fun _ => rfl) rfl (Nat.le_of_ble_eq_true rfl) rfl (Nat.le_of_ble_eq_true rfl) (tX12_isFull (by omega) 0 6 x1 M hO) (fun x21 M1 _ hO1 => ?_)
  refine q_ifeq (tgt := 12) dX12_stallTold_8 (by decide) ?_ ?_
  · refine q_aload_n 0 dX12_stallTold_12 rfl rfl ?_
    refine q_callVl (As := []) hO1 mb_X12_newName mv_X12_newName ml_X12_315 sh_94 rfl dX12_stallTold_13 (fun _ => rfl) rfl (Nat.le_of_ble_eq_true rfl) rfl (Nat.le_of_ble_eq_true rfl) (tX12_newName (by omega) M1 hO1) (fun x22 M2 _ hO2 => ?_)
    refine q_lstore_n (ls' := [(2, .inr (.inl x22)), (0, .inr (.inr 94)), (1, .inl x1)]) dX12_stallTold_16 rfl (by decide) rfl ?_
    refine q_aload_n 1 dX12_stallTold_17 rfl rfl ?_
    refine q_aload_n 1 dX12_stallTold_18 rfl rfl ?_
    refine q_getx fl_X12_27 hO2 sh_94 rfl fx_94_12 dX12_stallTold_19 ?_
    refine q_callVv (As := [.inr (.inr 99)]) hO2 mb_X12_asks mv_X12_asks ml_X12_299 sh_94 rfl dX12_stallTold_22 (fun _ => rfl) rfl (Nat.le_of_ble_eq_true rfl) rfl (Nat.le_of_ble_eq_true rfl) (tX12_asks (by omega) 99 2 M2 hO2 sh_99) (fun _ M3 _ hO3 => ?_)
    refine q_aload_n 1 dX12_stallTold_25 rfl rfl ?_
    refine q_iconst dX12_stallTold_26 ?_
    refine q_bipush dX12_stallTold_27 (by decide) ?_
    refine q_callVi (As := [.inl 0, .inl 99]) hO3 mb_X12_number mv_X12_number ml_X12_303 sh_94 rfl dX12_stallTold_29 (fun _ => rfl) rfl (Nat.le_of_ble_eq_true rfl) rfl (Nat.le_of_ble_eq_true rfl) (tX12_number (by omega) 0 99 M3 hO3) (fun x23 M4 _ hO4 => ?_)
    refine q_istore (ls' := [(4, .inl x23), (2, .inr (.inl x22)), (0, .inr (.inr 94)), (1, .inl x1)]) dX12_stallTold_32 (by decide) rfl ?_
    refine q_aload_n 2 dX12_stallTold_34 rfl rfl ?_
    refine q_aload_n 2 dX12_stallTold_35 rfl rfl ?_
    refine q_getx fl_X12_30 hO4 sh_94 rfl fx_94_13 dX12_stallTold_36 ?_
    refine q_callVv (As := [.inr (.inr 100)]) hO4 mb_X12_asks mv_X12_asks ml_X12_299 sh_94 rfl dX12_stallTold_39 (fun _ => rfl) rfl (Nat.le_of_ble_eq_true rfl) rfl (Nat.le_of_ble_eq_true rfl) (tX12_asks (by omega) 100 4 M4 hO4 sh_100) (fun _ M5 _ hO5 => ?_)
    refine q_aload_n 2 dX12_stallTold_42 rfl rfl ?_
    refine q_iconst dX12_stallTold_43 ?_
    refine q_bipush dX12_stallTold_44 (by decide) ?_
    refine q_callVi (As := [.inl 0, .inl 9]) hO5 mb_X12_number mv_X12_number ml_X12_303 sh_94 rfl dX12_stallTold_46 (fun _ => rfl) rfl (Nat.le_of_ble_eq_true rfl) rfl (Nat.le_of_ble_eq_true rfl) (tX12_number (by omega) 0 9 M5 hO5) (fun x24 M6 _ hO6 => ?_)
    refine q_istore (ls' := [(5, .inl x24), (4, .inl x23), (2, .inr (.inl x22)), (0, .inr (.inr 94)), (1, .inl x1)]) dX12_stallTold_49 (by decide) rfl ?_
    refine q_aload_n 3 dX12_stallTold_51 rfl rfl ?_
    refine q_aload_n 3 dX12_stallTold_52 rfl rfl ?_
    refine q_getx fl_X12_33 hO6 sh_94 rfl fx_94_14 dX12_stallTold_53 ?_
    refine q_callVv (As := [.inr (.inr 101)]) hO6 mb_X12_asks mv_X12_asks ml_X12_299 sh_94 rfl dX12_stallTold_56 (fun _ => rfl) rfl (Nat.le_of_ble_eq_true rfl) rfl (Nat.le_of_ble_eq_true rfl) (tX12_asks (by omega) 101 5 M6 hO6 sh_101) (fun _ M7 _ hO7 => ?_)
    refine q_aload_n 3 dX12_stallTold_59 rfl rfl ?_
    refine q_iconst dX12_stallTold_60 ?_
    refine q_sipush dX12_stallTold_61 (by decide) ?_
    refine q_callVi (As := [.inl 0, .inl 999]) hO7 mb_X12_number mv_X12_number ml_X12_303 sh_94 rfl dX12_stallTold_64 (fun _ => rfl) rfl (Nat.le_of_ble_eq_true rfl) rfl (Nat.le_of_ble_eq_true rfl) (tX12_number (by omega) 0 999 M7 hO7) (fun x25 M8 _ hO8 => ?_)
    refine q_istore (ls' := [(6, .inl x25), (5, .inl x24), (4, .inl x23), (2, .inr (.inl x22)), (0, .inr (.inr 94)), (1, .inl x1)]) dX12_stallTold_67 (by decide) rfl ?_
    refine q_aload_n 4 dX12_stallTold_69 rfl rfl ?_
    refine q_aload_n 4 dX12_stallTold_70 rfl rfl ?_
    refine q_getx fl_X12_36 hO8 sh_94 rfl fx_94_15 dX12_stallTold_71 ?_
    refine q_callVv (As := [.inr (.inr 102)]) hO8 mb_X12_asks mv_X12_asks ml_X12_299 sh_94 rfl dX12_stallTold_74 (fun _ => rfl) rfl (Nat.le_of_ble_eq_true rfl) rfl (Nat.le_of_ble_eq_true rfl) (tX12_asks (by omega) 102 4 M8 hO8 sh_102) (fun _ M9 _ hO9 => ?_)
    refine q_aload_n 4 dX12_stallTold_77 rfl rfl ?_
    refine q_iconst dX12_stallTold_78 ?_
    refine q_sipush dX12_stallTold_79 (by decide) ?_
    refine q_callVi (As := [.inl 0, .inl 400]) hO9 mb_X12_number mv_X12_number ml_X12_303 sh_94 rfl dX12_stallTold_82 (fun _ => rfl) rfl (Nat.le_of_ble_eq_true rfl) rfl (Nat.le_of_ble_eq_true rfl) (tX12_number (by omega) 0 400 M9 hO9) (fun x26 M10 _ hO10 => ?_)
    refine q_istore (ls' := [(7, .inl x26), (6, .inl x25), (5, .inl x24), (4, .inl x23), (2, .inr (.inl x22)), (0, .inr (.inr 94)), (1, .inl x1)]) dX12_stallTold_85 (by decide) rfl ?_
    refine q_aload_n 5 dX12_stallTold_87 rfl rfl ?_
    refine q_geti fl_X12_237 sh_94 (q_inO hO10 sh_94) rfl dX12_stallTold_88 ?_
    refine q_ifeq (tgt := 95) dX12_stallTold_91 (by decide) ?_ ?_
    · refine q_iconst dX12_stallTold_95 ?_
      refine q_aload_n 5 dX12_stallTold_96 rfl rfl ?_
      refine q_getx fl_X12_99 hO10 sh_94 rfl fx_94_37 dX12_stallTold_97 ?_
      refine q_iconst dX12_stallTold_100 ?_
      refine q_iald sh_123 (q_inA hO10 sh_123 (by decide)) dX12_stallTold_101 (fun x27 _ _ _ => ?_)
      refine q_imul dX12_stallTold_102 ?_
      refine q_nameI (fun x28 _ => ?_)
      refine q_istore (ls' := [(8, .inl x28), (7, .inl x26), (6, .inl x25), (5, .inl x24), (4, .inl x23), (2, .inr (.inl x22)), (0, .inr (.inr 94)), (1, .inl x1)]) dX12_stallTold_103 (by decide) rfl ?_
      refine q_aload_n 6 dX12_stallTold_105 rfl rfl ?_
      refine q_getx fl_X12_102 hO10 sh_94 rfl fx_94_38 dX12_stallTold_106 ?_
      refine q_aload_n 6 dX12_stallTold_109 rfl rfl ?_
      refine q_getx fl_X12_99 hO10 sh_94 rfl fx_94_37 dX12_stallTold_110 ?_
      refine q_iconst dX12_stallTold_113 ?_
      refine q_iald sh_123 (q_inA hO10 sh_123 (by decide)) dX12_stallTold_114 (fun x29 _ _ _ => ?_)
      refine q_lload_n 5 dX12_stallTold_115 rfl rfl ?_
      refine q_last sh_124 (q_inA hO10 sh_124 (by decide)) dX12_stallTold_116 (fun M11 _ _ hM11 => ?_)
      have hO11 : q_Ok M11 := by rw [hM11]; exact q_Ok_arr (t := 3) hO10 sh_124 (by decide)
      refine q_aload_n 6 dX12_stallTold_117 rfl rfl ?_
      refine q_getx fl_X12_106 hO11 sh_94 rfl fx_94_39 dX12_stallTold_118 ?_
      refine q_iload 0 dX12_stallTold_121 rfl ?_
      refine q_iload 4 dX12_stallTold_123 rfl ?_
      refine q_iast sh_125 (q_inA hO11 sh_125 (by decide)) dX12_stallTold_125 (fun M12 _ _ hM12 => ?_)
      have hO12 : q_Ok M12 := by rw [hM12]; exact q_Ok_arr (t := 0) hO11 sh_125 (by decide)
      refine q_aload_n 6 dX12_stallTold_126 rfl rfl ?_
      refine q_getx fl_X12_106 hO12 sh_94 rfl fx_94_39 dX12_stallTold_127 ?_
      refine q_iload 0 dX12_stallTold_130 rfl ?_
      refine q_iconst dX12_stallTold_132 ?_
      refine q_iadd dX12_stallTold_133 ?_
      refine q_iload 3 dX12_stallTold_134 rfl ?_
      refine q_iast sh_125 (q_inA hO12 sh_125 (by decide)) dX12_stallTold_136 (fun M13 _ _ hM13 => ?_)
      have hO13 : q_Ok M13 := by rw [hM13]; exact q_Ok_arr (t := 0) hO12 sh_125 (by decide)
      refine q_aload_n 6 dX12_stallTold_137 rfl rfl ?_
      refine q_getx fl_X12_106 hO13 sh_94 rfl fx_94_39 dX12_stallTold_138 ?_
      refine q_iload 0 dX12_stallTold_141 rfl ?_
      refine q_iconst dX12_stallTold_143 ?_
      refine q_iadd dX12_stallTold_144 ?_
      refine q_iload 2 dX12_stallTold_145 rfl ?_
      refine q_iast sh_125 (q_inA hO13 sh_125 (by decide)) dX12_stallTold_147 (fun M14 _ _ hM14 => ?_)
      have hO14 : q_Ok M14 := by rw [hM14]; exact q_Ok_arr (t := 0) hO13 sh_125 (by decide)
      refine q_aload_n 6 dX12_stallTold_148 rfl rfl ?_
      refine q_getx fl_X12_106 hO14 sh_94 rfl fx_94_39 dX12_stallTold_149 ?_
      refine q_iload 0 dX12_stallTold_152 rfl ?_
      refine q_iconst dX12_stallTold_154 ?_
      refine q_iadd dX12_stallTold_155 ?_
      refine q_iload 1 dX12_stallTold_156 rfl ?_
      refine q_iast sh_125 (q_inA hO14 sh_125 (by decide)) dX12_stallTold_158 (fun M15 _ _ hM15 => ?_)
      have hO15 : q_Ok M15 := by rw [hM15]; exact q_Ok_arr (t := 0) hO14 sh_125 (by decide)
      refine q_aload_n 6 dX12_stallTold_159 rfl rfl ?_
      refine q_getx fl_X12_99 hO15 sh_94 rfl fx_94_37 dX12_stallTold_160 ?_
      refine q_iconst dX12_stallTold_163 ?_
      refine q_dup2 dX12_stallTold_164 rfl rfl ?_
      refine q_iald sh_123 (q_inA hO15 sh_123 (by decide)) dX12_stallTold_165 (fun x30 _ _ _ => ?_)
      refine q_iconst dX12_stallTold_166 ?_
      refine q_iadd dX12_stallTold_167 ?_
      refine q_iast sh_123 (q_inA hO15 sh_123 (by decide)) dX12_stallTold_168 (fun M16 _ _ hM16 => ?_)
      have hO16 : q_Ok M16 := by rw [hM16]; exact q_Ok_arr (t := 0) hO15 sh_123 (by decide)
      exact q_ret dX12_stallTold_169 rfl
    · exact q_ret dX12_stallTold_94 rfl
  · exact q_ret dX12_stallTold_11 rfl
def fX12_coinTold (x1 : Int) (M : q_Mem) : Option (Int × q_Mem) := q_bd (fX12_isFull 1 8 x1 M) fun x21 M1 => if q_w x21 = 0 then (q_bd (fX12_newName M1) fun x22 M2 => q_bd (fX12_asks 104 5 M2) fun _ M3 => q_bd (fX12_number 0 99 M3) fun x23 M4 => q_bd (fX12_asks 105 4 M4) fun _ M5 => q_bd (fX12_number 0 9 M5) fun x24 M6 => if q_w (M6.2 94 5) = 0 then ((q_ld M6 123 6 1).bind fun x25 => (q_sto M6 124 32 (8 + x25) x22).bind fun M7 => (q_ld M7 123 6 1).bind fun x26 => (q_sto M7 126 32 (2 * x26) x23).bind fun M8 => (q_ld M8 123 6 1).bind fun x27 => (q_sto M8 126 32 ((2 * x27) + 1) x24).bind fun M9 => (q_ld M9 123 6 1).bind fun x28 => (q_sto M9 123 6 1 (x28 + 1)).bind fun M10 => some (0, M10)) else (some (0, M6))) else (some (0, M1))
theorem tX12_coinTold {d : Nat} (hd : 5 ≤ d) (x1 : Int) (M : q_Mem) (hO : q_Ok M) : q_EX d yX12_coinTold cX12_coinTold 6 none 0 (q_args 0 [.inr (.inr 94), .inl x1]) [] M (fX12_coinTold x1 M) := by
  obtain ⟨d, rfl⟩ : ∃ d', d = d' + 1 := ⟨d - 1, by omega⟩
  have hd : 4 ≤ d := by omega
  show q_EX _ _ _ _ _ 0 [(0, .inr (.inr 94)), (1, .inl x1)] [] M _
  unfold fX12_coinTold
  refine q_aload_n 0 dX12_coinTold_0 rfl rfl ?_
  refine q_iconst dX12_coinTold_1 ?_
  refine q_bipush dX12_coinTold_2 (by decide) ?_
  refine q_iload_n 1 dX12_coinTold_4 rfl rfl ?_
  refine q_callVi (As := [.inl 1, .inl 8, .inl x1]) hO mb_X12_isFull mv_X12_isFull ml_X12_311 sh_94 rfl dX12_coinTold_5 (fun _ => rfl) rfl (Nat.le_of_ble_eq_true rfl) rfl (Nat.le_of_ble_eq_true rfl) (tX12_isFull (by omega) 1 8 x1 M hO) (fun x21 M1 _ hO1 => ?_)
  refine q_ifeq (tgt := 12) dX12_coinTold_8 (by decide) ?_ ?_
  · refine q_aload_n 0 dX12_coinTold_12 rfl rfl ?_
    refine q_callVl (As := []) hO1 mb_X12_newName mv_X12_newName ml_X12_315 sh_94 rfl dX12_coinTold_13 (fun _ => rfl) rfl (Nat.le_of_ble_eq_true rfl) rfl (Nat.le_of_ble_eq_true rfl) (tX12_newName (by omega) M1 hO1) (fun x22 M2 _ hO2 => ?_)
    refine q_lstore_n (ls' := [(2, .inr (.inl x22)), (0, .inr (.inr 94)), (1, .inl x1)]) dX12_coinTold_16 rfl (by decide) rfl ?_
    refine q_aload_n 1 dX12_coinTold_17 rfl rfl ?_
    refine q_aload_n 1 dX12_coinTold_18 rfl rfl ?_
    refine q_getx fl_X12_42 hO2 sh_94 rfl fx_94_17 dX12_coinTold_19 ?_
    refine q_callVv (As := [.inr (.inr 104)]) hO2 mb_X12_asks mv_X12_asks ml_X12_299 sh_94 rfl dX12_coinTold_22 (fun _ => rfl) rfl (Nat.le_of_ble_eq_true rfl) rfl (Nat.le_of_ble_eq_true rfl) (tX12_asks (by omega) 104 5 M2 hO2 sh_104) (fun _ M3 _ hO3 => ?_)
    refine q_aload_n 1 dX12_coinTold_25 rfl rfl ?_
    refine q_iconst dX12_coinTold_26 ?_
    refine q_bipush dX12_coinTold_27 (by decide) ?_
    refine q_callVi (As := [.inl 0, .inl 99]) hO3 mb_X12_number mv_X12_number ml_X12_303 sh_94 rfl dX12_coinTold_29 (fun _ => rfl) rfl (Nat.le_of_ble_eq_true rfl) rfl (Nat.le_of_ble_eq_true rfl) (tX12_number (by omega) 0 99 M3 hO3) (fun x23 M4 _ hO4 => ?_)
    refine q_istore (ls' := [(4, .inl x23), (2, .inr (.inl x22)), (0, .inr (.inr 94)), (1, .inl x1)]) dX12_coinTold_32 (by decide) rfl ?_
    refine q_aload_n 2 dX12_coinTold_34 rfl rfl ?_
    refine q_aload_n 2 dX12_coinTold_35 rfl rfl ?_
    refine q_getx fl_X12_45 hO4 sh_94 rfl fx_94_18 dX12_coinTold_36 ?_
    refine q_callVv (As := [.inr (.inr 105)]) hO4 mb_X12_asks mv_X12_asks ml_X12_299 sh_94 rfl dX12_coinTold_39 (fun _ => rfl) rfl (Nat.le_of_ble_eq_true rfl) rfl (Nat.le_of_ble_eq_true rfl) (tX12_asks (by omega) 105 4 M4 hO4 sh_105) (fun _ M5 _ hO5 => ?_)
    refine q_aload_n 2 dX12_coinTold_42 rfl rfl ?_
    refine q_iconst dX12_coinTold_43 ?_
    refine q_bipush dX12_coinTold_44 (by decide) ?_
    refine q_callVi (As := [.inl 0, .inl 9]) hO5 mb_X12_number mv_X12_number ml_X12_303 sh_94 rfl dX12_coinTold_46 (fun _ => rfl) rfl (Nat.le_of_ble_eq_true rfl) rfl (Nat.le_of_ble_eq_true rfl) (tX12_number (by omega) 0 9 M5 hO5) (fun x24 M6 _ hO6 => ?_)
    refine q_istore (ls' := [(5, .inl x24), (4, .inl x23), (2, .inr (.inl x22)), (0, .inr (.inr 94)), (1, .inl x1)]) dX12_coinTold_49 (by decide) rfl ?_
    refine q_aload_n 3 dX12_coinTold_51 rfl rfl ?_
    refine q_geti fl_X12_237 sh_94 (q_inO hO6 sh_94) rfl dX12_coinTold_52 ?_
    refine q_ifeq (tgt := 59) dX12_coinTold_55 (by decide) ?_ ?_
    · refine q_aload_n 3 dX12_coinTold_59 rfl rfl ?_
      refine q_getx fl_X12_102 hO6 sh_94 rfl fx_94_38 dX12_coinTold_60 ?_
      refine q_bipush dX12_coinTold_63 (by decide) ?_
      refine q_aload_n 3 dX12_coinTold_65 rfl rfl ?_
      refine q_getx fl_X12_99 hO6 sh_94 rfl fx_94_37 dX12_coinTold_66 ?_
      refine q_iconst dX12_coinTold_69 ?_
      refine q_iald sh_123 (q_inA hO6 sh_123 (by decide)) dX12_coinTold_70 (fun x25 _ _ _ => ?_)
      refine q_iadd dX12_coinTold_71 ?_
      refine q_lload_n 2 dX12_coinTold_72 rfl rfl ?_
      refine q_last sh_124 (q_inA hO6 sh_124 (by decide)) dX12_coinTold_73 (fun M7 _ _ hM7 => ?_)
      have hO7 : q_Ok M7 := by rw [hM7]; exact q_Ok_arr (t := 3) hO6 sh_124 (by decide)
      refine q_aload_n 3 dX12_coinTold_74 rfl rfl ?_
      refine q_getx fl_X12_109 hO7 sh_94 rfl fx_94_40 dX12_coinTold_75 ?_
      refine q_iconst dX12_coinTold_78 ?_
      refine q_aload_n 3 dX12_coinTold_79 rfl rfl ?_
      refine q_getx fl_X12_99 hO7 sh_94 rfl fx_94_37 dX12_coinTold_80 ?_
      refine q_iconst dX12_coinTold_83 ?_
      refine q_iald sh_123 (q_inA hO7 sh_123 (by decide)) dX12_coinTold_84 (fun x26 _ _ _ => ?_)
      refine q_imul dX12_coinTold_85 ?_
      refine q_iload 1 dX12_coinTold_86 rfl ?_
      refine q_iast sh_126 (q_inA hO7 sh_126 (by decide)) dX12_coinTold_88 (fun M8 _ _ hM8 => ?_)
      have hO8 : q_Ok M8 := by rw [hM8]; exact q_Ok_arr (t := 0) hO7 sh_126 (by decide)
      refine q_aload_n 3 dX12_coinTold_89 rfl rfl ?_
      refine q_getx fl_X12_109 hO8 sh_94 rfl fx_94_40 dX12_coinTold_90 ?_
      refine q_iconst dX12_coinTold_93 ?_
      refine q_aload_n 3 dX12_coinTold_94 rfl rfl ?_
      refine q_getx fl_X12_99 hO8 sh_94 rfl fx_94_37 dX12_coinTold_95 ?_
      refine q_iconst dX12_coinTold_98 ?_
      refine q_iald sh_123 (q_inA hO8 sh_123 (by decide)) dX12_coinTold_99 (fun x27 _ _ _ => ?_)
      refine q_imul dX12_coinTold_100 ?_
      refine q_iconst dX12_coinTold_101 ?_
      refine q_iadd dX12_coinTold_102 ?_
      refine q_iload 0 dX12_coinTold_103 rfl ?_
      refine q_iast sh_126 (q_inA hO8 sh_126 (by decide)) dX12_coinTold_105 (fun M9 _ _ hM9 => ?_)
      have hO9 : q_Ok M9 := by rw [hM9]; exact q_Ok_arr (t := 0) hO8 sh_126 (by decide)
      refine q_aload_n 3 dX12_coinTold_106 rfl rfl ?_
      refine q_getx fl_X12_99 hO9 sh_94 rfl fx_94_37 dX12_coinTold_107 ?_
      refine q_iconst dX12_coinTold_110 ?_
      refine q_dup2 dX12_coinTold_111 rfl rfl ?_
      refine q_iald sh_123 (q_inA hO9 sh_123 (by decide)) dX12_coinTold_112 (fun x28 _ _ _ => ?_)
      refine q_iconst dX12_coinTold_113 ?_
      refine q_iadd dX12_coinTold_114 ?_
      refine q_iast sh_123 (q_inA hO9 sh_123 (by decide)) dX12_coinTold_115 (fun M10 _ _ hM10 => ?_)
      have hO10 : q_Ok M10 := by rw [hM10]; exact q_Ok_arr (t := 0) hO9 sh_123 (by decide)
      exact q_ret dX12_coinTold_116 rfl
    · exact q_ret dX12_coinTold_58 rfl
  · exact q_ret dX12_coinTold_11 rfl
def fX12_cloudTold (x1 : Int) (M : q_Mem) : Option (Int × q_Mem) := q_bd (fX12_isFull 2 8 x1 M) fun x21 M1 => if q_w x21 = 0 then (q_bd (fX12_number 0 400 M1) fun x22 M2 => q_bd (fX12_asks 107 2 M2) fun _ M3 => q_bd (fX12_number x22 400 M3) fun x23 M4 => if q_w (M4.2 94 5) = 0 then ((q_ld M4 123 6 2).bind fun x24 => (q_sto M4 127 32 (2 * x24) x22).bind fun M5 => (q_ld M5 123 6 2).bind fun x25 => (q_sto M5 127 32 ((2 * x25) + 1) x23).bind fun M6 => (q_ld M6 123 6 2).bind fun x26 => (q_sto M6 123 6 2 (x26 + 1)).bind fun M7 => some (0, M7)) else (some (0, M4))) else (some (0, M1))
theorem tX12_cloudTold {d : Nat} (hd : 4 ≤ d) (x1 : Int) (M : q_Mem) (hO : q_Ok M) : q_EX d yX12_cloudTold cX12_cloudTold 4 none 0 (q_args 0 [.inr (.inr 94), .inl x1]) [] M (fX12_cloudTold x1 M) := by
  obtain ⟨d, rfl⟩ : ∃ d', d = d' + 1 := ⟨d - 1, by omega⟩
  have hd : 3 ≤ d := by omega
  show q_EX _ _ _ _ _ 0 [(0, .inr (.inr 94)), (1, .inl x1)] [] M _
  unfold fX12_cloudTold
  refine q_aload_n 0 dX12_cloudTold_0 rfl rfl ?_
  refine q_iconst dX12_cloudTold_1 ?_
  refine q_bipush dX12_cloudTold_2 (by decide) ?_
  refine q_iload_n 1 dX12_cloudTold_4 rfl rfl ?_
  refine q_callVi (As := [.inl 2, .inl 8, .inl x1]) hO mb_X12_isFull mv_X12_isFull ml_X12_311 sh_94 rfl dX12_cloudTold_5 (fun _ => rfl) rfl (Nat.le_of_ble_eq_true rfl) rfl (Nat.le_of_ble_eq_true rfl) (tX12_isFull (by omega) 2 8 x1 M hO) (fun x21 M1 _ hO1 => ?_)
  refine q_ifeq (tgt := 12) dX12_cloudTold_8 (by decide) ?_ ?_
  · refine q_aload_n 0 dX12_cloudTold_12 rfl rfl ?_
    refine q_iconst dX12_cloudTold_13 ?_
    refine q_sipush dX12_cloudTold_14 (by decide) ?_
    refine q_callVi (As := [.inl 0, .inl 400]) hO1 mb_X12_number mv_X12_number ml_X12_303 sh_94 rfl dX12_cloudTold_17 (fun _ => rfl) rfl (Nat.le_of_ble_eq_true rfl) rfl (Nat.le_of_ble_eq_true rfl) (tX12_number (by omega) 0 400 M1 hO1) (fun x22 M2 _ hO2 => ?_)
    refine q_istore_n (ls' := [(2, .inl x22), (0, .inr (.inr 94)), (1, .inl x1)]) dX12_cloudTold_20 rfl (by decide) rfl ?_
    refine q_aload_n 1 dX12_cloudTold_21 rfl rfl ?_
    refine q_aload_n 1 dX12_cloudTold_22 rfl rfl ?_
    refine q_getx fl_X12_51 hO2 sh_94 rfl fx_94_20 dX12_cloudTold_23 ?_
    refine q_callVv (As := [.inr (.inr 107)]) hO2 mb_X12_asks mv_X12_asks ml_X12_299 sh_94 rfl dX12_cloudTold_26 (fun _ => rfl) rfl (Nat.le_of_ble_eq_true rfl) rfl (Nat.le_of_ble_eq_true rfl) (tX12_asks (by omega) 107 2 M2 hO2 sh_107) (fun _ M3 _ hO3 => ?_)
    refine q_aload_n 1 dX12_cloudTold_29 rfl rfl ?_
    refine q_iload_n 0 dX12_cloudTold_30 rfl rfl ?_
    refine q_sipush dX12_cloudTold_31 (by decide) ?_
    refine q_callVi (As := [.inl x22, .inl 400]) hO3 mb_X12_number mv_X12_number ml_X12_303 sh_94 rfl dX12_cloudTold_34 (fun _ => rfl) rfl (Nat.le_of_ble_eq_true rfl) rfl (Nat.le_of_ble_eq_true rfl) (tX12_number (by omega) x22 400 M3 hO3) (fun x23 M4 _ hO4 => ?_)
    refine q_istore_n (ls' := [(3, .inl x23), (2, .inl x22), (0, .inr (.inr 94)), (1, .inl x1)]) dX12_cloudTold_37 rfl (by decide) rfl ?_
    refine q_aload_n 2 dX12_cloudTold_38 rfl rfl ?_
    refine q_geti fl_X12_237 sh_94 (q_inO hO4 sh_94) rfl dX12_cloudTold_39 ?_
    refine q_ifeq (tgt := 46) dX12_cloudTold_42 (by decide) ?_ ?_
    · refine q_aload_n 2 dX12_cloudTold_46 rfl rfl ?_
      refine q_getx fl_X12_112 hO4 sh_94 rfl fx_94_41 dX12_cloudTold_47 ?_
      refine q_iconst dX12_cloudTold_50 ?_
      refine q_aload_n 2 dX12_cloudTold_51 rfl rfl ?_
      refine q_getx fl_X12_99 hO4 sh_94 rfl fx_94_37 dX12_cloudTold_52 ?_
      refine q_iconst dX12_cloudTold_55 ?_
      refine q_iald sh_123 (q_inA hO4 sh_123 (by decide)) dX12_cloudTold_56 (fun x24 _ _ _ => ?_)
      refine q_imul dX12_cloudTold_57 ?_
      refine q_iload_n 1 dX12_cloudTold_58 rfl rfl ?_
      refine q_iast sh_127 (q_inA hO4 sh_127 (by decide)) dX12_cloudTold_59 (fun M5 _ _ hM5 => ?_)
      have hO5 : q_Ok M5 := by rw [hM5]; exact q_Ok_arr (t := 0) hO4 sh_127 (by decide)
      refine q_aload_n 2 dX12_cloudTold_60 rfl rfl ?_
      refine q_getx fl_X12_112 hO5 sh_94 rfl fx_94_41 dX12_cloudTold_61 ?_
      refine q_iconst dX12_cloudTold_64 ?_
      refine q_aload_n 2 dX12_cloudTold_65 rfl rfl ?_
      refine q_getx fl_X12_99 hO5 sh_94 rfl fx_94_37 dX12_cloudTold_66 ?_
      refine q_iconst dX12_cloudTold_69 ?_
      refine q_iald sh_123 (q_inA hO5 sh_123 (by decide)) dX12_cloudTold_70 (fun x25 _ _ _ => ?_)
      refine q_imul dX12_cloudTold_71 ?_
      refine q_iconst dX12_cloudTold_72 ?_
      refine q_iadd dX12_cloudTold_73 ?_
      refine q_iload_n 0 dX12_cloudTold_74 rfl rfl ?_
      refine q_iast sh_127 (q_inA hO5 sh_127 (by decide)) dX12_cloudTold_75 (fun M6 _ _ hM6 => ?_)
      have hO6 : q_Ok M6 := by rw [hM6]; exact q_Ok_arr (t := 0) hO5 sh_127 (by decide)
      refine q_aload_n 2 dX12_cloudTold_76 rfl rfl ?_
      refine q_getx fl_X12_99 hO6 sh_94 rfl fx_94_37 dX12_cloudTold_77 ?_
      refine q_iconst dX12_cloudTold_80 ?_
      refine q_dup2 dX12_cloudTold_81 rfl rfl ?_
      refine q_iald sh_123 (q_inA hO6 sh_123 (by decide)) dX12_cloudTold_82 (fun x26 _ _ _ => ?_)
      refine q_iconst dX12_cloudTold_83 ?_
      refine q_iadd dX12_cloudTold_84 ?_
      refine q_iast sh_123 (q_inA hO6 sh_123 (by decide)) dX12_cloudTold_85 (fun M7 _ _ hM7 => ?_)
      have hO7 : q_Ok M7 := by rw [hM7]; exact q_Ok_arr (t := 0) hO6 sh_123 (by decide)
      exact q_ret dX12_cloudTold_86 rfl
    · exact q_ret dX12_cloudTold_45 rfl
  · exact q_ret dX12_cloudTold_11 rfl
def fX12_qOpens (x1 : Int) (x2 : Int) (M : q_Mem) : Option (Int × q_Mem) := if q_w (M.2 94 5) = 0 then (if q_w (M.2 94 94) = q_w 6 then (q_bd (fX12_fail 4 x2 M) fun _ M4 => some (0, M4)) else (q_let (q_up M 94 94 ((M.2 94 94) + 1)) fun M1 => (q_sto M1 163 1700 (M1.2 94 93) x1).bind fun M2 => q_let (q_up M2 94 93 ((M2.2 94 93) + 1)) fun M3 => some (0, M3))) else (some (0, M))
theorem tX12_qOpens {d : Nat} (hd : 1 ≤ d) (x1 : Int) (x2 : Int) (M : q_Mem) (hO : q_Ok M) : q_EX d yX12_qOpens cX12_qOpens 3 none 0 (q_args 0 [.inr (.inr 94), .inl x1, .inl x2]) [] M (fX12_qOpens x1 x2 M) := by
  obtain ⟨d, rfl⟩ : ∃ d', d = d' + 1 := ⟨d - 1, by omega⟩
  have hd : 0 ≤ d := by omega
  show q_EX _ _ _ _ _ 0 [(0, .inr (.inr 94)), (1, .inl x1), (2, .inl x2)] [] M _
  unfold fX12_qOpens
  refine q_aload_n 0 dX12_qOpens_0 rfl rfl ?_
  refine q_geti fl_X12_237 sh_94 (q_inO hO sh_94) rfl dX12_qOpens_1 ?_
  refine q_ifeq (tgt := 8) dX12_qOpens_4 (by decide) ?_ ?_
  · refine q_aload_n 0 dX12_qOpens_8 rfl rfl ?_
    refine q_geti fl_X12_324 sh_94 (q_inO hO sh_94) rfl dX12_qOpens_9 ?_
    refine q_bipush dX12_qOpens_12 (by decide) ?_
    refine q_icmpne (tgt := 24) dX12_qOpens_14 (by decide) ?_ ?_
    · refine q_aload_n 0 dX12_qOpens_24 rfl rfl ?_
      refine q_dup dX12_qOpens_25 rfl ?_
      refine q_geti fl_X12_324 sh_94 (q_inO hO sh_94) rfl dX12_qOpens_26 ?_
      refine q_iconst dX12_qOpens_29 ?_
      refine q_iadd dX12_qOpens_30 ?_
      refine q_puti fl_X12_324 sh_94 (q_inO hO sh_94) (fun h => q_Ok_put h sh_94 rfl) rfl dX12_qOpens_31 (fun M1 hM1 => ?_)
      have hO1 : q_Ok M1 := by rw [hM1]; exact q_Ok_put hO sh_94 rfl
      refine q_aload_n 0 dX12_qOpens_34 rfl rfl ?_
      refine q_getx fl_X12_225 hO1 sh_94 rfl fx_94_92 dX12_qOpens_35 ?_
      refine q_aload_n 0 dX12_qOpens_38 rfl rfl ?_
      refine q_geti fl_X12_321 sh_94 (q_inO hO1 sh_94) rfl dX12_qOpens_39 ?_
      refine q_iload_n 1 dX12_qOpens_42 rfl rfl ?_
      refine q_iast sh_163 (q_inA hO1 sh_163 (by decide)) dX12_qOpens_43 (fun M2 _ _ hM2 => ?_)
      have hO2 : q_Ok M2 := by rw [hM2]; exact q_Ok_arr (t := 0) hO1 sh_163 (by decide)
      refine q_aload_n 0 dX12_qOpens_44 rfl rfl ?_
      refine q_dup dX12_qOpens_45 rfl ?_
      refine q_geti fl_X12_321 sh_94 (q_inO hO2 sh_94) rfl dX12_qOpens_46 ?_
      refine q_iconst dX12_qOpens_49 ?_
      refine q_iadd dX12_qOpens_50 ?_
      refine q_puti fl_X12_321 sh_94 (q_inO hO2 sh_94) (fun h => q_Ok_put h sh_94 rfl) rfl dX12_qOpens_51 (fun M3 hM3 => ?_)
      have hO3 : q_Ok M3 := by rw [hM3]; exact q_Ok_put hO2 sh_94 rfl
      exact q_ret dX12_qOpens_54 rfl
    · refine q_aload_n 0 dX12_qOpens_17 rfl rfl ?_
      refine q_iconst dX12_qOpens_18 ?_
      refine q_iload_n 2 dX12_qOpens_19 rfl rfl ?_
      refine q_callVv (As := [.inl 4, .inl x2]) hO mb_X12_fail mv_X12_fail ml_X12_267 sh_94 rfl dX12_qOpens_20 (fun _ => rfl) rfl (Nat.le_of_ble_eq_true rfl) rfl (Nat.le_of_ble_eq_true rfl) (tX12_fail 4 x2 M hO) (fun _ M4 _ hO4 => ?_)
      exact q_ret dX12_qOpens_23 rfl
  · exact q_ret dX12_qOpens_7 rfl
def fX12_qCode (x1 : Int) (M : q_Mem) : Option (Int × q_Mem) := (q_sto M 162 1700 (M.2 94 91) x1).bind fun M1 => q_let (q_up M1 94 91 ((M1.2 94 91) + 1)) fun M2 => some (0, M2)
theorem tX12_qCode {d : Nat} (x1 : Int) (M : q_Mem) (hO : q_Ok M) : q_EX d yX12_qCode cX12_qCode 2 none 0 (q_args 0 [.inr (.inr 94), .inl x1]) [] M (fX12_qCode x1 M) := by
  show q_EX _ _ _ _ _ 0 [(0, .inr (.inr 94)), (1, .inl x1)] [] M _
  unfold fX12_qCode
  refine q_aload_n 0 dX12_qCode_0 rfl rfl ?_
  refine q_getx fl_X12_222 hO sh_94 rfl fx_94_90 dX12_qCode_1 ?_
  refine q_aload_n 0 dX12_qCode_4 rfl rfl ?_
  refine q_geti fl_X12_318 sh_94 (q_inO hO sh_94) rfl dX12_qCode_5 ?_
  refine q_iload_n 1 dX12_qCode_8 rfl rfl ?_
  refine q_iast sh_162 (q_inA hO sh_162 (by decide)) dX12_qCode_9 (fun M1 _ _ hM1 => ?_)
  have hO1 : q_Ok M1 := by rw [hM1]; exact q_Ok_arr (t := 0) hO sh_162 (by decide)
  refine q_aload_n 0 dX12_qCode_10 rfl rfl ?_
  refine q_dup dX12_qCode_11 rfl ?_
  refine q_geti fl_X12_318 sh_94 (q_inO hO1 sh_94) rfl dX12_qCode_12 ?_
  refine q_iconst dX12_qCode_15 ?_
  refine q_iadd dX12_qCode_16 ?_
  refine q_puti fl_X12_318 sh_94 (q_inO hO1 sh_94) (fun h => q_Ok_put h sh_94 rfl) rfl dX12_qCode_17 (fun M2 hM2 => ?_)
  have hO2 : q_Ok M2 := by rw [hM2]; exact q_Ok_put hO1 sh_94 rfl
  exact q_ret dX12_qCode_20 rfl
def fX12_qWordHere (M : q_Mem) : Option (Int × q_Mem) := q_bd (fX12_isHere 152 5 M) fun x21 M1 => if q_w x21 = 0 then (q_bd (fX12_isHere 153 4 M1) fun x22 M2 => if q_w x22 = 0 then (q_bd (fX12_isHere 154 4 M2) fun x23 M3 => if q_w x23 = 0 then (q_bd (fX12_isHere 155 6 M3) fun x24 M4 => if q_w x24 = 0 then (q_bd (fX12_isHere 156 4 M4) fun x25 M5 => if q_w x25 = 0 then (q_bd (fX12_isHere 157 5 M5) fun x26 M6 => if q_w x26 = 0 then (q_bd (fX12_isHere 158 6 M6) fun x27 M7 => if q_w x27 = 0 then (q_bd (fX12_isHere 159 4 M7) fun x28 M8 => if q_w x28 = 0 then (q_bd (fX12_isHere 160 5 M8) fun x29 M9 => if q_w x29 = 0 then (q_bd (fX12_isHere 161 2 M9) fun x30 M10 => if q_w x30 = 0 then (some ((-1), M10)) else (some (9, M10))) else (some (8, M9))) else (some (7, M8))) else (some (6, M7))) else (some (5, M6))) else (some (4, M5))) else (some (3, M4))) else (some (2, M3))) else (some (1, M2))) else (some (0, M1))
theorem tX12_qWordHere {d : Nat} (hd : 2 ≤ d) (M : q_Mem) (hO : q_Ok M) : q_EX d yX12_qWordHere cX12_qWordHere 1 (some .int) 0 (q_args 0 [.inr (.inr 94)]) [] M (fX12_qWordHere M) := by
  obtain ⟨d, rfl⟩ : ∃ d', d = d' + 1 := ⟨d - 1, by omega⟩
  have hd : 1 ≤ d := by omega
  show q_EX _ _ _ _ _ 0 [(0, .inr (.inr 94))] [] M _
  unfold fX12_qWordHere
  refine q_aload_n 0 dX12_qWordHere_0 rfl rfl ?_
  refine q_aload_n 0 dX12_qWordHere_1 rfl rfl ?_
  refine q_getx fl_X12_192 hO sh_94 rfl fx_94_80 dX12_qWordHere_2 ?_
  refine q_callVi (As := [.inr (.inr 152)]) hO mb_X12_isHere mv_X12_isHere ml_X12_260 sh_94 rfl dX12_qWordHere_5 (fun _ => rfl) rfl (Nat.le_of_ble_eq_true rfl) rfl (Nat.le_of_ble_eq_true rfl) (tX12_isHere (by omega) 152 5 M hO sh_152) (fun x21 M1 _ hO1 => ?_)
  refine q_ifeq (tgt := 13) dX12_qWordHere_8 (by decide) ?_ ?_
  · refine q_aload_n 0 dX12_qWordHere_13 rfl rfl ?_
    refine q_aload_n 0 dX12_qWordHere_14 rfl rfl ?_
    refine q_getx fl_X12_195 hO1 sh_94 rfl fx_94_81 dX12_qWordHere_15 ?_
    refine q_callVi (As := [.inr (.inr 153)]) hO1 mb_X12_isHere mv_X12_isHere ml_X12_260 sh_94 rfl dX12_qWordHere_18 (fun _ => rfl) rfl (Nat.le_of_ble_eq_true rfl) rfl (Nat.le_of_ble_eq_true rfl) (tX12_isHere (by omega) 153 4 M1 hO1 sh_153) (fun x22 M2 _ hO2 => ?_)
    refine q_ifeq (tgt := 26) dX12_qWordHere_21 (by decide) ?_ ?_
    · refine q_aload_n 0 dX12_qWordHere_26 rfl rfl ?_
      refine q_aload_n 0 dX12_qWordHere_27 rfl rfl ?_
      refine q_getx fl_X12_198 hO2 sh_94 rfl fx_94_82 dX12_qWordHere_28 ?_
      refine q_callVi (As := [.inr (.inr 154)]) hO2 mb_X12_isHere mv_X12_isHere ml_X12_260 sh_94 rfl dX12_qWordHere_31 (fun _ => rfl) rfl (Nat.le_of_ble_eq_true rfl) rfl (Nat.le_of_ble_eq_true rfl) (tX12_isHere (by omega) 154 4 M2 hO2 sh_154) (fun x23 M3 _ hO3 => ?_)
      refine q_ifeq (tgt := 39) dX12_qWordHere_34 (by decide) ?_ ?_
      · refine q_aload_n 0 dX12_qWordHere_39 rfl rfl ?_
        refine q_aload_n 0 dX12_qWordHere_40 rfl rfl ?_
        refine q_getx fl_X12_201 hO3 sh_94 rfl fx_94_83 dX12_qWordHere_41 ?_
        refine q_callVi (As := [.inr (.inr 155)]) hO3 mb_X12_isHere mv_X12_isHere ml_X12_260 sh_94 rfl dX12_qWordHere_44 (fun _ => rfl) rfl (Nat.le_of_ble_eq_true rfl) rfl (Nat.le_of_ble_eq_true rfl) (tX12_isHere (by omega) 155 6 M3 hO3 sh_155) (fun x24 M4 _ hO4 => ?_)
        refine q_ifeq (tgt := 52) dX12_qWordHere_47 (by decide) ?_ ?_
        · refine q_aload_n 0 dX12_qWordHere_52 rfl rfl ?_
          refine q_aload_n 0 dX12_qWordHere_53 rfl rfl ?_
          refine q_getx fl_X12_204 hO4 sh_94 rfl fx_94_84 dX12_qWordHere_54 ?_
          refine q_callVi (As := [.inr (.inr 156)]) hO4 mb_X12_isHere mv_X12_isHere ml_X12_260 sh_94 rfl dX12_qWordHere_57 (fun _ => rfl) rfl (Nat.le_of_ble_eq_true rfl) rfl (Nat.le_of_ble_eq_true rfl) (tX12_isHere (by omega) 156 4 M4 hO4 sh_156) (fun x25 M5 _ hO5 => ?_)
          refine q_ifeq (tgt := 65) dX12_qWordHere_60 (by decide) ?_ ?_
          · refine q_aload_n 0 dX12_qWordHere_65 rfl rfl ?_
            refine q_aload_n 0 dX12_qWordHere_66 rfl rfl ?_
            refine q_getx fl_X12_207 hO5 sh_94 rfl fx_94_85 dX12_qWordHere_67 ?_
            refine q_callVi (As := [.inr (.inr 157)]) hO5 mb_X12_isHere mv_X12_isHere ml_X12_260 sh_94 rfl dX12_qWordHere_70 (fun _ => rfl) rfl (Nat.le_of_ble_eq_true rfl) rfl (Nat.le_of_ble_eq_true rfl) (tX12_isHere (by omega) 157 5 M5 hO5 sh_157) (fun x26 M6 _ hO6 => ?_)
            refine q_ifeq (tgt := 78) dX12_qWordHere_73 (by decide) ?_ ?_
            · refine q_aload_n 0 dX12_qWordHere_78 rfl rfl ?_
              refine q_aload_n 0 dX12_qWordHere_79 rfl rfl ?_
              refine q_getx fl_X12_210 hO6 sh_94 rfl fx_94_86 dX12_qWordHere_80 ?_
              refine q_callVi (As := [.inr (.inr 158)]) hO6 mb_X12_isHere mv_X12_isHere ml_X12_260 sh_94 rfl dX12_qWordHere_83 (fun _ => rfl) rfl (Nat.le_of_ble_eq_true rfl) rfl (Nat.le_of_ble_eq_true rfl) (tX12_isHere (by omega) 158 6 M6 hO6 sh_158) (fun x27 M7 _ hO7 => ?_)
              refine q_ifeq (tgt := 92) dX12_qWordHere_86 (by decide) ?_ ?_
              · refine q_aload_n 0 dX12_qWordHere_92 rfl rfl ?_
                refine q_aload_n 0 dX12_qWordHere_93 rfl rfl ?_
                refine q_getx fl_X12_213 hO7 sh_94 rfl fx_94_87 dX12_qWordHere_94 ?_
                refine q_callVi (As := [.inr (.inr 159)]) hO7 mb_X12_isHere mv_X12_isHere ml_X12_260 sh_94 rfl dX12_qWordHere_97 (fun _ => rfl) rfl (Nat.le_of_ble_eq_true rfl) rfl (Nat.le_of_ble_eq_true rfl) (tX12_isHere (by omega) 159 4 M7 hO7 sh_159) (fun x28 M8 _ hO8 => ?_)
                refine q_ifeq (tgt := 106) dX12_qWordHere_100 (by decide) ?_ ?_
                · refine q_aload_n 0 dX12_qWordHere_106 rfl rfl ?_
                  refine q_aload_n 0 dX12_qWordHere_107 rfl rfl ?_
                  refine q_getx fl_X12_216 hO8 sh_94 rfl fx_94_88 dX12_qWordHere_108 ?_
                  refine q_callVi (As := [.inr (.inr 160)]) hO8 mb_X12_isHere mv_X12_isHere ml_X12_260 sh_94 rfl dX12_qWordHere_111 (fun _ => rfl) rfl (Nat.le_of_ble_eq_true rfl) rfl (Nat.le_of_ble_eq_true rfl) (tX12_isHere (by omega) 160 5 M8 hO8 sh_160) (fun x29 M9 _ hO9 => ?_)
                  refine q_ifeq (tgt := 120) dX12_qWordHere_114 (by decide) ?_ ?_
                  · refine q_aload_n 0 dX12_qWordHere_120 rfl rfl ?_
                    refine q_aload_n 0 dX12_qWordHere_121 rfl rfl ?_
                    refine q_getx fl_X12_219 hO9 sh_94 rfl fx_94_89 dX12_qWordHere_122 ?_
                    refine q_callVi (As := [.inr (.inr 161)]) hO9 mb_X12_isHere mv_X12_isHere ml_X12_260 sh_94 rfl dX12_qWordHere_125 (fun _ => rfl) rfl (Nat.le_of_ble_eq_true rfl) rfl (Nat.le_of_ble_eq_true rfl) (tX12_isHere (by omega) 161 2 M9 hO9 sh_161) (fun x30 M10 _ hO10 => ?_)
                    refine q_ifeq (tgt := 134) dX12_qWordHere_128 (by decide) ?_ ?_
                    · refine q_iconst dX12_qWordHere_134 ?_
                      exact q_ret dX12_qWordHere_135 rfl
                    · refine q_bipush dX12_qWordHere_131 (by decide) ?_
                      exact q_ret dX12_qWordHere_133 rfl
                  · refine q_bipush dX12_qWordHere_117 (by decide) ?_
                    exact q_ret dX12_qWordHere_119 rfl
                · refine q_bipush dX12_qWordHere_103 (by decide) ?_
                  exact q_ret dX12_qWordHere_105 rfl
              · refine q_bipush dX12_qWordHere_89 (by decide) ?_
                exact q_ret dX12_qWordHere_91 rfl
            · refine q_iconst dX12_qWordHere_76 ?_
              exact q_ret dX12_qWordHere_77 rfl
          · refine q_iconst dX12_qWordHere_63 ?_
            exact q_ret dX12_qWordHere_64 rfl
        · refine q_iconst dX12_qWordHere_50 ?_
          exact q_ret dX12_qWordHere_51 rfl
      · refine q_iconst dX12_qWordHere_37 ?_
        exact q_ret dX12_qWordHere_38 rfl
    · refine q_iconst dX12_qWordHere_24 ?_
      exact q_ret dX12_qWordHere_25 rfl
  · refine q_iconst dX12_qWordHere_11 ?_
    exact q_ret dX12_qWordHere_12 rfl
def fX12_qWordOf (x1 : Int) (x2 : Int) (M : q_Mem) : Option (Int × q_Mem) := q_bd (fX12_qWordHere M) fun x21 M1 => if q_w x21 < q_w x1 then (some ((-1), M1)) else (if q_w x21 < q_w x2 then (q_bd (fX12_isAllowed x21 M1) fun x22 M2 => if q_w x22 = 0 then (some ((-1), M2)) else (some (x21, M2))) else (some ((-1), M1)))
theorem tX12_qWordOf {d : Nat} (hd : 3 ≤ d) (x1 : Int) (x2 : Int) (M : q_Mem) (hO : q_Ok M) : q_EX d yX12_qWordOf cX12_qWordOf 4 (some .int) 0 (q_args 0 [.inr (.inr 94), .inl x1, .inl x2]) [] M (fX12_qWordOf x1 x2 M) := by
  obtain ⟨d, rfl⟩ : ∃ d', d = d' + 1 := ⟨d - 1, by omega⟩
  have hd : 2 ≤ d := by omega
  show q_EX _ _ _ _ _ 0 [(0, .inr (.inr 94)), (1, .inl x1), (2, .inl x2)] [] M _
  unfold fX12_qWordOf
  refine q_aload_n 0 dX12_qWordOf_0 rfl rfl ?_
  refine q_callVi (As := []) hO mb_X12_qWordHere mv_X12_qWordHere ml_X12_531 sh_94 rfl dX12_qWordOf_1 (fun _ => rfl) rfl (Nat.le_of_ble_eq_true rfl) rfl (Nat.le_of_ble_eq_true rfl) (tX12_qWordHere (by omega) M hO) (fun x21 M1 _ hO1 => ?_)
  refine q_istore_n (ls' := [(3, .inl x21), (0, .inr (.inr 94)), (1, .inl x1), (2, .inl x2)]) dX12_qWordOf_4 rfl (by decide) rfl ?_
  refine q_iload_n 0 dX12_qWordOf_5 rfl rfl ?_
  refine q_iload_n 2 dX12_qWordOf_6 rfl rfl ?_
  refine q_icmplt (tgt := 27) dX12_qWordOf_7 (by decide) ?_ ?_
  · refine q_iconst dX12_qWordOf_27 ?_
    exact q_ret dX12_qWordOf_28 rfl
  · refine q_iload_n 0 dX12_qWordOf_10 rfl rfl ?_
    refine q_iload_n 3 dX12_qWordOf_11 rfl rfl ?_
    refine q_icmpge (tgt := 27) dX12_qWordOf_12 (by decide) ?_ ?_
    · refine q_iconst dX12_qWordOf_27 ?_
      exact q_ret dX12_qWordOf_28 rfl
    · refine q_aload_n 1 dX12_qWordOf_15 rfl rfl ?_
      refine q_iload_n 0 dX12_qWordOf_16 rfl rfl ?_
      refine q_callVi (As := [.inl x21]) hO1 mb_X12_isAllowed mv_X12_isAllowed ml_X12_534 sh_94 rfl dX12_qWordOf_17 (fun _ => rfl) rfl (Nat.le_of_ble_eq_true rfl) rfl (Nat.le_of_ble_eq_true rfl) (tX12_isAllowed x21 M1 hO1) (fun x22 M2 _ hO2 => ?_)
      refine q_ifeq (tgt := 27) dX12_qWordOf_20 (by decide) ?_ ?_
      · refine q_iconst dX12_qWordOf_27 ?_
        exact q_ret dX12_qWordOf_28 rfl
      · refine q_iload_n 0 dX12_qWordOf_23 rfl rfl ?_
        refine q_goto (tgt := 28) dX12_qWordOf_24 (by decide) ?_
        exact q_ret dX12_qWordOf_28 rfl
def fX12_qAsksWord (x1 : Int) (M : q_Mem) : Option (Int × q_Mem) := if q_w x1 = 0 then q_bd (fX12_asks 152 5 M) fun _ M1 => some (0, M1) else (if q_w x1 = 1 then q_bd (fX12_asks 153 4 M) fun _ M2 => some (0, M2) else (if q_w x1 = 2 then q_bd (fX12_asks 154 4 M) fun _ M3 => some (0, M3) else (if q_w x1 = 3 then q_bd (fX12_asks 155 6 M) fun _ M4 => some (0, M4) else (if q_w x1 = 4 then q_bd (fX12_asks 156 4 M) fun _ M5 => some (0, M5) else (if q_w x1 = 5 then q_bd (fX12_asks 157 5 M) fun _ M6 => some (0, M6) else (if q_w x1 = 6 then q_bd (fX12_asks 158 6 M) fun _ M7 => some (0, M7) else (if q_w x1 = 7 then q_bd (fX12_asks 159 4 M) fun _ M8 => some (0, M8) else (if q_w x1 = 8 then q_bd (fX12_asks 160 5 M) fun _ M9 => some (0, M9) else (q_bd (fX12_asks 161 2 M) fun _ M10 => some (0, M10))))))))))
theorem tX12_qAsksWord {d : Nat} (hd : 4 ≤ d) (x1 : Int) (M : q_Mem) (hO : q_Ok M) : q_EX d yX12_qAsksWord cX12_qAsksWord 2 none 0 (q_args 0 [.inr (.inr 94), .inl x1]) [] M (fX12_qAsksWord x1 M) := by
  obtain ⟨d, rfl⟩ : ∃ d', d = d' + 1 := ⟨d - 1, by omega⟩
  have hd : 3 ≤ d := by omega
  show q_EX _ _ _ _ _ 0 [(0, .inr (.inr 94)), (1, .inl x1)] [] M _
  unfold fX12_qAsksWord
  refine q_iload_n 1 dX12_qAsksWord_0 rfl rfl ?_
  refine q_case (fun h1 => ?_) (fun h1 => ?_)
  · refine q_tswI (tgt := 52) h1 dX12_qAsksWord_1 (by decide) (by decide) rfl (by decide) ?_
    refine q_aload_n 0 dX12_qAsksWord_52 rfl rfl ?_
    refine q_aload_n 0 dX12_qAsksWord_53 rfl rfl ?_
    refine q_getx fl_X12_192 hO sh_94 rfl fx_94_80 dX12_qAsksWord_54 ?_
    refine q_callVv (As := [.inr (.inr 152)]) hO mb_X12_asks mv_X12_asks ml_X12_299 sh_94 rfl dX12_qAsksWord_57 (fun _ => rfl) rfl (Nat.le_of_ble_eq_true rfl) rfl (Nat.le_of_ble_eq_true rfl) (tX12_asks (by omega) 152 5 M hO sh_152) (fun _ M1 _ hO1 => ?_)
    refine q_goto (tgt := 159) dX12_qAsksWord_60 (by decide) ?_
    exact q_ret dX12_qAsksWord_159 rfl
  · refine q_case (fun h2 => ?_) (fun h2 => ?_)
    · refine q_tswI (tgt := 63) h2 dX12_qAsksWord_1 (by decide) (by decide) rfl (by decide) ?_
      refine q_aload_n 0 dX12_qAsksWord_63 rfl rfl ?_
      refine q_aload_n 0 dX12_qAsksWord_64 rfl rfl ?_
      refine q_getx fl_X12_195 hO sh_94 rfl fx_94_81 dX12_qAsksWord_65 ?_
      refine q_callVv (As := [.inr (.inr 153)]) hO mb_X12_asks mv_X12_asks ml_X12_299 sh_94 rfl dX12_qAsksWord_68 (fun _ => rfl) rfl (Nat.le_of_ble_eq_true rfl) rfl (Nat.le_of_ble_eq_true rfl) (tX12_asks (by omega) 153 4 M hO sh_153) (fun _ M2 _ hO2 => ?_)
      refine q_goto (tgt := 159) dX12_qAsksWord_71 (by decide) ?_
      exact q_ret dX12_qAsksWord_159 rfl
    · refine q_case (fun h3 => ?_) (fun h3 => ?_)
      · refine q_tswI (tgt := 74) h3 dX12_qAsksWord_1 (by decide) (by decide) rfl (by decide) ?_
        refine q_aload_n 0 dX12_qAsksWord_74 rfl rfl ?_
        refine q_aload_n 0 dX12_qAsksWord_75 rfl rfl ?_
        refine q_getx fl_X12_198 hO sh_94 rfl fx_94_82 dX12_qAsksWord_76 ?_
        refine q_callVv (As := [.inr (.inr 154)]) hO mb_X12_asks mv_X12_asks ml_X12_299 sh_94 rfl dX12_qAsksWord_79 (fun _ => rfl) rfl (Nat.le_of_ble_eq_true rfl) rfl (Nat.le_of_ble_eq_true rfl) (tX12_asks (by omega) 154 4 M hO sh_154) (fun _ M3 _ hO3 => ?_)
        refine q_goto (tgt := 159) dX12_qAsksWord_82 (by decide) ?_
        exact q_ret dX12_qAsksWord_159 rfl
      · refine q_case (fun h4 => ?_) (fun h4 => ?_)
        · refine q_tswI (tgt := 85) h4 dX12_qAsksWord_1 (by decide) (by decide) rfl (by decide) ?_
          refine q_aload_n 0 dX12_qAsksWord_85 rfl rfl ?_
          refine q_aload_n 0 dX12_qAsksWord_86 rfl rfl ?_
          refine q_getx fl_X12_201 hO sh_94 rfl fx_94_83 dX12_qAsksWord_87 ?_
          refine q_callVv (As := [.inr (.inr 155)]) hO mb_X12_asks mv_X12_asks ml_X12_299 sh_94 rfl dX12_qAsksWord_90 (fun _ => rfl) rfl (Nat.le_of_ble_eq_true rfl) rfl (Nat.le_of_ble_eq_true rfl) (tX12_asks (by omega) 155 6 M hO sh_155) (fun _ M4 _ hO4 => ?_)
          refine q_goto (tgt := 159) dX12_qAsksWord_93 (by decide) ?_
          exact q_ret dX12_qAsksWord_159 rfl
        · refine q_case (fun h5 => ?_) (fun h5 => ?_)
          · refine q_tswI (tgt := 96) h5 dX12_qAsksWord_1 (by decide) (by decide) rfl (by decide) ?_
            refine q_aload_n 0 dX12_qAsksWord_96 rfl rfl ?_
            refine q_aload_n 0 dX12_qAsksWord_97 rfl rfl ?_
            refine q_getx fl_X12_204 hO sh_94 rfl fx_94_84 dX12_qAsksWord_98 ?_
            refine q_callVv (As := [.inr (.inr 156)]) hO mb_X12_asks mv_X12_asks ml_X12_299 sh_94 rfl dX12_qAsksWord_101 (fun _ => rfl) rfl (Nat.le_of_ble_eq_true rfl) rfl (Nat.le_of_ble_eq_true rfl) (tX12_asks (by omega) 156 4 M hO sh_156) (fun _ M5 _ hO5 => ?_)
            refine q_goto (tgt := 159) dX12_qAsksWord_104 (by decide) ?_
            exact q_ret dX12_qAsksWord_159 rfl
          · refine q_case (fun h6 => ?_) (fun h6 => ?_)
            · refine q_tswI (tgt := 107) h6 dX12_qAsksWord_1 (by decide) (by decide) rfl (by decide) ?_
              refine q_aload_n 0 dX12_qAsksWord_107 rfl rfl ?_
              refine q_aload_n 0 dX12_qAsksWord_108 rfl rfl ?_
              refine q_getx fl_X12_207 hO sh_94 rfl fx_94_85 dX12_qAsksWord_109 ?_
              refine q_callVv (As := [.inr (.inr 157)]) hO mb_X12_asks mv_X12_asks ml_X12_299 sh_94 rfl dX12_qAsksWord_112 (fun _ => rfl) rfl (Nat.le_of_ble_eq_true rfl) rfl (Nat.le_of_ble_eq_true rfl) (tX12_asks (by omega) 157 5 M hO sh_157) (fun _ M6 _ hO6 => ?_)
              refine q_goto (tgt := 159) dX12_qAsksWord_115 (by decide) ?_
              exact q_ret dX12_qAsksWord_159 rfl
            · refine q_case (fun h7 => ?_) (fun h7 => ?_)
              · refine q_tswI (tgt := 118) h7 dX12_qAsksWord_1 (by decide) (by decide) rfl (by decide) ?_
                refine q_aload_n 0 dX12_qAsksWord_118 rfl rfl ?_
                refine q_aload_n 0 dX12_qAsksWord_119 rfl rfl ?_
                refine q_getx fl_X12_210 hO sh_94 rfl fx_94_86 dX12_qAsksWord_120 ?_
                refine q_callVv (As := [.inr (.inr 158)]) hO mb_X12_asks mv_X12_asks ml_X12_299 sh_94 rfl dX12_qAsksWord_123 (fun _ => rfl) rfl (Nat.le_of_ble_eq_true rfl) rfl (Nat.le_of_ble_eq_true rfl) (tX12_asks (by omega) 158 6 M hO sh_158) (fun _ M7 _ hO7 => ?_)
                refine q_goto (tgt := 159) dX12_qAsksWord_126 (by decide) ?_
                exact q_ret dX12_qAsksWord_159 rfl
              · refine q_case (fun h8 => ?_) (fun h8 => ?_)
                · refine q_tswI (tgt := 129) h8 dX12_qAsksWord_1 (by decide) (by decide) rfl (by decide) ?_
                  refine q_aload_n 0 dX12_qAsksWord_129 rfl rfl ?_
                  refine q_aload_n 0 dX12_qAsksWord_130 rfl rfl ?_
                  refine q_getx fl_X12_213 hO sh_94 rfl fx_94_87 dX12_qAsksWord_131 ?_
                  refine q_callVv (As := [.inr (.inr 159)]) hO mb_X12_asks mv_X12_asks ml_X12_299 sh_94 rfl dX12_qAsksWord_134 (fun _ => rfl) rfl (Nat.le_of_ble_eq_true rfl) rfl (Nat.le_of_ble_eq_true rfl) (tX12_asks (by omega) 159 4 M hO sh_159) (fun _ M8 _ hO8 => ?_)
                  refine q_goto (tgt := 159) dX12_qAsksWord_137 (by decide) ?_
                  exact q_ret dX12_qAsksWord_159 rfl
                · refine q_case (fun h9 => ?_) (fun h9 => ?_)
                  · refine q_tswI (tgt := 140) h9 dX12_qAsksWord_1 (by decide) (by decide) rfl (by decide) ?_
                    refine q_aload_n 0 dX12_qAsksWord_140 rfl rfl ?_
                    refine q_aload_n 0 dX12_qAsksWord_141 rfl rfl ?_
                    refine q_getx fl_X12_216 hO sh_94 rfl fx_94_88 dX12_qAsksWord_142 ?_
                    refine q_callVv (As := [.inr (.inr 160)]) hO mb_X12_asks mv_X12_asks ml_X12_299 sh_94 rfl dX12_qAsksWord_145 (fun _ => rfl) rfl (Nat.le_of_ble_eq_true rfl) rfl (Nat.le_of_ble_eq_true rfl) (tX12_asks (by omega) 160 5 M hO sh_160) (fun _ M9 _ hO9 => ?_)
                    refine q_goto (tgt := 159) dX12_qAsksWord_148 (by decide) ?_
                    exact q_ret dX12_qAsksWord_159 rfl
                  · refine q_tswO (tgt := 151) (by omega) dX12_qAsksWord_1 (by decide) ?_
                    refine q_aload_n 0 dX12_qAsksWord_151 rfl rfl ?_
                    refine q_aload_n 0 dX12_qAsksWord_152 rfl rfl ?_
                    refine q_getx fl_X12_219 hO sh_94 rfl fx_94_89 dX12_qAsksWord_153 ?_
                    refine q_callVv (As := [.inr (.inr 161)]) hO mb_X12_asks mv_X12_asks ml_X12_299 sh_94 rfl dX12_qAsksWord_156 (fun _ => rfl) rfl (Nat.le_of_ble_eq_true rfl) rfl (Nat.le_of_ble_eq_true rfl) (tX12_asks (by omega) 161 2 M hO sh_161) (fun _ M10 _ hO10 => ?_)
                    exact q_ret dX12_qAsksWord_159 rfl
def fX12_qDrops (M : q_Mem) : Option (Int × q_Mem) := q_let (q_up M 94 93 ((M.2 94 93) - 1)) fun M1 => (q_ld M1 163 1700 (M1.2 94 93)).bind fun x21 => q_bd (fX12_qCode x21 M1) fun _ M2 => some (0, M2)
theorem tX12_qDrops {d : Nat} (hd : 1 ≤ d) (M : q_Mem) (hO : q_Ok M) : q_EX d yX12_qDrops cX12_qDrops 1 none 0 (q_args 0 [.inr (.inr 94)]) [] M (fX12_qDrops M) := by
  obtain ⟨d, rfl⟩ : ∃ d', d = d' + 1 := ⟨d - 1, by omega⟩
  have hd : 0 ≤ d := by omega
  show q_EX _ _ _ _ _ 0 [(0, .inr (.inr 94))] [] M _
  unfold fX12_qDrops
  refine q_aload_n 0 dX12_qDrops_0 rfl rfl ?_
  refine q_dup dX12_qDrops_1 rfl ?_
  refine q_geti fl_X12_321 sh_94 (q_inO hO sh_94) rfl dX12_qDrops_2 ?_
  refine q_iconst dX12_qDrops_5 ?_
  refine q_isub dX12_qDrops_6 ?_
  refine q_puti fl_X12_321 sh_94 (q_inO hO sh_94) (fun h => q_Ok_put h sh_94 rfl) rfl dX12_qDrops_7 (fun M1 hM1 => ?_)
  have hO1 : q_Ok M1 := by rw [hM1]; exact q_Ok_put hO sh_94 rfl
  refine q_aload_n 0 dX12_qDrops_10 rfl rfl ?_
  refine q_aload_n 0 dX12_qDrops_11 rfl rfl ?_
  refine q_getx fl_X12_225 hO1 sh_94 rfl fx_94_92 dX12_qDrops_12 ?_
  refine q_aload_n 0 dX12_qDrops_15 rfl rfl ?_
  refine q_geti fl_X12_321 sh_94 (q_inO hO1 sh_94) rfl dX12_qDrops_16 ?_
  refine q_iald sh_163 (q_inA hO1 sh_163 (by decide)) dX12_qDrops_19 (fun x21 _ _ _ => ?_)
  refine q_callVv (As := [.inl x21]) hO1 mb_X12_qCode mv_X12_qCode ml_X12_522 sh_94 rfl dX12_qDrops_20 (fun _ => rfl) rfl (Nat.le_of_ble_eq_true rfl) rfl (Nat.le_of_ble_eq_true rfl) (tX12_qCode x21 M1 hO1) (fun _ M2 _ hO2 => ?_)
  exact q_ret dX12_qDrops_23 rfl
def fX12_qEndsPart_0  : Nat → q_Mem → Option (Int × q_Mem)
  | 0, _ => none
  | n + 1, M => if q_w (M.2 94 5) = 0 then (if q_w (M.2 94 95) < q_w (M.2 94 93) then ((q_ld M 163 1700 ((M.2 94 93) - 1)).bind fun x21 => if q_w x21 < q_w 60 then (some (0, M)) else (q_let (q_up M 94 94 ((M.2 94 94) - 1)) fun M1 => q_bd (fX12_qDrops M1) fun _ M2 => (fX12_qEndsPart_0 n M2))) else (some (0, M))) else (some (0, M))
theorem tX12_qEndsPart_0 {d : Nat} (hd : 1 ≤ d) : ∀ (n : Nat)  (M : q_Mem), q_Ok M → q_EX (d + 1) yX12_qEndsPart cX12_qEndsPart 1 none 0 [(0, .inr (.inr 94))] [] M (fX12_qEndsPart_0 n M) := by
  intro n
  induction n with
  | zero => intro M hO; exact q_none
  | succ n ih =>
    intro M hO
    rw [fX12_qEndsPart_0]
    refine q_aload_n 0 dX12_qEndsPart_0 rfl rfl ?_
    refine q_geti fl_X12_237 sh_94 (q_inO hO sh_94) rfl dX12_qEndsPart_1 ?_
    refine q_ifne (tgt := 51) dX12_qEndsPart_4 (by decide) ?_ ?_
    · exact q_ret dX12_qEndsPart_51 rfl
    · refine q_aload_n 0 dX12_qEndsPart_7 rfl rfl ?_
      refine q_geti fl_X12_321 sh_94 (q_inO hO sh_94) rfl dX12_qEndsPart_8 ?_
      refine q_aload_n 0 dX12_qEndsPart_11 rfl rfl ?_
      refine q_geti fl_X12_327 sh_94 (q_inO hO sh_94) rfl dX12_qEndsPart_12 ?_
      refine q_icmple (tgt := 51) dX12_qEndsPart_15 (by decide) ?_ ?_
      · exact q_ret dX12_qEndsPart_51 rfl
      · refine q_aload_n 0 dX12_qEndsPart_18 rfl rfl ?_
        refine q_getx fl_X12_225 hO sh_94 rfl fx_94_92 dX12_qEndsPart_19 ?_
        refine q_aload_n 0 dX12_qEndsPart_22 rfl rfl ?_
        refine q_geti fl_X12_321 sh_94 (q_inO hO sh_94) rfl dX12_qEndsPart_23 ?_
        refine q_iconst dX12_qEndsPart_26 ?_
        refine q_isub dX12_qEndsPart_27 ?_
        refine q_iald sh_163 (q_inA hO sh_163 (by decide)) dX12_qEndsPart_28 (fun x21 _ _ _ => ?_)
        refine q_bipush dX12_qEndsPart_29 (by decide) ?_
        refine q_icmplt (tgt := 51) dX12_qEndsPart_31 (by decide) ?_ ?_
        · exact q_ret dX12_qEndsPart_51 rfl
        · refine q_aload_n 0 dX12_qEndsPart_34 rfl rfl ?_
          refine q_dup dX12_qEndsPart_35 rfl ?_
          refine q_geti fl_X12_324 sh_94 (q_inO hO sh_94) rfl dX12_qEndsPart_36 ?_
          refine q_iconst dX12_qEndsPart_39 ?_
          refine q_isub dX12_qEndsPart_40 ?_
          refine q_puti fl_X12_324 sh_94 (q_inO hO sh_94) (fun h => q_Ok_put h sh_94 rfl) rfl dX12_qEndsPart_41 (fun M1 hM1 => ?_)
          have hO1 : q_Ok M1 := by rw [hM1]; exact q_Ok_put hO sh_94 rfl
          refine q_aload_n 0 dX12_qEndsPart_44 rfl rfl ?_
          refine q_callVv (As := []) hO1 mb_X12_qDrops mv_X12_qDrops ml_X12_528 sh_94 rfl dX12_qEndsPart_45 (fun _ => rfl) rfl (Nat.le_of_ble_eq_true rfl) rfl (Nat.le_of_ble_eq_true rfl) (tX12_qDrops (by omega) M1 hO1) (fun _ M2 _ hO2 => ?_)
          refine q_goto (tgt := 0) dX12_qEndsPart_48 (by decide) ?_
          refine q_sub [0] rfl ?_
          exact ih M2 hO2
def fX12_qEndsPart (M : q_Mem) : Option (Int × q_Mem) := (fX12_qEndsPart_0 q_FU M)
theorem tX12_qEndsPart {d : Nat} (hd : 2 ≤ d) (M : q_Mem) (hO : q_Ok M) : q_EX d yX12_qEndsPart cX12_qEndsPart 1 none 0 (q_args 0 [.inr (.inr 94)]) [] M (fX12_qEndsPart M) := by
  obtain ⟨d, rfl⟩ : ∃ d', d = d' + 1 := ⟨d - 1, by omega⟩
  have hd : 1 ≤ d := by omega
  show q_EX _ _ _ _ _ 0 [(0, .inr (.inr 94))] [] M _
  unfold fX12_qEndsPart
  refine q_sub [0] rfl ?_
  exact tX12_qEndsPart_0 hd q_FU M hO
def fX12_qPartTold_183 (K2 : Int → q_Mem → Option (Int × q_Mem)) (x1 : Int) (M : q_Mem) : Option (Int × q_Mem) := (K2 x1 M)
theorem tX12_qPartTold_183 {d : Nat} (hd : 4 ≤ d) (K2 : Int → q_Mem → Option (Int × q_Mem)) (hK2 : ∀ (x1 : Int) (M : q_Mem), q_Ok M → q_EX (d + 1) yX12_qPartTold cX12_qPartTold 6 none 2 [(0, .inr (.inr 94)), (1, .inl x1)] [] M (K2 x1 M)) (x1 : Int) (M : q_Mem) (hO : q_Ok M) : q_EX (d + 1) yX12_qPartTold cX12_qPartTold 6 none 183 [(0, .inr (.inr 94)), (1, .inl x1)] [] M (fX12_qPartTold_183 K2 x1 M) := by
  unfold fX12_qPartTold_183
  refine q_goto (tgt := 2) dX12_qPartTold_183 (by decide) ?_
  refine q_sub [0, 1] rfl ?_
  exact hK2 x1 M hO
def fX12_qPartTold_144 (K2 : Int → q_Mem → Option (Int × q_Mem)) (x1 : Int) (M : q_Mem) : Option (Int × q_Mem) := q_bd (fX12_asksSign 40 M) fun _ M1 => (fX12_qPartTold_183 K2 x1 M1)
theorem tX12_qPartTold_144 {d : Nat} (hd : 4 ≤ d) (K2 : Int → q_Mem → Option (Int × q_Mem)) (hK2 : ∀ (x1 : Int) (M : q_Mem), q_Ok M → q_EX (d + 1) yX12_qPartTold cX12_qPartTold 6 none 2 [(0, .inr (.inr 94)), (1, .inl x1)] [] M (K2 x1 M)) (x1 : Int) (M : q_Mem) (hO : q_Ok M) : q_EX (d + 1) yX12_qPartTold cX12_qPartTold 6 none 144 [(0, .inr (.inr 94)), (1, .inl x1)] [] M (fX12_qPartTold_144 K2 x1 M) := by
  unfold fX12_qPartTold_144
  refine q_aload_n 0 dX12_qPartTold_144 rfl rfl ?_
  refine q_bipush dX12_qPartTold_145 (by decide) ?_
  refine q_callVv (As := [.inl 40]) hO mb_X12_asksSign mv_X12_asksSign ml_X12_307 sh_94 rfl dX12_qPartTold_147 (fun _ => rfl) rfl (Nat.le_of_ble_eq_true rfl) rfl (Nat.le_of_ble_eq_true rfl) (tX12_asksSign (by omega) 40 M hO) (fun _ M1 _ hO1 => ?_)
  refine q_goto (tgt := 183) dX12_qPartTold_150 (by decide) ?_
  refine q_sub [0, 1] rfl ?_
  exact tX12_qPartTold_183 hd K2 hK2 x1 M1 hO1
def fX12_qPartTold_139 (K2 : Int → q_Mem → Option (Int × q_Mem)) (x1 : Int) (x5 : Int) (s0 : Int) (M : q_Mem) : Option (Int × q_Mem) := q_bd (fX12_qOpens s0 x5 M) fun _ M1 => (fX12_qPartTold_144 K2 x1 M1)
theorem tX12_qPartTold_139 {d : Nat} (hd : 4 ≤ d) (K2 : Int → q_Mem → Option (Int × q_Mem)) (hK2 : ∀ (x1 : Int) (M : q_Mem), q_Ok M → q_EX (d + 1) yX12_qPartTold cX12_qPartTold 6 none 2 [(0, .inr (.inr 94)), (1, .inl x1)] [] M (K2 x1 M)) (x1 : Int) (x5 : Int) (s0 : Int) (M : q_Mem) (hO : q_Ok M) : q_EX (d + 1) yX12_qPartTold cX12_qPartTold 6 none 139 [(0, .inr (.inr 94)), (1, .inl x1), (5, .inl x5)] [.inl s0, .inr (.inr 94)] M (fX12_qPartTold_139 K2 x1 x5 s0 M) := by
  unfold fX12_qPartTold_139
  refine q_iload 2 dX12_qPartTold_139 rfl ?_
  refine q_callVv (As := [.inl s0, .inl x5]) hO mb_X12_qOpens mv_X12_qOpens ml_X12_540 sh_94 rfl dX12_qPartTold_141 (fun _ => rfl) rfl (Nat.le_of_ble_eq_true rfl) rfl (Nat.le_of_ble_eq_true rfl) (tX12_qOpens (by omega) s0 x5 M hO) (fun _ M1 _ hO1 => ?_)
  refine q_sub [0, 1] rfl ?_
  exact tX12_qPartTold_144 hd K2 hK2 x1 M1 hO1
def fX12_qPartTold_118 (K2 : Int → q_Mem → Option (Int × q_Mem)) (x1 : Int) (x4 : Int) (s0 : Int) (M : q_Mem) : Option (Int × q_Mem) := if q_w s0 = q_w (-1) then ((fX12_qPartTold_144 K2 x1 M)) else (if q_w x4 = 0 then ((fX12_qPartTold_139 K2 x1 s0 22 M)) else ((fX12_qPartTold_139 K2 x1 s0 21 M)))
theorem tX12_qPartTold_118 {d : Nat} (hd : 4 ≤ d) (K2 : Int → q_Mem → Option (Int × q_Mem)) (hK2 : ∀ (x1 : Int) (M : q_Mem), q_Ok M → q_EX (d + 1) yX12_qPartTold cX12_qPartTold 6 none 2 [(0, .inr (.inr 94)), (1, .inl x1)] [] M (K2 x1 M)) (x1 : Int) (x4 : Int) (s0 : Int) (M : q_Mem) (hO : q_Ok M) : q_EX (d + 1) yX12_qPartTold cX12_qPartTold 6 none 118 [(0, .inr (.inr 94)), (1, .inl x1), (4, .inl x4)] [.inl s0] M (fX12_qPartTold_118 K2 x1 x4 s0 M) := by
  unfold fX12_qPartTold_118
  refine q_istore (ls' := [(5, .inl s0), (0, .inr (.inr 94)), (1, .inl x1), (4, .inl x4)]) dX12_qPartTold_118 (by decide) rfl ?_
  refine q_iload 0 dX12_qPartTold_120 rfl ?_
  refine q_iconst dX12_qPartTold_122 ?_
  refine q_icmpeq (tgt := 144) dX12_qPartTold_123 (by decide) ?_ ?_
  · refine q_sub [1, 2] rfl ?_
    exact tX12_qPartTold_144 hd K2 hK2 x1 M hO
  · refine q_aload_n 1 dX12_qPartTold_126 rfl rfl ?_
    refine q_iload 3 dX12_qPartTold_127 rfl ?_
    refine q_ifeq (tgt := 137) dX12_qPartTold_129 (by decide) ?_ ?_
    · refine q_bipush dX12_qPartTold_137 (by decide) ?_
      refine q_sub [1, 2, 0] rfl ?_
      exact tX12_qPartTold_139 hd K2 hK2 x1 s0 22 M hO
    · refine q_bipush dX12_qPartTold_132 (by decide) ?_
      refine q_goto (tgt := 139) dX12_qPartTold_134 (by decide) ?_
      refine q_sub [1, 2, 0] rfl ?_
      exact tX12_qPartTold_139 hd K2 hK2 x1 s0 21 M hO
def fX12_qPartTold_101 (K2 : Int → q_Mem → Option (Int × q_Mem)) (x1 : Int) (x4 : Int) (M : q_Mem) : Option (Int × q_Mem) := q_bd (fX12_look M) fun x21 M1 => if q_w x21 = q_w 40 then ((fX12_qPartTold_118 K2 x1 x4 (M1.2 94 2) M1)) else ((fX12_qPartTold_118 K2 x1 x4 (-1) M1))
theorem tX12_qPartTold_101 {d : Nat} (hd : 4 ≤ d) (K2 : Int → q_Mem → Option (Int × q_Mem)) (hK2 : ∀ (x1 : Int) (M : q_Mem), q_Ok M → q_EX (d + 1) yX12_qPartTold cX12_qPartTold 6 none 2 [(0, .inr (.inr 94)), (1, .inl x1)] [] M (K2 x1 M)) (x1 : Int) (x4 : Int) (M : q_Mem) (hO : q_Ok M) : q_EX (d + 1) yX12_qPartTold cX12_qPartTold 6 none 101 [(0, .inr (.inr 94)), (1, .inl x1), (4, .inl x4)] [] M (fX12_qPartTold_101 K2 x1 x4 M) := by
  unfold fX12_qPartTold_101
  refine q_aload_n 0 dX12_qPartTold_101 rfl rfl ?_
  refine q_callVi (As := []) hO mb_X12_look mv_X12_look ml_X12_249 sh_94 rfl dX12_qPartTold_102 (fun _ => rfl) rfl (Nat.le_of_ble_eq_true rfl) rfl (Nat.le_of_ble_eq_true rfl) (tX12_look M hO) (fun x21 M1 _ hO1 => ?_)
  refine q_bipush dX12_qPartTold_105 (by decide) ?_
  refine q_icmpne (tgt := 117) dX12_qPartTold_107 (by decide) ?_ ?_
  · refine q_iconst dX12_qPartTold_117 ?_
    refine q_sub [0, 1, 2] rfl ?_
    exact tX12_qPartTold_118 hd K2 hK2 x1 x4 (-1) M1 hO1
  · refine q_aload_n 0 dX12_qPartTold_110 rfl rfl ?_
    refine q_geti fl_X12_243 sh_94 (q_inO hO1 sh_94) rfl dX12_qPartTold_111 ?_
    refine q_goto (tgt := 118) dX12_qPartTold_114 (by decide) ?_
    refine q_sub [0, 1, 2] rfl ?_
    exact tX12_qPartTold_118 hd K2 hK2 x1 x4 (M1.2 94 2) M1 hO1
def fX12_qPartTold_78 (K2 : Int → q_Mem → Option (Int × q_Mem)) (x1 : Int) (M : q_Mem) : Option (Int × q_Mem) := q_bd (fX12_takes 150 3 M) fun x21 M1 => if q_w x21 = 0 then (q_bd (fX12_asks 151 3 M1) fun _ M2 => (fX12_qPartTold_101 K2 x1 x21 M2)) else ((fX12_qPartTold_101 K2 x1 x21 M1))
theorem tX12_qPartTold_78 {d : Nat} (hd : 4 ≤ d) (K2 : Int → q_Mem → Option (Int × q_Mem)) (hK2 : ∀ (x1 : Int) (M : q_Mem), q_Ok M → q_EX (d + 1) yX12_qPartTold cX12_qPartTold 6 none 2 [(0, .inr (.inr 94)), (1, .inl x1)] [] M (K2 x1 M)) (x1 : Int) (M : q_Mem) (hO : q_Ok M) : q_EX (d + 1) yX12_qPartTold cX12_qPartTold 6 none 78 [(0, .inr (.inr 94)), (1, .inl x1)] [] M (fX12_qPartTold_78 K2 x1 M) := by
  unfold fX12_qPartTold_78
  refine q_aload_n 0 dX12_qPartTold_78 rfl rfl ?_
  refine q_aload_n 0 dX12_qPartTold_79 rfl rfl ?_
  refine q_getx fl_X12_186 hO sh_94 rfl fx_94_78 dX12_qPartTold_80 ?_
  refine q_callVi (As := [.inr (.inr 150)]) hO mb_X12_takes mv_X12_takes ml_X12_264 sh_94 rfl dX12_qPartTold_83 (fun _ => rfl) rfl (Nat.le_of_ble_eq_true rfl) rfl (Nat.le_of_ble_eq_true rfl) (tX12_takes (by omega) 150 3 M hO sh_150) (fun x21 M1 _ hO1 => ?_)
  refine q_istore (ls' := [(4, .inl x21), (0, .inr (.inr 94)), (1, .inl x1)]) dX12_qPartTold_86 (by decide) rfl ?_
  refine q_iload 0 dX12_qPartTold_88 rfl ?_
  refine q_ifne (tgt := 101) dX12_qPartTold_90 (by decide) ?_ ?_
  · refine q_sub [1, 2, 0] rfl ?_
    exact tX12_qPartTold_101 hd K2 hK2 x1 x21 M1 hO1
  · refine q_aload_n 1 dX12_qPartTold_93 rfl rfl ?_
    refine q_aload_n 1 dX12_qPartTold_94 rfl rfl ?_
    refine q_getx fl_X12_189 hO1 sh_94 rfl fx_94_79 dX12_qPartTold_95 ?_
    refine q_callVv (As := [.inr (.inr 151)]) hO1 mb_X12_asks mv_X12_asks ml_X12_299 sh_94 rfl dX12_qPartTold_98 (fun _ => rfl) rfl (Nat.le_of_ble_eq_true rfl) rfl (Nat.le_of_ble_eq_true rfl) (tX12_asks (by omega) 151 3 M1 hO1 sh_151) (fun _ M2 _ hO2 => ?_)
    refine q_sub [1, 2, 0] rfl ?_
    exact tX12_qPartTold_101 hd K2 hK2 x1 x21 M2 hO2
def fX12_qPartTold_237 (s0 : Int) (M : q_Mem) : Option (Int × q_Mem) := q_bd (fX12_qCode s0 M) fun _ M1 => q_bd (fX12_qEndsPart M1) fun _ M2 => some (0, M2)
theorem tX12_qPartTold_237 {d : Nat} (hd : 4 ≤ d) (s0 : Int) (M : q_Mem) (hO : q_Ok M) : q_EX (d + 1) yX12_qPartTold cX12_qPartTold 6 none 237 [(0, .inr (.inr 94))] [.inl s0, .inr (.inr 94)] M (fX12_qPartTold_237 s0 M) := by
  unfold fX12_qPartTold_237
  refine q_callVv (As := [.inl s0]) hO mb_X12_qCode mv_X12_qCode ml_X12_522 sh_94 rfl dX12_qPartTold_237 (fun _ => rfl) rfl (Nat.le_of_ble_eq_true rfl) rfl (Nat.le_of_ble_eq_true rfl) (tX12_qCode s0 M hO) (fun _ M1 _ hO1 => ?_)
  refine q_aload_n 0 dX12_qPartTold_240 rfl rfl ?_
  refine q_callVv (As := []) hO1 mb_X12_qEndsPart mv_X12_qEndsPart ml_X12_546 sh_94 rfl dX12_qPartTold_241 (fun _ => rfl) rfl (Nat.le_of_ble_eq_true rfl) rfl (Nat.le_of_ble_eq_true rfl) (tX12_qEndsPart (by omega) M1 hO1) (fun _ M2 _ hO2 => ?_)
  exact q_ret dX12_qPartTold_244 rfl
def fX12_qPartTold_212 (x2 : Int) (M : q_Mem) : Option (Int × q_Mem) := if q_w x2 = q_w (-1) then (q_bd (fX12_number 0 9999 M) fun x21 M1 => (fX12_qPartTold_237 (1000 + x21) M1)) else ((fX12_qPartTold_237 (40 + x2) M))
theorem tX12_qPartTold_212 {d : Nat} (hd : 4 ≤ d) (x2 : Int) (M : q_Mem) (hO : q_Ok M) : q_EX (d + 1) yX12_qPartTold cX12_qPartTold 6 none 212 [(0, .inr (.inr 94)), (2, .inl x2)] [] M (fX12_qPartTold_212 x2 M) := by
  unfold fX12_qPartTold_212
  refine q_aload_n 0 dX12_qPartTold_212 rfl rfl ?_
  refine q_iload_n 1 dX12_qPartTold_213 rfl rfl ?_
  refine q_iconst dX12_qPartTold_214 ?_
  refine q_icmpeq (tgt := 225) dX12_qPartTold_215 (by decide) ?_ ?_
  · refine q_sipush dX12_qPartTold_225 (by decide) ?_
    refine q_aload_n 0 dX12_qPartTold_228 rfl rfl ?_
    refine q_iconst dX12_qPartTold_229 ?_
    refine q_sipush dX12_qPartTold_230 (by decide) ?_
    refine q_callVi (As := [.inl 0, .inl 9999]) hO mb_X12_number mv_X12_number ml_X12_303 sh_94 rfl dX12_qPartTold_233 (fun _ => rfl) rfl (Nat.le_of_ble_eq_true rfl) rfl (Nat.le_of_ble_eq_true rfl) (tX12_number (by omega) 0 9999 M hO) (fun x21 M1 _ hO1 => ?_)
    refine q_iadd dX12_qPartTold_236 ?_
    refine q_sub [0] rfl ?_
    exact tX12_qPartTold_237 hd (1000 + x21) M1 hO1
  · refine q_bipush dX12_qPartTold_218 (by decide) ?_
    refine q_iload_n 1 dX12_qPartTold_220 rfl rfl ?_
    refine q_iadd dX12_qPartTold_221 ?_
    refine q_goto (tgt := 237) dX12_qPartTold_222 (by decide) ?_
    refine q_sub [0] rfl ?_
    exact tX12_qPartTold_237 hd (40 + x2) M hO
def fX12_qPartTold_186 (M : q_Mem) : Option (Int × q_Mem) := if q_w (M.2 94 5) = 0 then (q_bd (fX12_qWordOf 0 8 M) fun x21 M1 => if q_w x21 = q_w (-1) then ((fX12_qPartTold_212 x21 M1)) else (q_bd (fX12_qAsksWord x21 M1) fun _ M2 => (fX12_qPartTold_212 x21 M2))) else (some (0, M))
theorem tX12_qPartTold_186 {d : Nat} (hd : 4 ≤ d) (M : q_Mem) (hO : q_Ok M) : q_EX (d + 1) yX12_qPartTold cX12_qPartTold 6 none 186 [(0, .inr (.inr 94))] [] M (fX12_qPartTold_186 M) := by
  unfold fX12_qPartTold_186
  refine q_aload_n 0 dX12_qPartTold_186 rfl rfl ?_
  refine q_geti fl_X12_237 sh_94 (q_inO hO sh_94) rfl dX12_qPartTold_187 ?_
  refine q_ifeq (tgt := 194) dX12_qPartTold_190 (by decide) ?_ ?_
  · refine q_aload_n 0 dX12_qPartTold_194 rfl rfl ?_
    refine q_iconst dX12_qPartTold_195 ?_
    refine q_bipush dX12_qPartTold_196 (by decide) ?_
    refine q_callVi (As := [.inl 0, .inl 8]) hO mb_X12_qWordOf mv_X12_qWordOf ml_X12_537 sh_94 rfl dX12_qPartTold_198 (fun _ => rfl) rfl (Nat.le_of_ble_eq_true rfl) rfl (Nat.le_of_ble_eq_true rfl) (tX12_qWordOf (by omega) 0 8 M hO) (fun x21 M1 _ hO1 => ?_)
    refine q_istore_n (ls' := [(2, .inl x21), (0, .inr (.inr 94))]) dX12_qPartTold_201 rfl (by decide) rfl ?_
    refine q_iload_n 0 dX12_qPartTold_202 rfl rfl ?_
    refine q_iconst dX12_qPartTold_203 ?_
    refine q_icmpeq (tgt := 212) dX12_qPartTold_204 (by decide) ?_ ?_
    · refine q_sub [1, 0] rfl ?_
      exact tX12_qPartTold_212 hd x21 M1 hO1
    · refine q_aload_n 1 dX12_qPartTold_207 rfl rfl ?_
      refine q_iload_n 0 dX12_qPartTold_208 rfl rfl ?_
      refine q_callVv (As := [.inl x21]) hO1 mb_X12_qAsksWord mv_X12_qAsksWord ml_X12_543 sh_94 rfl dX12_qPartTold_209 (fun _ => rfl) rfl (Nat.le_of_ble_eq_true rfl) rfl (Nat.le_of_ble_eq_true rfl) (tX12_qAsksWord (by omega) x21 M1 hO1) (fun _ M2 _ hO2 => ?_)
      refine q_sub [1, 0] rfl ?_
      exact tX12_qPartTold_212 hd x21 M2 hO2
  · exact q_ret dX12_qPartTold_193 rfl
def fX12_qPartTold_2  : Nat → Int → q_Mem → Option (Int × q_Mem)
  | 0, _, _ => none
  | n + 1, x1, M => if q_w x1 = 0 then ((fX12_qPartTold_186 M)) else (if q_w (M.2 94 5) = 0 then (q_bd (fX12_look M) fun x21 M1 => q_bd (fX12_qWordOf 8 10 M1) fun x22 M2 => if q_w x21 = q_w 40 then (q_bd (fX12_qOpens 20 (M2.2 94 2) M2) fun _ M7 => q_let (q_up M7 94 2 ((M7.2 94 2) + 1)) fun M8 => (fX12_qPartTold_183 (fX12_qPartTold_2 n) x1 M8)) else (q_bd (fX12_isHere 150 3 M2) fun x23 M3 => if q_w x23 = 0 then (q_bd (fX12_isHere 151 3 M3) fun x24 M4 => if q_w x24 = 0 then (if q_w x22 = q_w (-1) then ((fX12_qPartTold_183 (fX12_qPartTold_2 n) 0 M4)) else (q_bd (fX12_qOpens ((60 + x22) - 8) (M4.2 94 2) M4) fun _ M5 => q_bd (fX12_qAsksWord x22 M5) fun _ M6 => (fX12_qPartTold_183 (fX12_qPartTold_2 n) x1 M6))) else ((fX12_qPartTold_78 (fX12_qPartTold_2 n) x1 M4))) else ((fX12_qPartTold_78 (fX12_qPartTold_2 n) x1 M3)))) else ((fX12_qPartTold_186 M)))
theorem tX12_qPartTold_2 {d : Nat} (hd : 4 ≤ d) : ∀ (n : Nat) (x1 : Int) (M : q_Mem), q_Ok M → q_EX (d + 1) yX12_qPartTold cX12_qPartTold 6 none 2 [(0, .inr (.inr 94)), (1, .inl x1)] [] M (fX12_qPartTold_2 n x1 M) := by
  intro n
  induction n with
  | zero => intro x1 M hO; exact q_none
  | succ n ih =>
    intro x1 M hO
    rw [fX12_qPartTold_2]
    refine q_iload_n 1 dX12_qPartTold_2 rfl rfl ?_
    refine q_ifeq (tgt := 186) dX12_qPartTold_3 (by decide) ?_ ?_
    · refine q_sub [0] rfl ?_
      exact tX12_qPartTold_186 hd M hO
    · refine q_aload_n 0 dX12_qPartTold_6 rfl rfl ?_
      refine q_geti fl_X12_237 sh_94 (q_inO hO sh_94) rfl dX12_qPartTold_7 ?_
      refine q_ifne (tgt := 186) dX12_qPartTold_10 (by decide) ?_ ?_
      · refine q_sub [0] rfl ?_
        exact tX12_qPartTold_186 hd M hO
      · refine q_aload_n 0 dX12_qPartTold_13 rfl rfl ?_
        refine q_callVi (As := []) hO mb_X12_look mv_X12_look ml_X12_249 sh_94 rfl dX12_qPartTold_14 (fun _ => rfl) rfl (Nat.le_of_ble_eq_true rfl) rfl (Nat.le_of_ble_eq_true rfl) (tX12_look M hO) (fun x21 M1 _ hO1 => ?_)
        refine q_istore_n (ls' := [(2, .inl x21), (0, .inr (.inr 94)), (1, .inl x1)]) dX12_qPartTold_17 rfl (by decide) rfl ?_
        refine q_aload_n 1 dX12_qPartTold_18 rfl rfl ?_
        refine q_bipush dX12_qPartTold_19 (by decide) ?_
        refine q_bipush dX12_qPartTold_21 (by decide) ?_
        refine q_callVi (As := [.inl 8, .inl 10]) hO1 mb_X12_qWordOf mv_X12_qWordOf ml_X12_537 sh_94 rfl dX12_qPartTold_23 (fun _ => rfl) rfl (Nat.le_of_ble_eq_true rfl) rfl (Nat.le_of_ble_eq_true rfl) (tX12_qWordOf (by omega) 8 10 M1 hO1) (fun x22 M2 _ hO2 => ?_)
        refine q_istore_n (ls' := [(3, .inl x22), (2, .inl x21), (0, .inr (.inr 94)), (1, .inl x1)]) dX12_qPartTold_26 rfl (by decide) rfl ?_
        refine q_iload_n 1 dX12_qPartTold_27 rfl rfl ?_
        refine q_bipush dX12_qPartTold_28 (by decide) ?_
        refine q_icmpne (tgt := 56) dX12_qPartTold_30 (by decide) ?_ ?_
        · refine q_aload_n 2 dX12_qPartTold_56 rfl rfl ?_
          refine q_aload_n 2 dX12_qPartTold_57 rfl rfl ?_
          refine q_getx fl_X12_186 hO2 sh_94 rfl fx_94_78 dX12_qPartTold_58 ?_
          refine q_callVi (As := [.inr (.inr 150)]) hO2 mb_X12_isHere mv_X12_isHere ml_X12_260 sh_94 rfl dX12_qPartTold_61 (fun _ => rfl) rfl (Nat.le_of_ble_eq_true rfl) rfl (Nat.le_of_ble_eq_true rfl) (tX12_isHere (by omega) 150 3 M2 hO2 sh_150) (fun x23 M3 _ hO3 => ?_)
          refine q_ifne (tgt := 78) dX12_qPartTold_64 (by decide) ?_ ?_
          · refine q_sub [2, 3] rfl ?_
            exact tX12_qPartTold_78 hd (fX12_qPartTold_2 n) ih x1 M3 hO3
          · refine q_aload_n 2 dX12_qPartTold_67 rfl rfl ?_
            refine q_aload_n 2 dX12_qPartTold_68 rfl rfl ?_
            refine q_getx fl_X12_189 hO3 sh_94 rfl fx_94_79 dX12_qPartTold_69 ?_
            refine q_callVi (As := [.inr (.inr 151)]) hO3 mb_X12_isHere mv_X12_isHere ml_X12_260 sh_94 rfl dX12_qPartTold_72 (fun _ => rfl) rfl (Nat.le_of_ble_eq_true rfl) rfl (Nat.le_of_ble_eq_true rfl) (tX12_isHere (by omega) 151 3 M3 hO3 sh_151) (fun x24 M4 _ hO4 => ?_)
            refine q_ifeq (tgt := 153) dX12_qPartTold_75 (by decide) ?_ ?_
            · refine q_iload_n 0 dX12_qPartTold_153 rfl rfl ?_
              refine q_iconst dX12_qPartTold_154 ?_
              refine q_icmpeq (tgt := 181) dX12_qPartTold_155 (by decide) ?_ ?_
              · refine q_iconst dX12_qPartTold_181 ?_
                refine q_istore_n (ls' := [(1, .inl 0), (3, .inl x22), (2, .inl x21), (0, .inr (.inr 94))]) dX12_qPartTold_182 rfl (by decide) rfl ?_
                refine q_sub [3, 0] rfl ?_
                exact tX12_qPartTold_183 hd (fX12_qPartTold_2 n) ih 0 M4 hO4
              · refine q_aload_n 2 dX12_qPartTold_158 rfl rfl ?_
                refine q_bipush dX12_qPartTold_159 (by decide) ?_
                refine q_iload_n 0 dX12_qPartTold_161 rfl rfl ?_
                refine q_iadd dX12_qPartTold_162 ?_
                refine q_bipush dX12_qPartTold_163 (by decide) ?_
                refine q_isub dX12_qPartTold_165 ?_
                refine q_aload_n 2 dX12_qPartTold_166 rfl rfl ?_
                refine q_geti fl_X12_243 sh_94 (q_inO hO4 sh_94) rfl dX12_qPartTold_167 ?_
                refine q_callVv (As := [.inl ((60 + x22) - 8), .inl (M4.2 94 2)]) hO4 mb_X12_qOpens mv_X12_qOpens ml_X12_540 sh_94 rfl dX12_qPartTold_170 (fun _ => rfl) rfl (Nat.le_of_ble_eq_true rfl) rfl (Nat.le_of_ble_eq_true rfl) (tX12_qOpens (by omega) ((60 + x22) - 8) (M4.2 94 2) M4 hO4) (fun _ M5 _ hO5 => ?_)
                refine q_aload_n 2 dX12_qPartTold_173 rfl rfl ?_
                refine q_iload_n 0 dX12_qPartTold_174 rfl rfl ?_
                refine q_callVv (As := [.inl x22]) hO5 mb_X12_qAsksWord mv_X12_qAsksWord ml_X12_543 sh_94 rfl dX12_qPartTold_175 (fun _ => rfl) rfl (Nat.le_of_ble_eq_true rfl) rfl (Nat.le_of_ble_eq_true rfl) (tX12_qAsksWord (by omega) x22 M5 hO5) (fun _ M6 _ hO6 => ?_)
                refine q_goto (tgt := 183) dX12_qPartTold_178 (by decide) ?_
                refine q_sub [2, 3] rfl ?_
                exact tX12_qPartTold_183 hd (fX12_qPartTold_2 n) ih x1 M6 hO6
            · refine q_sub [2, 3] rfl ?_
              exact tX12_qPartTold_78 hd (fX12_qPartTold_2 n) ih x1 M4 hO4
        · refine q_aload_n 2 dX12_qPartTold_33 rfl rfl ?_
          refine q_bipush dX12_qPartTold_34 (by decide) ?_
          refine q_aload_n 2 dX12_qPartTold_36 rfl rfl ?_
          refine q_geti fl_X12_243 sh_94 (q_inO hO2 sh_94) rfl dX12_qPartTold_37 ?_
          refine q_callVv (As := [.inl 20, .inl (M2.2 94 2)]) hO2 mb_X12_qOpens mv_X12_qOpens ml_X12_540 sh_94 rfl dX12_qPartTold_40 (fun _ => rfl) rfl (Nat.le_of_ble_eq_true rfl) rfl (Nat.le_of_ble_eq_true rfl) (tX12_qOpens (by omega) 20 (M2.2 94 2) M2 hO2) (fun _ M7 _ hO7 => ?_)
          refine q_aload_n 2 dX12_qPartTold_43 rfl rfl ?_
          refine q_dup dX12_qPartTold_44 rfl ?_
          refine q_geti fl_X12_243 sh_94 (q_inO hO7 sh_94) rfl dX12_qPartTold_45 ?_
          refine q_iconst dX12_qPartTold_48 ?_
          refine q_iadd dX12_qPartTold_49 ?_
          refine q_puti fl_X12_243 sh_94 (q_inO hO7 sh_94) (fun h => q_Ok_put h sh_94 rfl) rfl dX12_qPartTold_50 (fun M8 hM8 => ?_)
          have hO8 : q_Ok M8 := by rw [hM8]; exact q_Ok_put hO7 sh_94 rfl
          refine q_goto (tgt := 183) dX12_qPartTold_53 (by decide) ?_
          refine q_sub [2, 3] rfl ?_
          exact tX12_qPartTold_183 hd (fX12_qPartTold_2 n) ih x1 M8 hO8
def fX12_qPartTold (M : q_Mem) : Option (Int × q_Mem) := (fX12_qPartTold_2 q_FU 1 M)
theorem tX12_qPartTold {d : Nat} (hd : 5 ≤ d) (M : q_Mem) (hO : q_Ok M) : q_EX d yX12_qPartTold cX12_qPartTold 6 none 0 (q_args 0 [.inr (.inr 94)]) [] M (fX12_qPartTold M) := by
  obtain ⟨d, rfl⟩ : ∃ d', d = d' + 1 := ⟨d - 1, by omega⟩
  have hd : 4 ≤ d := by omega
  show q_EX _ _ _ _ _ 0 [(0, .inr (.inr 94))] [] M _
  unfold fX12_qPartTold
  refine q_iconst dX12_qPartTold_0 ?_
  refine q_istore_n (ls' := [(1, .inl 1), (0, .inr (.inr 94))]) dX12_qPartTold_1 rfl (by decide) rfl ?_
  refine q_sub [1, 0] rfl ?_
  exact tX12_qPartTold_2 hd q_FU 1 M hO
