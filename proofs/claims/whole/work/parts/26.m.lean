def fX12_qIsBracket (x0 : Int) (M : q_Mem) : Option (Int × q_Mem) := if q_w x0 < q_w 20 then (some (0, M)) else (if q_w 24 < q_w x0 then (some (0, M)) else (some (1, M)))
theorem tX12_qIsBracket {d : Nat} (x0 : Int) (M : q_Mem) (hO : q_Ok M) : q_EX d yX12_qIsBracket cX12_qIsBracket 1 (some .boolean) 0 (q_args 0 [.inl x0]) [] M (fX12_qIsBracket x0 M) := by
  show q_EX _ _ _ _ _ 0 [(0, .inl x0)] [] M _
  unfold fX12_qIsBracket
  refine q_iload_n 0 dX12_qIsBracket_0 rfl rfl ?_
  refine q_bipush dX12_qIsBracket_1 (by decide) ?_
  refine q_icmplt (tgt := 16) dX12_qIsBracket_3 (by decide) ?_ ?_
  · refine q_iconst dX12_qIsBracket_16 ?_
    exact q_ret ⟨dX12_qIsBracket_17, by decide⟩ rfl
  · refine q_iload_n 0 dX12_qIsBracket_6 rfl rfl ?_
    refine q_bipush dX12_qIsBracket_7 (by decide) ?_
    refine q_icmpgt (tgt := 16) dX12_qIsBracket_9 (by decide) ?_ ?_
    · refine q_iconst dX12_qIsBracket_16 ?_
      exact q_ret ⟨dX12_qIsBracket_17, by decide⟩ rfl
    · refine q_iconst dX12_qIsBracket_12 ?_
      refine q_goto (tgt := 17) dX12_qIsBracket_13 (by decide) ?_
      exact q_ret ⟨dX12_qIsBracket_17, by decide⟩ rfl
def fX12_qBracket_33 (x1 : Int) (M : q_Mem) : Option (Int × q_Mem) := if q_w x1 < q_w (M.2 94 95) then (some ((-1), M)) else ((q_ld M 163 1700 x1).bind fun x21 => some (x21, M))
theorem tX12_qBracket_33 {d : Nat} (hd : 0 ≤ d) (x1 : Int) (M : q_Mem) (hO : q_Ok M) : q_EX (d + 1) yX12_qBracket cX12_qBracket 2 (some .int) 33 [(0, .inr (.inr 94)), (1, .inl x1)] [] M (fX12_qBracket_33 x1 M) := by
  unfold fX12_qBracket_33
  refine q_iload_n 1 dX12_qBracket_33 rfl rfl ?_
  refine q_aload_n 0 dX12_qBracket_34 rfl rfl ?_
  refine q_geti fl_X12_327 sh_94 (q_inO hO sh_94) rfl dX12_qBracket_35 ?_
  refine q_icmplt (tgt := 50) dX12_qBracket_38 (by decide) ?_ ?_
  · refine q_iconst dX12_qBracket_50 ?_
    exact q_ret dX12_qBracket_51 rfl
  · refine q_aload_n 0 dX12_qBracket_41 rfl rfl ?_
    refine q_getx fl_X12_225 hO sh_94 rfl fx_94_92 dX12_qBracket_42 ?_
    refine q_iload_n 1 dX12_qBracket_45 rfl rfl ?_
    refine q_iald sh_163 (q_inA hO sh_163 (by decide)) dX12_qBracket_46 (fun x21 _ _ _ => ?_)
    refine q_goto (tgt := 51) dX12_qBracket_47 (by decide) ?_
    exact q_ret dX12_qBracket_51 rfl
def fX12_qBracket_7  : Nat → Int → q_Mem → Option (Int × q_Mem)
  | 0, _, _ => none
  | n + 1, x1, M => if q_w x1 < q_w (M.2 94 95) then ((fX12_qBracket_33 x1 M)) else ((q_ld M 163 1700 x1).bind fun x21 => q_bd (fX12_qIsBracket x21 M) fun x22 M1 => if q_w x22 = 0 then ((fX12_qBracket_7 n (x1 + (-1)) M1)) else ((fX12_qBracket_33 x1 M1)))
theorem tX12_qBracket_7 {d : Nat} (hd : 0 ≤ d) : ∀ (n : Nat) (x1 : Int) (M : q_Mem), q_Ok M → q_EX (d + 1) yX12_qBracket cX12_qBracket 2 (some .int) 7 [(0, .inr (.inr 94)), (1, .inl x1)] [] M (fX12_qBracket_7 n x1 M) := by
  intro n
  induction n with
  | zero => intro x1 M hO; exact q_none
  | succ n ih =>
    intro x1 M hO
    rw [fX12_qBracket_7]
    refine q_iload_n 1 dX12_qBracket_7 rfl rfl ?_
    refine q_aload_n 0 dX12_qBracket_8 rfl rfl ?_
    refine q_geti fl_X12_327 sh_94 (q_inO hO sh_94) rfl dX12_qBracket_9 ?_
    refine q_icmplt (tgt := 33) dX12_qBracket_12 (by decide) ?_ ?_
    · refine q_sub [0, 1] rfl ?_
      exact tX12_qBracket_33 hd x1 M hO
    · refine q_aload_n 0 dX12_qBracket_15 rfl rfl ?_
      refine q_getx fl_X12_225 hO sh_94 rfl fx_94_92 dX12_qBracket_16 ?_
      refine q_iload_n 1 dX12_qBracket_19 rfl rfl ?_
      refine q_iald sh_163 (q_inA hO sh_163 (by decide)) dX12_qBracket_20 (fun x21 _ _ _ => ?_)
      refine q_callSi (As := [.inl x21]) hO mb_X12_qIsBracket ms_X12_qIsBracket ml_X12_525 dX12_qBracket_21 (fun _ => rfl) rfl (Nat.le_of_ble_eq_true rfl) rfl (Nat.le_of_ble_eq_true rfl) (tX12_qIsBracket x21 M hO) (fun x22 M1 _ hO1 => ?_)
      refine q_ifne (tgt := 33) dX12_qBracket_24 (by decide) ?_ ?_
      · refine q_sub [0, 1] rfl ?_
        exact tX12_qBracket_33 hd x1 M1 hO1
      · refine q_iinc (ls' := [(1, .inl (x1 + (-1))), (0, .inr (.inr 94))]) 1 dX12_qBracket_27 rfl (by decide) rfl ?_
        refine q_goto (tgt := 7) dX12_qBracket_30 (by decide) ?_
        refine q_sub [1, 0] rfl ?_
        exact ih (x1 + (-1)) M1 hO1
def fX12_qBracket (M : q_Mem) : Option (Int × q_Mem) := q_let ((M.2 94 93) - 1) fun x21 => (fX12_qBracket_7 q_FU x21 M)
theorem tX12_qBracket {d : Nat} (hd : 1 ≤ d) (M : q_Mem) (hO : q_Ok M) : q_EX d yX12_qBracket cX12_qBracket 2 (some .int) 0 (q_args 0 [.inr (.inr 94)]) [] M (fX12_qBracket M) := by
  obtain ⟨d, rfl⟩ : ∃ d', d = d' + 1 := ⟨d - 1, by omega⟩
  have hd : 0 ≤ d := by omega
  show q_EX _ _ _ _ _ 0 [(0, .inr (.inr 94))] [] M _
  unfold fX12_qBracket
  refine q_aload_n 0 dX12_qBracket_0 rfl rfl ?_
  refine q_geti fl_X12_321 sh_94 (q_inO hO sh_94) rfl dX12_qBracket_1 ?_
  refine q_iconst dX12_qBracket_4 ?_
  refine q_isub dX12_qBracket_5 ?_
  refine q_nameI (fun x21 _ => ?_)
  refine q_istore_n (ls' := [(1, .inl x21), (0, .inr (.inr 94))]) dX12_qBracket_6 rfl (by decide) rfl ?_
  refine q_sub [1, 0] rfl ?_
  exact tX12_qBracket_7 hd q_FU x21 M hO
def fX12_qDropsToBracket_0  : Nat → q_Mem → Option (Int × q_Mem)
  | 0, _ => none
  | n + 1, M => if q_w (M.2 94 95) < q_w (M.2 94 93) then ((q_ld M 163 1700 ((M.2 94 93) - 1)).bind fun x21 => q_bd (fX12_qIsBracket x21 M) fun x22 M1 => if q_w x22 = 0 then (q_bd (fX12_qDrops M1) fun _ M2 => (fX12_qDropsToBracket_0 n M2)) else (some (0, M1))) else (some (0, M))
theorem tX12_qDropsToBracket_0 {d : Nat} (hd : 1 ≤ d) : ∀ (n : Nat)  (M : q_Mem), q_Ok M → q_EX (d + 1) yX12_qDropsToBracket cX12_qDropsToBracket 1 none 0 [(0, .inr (.inr 94))] [] M (fX12_qDropsToBracket_0 n M) := by
  intro n
  induction n with
  | zero => intro M hO; exact q_none
  | succ n ih =>
    intro M hO
    rw [fX12_qDropsToBracket_0]
    refine q_aload_n 0 dX12_qDropsToBracket_0 rfl rfl ?_
    refine q_geti fl_X12_321 sh_94 (q_inO hO sh_94) rfl dX12_qDropsToBracket_1 ?_
    refine q_aload_n 0 dX12_qDropsToBracket_4 rfl rfl ?_
    refine q_geti fl_X12_327 sh_94 (q_inO hO sh_94) rfl dX12_qDropsToBracket_5 ?_
    refine q_icmple (tgt := 35) dX12_qDropsToBracket_8 (by decide) ?_ ?_
    · exact q_ret dX12_qDropsToBracket_35 rfl
    · refine q_aload_n 0 dX12_qDropsToBracket_11 rfl rfl ?_
      refine q_getx fl_X12_225 hO sh_94 rfl fx_94_92 dX12_qDropsToBracket_12 ?_
      refine q_aload_n 0 dX12_qDropsToBracket_15 rfl rfl ?_
      refine q_geti fl_X12_321 sh_94 (q_inO hO sh_94) rfl dX12_qDropsToBracket_16 ?_
      refine q_iconst dX12_qDropsToBracket_19 ?_
      refine q_isub dX12_qDropsToBracket_20 ?_
      refine q_iald sh_163 (q_inA hO sh_163 (by decide)) dX12_qDropsToBracket_21 (fun x21 _ _ _ => ?_)
      refine q_callSi (As := [.inl x21]) hO mb_X12_qIsBracket ms_X12_qIsBracket ml_X12_525 dX12_qDropsToBracket_22 (fun _ => rfl) rfl (Nat.le_of_ble_eq_true rfl) rfl (Nat.le_of_ble_eq_true rfl) (tX12_qIsBracket x21 M hO) (fun x22 M1 _ hO1 => ?_)
      refine q_ifne (tgt := 35) dX12_qDropsToBracket_25 (by decide) ?_ ?_
      · exact q_ret dX12_qDropsToBracket_35 rfl
      · refine q_aload_n 0 dX12_qDropsToBracket_28 rfl rfl ?_
        refine q_callVv (As := []) hO1 mb_X12_qDrops mv_X12_qDrops ml_X12_528 sh_94 rfl dX12_qDropsToBracket_29 (fun _ => rfl) rfl (Nat.le_of_ble_eq_true rfl) rfl (Nat.le_of_ble_eq_true rfl) (tX12_qDrops (by omega) M1 hO1) (fun _ M2 _ hO2 => ?_)
        refine q_goto (tgt := 0) dX12_qDropsToBracket_32 (by decide) ?_
        refine q_sub [0] rfl ?_
        exact ih M2 hO2
def fX12_qDropsToBracket (M : q_Mem) : Option (Int × q_Mem) := (fX12_qDropsToBracket_0 q_FU M)
theorem tX12_qDropsToBracket {d : Nat} (hd : 2 ≤ d) (M : q_Mem) (hO : q_Ok M) : q_EX d yX12_qDropsToBracket cX12_qDropsToBracket 1 none 0 (q_args 0 [.inr (.inr 94)]) [] M (fX12_qDropsToBracket M) := by
  obtain ⟨d, rfl⟩ : ∃ d', d = d' + 1 := ⟨d - 1, by omega⟩
  have hd : 1 ≤ d := by omega
  show q_EX _ _ _ _ _ 0 [(0, .inr (.inr 94))] [] M _
  unfold fX12_qDropsToBracket
  refine q_sub [0] rfl ?_
  exact tX12_qDropsToBracket_0 hd q_FU M hO
def fX12_qIsOn (x1 : Int) (M : q_Mem) : Option (Int × q_Mem) := if 0 < q_w (M.2 94 93) then ((q_ld M 163 1700 ((M.2 94 93) - 1)).bind fun x21 => if q_w x21 = q_w x1 then (some (1, M)) else (some (0, M))) else (some (0, M))
theorem tX12_qIsOn {d : Nat} (x1 : Int) (M : q_Mem) (hO : q_Ok M) : q_EX d yX12_qIsOn cX12_qIsOn 2 (some .boolean) 0 (q_args 0 [.inr (.inr 94), .inl x1]) [] M (fX12_qIsOn x1 M) := by
  show q_EX _ _ _ _ _ 0 [(0, .inr (.inr 94)), (1, .inl x1)] [] M _
  unfold fX12_qIsOn
  refine q_aload_n 0 dX12_qIsOn_0 rfl rfl ?_
  refine q_geti fl_X12_321 sh_94 (q_inO hO sh_94) rfl dX12_qIsOn_1 ?_
  refine q_ifle (tgt := 26) dX12_qIsOn_4 (by decide) ?_ ?_
  · refine q_iconst dX12_qIsOn_26 ?_
    exact q_ret ⟨dX12_qIsOn_27, by decide⟩ rfl
  · refine q_aload_n 0 dX12_qIsOn_7 rfl rfl ?_
    refine q_getx fl_X12_225 hO sh_94 rfl fx_94_92 dX12_qIsOn_8 ?_
    refine q_aload_n 0 dX12_qIsOn_11 rfl rfl ?_
    refine q_geti fl_X12_321 sh_94 (q_inO hO sh_94) rfl dX12_qIsOn_12 ?_
    refine q_iconst dX12_qIsOn_15 ?_
    refine q_isub dX12_qIsOn_16 ?_
    refine q_iald sh_163 (q_inA hO sh_163 (by decide)) dX12_qIsOn_17 (fun x21 _ _ _ => ?_)
    refine q_iload_n 1 dX12_qIsOn_18 rfl rfl ?_
    refine q_icmpne (tgt := 26) dX12_qIsOn_19 (by decide) ?_ ?_
    · refine q_iconst dX12_qIsOn_26 ?_
      exact q_ret ⟨dX12_qIsOn_27, by decide⟩ rfl
    · refine q_iconst dX12_qIsOn_22 ?_
      refine q_goto (tgt := 27) dX12_qIsOn_23 (by decide) ?_
      exact q_ret ⟨dX12_qIsOn_27, by decide⟩ rfl
def fX12_qGoesOn_115 (K0 : q_Mem → Option (Int × q_Mem)) (M : q_Mem) : Option (Int × q_Mem) := q_bd (fX12_qEndsPart M) fun _ M1 => (K0 M1)
theorem tX12_qGoesOn_115 {d : Nat} (hd : 2 ≤ d) (K0 : q_Mem → Option (Int × q_Mem)) (hK0 : ∀  (M : q_Mem), q_Ok M → q_EX (d + 1) yX12_qGoesOn cX12_qGoesOn 2 (some .boolean) 0 [(0, .inr (.inr 94))] [] M (K0 M)) (M : q_Mem) (hO : q_Ok M) : q_EX (d + 1) yX12_qGoesOn cX12_qGoesOn 2 (some .boolean) 115 [(0, .inr (.inr 94))] [] M (fX12_qGoesOn_115 K0 M) := by
  unfold fX12_qGoesOn_115
  refine q_aload_n 0 dX12_qGoesOn_115 rfl rfl ?_
  refine q_callVv (As := []) hO mb_X12_qEndsPart mv_X12_qEndsPart ml_X12_546 sh_94 rfl dX12_qGoesOn_116 (fun _ => rfl) rfl (Nat.le_of_ble_eq_true rfl) rfl (Nat.le_of_ble_eq_true rfl) (tX12_qEndsPart (by omega) M hO) (fun _ M1 _ hO1 => ?_)
  refine q_goto (tgt := 0) dX12_qGoesOn_119 (by decide) ?_
  refine q_sub [0] rfl ?_
  exact hK0 M1 hO1
def fX12_qGoesOn_112 (K0 : q_Mem → Option (Int × q_Mem)) (s0 : Int) (M : q_Mem) : Option (Int × q_Mem) := q_bd (fX12_qCode s0 M) fun _ M1 => (fX12_qGoesOn_115 K0 M1)
theorem tX12_qGoesOn_112 {d : Nat} (hd : 2 ≤ d) (K0 : q_Mem → Option (Int × q_Mem)) (hK0 : ∀  (M : q_Mem), q_Ok M → q_EX (d + 1) yX12_qGoesOn cX12_qGoesOn 2 (some .boolean) 0 [(0, .inr (.inr 94))] [] M (K0 M)) (s0 : Int) (M : q_Mem) (hO : q_Ok M) : q_EX (d + 1) yX12_qGoesOn cX12_qGoesOn 2 (some .boolean) 112 [(0, .inr (.inr 94))] [.inl s0, .inr (.inr 94)] M (fX12_qGoesOn_112 K0 s0 M) := by
  unfold fX12_qGoesOn_112
  refine q_callVv (As := [.inl s0]) hO mb_X12_qCode mv_X12_qCode ml_X12_522 sh_94 rfl dX12_qGoesOn_112 (fun _ => rfl) rfl (Nat.le_of_ble_eq_true rfl) rfl (Nat.le_of_ble_eq_true rfl) (tX12_qCode s0 M hO) (fun _ M1 _ hO1 => ?_)
  refine q_sub [0] rfl ?_
  exact tX12_qGoesOn_115 hd K0 hK0 M1 hO1
def fX12_qGoesOn_43 (K0 : q_Mem → Option (Int × q_Mem)) (M : q_Mem) : Option (Int × q_Mem) := q_let (q_up M 94 2 ((M.2 94 2) + 1)) fun M1 => q_bd (fX12_qDropsToBracket M1) fun _ M2 => q_let (q_up M2 94 93 ((M2.2 94 93) - 1)) fun M3 => q_let (q_up M3 94 94 ((M3.2 94 94) - 1)) fun M4 => (q_ld M4 163 1700 (M4.2 94 93)).bind fun x21 => if q_w x21 = q_w 20 then ((fX12_qGoesOn_115 K0 M4)) else ((q_ld M4 163 1700 (M4.2 94 93)).bind fun x22 => if q_w x22 = q_w 23 then ((fX12_qGoesOn_112 K0 5 M4)) else ((fX12_qGoesOn_112 K0 6 M4)))
theorem tX12_qGoesOn_43 {d : Nat} (hd : 2 ≤ d) (K0 : q_Mem → Option (Int × q_Mem)) (hK0 : ∀  (M : q_Mem), q_Ok M → q_EX (d + 1) yX12_qGoesOn cX12_qGoesOn 2 (some .boolean) 0 [(0, .inr (.inr 94))] [] M (K0 M)) (M : q_Mem) (hO : q_Ok M) : q_EX (d + 1) yX12_qGoesOn cX12_qGoesOn 2 (some .boolean) 43 [(0, .inr (.inr 94))] [] M (fX12_qGoesOn_43 K0 M) := by
  unfold fX12_qGoesOn_43
  refine q_aload_n 0 dX12_qGoesOn_43 rfl rfl ?_
  refine q_dup dX12_qGoesOn_44 rfl ?_
  refine q_geti fl_X12_243 sh_94 (q_inO hO sh_94) rfl dX12_qGoesOn_45 ?_
  refine q_iconst dX12_qGoesOn_48 ?_
  refine q_iadd dX12_qGoesOn_49 ?_
  refine q_puti fl_X12_243 sh_94 (q_inO hO sh_94) (fun h => q_Ok_put h sh_94 rfl) rfl dX12_qGoesOn_50 (fun M1 hM1 => ?_)
  have hO1 : q_Ok M1 := by rw [hM1]; exact q_Ok_put hO sh_94 rfl
  refine q_aload_n 0 dX12_qGoesOn_53 rfl rfl ?_
  refine q_callVv (As := []) hO1 mb_X12_qDropsToBracket mv_X12_qDropsToBracket ml_X12_552 sh_94 rfl dX12_qGoesOn_54 (fun _ => rfl) rfl (Nat.le_of_ble_eq_true rfl) rfl (Nat.le_of_ble_eq_true rfl) (tX12_qDropsToBracket (by omega) M1 hO1) (fun _ M2 _ hO2 => ?_)
  refine q_aload_n 0 dX12_qGoesOn_57 rfl rfl ?_
  refine q_dup dX12_qGoesOn_58 rfl ?_
  refine q_geti fl_X12_321 sh_94 (q_inO hO2 sh_94) rfl dX12_qGoesOn_59 ?_
  refine q_iconst dX12_qGoesOn_62 ?_
  refine q_isub dX12_qGoesOn_63 ?_
  refine q_puti fl_X12_321 sh_94 (q_inO hO2 sh_94) (fun h => q_Ok_put h sh_94 rfl) rfl dX12_qGoesOn_64 (fun M3 hM3 => ?_)
  have hO3 : q_Ok M3 := by rw [hM3]; exact q_Ok_put hO2 sh_94 rfl
  refine q_aload_n 0 dX12_qGoesOn_67 rfl rfl ?_
  refine q_dup dX12_qGoesOn_68 rfl ?_
  refine q_geti fl_X12_324 sh_94 (q_inO hO3 sh_94) rfl dX12_qGoesOn_69 ?_
  refine q_iconst dX12_qGoesOn_72 ?_
  refine q_isub dX12_qGoesOn_73 ?_
  refine q_puti fl_X12_324 sh_94 (q_inO hO3 sh_94) (fun h => q_Ok_put h sh_94 rfl) rfl dX12_qGoesOn_74 (fun M4 hM4 => ?_)
  have hO4 : q_Ok M4 := by rw [hM4]; exact q_Ok_put hO3 sh_94 rfl
  refine q_aload_n 0 dX12_qGoesOn_77 rfl rfl ?_
  refine q_getx fl_X12_225 hO4 sh_94 rfl fx_94_92 dX12_qGoesOn_78 ?_
  refine q_aload_n 0 dX12_qGoesOn_81 rfl rfl ?_
  refine q_geti fl_X12_321 sh_94 (q_inO hO4 sh_94) rfl dX12_qGoesOn_82 ?_
  refine q_iald sh_163 (q_inA hO4 sh_163 (by decide)) dX12_qGoesOn_85 (fun x21 _ _ _ => ?_)
  refine q_bipush dX12_qGoesOn_86 (by decide) ?_
  refine q_icmpeq (tgt := 115) dX12_qGoesOn_88 (by decide) ?_ ?_
  · refine q_sub [0] rfl ?_
    exact tX12_qGoesOn_115 hd K0 hK0 M4 hO4
  · refine q_aload_n 0 dX12_qGoesOn_91 rfl rfl ?_
    refine q_aload_n 0 dX12_qGoesOn_92 rfl rfl ?_
    refine q_getx fl_X12_225 hO4 sh_94 rfl fx_94_92 dX12_qGoesOn_93 ?_
    refine q_aload_n 0 dX12_qGoesOn_96 rfl rfl ?_
    refine q_geti fl_X12_321 sh_94 (q_inO hO4 sh_94) rfl dX12_qGoesOn_97 ?_
    refine q_iald sh_163 (q_inA hO4 sh_163 (by decide)) dX12_qGoesOn_100 (fun x22 _ _ _ => ?_)
    refine q_bipush dX12_qGoesOn_101 (by decide) ?_
    refine q_icmpne (tgt := 110) dX12_qGoesOn_103 (by decide) ?_ ?_
    · refine q_bipush dX12_qGoesOn_110 (by decide) ?_
      refine q_sub [0] rfl ?_
      exact tX12_qGoesOn_112 hd K0 hK0 6 M4 hO4
    · refine q_iconst dX12_qGoesOn_106 ?_
      refine q_goto (tgt := 112) dX12_qGoesOn_107 (by decide) ?_
      refine q_sub [0] rfl ?_
      exact tX12_qGoesOn_112 hd K0 hK0 5 M4 hO4
def fX12_qGoesOn_178 (K162 : Int → q_Mem → Option (Int × q_Mem)) (x1 : Int) (M : q_Mem) : Option (Int × q_Mem) := q_bd (fX12_qDrops M) fun _ M1 => (K162 x1 M1)
theorem tX12_qGoesOn_178 {d : Nat} (hd : 2 ≤ d) (K162 : Int → q_Mem → Option (Int × q_Mem)) (hK162 : ∀ (x1 : Int) (M : q_Mem), q_Ok M → q_EX (d + 1) yX12_qGoesOn cX12_qGoesOn 2 (some .boolean) 162 [(0, .inr (.inr 94)), (1, .inl x1)] [] M (K162 x1 M)) (x1 : Int) (M : q_Mem) (hO : q_Ok M) : q_EX (d + 1) yX12_qGoesOn cX12_qGoesOn 2 (some .boolean) 178 [(0, .inr (.inr 94)), (1, .inl x1)] [] M (fX12_qGoesOn_178 K162 x1 M) := by
  unfold fX12_qGoesOn_178
  refine q_aload_n 0 dX12_qGoesOn_178 rfl rfl ?_
  refine q_callVv (As := []) hO mb_X12_qDrops mv_X12_qDrops ml_X12_528 sh_94 rfl dX12_qGoesOn_179 (fun _ => rfl) rfl (Nat.le_of_ble_eq_true rfl) rfl (Nat.le_of_ble_eq_true rfl) (tX12_qDrops (by omega) M hO) (fun _ M1 _ hO1 => ?_)
  refine q_goto (tgt := 162) dX12_qGoesOn_182 (by decide) ?_
  refine q_sub [0, 1] rfl ?_
  exact hK162 x1 M1 hO1
def fX12_qGoesOn_162  : Nat → Int → q_Mem → Option (Int × q_Mem)
  | 0, _, _ => none
  | n + 1, x1, M => q_bd (fX12_qIsOn 3 M) fun x21 M1 => if q_w x21 = 0 then (q_bd (fX12_qIsOn 4 M1) fun x22 M2 => if q_w x22 = 0 then ((q_sto M2 163 1700 (M2.2 94 93) x1).bind fun M3 => q_let (q_up M3 94 93 ((M3.2 94 93) + 1)) fun M4 => some (1, M4)) else ((fX12_qGoesOn_178 (fX12_qGoesOn_162 n) x1 M2))) else ((fX12_qGoesOn_178 (fX12_qGoesOn_162 n) x1 M1))
theorem tX12_qGoesOn_162 {d : Nat} (hd : 2 ≤ d) : ∀ (n : Nat) (x1 : Int) (M : q_Mem), q_Ok M → q_EX (d + 1) yX12_qGoesOn cX12_qGoesOn 2 (some .boolean) 162 [(0, .inr (.inr 94)), (1, .inl x1)] [] M (fX12_qGoesOn_162 n x1 M) := by
  intro n
  induction n with
  | zero => intro x1 M hO; exact q_none
  | succ n ih =>
    intro x1 M hO
    rw [fX12_qGoesOn_162]
    refine q_aload_n 0 dX12_qGoesOn_162 rfl rfl ?_
    refine q_iconst dX12_qGoesOn_163 ?_
    refine q_callVi (As := [.inl 3]) hO mb_X12_qIsOn mv_X12_qIsOn ml_X12_555 sh_94 rfl dX12_qGoesOn_164 (fun _ => rfl) rfl (Nat.le_of_ble_eq_true rfl) rfl (Nat.le_of_ble_eq_true rfl) (tX12_qIsOn 3 M hO) (fun x21 M1 _ hO1 => ?_)
    refine q_ifne (tgt := 178) dX12_qGoesOn_167 (by decide) ?_ ?_
    · refine q_sub [0, 1] rfl ?_
      exact tX12_qGoesOn_178 hd (fX12_qGoesOn_162 n) ih x1 M1 hO1
    · refine q_aload_n 0 dX12_qGoesOn_170 rfl rfl ?_
      refine q_iconst dX12_qGoesOn_171 ?_
      refine q_callVi (As := [.inl 4]) hO1 mb_X12_qIsOn mv_X12_qIsOn ml_X12_555 sh_94 rfl dX12_qGoesOn_172 (fun _ => rfl) rfl (Nat.le_of_ble_eq_true rfl) rfl (Nat.le_of_ble_eq_true rfl) (tX12_qIsOn 4 M1 hO1) (fun x22 M2 _ hO2 => ?_)
      refine q_ifeq (tgt := 185) dX12_qGoesOn_175 (by decide) ?_ ?_
      · refine q_aload_n 0 dX12_qGoesOn_185 rfl rfl ?_
        refine q_getx fl_X12_225 hO2 sh_94 rfl fx_94_92 dX12_qGoesOn_186 ?_
        refine q_aload_n 0 dX12_qGoesOn_189 rfl rfl ?_
        refine q_geti fl_X12_321 sh_94 (q_inO hO2 sh_94) rfl dX12_qGoesOn_190 ?_
        refine q_iload_n 1 dX12_qGoesOn_193 rfl rfl ?_
        refine q_iast sh_163 (q_inA hO2 sh_163 (by decide)) dX12_qGoesOn_194 (fun M3 _ _ hM3 => ?_)
        have hO3 : q_Ok M3 := by rw [hM3]; exact q_Ok_arr (t := 0) hO2 sh_163 (by decide)
        refine q_aload_n 0 dX12_qGoesOn_195 rfl rfl ?_
        refine q_dup dX12_qGoesOn_196 rfl ?_
        refine q_geti fl_X12_321 sh_94 (q_inO hO3 sh_94) rfl dX12_qGoesOn_197 ?_
        refine q_iconst dX12_qGoesOn_200 ?_
        refine q_iadd dX12_qGoesOn_201 ?_
        refine q_puti fl_X12_321 sh_94 (q_inO hO3 sh_94) (fun h => q_Ok_put h sh_94 rfl) rfl dX12_qGoesOn_202 (fun M4 hM4 => ?_)
        have hO4 : q_Ok M4 := by rw [hM4]; exact q_Ok_put hO3 sh_94 rfl
        refine q_iconst dX12_qGoesOn_205 ?_
        exact q_ret ⟨dX12_qGoesOn_206, by decide⟩ rfl
      · refine q_sub [0, 1] rfl ?_
        exact tX12_qGoesOn_178 hd (fX12_qGoesOn_162 n) ih x1 M2 hO2
def fX12_qGoesOn_161 (s0 : Int) (M : q_Mem) : Option (Int × q_Mem) := (fX12_qGoesOn_162 q_FU s0 M)
theorem tX12_qGoesOn_161 {d : Nat} (hd : 2 ≤ d) (s0 : Int) (M : q_Mem) (hO : q_Ok M) : q_EX (d + 1) yX12_qGoesOn cX12_qGoesOn 2 (some .boolean) 161 [(0, .inr (.inr 94))] [.inl s0] M (fX12_qGoesOn_161 s0 M) := by
  unfold fX12_qGoesOn_161
  refine q_istore_n (ls' := [(1, .inl s0), (0, .inr (.inr 94))]) dX12_qGoesOn_161 rfl (by decide) rfl ?_
  refine q_sub [1, 0] rfl ?_
  exact tX12_qGoesOn_162 hd q_FU s0 M hO
def fX12_qGoesOn_140 (M : q_Mem) : Option (Int × q_Mem) := (q_ld M 95 1600 ((M.2 94 2) - 1)).bind fun x21 => if q_w x21 = q_w 42 then ((fX12_qGoesOn_161 3 M)) else ((fX12_qGoesOn_161 4 M))
theorem tX12_qGoesOn_140 {d : Nat} (hd : 2 ≤ d) (M : q_Mem) (hO : q_Ok M) : q_EX (d + 1) yX12_qGoesOn cX12_qGoesOn 2 (some .boolean) 140 [(0, .inr (.inr 94))] [] M (fX12_qGoesOn_140 M) := by
  unfold fX12_qGoesOn_140
  refine q_aload_n 0 dX12_qGoesOn_140 rfl rfl ?_
  refine q_getx fl_X12_7 hO sh_94 rfl fx_94_0 dX12_qGoesOn_141 ?_
  refine q_aload_n 0 dX12_qGoesOn_144 rfl rfl ?_
  refine q_geti fl_X12_243 sh_94 (q_inO hO sh_94) rfl dX12_qGoesOn_145 ?_
  refine q_iconst dX12_qGoesOn_148 ?_
  refine q_isub dX12_qGoesOn_149 ?_
  refine q_iald sh_95 (q_inA hO sh_95 (by decide)) dX12_qGoesOn_150 (fun x21 _ _ _ => ?_)
  refine q_bipush dX12_qGoesOn_151 (by decide) ?_
  refine q_icmpne (tgt := 160) dX12_qGoesOn_153 (by decide) ?_ ?_
  · refine q_iconst dX12_qGoesOn_160 ?_
    refine q_sub [0] rfl ?_
    exact tX12_qGoesOn_161 hd 4 M hO
  · refine q_iconst dX12_qGoesOn_156 ?_
    refine q_goto (tgt := 161) dX12_qGoesOn_157 (by decide) ?_
    refine q_sub [0] rfl ?_
    exact tX12_qGoesOn_161 hd 3 M hO
def fX12_qGoesOn_279 (K247 : Int → q_Mem → Option (Int × q_Mem)) (x1 : Int) (M : q_Mem) : Option (Int × q_Mem) := q_bd (fX12_qDrops M) fun _ M1 => (K247 x1 M1)
theorem tX12_qGoesOn_279 {d : Nat} (hd : 2 ≤ d) (K247 : Int → q_Mem → Option (Int × q_Mem)) (hK247 : ∀ (x1 : Int) (M : q_Mem), q_Ok M → q_EX (d + 1) yX12_qGoesOn cX12_qGoesOn 2 (some .boolean) 247 [(0, .inr (.inr 94)), (1, .inl x1)] [] M (K247 x1 M)) (x1 : Int) (M : q_Mem) (hO : q_Ok M) : q_EX (d + 1) yX12_qGoesOn cX12_qGoesOn 2 (some .boolean) 279 [(0, .inr (.inr 94)), (1, .inl x1)] [] M (fX12_qGoesOn_279 K247 x1 M) := by
  unfold fX12_qGoesOn_279
  refine q_aload_n 0 dX12_qGoesOn_279 rfl rfl ?_
  refine q_callVv (As := []) hO mb_X12_qDrops mv_X12_qDrops ml_X12_528 sh_94 rfl dX12_qGoesOn_280 (fun _ => rfl) rfl (Nat.le_of_ble_eq_true rfl) rfl (Nat.le_of_ble_eq_true rfl) (tX12_qDrops (by omega) M hO) (fun _ M1 _ hO1 => ?_)
  refine q_goto (tgt := 247) dX12_qGoesOn_283 (by decide) ?_
  refine q_sub [0, 1] rfl ?_
  exact hK247 x1 M1 hO1
def fX12_qGoesOn_247  : Nat → Int → q_Mem → Option (Int × q_Mem)
  | 0, _, _ => none
  | n + 1, x1, M => q_bd (fX12_qIsOn 3 M) fun x21 M1 => if q_w x21 = 0 then (q_bd (fX12_qIsOn 4 M1) fun x22 M2 => if q_w x22 = 0 then (q_bd (fX12_qIsOn 1 M2) fun x23 M3 => if q_w x23 = 0 then (q_bd (fX12_qIsOn 2 M3) fun x24 M4 => if q_w x24 = 0 then ((q_sto M4 163 1700 (M4.2 94 93) x1).bind fun M5 => q_let (q_up M5 94 93 ((M5.2 94 93) + 1)) fun M6 => some (1, M6)) else ((fX12_qGoesOn_279 (fX12_qGoesOn_247 n) x1 M4))) else ((fX12_qGoesOn_279 (fX12_qGoesOn_247 n) x1 M3))) else ((fX12_qGoesOn_279 (fX12_qGoesOn_247 n) x1 M2))) else ((fX12_qGoesOn_279 (fX12_qGoesOn_247 n) x1 M1))
theorem tX12_qGoesOn_247 {d : Nat} (hd : 2 ≤ d) : ∀ (n : Nat) (x1 : Int) (M : q_Mem), q_Ok M → q_EX (d + 1) yX12_qGoesOn cX12_qGoesOn 2 (some .boolean) 247 [(0, .inr (.inr 94)), (1, .inl x1)] [] M (fX12_qGoesOn_247 n x1 M) := by
  intro n
  induction n with
  | zero => intro x1 M hO; exact q_none
  | succ n ih =>
    intro x1 M hO
    rw [fX12_qGoesOn_247]
    refine q_aload_n 0 dX12_qGoesOn_247 rfl rfl ?_
    refine q_iconst dX12_qGoesOn_248 ?_
    refine q_callVi (As := [.inl 3]) hO mb_X12_qIsOn mv_X12_qIsOn ml_X12_555 sh_94 rfl dX12_qGoesOn_249 (fun _ => rfl) rfl (Nat.le_of_ble_eq_true rfl) rfl (Nat.le_of_ble_eq_true rfl) (tX12_qIsOn 3 M hO) (fun x21 M1 _ hO1 => ?_)
    refine q_ifne (tgt := 279) dX12_qGoesOn_252 (by decide) ?_ ?_
    · refine q_sub [0, 1] rfl ?_
      exact tX12_qGoesOn_279 hd (fX12_qGoesOn_247 n) ih x1 M1 hO1
    · refine q_aload_n 0 dX12_qGoesOn_255 rfl rfl ?_
      refine q_iconst dX12_qGoesOn_256 ?_
      refine q_callVi (As := [.inl 4]) hO1 mb_X12_qIsOn mv_X12_qIsOn ml_X12_555 sh_94 rfl dX12_qGoesOn_257 (fun _ => rfl) rfl (Nat.le_of_ble_eq_true rfl) rfl (Nat.le_of_ble_eq_true rfl) (tX12_qIsOn 4 M1 hO1) (fun x22 M2 _ hO2 => ?_)
      refine q_ifne (tgt := 279) dX12_qGoesOn_260 (by decide) ?_ ?_
      · refine q_sub [0, 1] rfl ?_
        exact tX12_qGoesOn_279 hd (fX12_qGoesOn_247 n) ih x1 M2 hO2
      · refine q_aload_n 0 dX12_qGoesOn_263 rfl rfl ?_
        refine q_iconst dX12_qGoesOn_264 ?_
        refine q_callVi (As := [.inl 1]) hO2 mb_X12_qIsOn mv_X12_qIsOn ml_X12_555 sh_94 rfl dX12_qGoesOn_265 (fun _ => rfl) rfl (Nat.le_of_ble_eq_true rfl) rfl (Nat.le_of_ble_eq_true rfl) (tX12_qIsOn 1 M2 hO2) (fun x23 M3 _ hO3 => ?_)
        refine q_ifne (tgt := 279) dX12_qGoesOn_268 (by decide) ?_ ?_
        · refine q_sub [0, 1] rfl ?_
          exact tX12_qGoesOn_279 hd (fX12_qGoesOn_247 n) ih x1 M3 hO3
        · refine q_aload_n 0 dX12_qGoesOn_271 rfl rfl ?_
          refine q_iconst dX12_qGoesOn_272 ?_
          refine q_callVi (As := [.inl 2]) hO3 mb_X12_qIsOn mv_X12_qIsOn ml_X12_555 sh_94 rfl dX12_qGoesOn_273 (fun _ => rfl) rfl (Nat.le_of_ble_eq_true rfl) rfl (Nat.le_of_ble_eq_true rfl) (tX12_qIsOn 2 M3 hO3) (fun x24 M4 _ hO4 => ?_)
          refine q_ifeq (tgt := 286) dX12_qGoesOn_276 (by decide) ?_ ?_
          · refine q_aload_n 0 dX12_qGoesOn_286 rfl rfl ?_
            refine q_getx fl_X12_225 hO4 sh_94 rfl fx_94_92 dX12_qGoesOn_287 ?_
            refine q_aload_n 0 dX12_qGoesOn_290 rfl rfl ?_
            refine q_geti fl_X12_321 sh_94 (q_inO hO4 sh_94) rfl dX12_qGoesOn_291 ?_
            refine q_iload_n 1 dX12_qGoesOn_294 rfl rfl ?_
            refine q_iast sh_163 (q_inA hO4 sh_163 (by decide)) dX12_qGoesOn_295 (fun M5 _ _ hM5 => ?_)
            have hO5 : q_Ok M5 := by rw [hM5]; exact q_Ok_arr (t := 0) hO4 sh_163 (by decide)
            refine q_aload_n 0 dX12_qGoesOn_296 rfl rfl ?_
            refine q_dup dX12_qGoesOn_297 rfl ?_
            refine q_geti fl_X12_321 sh_94 (q_inO hO5 sh_94) rfl dX12_qGoesOn_298 ?_
            refine q_iconst dX12_qGoesOn_301 ?_
            refine q_iadd dX12_qGoesOn_302 ?_
            refine q_puti fl_X12_321 sh_94 (q_inO hO5 sh_94) (fun h => q_Ok_put h sh_94 rfl) rfl dX12_qGoesOn_303 (fun M6 hM6 => ?_)
            have hO6 : q_Ok M6 := by rw [hM6]; exact q_Ok_put hO5 sh_94 rfl
            refine q_iconst dX12_qGoesOn_306 ?_
            exact q_ret ⟨dX12_qGoesOn_307, by decide⟩ rfl
          · refine q_sub [0, 1] rfl ?_
            exact tX12_qGoesOn_279 hd (fX12_qGoesOn_247 n) ih x1 M4 hO4
def fX12_qGoesOn_246 (s0 : Int) (M : q_Mem) : Option (Int × q_Mem) := (fX12_qGoesOn_247 q_FU s0 M)
theorem tX12_qGoesOn_246 {d : Nat} (hd : 2 ≤ d) (s0 : Int) (M : q_Mem) (hO : q_Ok M) : q_EX (d + 1) yX12_qGoesOn cX12_qGoesOn 2 (some .boolean) 246 [(0, .inr (.inr 94))] [.inl s0] M (fX12_qGoesOn_246 s0 M) := by
  unfold fX12_qGoesOn_246
  refine q_istore_n (ls' := [(1, .inl s0), (0, .inr (.inr 94))]) dX12_qGoesOn_246 rfl (by decide) rfl ?_
  refine q_sub [1, 0] rfl ?_
  exact tX12_qGoesOn_247 hd q_FU s0 M hO
def fX12_qGoesOn_225 (M : q_Mem) : Option (Int × q_Mem) := (q_ld M 95 1600 ((M.2 94 2) - 1)).bind fun x21 => if q_w x21 = q_w 43 then ((fX12_qGoesOn_246 1 M)) else ((fX12_qGoesOn_246 2 M))
theorem tX12_qGoesOn_225 {d : Nat} (hd : 2 ≤ d) (M : q_Mem) (hO : q_Ok M) : q_EX (d + 1) yX12_qGoesOn cX12_qGoesOn 2 (some .boolean) 225 [(0, .inr (.inr 94))] [] M (fX12_qGoesOn_225 M) := by
  unfold fX12_qGoesOn_225
  refine q_aload_n 0 dX12_qGoesOn_225 rfl rfl ?_
  refine q_getx fl_X12_7 hO sh_94 rfl fx_94_0 dX12_qGoesOn_226 ?_
  refine q_aload_n 0 dX12_qGoesOn_229 rfl rfl ?_
  refine q_geti fl_X12_243 sh_94 (q_inO hO sh_94) rfl dX12_qGoesOn_230 ?_
  refine q_iconst dX12_qGoesOn_233 ?_
  refine q_isub dX12_qGoesOn_234 ?_
  refine q_iald sh_95 (q_inA hO sh_95 (by decide)) dX12_qGoesOn_235 (fun x21 _ _ _ => ?_)
  refine q_bipush dX12_qGoesOn_236 (by decide) ?_
  refine q_icmpne (tgt := 245) dX12_qGoesOn_238 (by decide) ?_ ?_
  · refine q_iconst dX12_qGoesOn_245 ?_
    refine q_sub [0] rfl ?_
    exact tX12_qGoesOn_246 hd 2 M hO
  · refine q_iconst dX12_qGoesOn_241 ?_
    refine q_goto (tgt := 246) dX12_qGoesOn_242 (by decide) ?_
    refine q_sub [0] rfl ?_
    exact tX12_qGoesOn_246 hd 1 M hO
def fX12_qGoesOn_326 (M : q_Mem) : Option (Int × q_Mem) := q_bd (fX12_asksSign 44 M) fun _ M1 => if q_w (M1.2 94 5) = 0 then (q_bd (fX12_qDropsToBracket M1) fun _ M2 => q_let ((M2.2 94 93) - 1) fun x21 => (q_ld M2 163 1700 x21).bind fun x22 => (q_sto M2 163 1700 x21 (x22 + 2)).bind fun M3 => some (1, M3)) else (some (0, M1))
theorem tX12_qGoesOn_326 {d : Nat} (hd : 2 ≤ d) (M : q_Mem) (hO : q_Ok M) : q_EX (d + 1) yX12_qGoesOn cX12_qGoesOn 2 (some .boolean) 326 [(0, .inr (.inr 94))] [] M (fX12_qGoesOn_326 M) := by
  unfold fX12_qGoesOn_326
  refine q_aload_n 0 dX12_qGoesOn_326 rfl rfl ?_
  refine q_bipush dX12_qGoesOn_327 (by decide) ?_
  refine q_callVv (As := [.inl 44]) hO mb_X12_asksSign mv_X12_asksSign ml_X12_307 sh_94 rfl dX12_qGoesOn_329 (fun _ => rfl) rfl (Nat.le_of_ble_eq_true rfl) rfl (Nat.le_of_ble_eq_true rfl) (tX12_asksSign (by omega) 44 M hO) (fun _ M1 _ hO1 => ?_)
  refine q_aload_n 0 dX12_qGoesOn_332 rfl rfl ?_
  refine q_geti fl_X12_237 sh_94 (q_inO hO1 sh_94) rfl dX12_qGoesOn_333 ?_
  refine q_ifeq (tgt := 341) dX12_qGoesOn_336 (by decide) ?_ ?_
  · refine q_aload_n 0 dX12_qGoesOn_341 rfl rfl ?_
    refine q_callVv (As := []) hO1 mb_X12_qDropsToBracket mv_X12_qDropsToBracket ml_X12_552 sh_94 rfl dX12_qGoesOn_342 (fun _ => rfl) rfl (Nat.le_of_ble_eq_true rfl) rfl (Nat.le_of_ble_eq_true rfl) (tX12_qDropsToBracket (by omega) M1 hO1) (fun _ M2 _ hO2 => ?_)
    refine q_aload_n 0 dX12_qGoesOn_345 rfl rfl ?_
    refine q_getx fl_X12_225 hO2 sh_94 rfl fx_94_92 dX12_qGoesOn_346 ?_
    refine q_aload_n 0 dX12_qGoesOn_349 rfl rfl ?_
    refine q_geti fl_X12_321 sh_94 (q_inO hO2 sh_94) rfl dX12_qGoesOn_350 ?_
    refine q_iconst dX12_qGoesOn_353 ?_
    refine q_isub dX12_qGoesOn_354 ?_
    refine q_nameI (fun x21 _ => ?_)
    refine q_dup2 dX12_qGoesOn_355 rfl rfl ?_
    refine q_iald sh_163 (q_inA hO2 sh_163 (by decide)) dX12_qGoesOn_356 (fun x22 _ _ _ => ?_)
    refine q_iconst dX12_qGoesOn_357 ?_
    refine q_iadd dX12_qGoesOn_358 ?_
    refine q_iast sh_163 (q_inA hO2 sh_163 (by decide)) dX12_qGoesOn_359 (fun M3 _ _ hM3 => ?_)
    have hO3 : q_Ok M3 := by rw [hM3]; exact q_Ok_arr (t := 0) hO2 sh_163 (by decide)
    refine q_iconst dX12_qGoesOn_360 ?_
    exact q_ret ⟨dX12_qGoesOn_361, by decide⟩ rfl
  · refine q_iconst dX12_qGoesOn_339 ?_
    exact q_ret ⟨dX12_qGoesOn_340, by decide⟩ rfl
def fX12_qGoesOn_122 (M : q_Mem) : Option (Int × q_Mem) := q_bd (fX12_takesSign 42 M) fun x21 M1 => if q_w x21 = 0 then (q_bd (fX12_takesSign 47 M1) fun x22 M2 => if q_w x22 = 0 then (q_bd (fX12_takesSign 43 M2) fun x23 M3 => if q_w x23 = 0 then (q_bd (fX12_takesSign 45 M3) fun x24 M4 => if q_w x24 = 0 then (q_bd (fX12_qBracket M4) fun x25 M5 => if q_w x25 = q_w 21 then ((fX12_qGoesOn_326 M5)) else (q_bd (fX12_qBracket M5) fun x26 M6 => if q_w x26 = q_w 22 then ((fX12_qGoesOn_326 M6)) else (q_bd (fX12_qBracket M6) fun x27 M7 => if q_w x27 = q_w (-1) then (some (0, M7)) else (if q_w (M7.2 94 5) = 0 then (q_bd (fX12_fail 1 (M7.2 94 2) M7) fun _ M8 => some (0, M8)) else (some (0, M7)))))) else ((fX12_qGoesOn_225 M4))) else ((fX12_qGoesOn_225 M3))) else ((fX12_qGoesOn_140 M2))) else ((fX12_qGoesOn_140 M1))
theorem tX12_qGoesOn_122 {d : Nat} (hd : 2 ≤ d) (M : q_Mem) (hO : q_Ok M) : q_EX (d + 1) yX12_qGoesOn cX12_qGoesOn 2 (some .boolean) 122 [(0, .inr (.inr 94))] [] M (fX12_qGoesOn_122 M) := by
  unfold fX12_qGoesOn_122
  refine q_aload_n 0 dX12_qGoesOn_122 rfl rfl ?_
  refine q_bipush dX12_qGoesOn_123 (by decide) ?_
  refine q_callVi (As := [.inl 42]) hO mb_X12_takesSign mv_X12_takesSign ml_X12_271 sh_94 rfl dX12_qGoesOn_125 (fun _ => rfl) rfl (Nat.le_of_ble_eq_true rfl) rfl (Nat.le_of_ble_eq_true rfl) (tX12_takesSign (by omega) 42 M hO) (fun x21 M1 _ hO1 => ?_)
  refine q_ifne (tgt := 140) dX12_qGoesOn_128 (by decide) ?_ ?_
  · refine q_sub [0] rfl ?_
    exact tX12_qGoesOn_140 hd M1 hO1
  · refine q_aload_n 0 dX12_qGoesOn_131 rfl rfl ?_
    refine q_bipush dX12_qGoesOn_132 (by decide) ?_
    refine q_callVi (As := [.inl 47]) hO1 mb_X12_takesSign mv_X12_takesSign ml_X12_271 sh_94 rfl dX12_qGoesOn_134 (fun _ => rfl) rfl (Nat.le_of_ble_eq_true rfl) rfl (Nat.le_of_ble_eq_true rfl) (tX12_takesSign (by omega) 47 M1 hO1) (fun x22 M2 _ hO2 => ?_)
    refine q_ifeq (tgt := 207) dX12_qGoesOn_137 (by decide) ?_ ?_
    · refine q_aload_n 0 dX12_qGoesOn_207 rfl rfl ?_
      refine q_bipush dX12_qGoesOn_208 (by decide) ?_
      refine q_callVi (As := [.inl 43]) hO2 mb_X12_takesSign mv_X12_takesSign ml_X12_271 sh_94 rfl dX12_qGoesOn_210 (fun _ => rfl) rfl (Nat.le_of_ble_eq_true rfl) rfl (Nat.le_of_ble_eq_true rfl) (tX12_takesSign (by omega) 43 M2 hO2) (fun x23 M3 _ hO3 => ?_)
      refine q_ifne (tgt := 225) dX12_qGoesOn_213 (by decide) ?_ ?_
      · refine q_sub [0] rfl ?_
        exact tX12_qGoesOn_225 hd M3 hO3
      · refine q_aload_n 0 dX12_qGoesOn_216 rfl rfl ?_
        refine q_bipush dX12_qGoesOn_217 (by decide) ?_
        refine q_callVi (As := [.inl 45]) hO3 mb_X12_takesSign mv_X12_takesSign ml_X12_271 sh_94 rfl dX12_qGoesOn_219 (fun _ => rfl) rfl (Nat.le_of_ble_eq_true rfl) rfl (Nat.le_of_ble_eq_true rfl) (tX12_takesSign (by omega) 45 M3 hO3) (fun x24 M4 _ hO4 => ?_)
        refine q_ifeq (tgt := 308) dX12_qGoesOn_222 (by decide) ?_ ?_
        · refine q_aload_n 0 dX12_qGoesOn_308 rfl rfl ?_
          refine q_callVi (As := []) hO4 mb_X12_qBracket mv_X12_qBracket ml_X12_549 sh_94 rfl dX12_qGoesOn_309 (fun _ => rfl) rfl (Nat.le_of_ble_eq_true rfl) rfl (Nat.le_of_ble_eq_true rfl) (tX12_qBracket (by omega) M4 hO4) (fun x25 M5 _ hO5 => ?_)
          refine q_bipush dX12_qGoesOn_312 (by decide) ?_
          refine q_icmpeq (tgt := 326) dX12_qGoesOn_314 (by decide) ?_ ?_
          · refine q_sub [0] rfl ?_
            exact tX12_qGoesOn_326 hd M5 hO5
          · refine q_aload_n 0 dX12_qGoesOn_317 rfl rfl ?_
            refine q_callVi (As := []) hO5 mb_X12_qBracket mv_X12_qBracket ml_X12_549 sh_94 rfl dX12_qGoesOn_318 (fun _ => rfl) rfl (Nat.le_of_ble_eq_true rfl) rfl (Nat.le_of_ble_eq_true rfl) (tX12_qBracket (by omega) M5 hO5) (fun x26 M6 _ hO6 => ?_)
            refine q_bipush dX12_qGoesOn_321 (by decide) ?_
            refine q_icmpne (tgt := 362) dX12_qGoesOn_323 (by decide) ?_ ?_
            · refine q_aload_n 0 dX12_qGoesOn_362 rfl rfl ?_
              refine q_callVi (As := []) hO6 mb_X12_qBracket mv_X12_qBracket ml_X12_549 sh_94 rfl dX12_qGoesOn_363 (fun _ => rfl) rfl (Nat.le_of_ble_eq_true rfl) rfl (Nat.le_of_ble_eq_true rfl) (tX12_qBracket (by omega) M6 hO6) (fun x27 M7 _ hO7 => ?_)
              refine q_iconst dX12_qGoesOn_366 ?_
              refine q_icmpeq (tgt := 386) dX12_qGoesOn_367 (by decide) ?_ ?_
              · refine q_iconst dX12_qGoesOn_386 ?_
                exact q_ret ⟨dX12_qGoesOn_387, by decide⟩ rfl
              · refine q_aload_n 0 dX12_qGoesOn_370 rfl rfl ?_
                refine q_geti fl_X12_237 sh_94 (q_inO hO7 sh_94) rfl dX12_qGoesOn_371 ?_
                refine q_ifne (tgt := 386) dX12_qGoesOn_374 (by decide) ?_ ?_
                · refine q_iconst dX12_qGoesOn_386 ?_
                  exact q_ret ⟨dX12_qGoesOn_387, by decide⟩ rfl
                · refine q_aload_n 0 dX12_qGoesOn_377 rfl rfl ?_
                  refine q_iconst dX12_qGoesOn_378 ?_
                  refine q_aload_n 0 dX12_qGoesOn_379 rfl rfl ?_
                  refine q_geti fl_X12_243 sh_94 (q_inO hO7 sh_94) rfl dX12_qGoesOn_380 ?_
                  refine q_callVv (As := [.inl 1, .inl (M7.2 94 2)]) hO7 mb_X12_fail mv_X12_fail ml_X12_267 sh_94 rfl dX12_qGoesOn_383 (fun _ => rfl) rfl (Nat.le_of_ble_eq_true rfl) rfl (Nat.le_of_ble_eq_true rfl) (tX12_fail 1 (M7.2 94 2) M7 hO7) (fun _ M8 _ hO8 => ?_)
                  refine q_iconst dX12_qGoesOn_386 ?_
                  exact q_ret ⟨dX12_qGoesOn_387, by decide⟩ rfl
            · refine q_sub [0] rfl ?_
              exact tX12_qGoesOn_326 hd M6 hO6
        · refine q_sub [0] rfl ?_
          exact tX12_qGoesOn_225 hd M4 hO4
    · refine q_sub [0] rfl ?_
      exact tX12_qGoesOn_140 hd M2 hO2
def fX12_qGoesOn_0  : Nat → q_Mem → Option (Int × q_Mem)
  | 0, _ => none
  | n + 1, M => if q_w (M.2 94 5) = 0 then (q_bd (fX12_look M) fun x21 M1 => if q_w x21 = q_w 41 then (q_bd (fX12_qBracket M1) fun x22 M2 => if q_w x22 = q_w 20 then ((fX12_qGoesOn_43 (fX12_qGoesOn_0 n) M2)) else (q_bd (fX12_qBracket M2) fun x23 M3 => if q_w x23 = q_w 23 then ((fX12_qGoesOn_43 (fX12_qGoesOn_0 n) M3)) else (q_bd (fX12_qBracket M3) fun x24 M4 => if q_w x24 = q_w 24 then ((fX12_qGoesOn_43 (fX12_qGoesOn_0 n) M4)) else ((fX12_qGoesOn_122 M4))))) else ((fX12_qGoesOn_122 M1))) else ((fX12_qGoesOn_122 M))
theorem tX12_qGoesOn_0 {d : Nat} (hd : 2 ≤ d) : ∀ (n : Nat)  (M : q_Mem), q_Ok M → q_EX (d + 1) yX12_qGoesOn cX12_qGoesOn 2 (some .boolean) 0 [(0, .inr (.inr 94))] [] M (fX12_qGoesOn_0 n M) := by
  intro n
  induction n with
  | zero => intro M hO; exact q_none
  | succ n ih =>
    intro M hO
    rw [fX12_qGoesOn_0]
    refine q_aload_n 0 dX12_qGoesOn_0 rfl rfl ?_
    refine q_geti fl_X12_237 sh_94 (q_inO hO sh_94) rfl dX12_qGoesOn_1 ?_
    refine q_ifne (tgt := 122) dX12_qGoesOn_4 (by decide) ?_ ?_
    · refine q_sub [0] rfl ?_
      exact tX12_qGoesOn_122 hd M hO
    · refine q_aload_n 0 dX12_qGoesOn_7 rfl rfl ?_
      refine q_callVi (As := []) hO mb_X12_look mv_X12_look ml_X12_249 sh_94 rfl dX12_qGoesOn_8 (fun _ => rfl) rfl (Nat.le_of_ble_eq_true rfl) rfl (Nat.le_of_ble_eq_true rfl) (tX12_look M hO) (fun x21 M1 _ hO1 => ?_)
      refine q_bipush dX12_qGoesOn_11 (by decide) ?_
      refine q_icmpne (tgt := 122) dX12_qGoesOn_13 (by decide) ?_ ?_
      · refine q_sub [0] rfl ?_
        exact tX12_qGoesOn_122 hd M1 hO1
      · refine q_aload_n 0 dX12_qGoesOn_16 rfl rfl ?_
        refine q_callVi (As := []) hO1 mb_X12_qBracket mv_X12_qBracket ml_X12_549 sh_94 rfl dX12_qGoesOn_17 (fun _ => rfl) rfl (Nat.le_of_ble_eq_true rfl) rfl (Nat.le_of_ble_eq_true rfl) (tX12_qBracket (by omega) M1 hO1) (fun x22 M2 _ hO2 => ?_)
        refine q_bipush dX12_qGoesOn_20 (by decide) ?_
        refine q_icmpeq (tgt := 43) dX12_qGoesOn_22 (by decide) ?_ ?_
        · refine q_sub [0] rfl ?_
          exact tX12_qGoesOn_43 hd (fX12_qGoesOn_0 n) ih M2 hO2
        · refine q_aload_n 0 dX12_qGoesOn_25 rfl rfl ?_
          refine q_callVi (As := []) hO2 mb_X12_qBracket mv_X12_qBracket ml_X12_549 sh_94 rfl dX12_qGoesOn_26 (fun _ => rfl) rfl (Nat.le_of_ble_eq_true rfl) rfl (Nat.le_of_ble_eq_true rfl) (tX12_qBracket (by omega) M2 hO2) (fun x23 M3 _ hO3 => ?_)
          refine q_bipush dX12_qGoesOn_29 (by decide) ?_
          refine q_icmpeq (tgt := 43) dX12_qGoesOn_31 (by decide) ?_ ?_
          · refine q_sub [0] rfl ?_
            exact tX12_qGoesOn_43 hd (fX12_qGoesOn_0 n) ih M3 hO3
          · refine q_aload_n 0 dX12_qGoesOn_34 rfl rfl ?_
            refine q_callVi (As := []) hO3 mb_X12_qBracket mv_X12_qBracket ml_X12_549 sh_94 rfl dX12_qGoesOn_35 (fun _ => rfl) rfl (Nat.le_of_ble_eq_true rfl) rfl (Nat.le_of_ble_eq_true rfl) (tX12_qBracket (by omega) M3 hO3) (fun x24 M4 _ hO4 => ?_)
            refine q_bipush dX12_qGoesOn_38 (by decide) ?_
            refine q_icmpne (tgt := 122) dX12_qGoesOn_40 (by decide) ?_ ?_
            · refine q_sub [0] rfl ?_
              exact tX12_qGoesOn_122 hd M4 hO4
            · refine q_sub [0] rfl ?_
              exact tX12_qGoesOn_43 hd (fX12_qGoesOn_0 n) ih M4 hO4
def fX12_qGoesOn (M : q_Mem) : Option (Int × q_Mem) := (fX12_qGoesOn_0 q_FU M)
theorem tX12_qGoesOn {d : Nat} (hd : 3 ≤ d) (M : q_Mem) (hO : q_Ok M) : q_EX d yX12_qGoesOn cX12_qGoesOn 2 (some .boolean) 0 (q_args 0 [.inr (.inr 94)]) [] M (fX12_qGoesOn M) := by
  obtain ⟨d, rfl⟩ : ∃ d', d = d' + 1 := ⟨d - 1, by omega⟩
  have hd : 2 ≤ d := by omega
  show q_EX _ _ _ _ _ 0 [(0, .inr (.inr 94))] [] M _
  unfold fX12_qGoesOn
  refine q_sub [0] rfl ?_
  exact tX12_qGoesOn_0 hd q_FU M hO
def fX12_qSums_49 (K15 : Int → Int → q_Mem → Option (Int × q_Mem)) (x1 : Int) (s0 : Int) (M : q_Mem) : Option (Int × q_Mem) := (K15 x1 s0 M)
theorem tX12_qSums_49 {d : Nat} (hd : 5 ≤ d) (K15 : Int → Int → q_Mem → Option (Int × q_Mem)) (hK15 : ∀ (x1 : Int) (x2 : Int) (M : q_Mem), q_Ok M → q_EX (d + 1) yX12_qSums cX12_qSums 3 none 15 [(0, .inr (.inr 94)), (1, .inl x1), (2, .inl x2)] [] M (K15 x1 x2 M)) (x1 : Int) (s0 : Int) (M : q_Mem) (hO : q_Ok M) : q_EX (d + 1) yX12_qSums cX12_qSums 3 none 49 [(0, .inr (.inr 94)), (1, .inl x1)] [.inl s0] M (fX12_qSums_49 K15 x1 s0 M) := by
  unfold fX12_qSums_49
  refine q_istore_n (ls' := [(2, .inl s0), (0, .inr (.inr 94)), (1, .inl x1)]) dX12_qSums_49 rfl (by decide) rfl ?_
  refine q_goto (tgt := 15) dX12_qSums_50 (by decide) ?_
  refine q_sub [1, 2, 0] rfl ?_
  exact hK15 x1 s0 M hO
def fX12_qSums_48 (K15 : Int → Int → q_Mem → Option (Int × q_Mem)) (x1 : Int) (M : q_Mem) : Option (Int × q_Mem) := (fX12_qSums_49 K15 x1 0 M)
theorem tX12_qSums_48 {d : Nat} (hd : 5 ≤ d) (K15 : Int → Int → q_Mem → Option (Int × q_Mem)) (hK15 : ∀ (x1 : Int) (x2 : Int) (M : q_Mem), q_Ok M → q_EX (d + 1) yX12_qSums cX12_qSums 3 none 15 [(0, .inr (.inr 94)), (1, .inl x1), (2, .inl x2)] [] M (K15 x1 x2 M)) (x1 : Int) (M : q_Mem) (hO : q_Ok M) : q_EX (d + 1) yX12_qSums cX12_qSums 3 none 48 [(0, .inr (.inr 94)), (1, .inl x1)] [] M (fX12_qSums_48 K15 x1 M) := by
  unfold fX12_qSums_48
  refine q_iconst dX12_qSums_48 ?_
  refine q_sub [0, 1] rfl ?_
  exact tX12_qSums_49 hd K15 hK15 x1 0 M hO
def fX12_qSums_78 (x1 : Int) (M : q_Mem) : Option (Int × q_Mem) := q_let (q_up M 94 95 x1) fun M1 => some (0, M1)
theorem tX12_qSums_78 {d : Nat} (hd : 5 ≤ d) (x1 : Int) (M : q_Mem) (hO : q_Ok M) : q_EX (d + 1) yX12_qSums cX12_qSums 3 none 78 [(0, .inr (.inr 94)), (1, .inl x1)] [] M (fX12_qSums_78 x1 M) := by
  unfold fX12_qSums_78
  refine q_aload_n 0 dX12_qSums_78 rfl rfl ?_
  refine q_iload_n 1 dX12_qSums_79 rfl rfl ?_
  refine q_puti fl_X12_327 sh_94 (q_inO hO sh_94) (fun h => q_Ok_put h sh_94 rfl) rfl dX12_qSums_80 (fun M1 hM1 => ?_)
  have hO1 : q_Ok M1 := by rw [hM1]; exact q_Ok_put hO sh_94 rfl
  exact q_ret dX12_qSums_83 rfl
def fX12_qSums_53  : Nat → Int → q_Mem → Option (Int × q_Mem)
  | 0, _, _ => none
  | n + 1, x1, M => if q_w (M.2 94 5) = 0 then (if q_w (M.2 94 95) < q_w (M.2 94 93) then (q_bd (fX12_qDrops M) fun _ M1 => (fX12_qSums_53 n x1 M1)) else ((fX12_qSums_78 x1 M))) else ((fX12_qSums_78 x1 M))
theorem tX12_qSums_53 {d : Nat} (hd : 5 ≤ d) : ∀ (n : Nat) (x1 : Int) (M : q_Mem), q_Ok M → q_EX (d + 1) yX12_qSums cX12_qSums 3 none 53 [(0, .inr (.inr 94)), (1, .inl x1)] [] M (fX12_qSums_53 n x1 M) := by
  intro n
  induction n with
  | zero => intro x1 M hO; exact q_none
  | succ n ih =>
    intro x1 M hO
    rw [fX12_qSums_53]
    refine q_aload_n 0 dX12_qSums_53 rfl rfl ?_
    refine q_geti fl_X12_237 sh_94 (q_inO hO sh_94) rfl dX12_qSums_54 ?_
    refine q_ifne (tgt := 78) dX12_qSums_57 (by decide) ?_ ?_
    · refine q_sub [0, 1] rfl ?_
      exact tX12_qSums_78 hd x1 M hO
    · refine q_aload_n 0 dX12_qSums_60 rfl rfl ?_
      refine q_geti fl_X12_321 sh_94 (q_inO hO sh_94) rfl dX12_qSums_61 ?_
      refine q_aload_n 0 dX12_qSums_64 rfl rfl ?_
      refine q_geti fl_X12_327 sh_94 (q_inO hO sh_94) rfl dX12_qSums_65 ?_
      refine q_icmple (tgt := 78) dX12_qSums_68 (by decide) ?_ ?_
      · refine q_sub [0, 1] rfl ?_
        exact tX12_qSums_78 hd x1 M hO
      · refine q_aload_n 0 dX12_qSums_71 rfl rfl ?_
        refine q_callVv (As := []) hO mb_X12_qDrops mv_X12_qDrops ml_X12_528 sh_94 rfl dX12_qSums_72 (fun _ => rfl) rfl (Nat.le_of_ble_eq_true rfl) rfl (Nat.le_of_ble_eq_true rfl) (tX12_qDrops (by omega) M hO) (fun _ M1 _ hO1 => ?_)
        refine q_goto (tgt := 53) dX12_qSums_75 (by decide) ?_
        refine q_sub [0, 1] rfl ?_
        exact ih x1 M1 hO1
def fX12_qSums_15  : Nat → Int → Int → q_Mem → Option (Int × q_Mem)
  | 0, _, _, _ => none
  | n + 1, x1, x2, M => if q_w x2 = 0 then ((fX12_qSums_53 q_FU x1 M)) else (if q_w (M.2 94 5) = 0 then (q_bd (fX12_qPartTold M) fun _ M1 => if q_w (M1.2 94 5) = 0 then (q_bd (fX12_qGoesOn M1) fun x21 M2 => if q_w x21 = 0 then ((fX12_qSums_48 (fX12_qSums_15 n) x1 M2)) else ((fX12_qSums_49 (fX12_qSums_15 n) x1 1 M2))) else ((fX12_qSums_48 (fX12_qSums_15 n) x1 M1))) else ((fX12_qSums_53 q_FU x1 M)))
theorem tX12_qSums_15 {d : Nat} (hd : 5 ≤ d) : ∀ (n : Nat) (x1 : Int) (x2 : Int) (M : q_Mem), q_Ok M → q_EX (d + 1) yX12_qSums cX12_qSums 3 none 15 [(0, .inr (.inr 94)), (1, .inl x1), (2, .inl x2)] [] M (fX12_qSums_15 n x1 x2 M) := by
  intro n
  induction n with
  | zero => intro x1 x2 M hO; exact q_none
  | succ n ih =>
    intro x1 x2 M hO
    rw [fX12_qSums_15]
    refine q_iload_n 2 dX12_qSums_15 rfl rfl ?_
    refine q_ifeq (tgt := 53) dX12_qSums_16 (by decide) ?_ ?_
    · refine q_sub [0, 1] rfl ?_
      exact tX12_qSums_53 hd q_FU x1 M hO
    · refine q_aload_n 0 dX12_qSums_19 rfl rfl ?_
      refine q_geti fl_X12_237 sh_94 (q_inO hO sh_94) rfl dX12_qSums_20 ?_
      refine q_ifne (tgt := 53) dX12_qSums_23 (by decide) ?_ ?_
      · refine q_sub [0, 1] rfl ?_
        exact tX12_qSums_53 hd q_FU x1 M hO
      · refine q_aload_n 0 dX12_qSums_26 rfl rfl ?_
        refine q_callVv (As := []) hO mb_X12_qPartTold mv_X12_qPartTold ml_X12_558 sh_94 rfl dX12_qSums_27 (fun _ => rfl) rfl (Nat.le_of_ble_eq_true rfl) rfl (Nat.le_of_ble_eq_true rfl) (tX12_qPartTold (by omega) M hO) (fun _ M1 _ hO1 => ?_)
        refine q_aload_n 0 dX12_qSums_30 rfl rfl ?_
        refine q_geti fl_X12_237 sh_94 (q_inO hO1 sh_94) rfl dX12_qSums_31 ?_
        refine q_ifne (tgt := 48) dX12_qSums_34 (by decide) ?_ ?_
        · refine q_sub [0, 1] rfl ?_
          exact tX12_qSums_48 hd (fX12_qSums_15 n) ih x1 M1 hO1
        · refine q_aload_n 0 dX12_qSums_37 rfl rfl ?_
          refine q_callVi (As := []) hO1 mb_X12_qGoesOn mv_X12_qGoesOn ml_X12_561 sh_94 rfl dX12_qSums_38 (fun _ => rfl) rfl (Nat.le_of_ble_eq_true rfl) rfl (Nat.le_of_ble_eq_true rfl) (tX12_qGoesOn (by omega) M1 hO1) (fun x21 M2 _ hO2 => ?_)
          refine q_ifeq (tgt := 48) dX12_qSums_41 (by decide) ?_ ?_
          · refine q_sub [0, 1] rfl ?_
            exact tX12_qSums_48 hd (fX12_qSums_15 n) ih x1 M2 hO2
          · refine q_iconst dX12_qSums_44 ?_
            refine q_goto (tgt := 49) dX12_qSums_45 (by decide) ?_
            refine q_sub [0, 1] rfl ?_
            exact tX12_qSums_49 hd (fX12_qSums_15 n) ih x1 1 M2 hO2
def fX12_qSums (M : q_Mem) : Option (Int × q_Mem) := q_let (M.2 94 95) fun x21 => q_let (q_up M 94 95 (M.2 94 93)) fun M1 => (fX12_qSums_15 q_FU x21 1 M1)
theorem tX12_qSums {d : Nat} (hd : 6 ≤ d) (M : q_Mem) (hO : q_Ok M) : q_EX d yX12_qSums cX12_qSums 3 none 0 (q_args 0 [.inr (.inr 94)]) [] M (fX12_qSums M) := by
  obtain ⟨d, rfl⟩ : ∃ d', d = d' + 1 := ⟨d - 1, by omega⟩
  have hd : 5 ≤ d := by omega
  show q_EX _ _ _ _ _ 0 [(0, .inr (.inr 94))] [] M _
  unfold fX12_qSums
  refine q_aload_n 0 dX12_qSums_0 rfl rfl ?_
  refine q_geti fl_X12_327 sh_94 (q_inO hO sh_94) rfl dX12_qSums_1 ?_
  refine q_nameI (fun x21 _ => ?_)
  refine q_istore_n (ls' := [(1, .inl x21), (0, .inr (.inr 94))]) dX12_qSums_4 rfl (by decide) rfl ?_
  refine q_aload_n 1 dX12_qSums_5 rfl rfl ?_
  refine q_aload_n 1 dX12_qSums_6 rfl rfl ?_
  refine q_geti fl_X12_321 sh_94 (q_inO hO sh_94) rfl dX12_qSums_7 ?_
  refine q_puti fl_X12_327 sh_94 (q_inO hO sh_94) (fun h => q_Ok_put h sh_94 rfl) rfl dX12_qSums_10 (fun M1 hM1 => ?_)
  have hO1 : q_Ok M1 := by rw [hM1]; exact q_Ok_put hO sh_94 rfl
  refine q_iconst dX12_qSums_13 ?_
  refine q_istore_n (ls' := [(2, .inl 1), (1, .inl x21), (0, .inr (.inr 94))]) dX12_qSums_14 rfl (by decide) rfl ?_
  refine q_sub [2, 1, 0] rfl ?_
  exact tX12_qSums_15 hd q_FU x21 1 M1 hO1
def fX12_qFact_102 (s0 : Int) (M : q_Mem) : Option (Int × q_Mem) := q_bd (fX12_qCode s0 M) fun _ M1 => some (0, M1)
theorem tX12_qFact_102 {d : Nat} (hd : 6 ≤ d) (s0 : Int) (M : q_Mem) (hO : q_Ok M) : q_EX (d + 1) yX12_qFact cX12_qFact 2 none 102 [] [.inl s0, .inr (.inr 94)] M (fX12_qFact_102 s0 M) := by
  unfold fX12_qFact_102
  refine q_callVv (As := [.inl s0]) hO mb_X12_qCode mv_X12_qCode ml_X12_522 sh_94 rfl dX12_qFact_102 (fun _ => rfl) rfl (Nat.le_of_ble_eq_true rfl) rfl (Nat.le_of_ble_eq_true rfl) (tX12_qCode s0 M hO) (fun _ M1 _ hO1 => ?_)
  exact q_ret dX12_qFact_105 rfl
def fX12_qFact_63 (x1 : Int) (M : q_Mem) : Option (Int × q_Mem) := q_let (q_up M 94 2 ((M.2 94 2) + 1)) fun M1 => q_bd (fX12_qSums M1) fun _ M2 => if q_w x1 = q_w 60 then ((fX12_qFact_102 7 M2)) else (if q_w x1 = q_w 62 then ((fX12_qFact_102 8 M2)) else ((fX12_qFact_102 9 M2)))
theorem tX12_qFact_63 {d : Nat} (hd : 6 ≤ d) (x1 : Int) (M : q_Mem) (hO : q_Ok M) : q_EX (d + 1) yX12_qFact cX12_qFact 2 none 63 [(0, .inr (.inr 94)), (1, .inl x1)] [] M (fX12_qFact_63 x1 M) := by
  unfold fX12_qFact_63
  refine q_aload_n 0 dX12_qFact_63 rfl rfl ?_
  refine q_dup dX12_qFact_64 rfl ?_
  refine q_geti fl_X12_243 sh_94 (q_inO hO sh_94) rfl dX12_qFact_65 ?_
  refine q_iconst dX12_qFact_68 ?_
  refine q_iadd dX12_qFact_69 ?_
  refine q_puti fl_X12_243 sh_94 (q_inO hO sh_94) (fun h => q_Ok_put h sh_94 rfl) rfl dX12_qFact_70 (fun M1 hM1 => ?_)
  have hO1 : q_Ok M1 := by rw [hM1]; exact q_Ok_put hO sh_94 rfl
  refine q_aload_n 0 dX12_qFact_73 rfl rfl ?_
  refine q_callVv (As := []) hO1 mb_X12_qSums mv_X12_qSums ml_X12_333 sh_94 rfl dX12_qFact_74 (fun _ => rfl) rfl (Nat.le_of_ble_eq_true rfl) rfl (Nat.le_of_ble_eq_true rfl) (tX12_qSums (by omega) M1 hO1) (fun _ M2 _ hO2 => ?_)
  refine q_aload_n 0 dX12_qFact_77 rfl rfl ?_
  refine q_iload_n 1 dX12_qFact_78 rfl rfl ?_
  refine q_bipush dX12_qFact_79 (by decide) ?_
  refine q_icmpne (tgt := 89) dX12_qFact_81 (by decide) ?_ ?_
  · refine q_iload_n 1 dX12_qFact_89 rfl rfl ?_
    refine q_bipush dX12_qFact_90 (by decide) ?_
    refine q_icmpne (tgt := 100) dX12_qFact_92 (by decide) ?_ ?_
    · refine q_bipush dX12_qFact_100 (by decide) ?_
      refine q_sub [] rfl ?_
      exact tX12_qFact_102 hd 9 M2 hO2
    · refine q_bipush dX12_qFact_95 (by decide) ?_
      refine q_goto (tgt := 102) dX12_qFact_97 (by decide) ?_
      refine q_sub [] rfl ?_
      exact tX12_qFact_102 hd 8 M2 hO2
  · refine q_bipush dX12_qFact_84 (by decide) ?_
    refine q_goto (tgt := 102) dX12_qFact_86 (by decide) ?_
    refine q_sub [] rfl ?_
    exact tX12_qFact_102 hd 7 M2 hO2
def fX12_qFact (M : q_Mem) : Option (Int × q_Mem) := q_bd (fX12_takes 149 3 M) fun x21 M1 => if q_w x21 = 0 then (q_bd (fX12_qSums M1) fun _ M2 => if q_w (M2.2 94 5) = 0 then (q_bd (fX12_look M2) fun x22 M3 => if q_w x22 = q_w 60 then ((fX12_qFact_63 x22 M3)) else (if q_w x22 = q_w 62 then ((fX12_qFact_63 x22 M3)) else (if q_w x22 = q_w 61 then ((fX12_qFact_63 x22 M3)) else (q_bd (fX12_fail 1 (M3.2 94 2) M3) fun _ M4 => some (0, M4))))) else (some (0, M2))) else (q_bd (fX12_qCode 13 M1) fun _ M5 => some (0, M5))
theorem tX12_qFact {d : Nat} (hd : 7 ≤ d) (M : q_Mem) (hO : q_Ok M) : q_EX d yX12_qFact cX12_qFact 2 none 0 (q_args 0 [.inr (.inr 94)]) [] M (fX12_qFact M) := by
  obtain ⟨d, rfl⟩ : ∃ d', d = d' + 1 := ⟨d - 1, by omega⟩
  have hd : 6 ≤ d := by omega
  show q_EX _ _ _ _ _ 0 [(0, .inr (.inr 94))] [] M _
  unfold fX12_qFact
  refine q_aload_n 0 dX12_qFact_0 rfl rfl ?_
  refine q_aload_n 0 dX12_qFact_1 rfl rfl ?_
  refine q_getx fl_X12_183 hO sh_94 rfl fx_94_77 dX12_qFact_2 ?_
  refine q_callVi (As := [.inr (.inr 149)]) hO mb_X12_takes mv_X12_takes ml_X12_264 sh_94 rfl dX12_qFact_5 (fun _ => rfl) rfl (Nat.le_of_ble_eq_true rfl) rfl (Nat.le_of_ble_eq_true rfl) (tX12_takes (by omega) 149 3 M hO sh_149) (fun x21 M1 _ hO1 => ?_)
  refine q_ifeq (tgt := 18) dX12_qFact_8 (by decide) ?_ ?_
  · refine q_aload_n 0 dX12_qFact_18 rfl rfl ?_
    refine q_callVv (As := []) hO1 mb_X12_qSums mv_X12_qSums ml_X12_333 sh_94 rfl dX12_qFact_19 (fun _ => rfl) rfl (Nat.le_of_ble_eq_true rfl) rfl (Nat.le_of_ble_eq_true rfl) (tX12_qSums (by omega) M1 hO1) (fun _ M2 _ hO2 => ?_)
    refine q_aload_n 0 dX12_qFact_22 rfl rfl ?_
    refine q_geti fl_X12_237 sh_94 (q_inO hO2 sh_94) rfl dX12_qFact_23 ?_
    refine q_ifeq (tgt := 30) dX12_qFact_26 (by decide) ?_ ?_
    · refine q_aload_n 0 dX12_qFact_30 rfl rfl ?_
      refine q_callVi (As := []) hO2 mb_X12_look mv_X12_look ml_X12_249 sh_94 rfl dX12_qFact_31 (fun _ => rfl) rfl (Nat.le_of_ble_eq_true rfl) rfl (Nat.le_of_ble_eq_true rfl) (tX12_look M2 hO2) (fun x22 M3 _ hO3 => ?_)
      refine q_istore_n (ls' := [(1, .inl x22), (0, .inr (.inr 94))]) dX12_qFact_34 rfl (by decide) rfl ?_
      refine q_iload_n 0 dX12_qFact_35 rfl rfl ?_
      refine q_bipush dX12_qFact_36 (by decide) ?_
      refine q_icmpeq (tgt := 63) dX12_qFact_38 (by decide) ?_ ?_
      · refine q_sub [1, 0] rfl ?_
        exact tX12_qFact_63 hd x22 M3 hO3
      · refine q_iload_n 0 dX12_qFact_41 rfl rfl ?_
        refine q_bipush dX12_qFact_42 (by decide) ?_
        refine q_icmpeq (tgt := 63) dX12_qFact_44 (by decide) ?_ ?_
        · refine q_sub [1, 0] rfl ?_
          exact tX12_qFact_63 hd x22 M3 hO3
        · refine q_iload_n 0 dX12_qFact_47 rfl rfl ?_
          refine q_bipush dX12_qFact_48 (by decide) ?_
          refine q_icmpeq (tgt := 63) dX12_qFact_50 (by decide) ?_ ?_
          · refine q_sub [1, 0] rfl ?_
            exact tX12_qFact_63 hd x22 M3 hO3
          · refine q_aload_n 1 dX12_qFact_53 rfl rfl ?_
            refine q_iconst dX12_qFact_54 ?_
            refine q_aload_n 1 dX12_qFact_55 rfl rfl ?_
            refine q_geti fl_X12_243 sh_94 (q_inO hO3 sh_94) rfl dX12_qFact_56 ?_
            refine q_callVv (As := [.inl 1, .inl (M3.2 94 2)]) hO3 mb_X12_fail mv_X12_fail ml_X12_267 sh_94 rfl dX12_qFact_59 (fun _ => rfl) rfl (Nat.le_of_ble_eq_true rfl) rfl (Nat.le_of_ble_eq_true rfl) (tX12_fail 1 (M3.2 94 2) M3 hO3) (fun _ M4 _ hO4 => ?_)
            exact q_ret dX12_qFact_62 rfl
    · exact q_ret dX12_qFact_29 rfl
  · refine q_aload_n 0 dX12_qFact_11 rfl rfl ?_
    refine q_bipush dX12_qFact_12 (by decide) ?_
    refine q_callVv (As := [.inl 13]) hO1 mb_X12_qCode mv_X12_qCode ml_X12_522 sh_94 rfl dX12_qFact_14 (fun _ => rfl) rfl (Nat.le_of_ble_eq_true rfl) rfl (Nat.le_of_ble_eq_true rfl) (tX12_qCode 13 M1 hO1) (fun _ M5 _ hO5 => ?_)
    exact q_ret dX12_qFact_17 rfl
def fX12_qDropsNots_0  : Nat → q_Mem → Option (Int × q_Mem)
  | 0, _ => none
  | n + 1, M => if q_w (M.2 94 5) = 0 then (q_bd (fX12_qIsOn 12 M) fun x21 M1 => if q_w x21 = 0 then (some (0, M1)) else (q_let (q_up M1 94 94 ((M1.2 94 94) - 1)) fun M2 => q_bd (fX12_qDrops M2) fun _ M3 => (fX12_qDropsNots_0 n M3))) else (some (0, M))
theorem tX12_qDropsNots_0 {d : Nat} (hd : 1 ≤ d) : ∀ (n : Nat)  (M : q_Mem), q_Ok M → q_EX (d + 1) yX12_qDropsNots cX12_qDropsNots 1 none 0 [(0, .inr (.inr 94))] [] M (fX12_qDropsNots_0 n M) := by
  intro n
  induction n with
  | zero => intro M hO; exact q_none
  | succ n ih =>
    intro M hO
    rw [fX12_qDropsNots_0]
    refine q_aload_n 0 dX12_qDropsNots_0 rfl rfl ?_
    refine q_geti fl_X12_237 sh_94 (q_inO hO sh_94) rfl dX12_qDropsNots_1 ?_
    refine q_ifne (tgt := 33) dX12_qDropsNots_4 (by decide) ?_ ?_
    · exact q_ret dX12_qDropsNots_33 rfl
    · refine q_aload_n 0 dX12_qDropsNots_7 rfl rfl ?_
      refine q_bipush dX12_qDropsNots_8 (by decide) ?_
      refine q_callVi (As := [.inl 12]) hO mb_X12_qIsOn mv_X12_qIsOn ml_X12_555 sh_94 rfl dX12_qDropsNots_10 (fun _ => rfl) rfl (Nat.le_of_ble_eq_true rfl) rfl (Nat.le_of_ble_eq_true rfl) (tX12_qIsOn 12 M hO) (fun x21 M1 _ hO1 => ?_)
      refine q_ifeq (tgt := 33) dX12_qDropsNots_13 (by decide) ?_ ?_
      · exact q_ret dX12_qDropsNots_33 rfl
      · refine q_aload_n 0 dX12_qDropsNots_16 rfl rfl ?_
        refine q_dup dX12_qDropsNots_17 rfl ?_
        refine q_geti fl_X12_324 sh_94 (q_inO hO1 sh_94) rfl dX12_qDropsNots_18 ?_
        refine q_iconst dX12_qDropsNots_21 ?_
        refine q_isub dX12_qDropsNots_22 ?_
        refine q_puti fl_X12_324 sh_94 (q_inO hO1 sh_94) (fun h => q_Ok_put h sh_94 rfl) rfl dX12_qDropsNots_23 (fun M2 hM2 => ?_)
        have hO2 : q_Ok M2 := by rw [hM2]; exact q_Ok_put hO1 sh_94 rfl
        refine q_aload_n 0 dX12_qDropsNots_26 rfl rfl ?_
        refine q_callVv (As := []) hO2 mb_X12_qDrops mv_X12_qDrops ml_X12_528 sh_94 rfl dX12_qDropsNots_27 (fun _ => rfl) rfl (Nat.le_of_ble_eq_true rfl) rfl (Nat.le_of_ble_eq_true rfl) (tX12_qDrops (by omega) M2 hO2) (fun _ M3 _ hO3 => ?_)
        refine q_goto (tgt := 0) dX12_qDropsNots_30 (by decide) ?_
        refine q_sub [0] rfl ?_
        exact ih M3 hO3
def fX12_qDropsNots (M : q_Mem) : Option (Int × q_Mem) := (fX12_qDropsNots_0 q_FU M)
theorem tX12_qDropsNots {d : Nat} (hd : 2 ≤ d) (M : q_Mem) (hO : q_Ok M) : q_EX d yX12_qDropsNots cX12_qDropsNots 1 none 0 (q_args 0 [.inr (.inr 94)]) [] M (fX12_qDropsNots M) := by
  obtain ⟨d, rfl⟩ : ∃ d', d = d' + 1 := ⟨d - 1, by omega⟩
  have hd : 1 ≤ d := by omega
  show q_EX _ _ _ _ _ 0 [(0, .inr (.inr 94))] [] M _
  unfold fX12_qDropsNots
  refine q_sub [0] rfl ?_
  exact tX12_qDropsNots_0 hd q_FU M hO
def fX12_qHasSquare_2  : Nat → Int → q_Mem → Option (Int × q_Mem)
  | 0, _, _ => none
  | n + 1, x1, M => if q_w x1 < q_w (M.2 94 93) then ((q_ld M 163 1700 x1).bind fun x21 => if q_w x21 = q_w 25 then (some (1, M)) else ((fX12_qHasSquare_2 n (x1 + 1) M))) else (some (0, M))
theorem tX12_qHasSquare_2 {d : Nat} : ∀ (n : Nat) (x1 : Int) (M : q_Mem), q_Ok M → q_EX d yX12_qHasSquare cX12_qHasSquare 2 (some .boolean) 2 [(0, .inr (.inr 94)), (1, .inl x1)] [] M (fX12_qHasSquare_2 n x1 M) := by
  intro n
  induction n with
  | zero => intro x1 M hO; exact q_none
  | succ n ih =>
    intro x1 M hO
    rw [fX12_qHasSquare_2]
    refine q_iload_n 1 dX12_qHasSquare_2 rfl rfl ?_
    refine q_aload_n 0 dX12_qHasSquare_3 rfl rfl ?_
    refine q_geti fl_X12_321 sh_94 (q_inO hO sh_94) rfl dX12_qHasSquare_4 ?_
    refine q_icmpge (tgt := 29) dX12_qHasSquare_7 (by decide) ?_ ?_
    · refine q_iconst dX12_qHasSquare_29 ?_
      exact q_ret ⟨dX12_qHasSquare_30, by decide⟩ rfl
    · refine q_aload_n 0 dX12_qHasSquare_10 rfl rfl ?_
      refine q_getx fl_X12_225 hO sh_94 rfl fx_94_92 dX12_qHasSquare_11 ?_
      refine q_iload_n 1 dX12_qHasSquare_14 rfl rfl ?_
      refine q_iald sh_163 (q_inA hO sh_163 (by decide)) dX12_qHasSquare_15 (fun x21 _ _ _ => ?_)
      refine q_bipush dX12_qHasSquare_16 (by decide) ?_
      refine q_icmpne (tgt := 23) dX12_qHasSquare_18 (by decide) ?_ ?_
      · refine q_iinc (ls' := [(1, .inl (x1 + 1)), (0, .inr (.inr 94))]) 1 dX12_qHasSquare_23 rfl (by decide) rfl ?_
        refine q_goto (tgt := 2) dX12_qHasSquare_26 (by decide) ?_
        refine q_sub [1, 0] rfl ?_
        exact ih (x1 + 1) M hO
      · refine q_iconst dX12_qHasSquare_21 ?_
        exact q_ret ⟨dX12_qHasSquare_22, by decide⟩ rfl
def fX12_qHasSquare (M : q_Mem) : Option (Int × q_Mem) := (fX12_qHasSquare_2 q_FU 0 M)
theorem tX12_qHasSquare {d : Nat} (M : q_Mem) (hO : q_Ok M) : q_EX d yX12_qHasSquare cX12_qHasSquare 2 (some .boolean) 0 (q_args 0 [.inr (.inr 94)]) [] M (fX12_qHasSquare M) := by
  show q_EX _ _ _ _ _ 0 [(0, .inr (.inr 94))] [] M _
  unfold fX12_qHasSquare
  refine q_iconst dX12_qHasSquare_0 ?_
  refine q_istore_n (ls' := [(1, .inl 0), (0, .inr (.inr 94))]) dX12_qHasSquare_1 rfl (by decide) rfl ?_
  refine q_sub [1, 0] rfl ?_
  exact tX12_qHasSquare_2 q_FU 0 M hO
def fX12_qGoesOnTest_33 (K0 : q_Mem → Option (Int × q_Mem)) : Nat → q_Mem → Option (Int × q_Mem)
  | 0, _ => none
  | n + 1, M => q_bd (fX12_qIsOn 25 M) fun x21 M1 => if q_w x21 = 0 then (q_bd (fX12_qDrops M1) fun _ M5 => (fX12_qGoesOnTest_33 K0 n M5)) else (q_let (q_up M1 94 93 ((M1.2 94 93) - 1)) fun M2 => q_let (q_up M2 94 94 ((M2.2 94 94) - 1)) fun M3 => q_bd (fX12_qDropsNots M3) fun _ M4 => (K0 M4))
theorem tX12_qGoesOnTest_33 {d : Nat} (hd : 2 ≤ d) (K0 : q_Mem → Option (Int × q_Mem)) (hK0 : ∀  (M : q_Mem), q_Ok M → q_EX (d + 1) yX12_qGoesOnTest cX12_qGoesOnTest 1 (some .boolean) 0 [(0, .inr (.inr 94))] [] M (K0 M)) : ∀ (n : Nat)  (M : q_Mem), q_Ok M → q_EX (d + 1) yX12_qGoesOnTest cX12_qGoesOnTest 1 (some .boolean) 33 [(0, .inr (.inr 94))] [] M (fX12_qGoesOnTest_33 K0 n M) := by
  intro n
  induction n with
  | zero => intro M hO; exact q_none
  | succ n ih =>
    intro M hO
    rw [fX12_qGoesOnTest_33]
    refine q_aload_n 0 dX12_qGoesOnTest_33 rfl rfl ?_
    refine q_bipush dX12_qGoesOnTest_34 (by decide) ?_
    refine q_callVi (As := [.inl 25]) hO mb_X12_qIsOn mv_X12_qIsOn ml_X12_555 sh_94 rfl dX12_qGoesOnTest_36 (fun _ => rfl) rfl (Nat.le_of_ble_eq_true rfl) rfl (Nat.le_of_ble_eq_true rfl) (tX12_qIsOn 25 M hO) (fun x21 M1 _ hO1 => ?_)
    refine q_ifne (tgt := 49) dX12_qGoesOnTest_39 (by decide) ?_ ?_
    · refine q_aload_n 0 dX12_qGoesOnTest_49 rfl rfl ?_
      refine q_dup dX12_qGoesOnTest_50 rfl ?_
      refine q_geti fl_X12_321 sh_94 (q_inO hO1 sh_94) rfl dX12_qGoesOnTest_51 ?_
      refine q_iconst dX12_qGoesOnTest_54 ?_
      refine q_isub dX12_qGoesOnTest_55 ?_
      refine q_puti fl_X12_321 sh_94 (q_inO hO1 sh_94) (fun h => q_Ok_put h sh_94 rfl) rfl dX12_qGoesOnTest_56 (fun M2 hM2 => ?_)
      have hO2 : q_Ok M2 := by rw [hM2]; exact q_Ok_put hO1 sh_94 rfl
      refine q_aload_n 0 dX12_qGoesOnTest_59 rfl rfl ?_
      refine q_dup dX12_qGoesOnTest_60 rfl ?_
      refine q_geti fl_X12_324 sh_94 (q_inO hO2 sh_94) rfl dX12_qGoesOnTest_61 ?_
      refine q_iconst dX12_qGoesOnTest_64 ?_
      refine q_isub dX12_qGoesOnTest_65 ?_
      refine q_puti fl_X12_324 sh_94 (q_inO hO2 sh_94) (fun h => q_Ok_put h sh_94 rfl) rfl dX12_qGoesOnTest_66 (fun M3 hM3 => ?_)
      have hO3 : q_Ok M3 := by rw [hM3]; exact q_Ok_put hO2 sh_94 rfl
      refine q_aload_n 0 dX12_qGoesOnTest_69 rfl rfl ?_
      refine q_callVv (As := []) hO3 mb_X12_qDropsNots mv_X12_qDropsNots ml_X12_567 sh_94 rfl dX12_qGoesOnTest_70 (fun _ => rfl) rfl (Nat.le_of_ble_eq_true rfl) rfl (Nat.le_of_ble_eq_true rfl) (tX12_qDropsNots (by omega) M3 hO3) (fun _ M4 _ hO4 => ?_)
      refine q_goto (tgt := 0) dX12_qGoesOnTest_73 (by decide) ?_
      refine q_sub [0] rfl ?_
      exact hK0 M4 hO4
    · refine q_aload_n 0 dX12_qGoesOnTest_42 rfl rfl ?_
      refine q_callVv (As := []) hO1 mb_X12_qDrops mv_X12_qDrops ml_X12_528 sh_94 rfl dX12_qGoesOnTest_43 (fun _ => rfl) rfl (Nat.le_of_ble_eq_true rfl) rfl (Nat.le_of_ble_eq_true rfl) (tX12_qDrops (by omega) M1 hO1) (fun _ M5 _ hO5 => ?_)
      refine q_goto (tgt := 33) dX12_qGoesOnTest_46 (by decide) ?_
      refine q_sub [0] rfl ?_
      exact ih M5 hO5
def fX12_qGoesOnTest_87  : Nat → q_Mem → Option (Int × q_Mem)
  | 0, _ => none
  | n + 1, M => q_bd (fX12_qIsOn 10 M) fun x21 M1 => if q_w x21 = 0 then ((q_sto M1 163 1700 (M1.2 94 93) 10).bind fun M2 => q_let (q_up M2 94 93 ((M2.2 94 93) + 1)) fun M3 => some (1, M3)) else (q_bd (fX12_qDrops M1) fun _ M4 => (fX12_qGoesOnTest_87 n M4))
theorem tX12_qGoesOnTest_87 {d : Nat} (hd : 2 ≤ d) : ∀ (n : Nat)  (M : q_Mem), q_Ok M → q_EX (d + 1) yX12_qGoesOnTest cX12_qGoesOnTest 1 (some .boolean) 87 [(0, .inr (.inr 94))] [] M (fX12_qGoesOnTest_87 n M) := by
  intro n
  induction n with
  | zero => intro M hO; exact q_none
  | succ n ih =>
    intro M hO
    rw [fX12_qGoesOnTest_87]
    refine q_aload_n 0 dX12_qGoesOnTest_87 rfl rfl ?_
    refine q_bipush dX12_qGoesOnTest_88 (by decide) ?_
    refine q_callVi (As := [.inl 10]) hO mb_X12_qIsOn mv_X12_qIsOn ml_X12_555 sh_94 rfl dX12_qGoesOnTest_90 (fun _ => rfl) rfl (Nat.le_of_ble_eq_true rfl) rfl (Nat.le_of_ble_eq_true rfl) (tX12_qIsOn 10 M hO) (fun x21 M1 _ hO1 => ?_)
    refine q_ifeq (tgt := 103) dX12_qGoesOnTest_93 (by decide) ?_ ?_
    · refine q_aload_n 0 dX12_qGoesOnTest_103 rfl rfl ?_
      refine q_getx fl_X12_225 hO1 sh_94 rfl fx_94_92 dX12_qGoesOnTest_104 ?_
      refine q_aload_n 0 dX12_qGoesOnTest_107 rfl rfl ?_
      refine q_geti fl_X12_321 sh_94 (q_inO hO1 sh_94) rfl dX12_qGoesOnTest_108 ?_
      refine q_bipush dX12_qGoesOnTest_111 (by decide) ?_
      refine q_iast sh_163 (q_inA hO1 sh_163 (by decide)) dX12_qGoesOnTest_113 (fun M2 _ _ hM2 => ?_)
      have hO2 : q_Ok M2 := by rw [hM2]; exact q_Ok_arr (t := 0) hO1 sh_163 (by decide)
      refine q_aload_n 0 dX12_qGoesOnTest_114 rfl rfl ?_
      refine q_dup dX12_qGoesOnTest_115 rfl ?_
      refine q_geti fl_X12_321 sh_94 (q_inO hO2 sh_94) rfl dX12_qGoesOnTest_116 ?_
      refine q_iconst dX12_qGoesOnTest_119 ?_
      refine q_iadd dX12_qGoesOnTest_120 ?_
      refine q_puti fl_X12_321 sh_94 (q_inO hO2 sh_94) (fun h => q_Ok_put h sh_94 rfl) rfl dX12_qGoesOnTest_121 (fun M3 hM3 => ?_)
      have hO3 : q_Ok M3 := by rw [hM3]; exact q_Ok_put hO2 sh_94 rfl
      refine q_iconst dX12_qGoesOnTest_124 ?_
      exact q_ret ⟨dX12_qGoesOnTest_125, by decide⟩ rfl
    · refine q_aload_n 0 dX12_qGoesOnTest_96 rfl rfl ?_
      refine q_callVv (As := []) hO1 mb_X12_qDrops mv_X12_qDrops ml_X12_528 sh_94 rfl dX12_qGoesOnTest_97 (fun _ => rfl) rfl (Nat.le_of_ble_eq_true rfl) rfl (Nat.le_of_ble_eq_true rfl) (tX12_qDrops (by omega) M1 hO1) (fun _ M4 _ hO4 => ?_)
      refine q_goto (tgt := 87) dX12_qGoesOnTest_100 (by decide) ?_
      refine q_sub [0] rfl ?_
      exact ih M4 hO4
def fX12_qGoesOnTest_155 (K137 : q_Mem → Option (Int × q_Mem)) (M : q_Mem) : Option (Int × q_Mem) := q_bd (fX12_qDrops M) fun _ M1 => (K137 M1)
theorem tX12_qGoesOnTest_155 {d : Nat} (hd : 2 ≤ d) (K137 : q_Mem → Option (Int × q_Mem)) (hK137 : ∀  (M : q_Mem), q_Ok M → q_EX (d + 1) yX12_qGoesOnTest cX12_qGoesOnTest 1 (some .boolean) 137 [(0, .inr (.inr 94))] [] M (K137 M)) (M : q_Mem) (hO : q_Ok M) : q_EX (d + 1) yX12_qGoesOnTest cX12_qGoesOnTest 1 (some .boolean) 155 [(0, .inr (.inr 94))] [] M (fX12_qGoesOnTest_155 K137 M) := by
  unfold fX12_qGoesOnTest_155
  refine q_aload_n 0 dX12_qGoesOnTest_155 rfl rfl ?_
  refine q_callVv (As := []) hO mb_X12_qDrops mv_X12_qDrops ml_X12_528 sh_94 rfl dX12_qGoesOnTest_156 (fun _ => rfl) rfl (Nat.le_of_ble_eq_true rfl) rfl (Nat.le_of_ble_eq_true rfl) (tX12_qDrops (by omega) M hO) (fun _ M1 _ hO1 => ?_)
  refine q_goto (tgt := 137) dX12_qGoesOnTest_159 (by decide) ?_
  refine q_sub [0] rfl ?_
  exact hK137 M1 hO1
def fX12_qGoesOnTest_137  : Nat → q_Mem → Option (Int × q_Mem)
  | 0, _ => none
  | n + 1, M => q_bd (fX12_qIsOn 10 M) fun x21 M1 => if q_w x21 = 0 then (q_bd (fX12_qIsOn 11 M1) fun x22 M2 => if q_w x22 = 0 then ((q_sto M2 163 1700 (M2.2 94 93) 11).bind fun M3 => q_let (q_up M3 94 93 ((M3.2 94 93) + 1)) fun M4 => some (1, M4)) else ((fX12_qGoesOnTest_155 (fX12_qGoesOnTest_137 n) M2))) else ((fX12_qGoesOnTest_155 (fX12_qGoesOnTest_137 n) M1))
theorem tX12_qGoesOnTest_137 {d : Nat} (hd : 2 ≤ d) : ∀ (n : Nat)  (M : q_Mem), q_Ok M → q_EX (d + 1) yX12_qGoesOnTest cX12_qGoesOnTest 1 (some .boolean) 137 [(0, .inr (.inr 94))] [] M (fX12_qGoesOnTest_137 n M) := by
  intro n
  induction n with
  | zero => intro M hO; exact q_none
  | succ n ih =>
    intro M hO
    rw [fX12_qGoesOnTest_137]
    refine q_aload_n 0 dX12_qGoesOnTest_137 rfl rfl ?_
    refine q_bipush dX12_qGoesOnTest_138 (by decide) ?_
    refine q_callVi (As := [.inl 10]) hO mb_X12_qIsOn mv_X12_qIsOn ml_X12_555 sh_94 rfl dX12_qGoesOnTest_140 (fun _ => rfl) rfl (Nat.le_of_ble_eq_true rfl) rfl (Nat.le_of_ble_eq_true rfl) (tX12_qIsOn 10 M hO) (fun x21 M1 _ hO1 => ?_)
    refine q_ifne (tgt := 155) dX12_qGoesOnTest_143 (by decide) ?_ ?_
    · refine q_sub [0] rfl ?_
      exact tX12_qGoesOnTest_155 hd (fX12_qGoesOnTest_137 n) ih M1 hO1
    · refine q_aload_n 0 dX12_qGoesOnTest_146 rfl rfl ?_
      refine q_bipush dX12_qGoesOnTest_147 (by decide) ?_
      refine q_callVi (As := [.inl 11]) hO1 mb_X12_qIsOn mv_X12_qIsOn ml_X12_555 sh_94 rfl dX12_qGoesOnTest_149 (fun _ => rfl) rfl (Nat.le_of_ble_eq_true rfl) rfl (Nat.le_of_ble_eq_true rfl) (tX12_qIsOn 11 M1 hO1) (fun x22 M2 _ hO2 => ?_)
      refine q_ifeq (tgt := 162) dX12_qGoesOnTest_152 (by decide) ?_ ?_
      · refine q_aload_n 0 dX12_qGoesOnTest_162 rfl rfl ?_
        refine q_getx fl_X12_225 hO2 sh_94 rfl fx_94_92 dX12_qGoesOnTest_163 ?_
        refine q_aload_n 0 dX12_qGoesOnTest_166 rfl rfl ?_
        refine q_geti fl_X12_321 sh_94 (q_inO hO2 sh_94) rfl dX12_qGoesOnTest_167 ?_
        refine q_bipush dX12_qGoesOnTest_170 (by decide) ?_
        refine q_iast sh_163 (q_inA hO2 sh_163 (by decide)) dX12_qGoesOnTest_172 (fun M3 _ _ hM3 => ?_)
        have hO3 : q_Ok M3 := by rw [hM3]; exact q_Ok_arr (t := 0) hO2 sh_163 (by decide)
        refine q_aload_n 0 dX12_qGoesOnTest_173 rfl rfl ?_
        refine q_dup dX12_qGoesOnTest_174 rfl ?_
        refine q_geti fl_X12_321 sh_94 (q_inO hO3 sh_94) rfl dX12_qGoesOnTest_175 ?_
        refine q_iconst dX12_qGoesOnTest_178 ?_
        refine q_iadd dX12_qGoesOnTest_179 ?_
        refine q_puti fl_X12_321 sh_94 (q_inO hO3 sh_94) (fun h => q_Ok_put h sh_94 rfl) rfl dX12_qGoesOnTest_180 (fun M4 hM4 => ?_)
        have hO4 : q_Ok M4 := by rw [hM4]; exact q_Ok_put hO3 sh_94 rfl
        refine q_iconst dX12_qGoesOnTest_183 ?_
        exact q_ret ⟨dX12_qGoesOnTest_184, by decide⟩ rfl
      · refine q_sub [0] rfl ?_
        exact tX12_qGoesOnTest_155 hd (fX12_qGoesOnTest_137 n) ih M2 hO2
def fX12_qGoesOnTest_76 (M : q_Mem) : Option (Int × q_Mem) := q_bd (fX12_takes 147 3 M) fun x21 M1 => if q_w x21 = 0 then (q_bd (fX12_takes 148 2 M1) fun x22 M2 => if q_w x22 = 0 then (if q_w (M2.2 94 5) = 0 then (q_bd (fX12_qHasSquare M2) fun x23 M3 => if q_w x23 = 0 then (some (0, M3)) else (q_bd (fX12_fail 1 (M3.2 94 2) M3) fun _ M4 => some (0, M4))) else (some (0, M2))) else ((fX12_qGoesOnTest_137 q_FU M2))) else ((fX12_qGoesOnTest_87 q_FU M1))
theorem tX12_qGoesOnTest_76 {d : Nat} (hd : 2 ≤ d) (M : q_Mem) (hO : q_Ok M) : q_EX (d + 1) yX12_qGoesOnTest cX12_qGoesOnTest 1 (some .boolean) 76 [(0, .inr (.inr 94))] [] M (fX12_qGoesOnTest_76 M) := by
  unfold fX12_qGoesOnTest_76
  refine q_aload_n 0 dX12_qGoesOnTest_76 rfl rfl ?_
  refine q_aload_n 0 dX12_qGoesOnTest_77 rfl rfl ?_
  refine q_getx fl_X12_177 hO sh_94 rfl fx_94_75 dX12_qGoesOnTest_78 ?_
  refine q_callVi (As := [.inr (.inr 147)]) hO mb_X12_takes mv_X12_takes ml_X12_264 sh_94 rfl dX12_qGoesOnTest_81 (fun _ => rfl) rfl (Nat.le_of_ble_eq_true rfl) rfl (Nat.le_of_ble_eq_true rfl) (tX12_takes (by omega) 147 3 M hO sh_147) (fun x21 M1 _ hO1 => ?_)
  refine q_ifeq (tgt := 126) dX12_qGoesOnTest_84 (by decide) ?_ ?_
  · refine q_aload_n 0 dX12_qGoesOnTest_126 rfl rfl ?_
    refine q_aload_n 0 dX12_qGoesOnTest_127 rfl rfl ?_
    refine q_getx fl_X12_180 hO1 sh_94 rfl fx_94_76 dX12_qGoesOnTest_128 ?_
    refine q_callVi (As := [.inr (.inr 148)]) hO1 mb_X12_takes mv_X12_takes ml_X12_264 sh_94 rfl dX12_qGoesOnTest_131 (fun _ => rfl) rfl (Nat.le_of_ble_eq_true rfl) rfl (Nat.le_of_ble_eq_true rfl) (tX12_takes (by omega) 148 2 M1 hO1 sh_148) (fun x22 M2 _ hO2 => ?_)
    refine q_ifeq (tgt := 185) dX12_qGoesOnTest_134 (by decide) ?_ ?_
    · refine q_aload_n 0 dX12_qGoesOnTest_185 rfl rfl ?_
      refine q_geti fl_X12_237 sh_94 (q_inO hO2 sh_94) rfl dX12_qGoesOnTest_186 ?_
      refine q_ifne (tgt := 208) dX12_qGoesOnTest_189 (by decide) ?_ ?_
      · refine q_iconst dX12_qGoesOnTest_208 ?_
        exact q_ret ⟨dX12_qGoesOnTest_209, by decide⟩ rfl
      · refine q_aload_n 0 dX12_qGoesOnTest_192 rfl rfl ?_
        refine q_callVi (As := []) hO2 mb_X12_qHasSquare mv_X12_qHasSquare ml_X12_573 sh_94 rfl dX12_qGoesOnTest_193 (fun _ => rfl) rfl (Nat.le_of_ble_eq_true rfl) rfl (Nat.le_of_ble_eq_true rfl) (tX12_qHasSquare M2 hO2) (fun x23 M3 _ hO3 => ?_)
        refine q_ifeq (tgt := 208) dX12_qGoesOnTest_196 (by decide) ?_ ?_
        · refine q_iconst dX12_qGoesOnTest_208 ?_
          exact q_ret ⟨dX12_qGoesOnTest_209, by decide⟩ rfl
        · refine q_aload_n 0 dX12_qGoesOnTest_199 rfl rfl ?_
          refine q_iconst dX12_qGoesOnTest_200 ?_
          refine q_aload_n 0 dX12_qGoesOnTest_201 rfl rfl ?_
          refine q_geti fl_X12_243 sh_94 (q_inO hO3 sh_94) rfl dX12_qGoesOnTest_202 ?_
          refine q_callVv (As := [.inl 1, .inl (M3.2 94 2)]) hO3 mb_X12_fail mv_X12_fail ml_X12_267 sh_94 rfl dX12_qGoesOnTest_205 (fun _ => rfl) rfl (Nat.le_of_ble_eq_true rfl) rfl (Nat.le_of_ble_eq_true rfl) (tX12_fail 1 (M3.2 94 2) M3 hO3) (fun _ M4 _ hO4 => ?_)
          refine q_iconst dX12_qGoesOnTest_208 ?_
          exact q_ret ⟨dX12_qGoesOnTest_209, by decide⟩ rfl
    · refine q_sub [0] rfl ?_
      exact tX12_qGoesOnTest_137 hd q_FU M2 hO2
  · refine q_sub [0] rfl ?_
    exact tX12_qGoesOnTest_87 hd q_FU M1 hO1
def fX12_qGoesOnTest_0  : Nat → q_Mem → Option (Int × q_Mem)
  | 0, _ => none
  | n + 1, M => if q_w (M.2 94 5) = 0 then (q_bd (fX12_look M) fun x21 M1 => if q_w x21 = q_w 93 then (q_bd (fX12_qHasSquare M1) fun x22 M2 => if q_w x22 = 0 then ((fX12_qGoesOnTest_76 M2)) else (q_let (q_up M2 94 2 ((M2.2 94 2) + 1)) fun M3 => (fX12_qGoesOnTest_33 (fX12_qGoesOnTest_0 n) q_FU M3))) else ((fX12_qGoesOnTest_76 M1))) else ((fX12_qGoesOnTest_76 M))
theorem tX12_qGoesOnTest_0 {d : Nat} (hd : 2 ≤ d) : ∀ (n : Nat)  (M : q_Mem), q_Ok M → q_EX (d + 1) yX12_qGoesOnTest cX12_qGoesOnTest 1 (some .boolean) 0 [(0, .inr (.inr 94))] [] M (fX12_qGoesOnTest_0 n M) := by
  intro n
  induction n with
  | zero => intro M hO; exact q_none
  | succ n ih =>
    intro M hO
    rw [fX12_qGoesOnTest_0]
    refine q_aload_n 0 dX12_qGoesOnTest_0 rfl rfl ?_
    refine q_geti fl_X12_237 sh_94 (q_inO hO sh_94) rfl dX12_qGoesOnTest_1 ?_
    refine q_ifne (tgt := 76) dX12_qGoesOnTest_4 (by decide) ?_ ?_
    · refine q_sub [0] rfl ?_
      exact tX12_qGoesOnTest_76 hd M hO
    · refine q_aload_n 0 dX12_qGoesOnTest_7 rfl rfl ?_
      refine q_callVi (As := []) hO mb_X12_look mv_X12_look ml_X12_249 sh_94 rfl dX12_qGoesOnTest_8 (fun _ => rfl) rfl (Nat.le_of_ble_eq_true rfl) rfl (Nat.le_of_ble_eq_true rfl) (tX12_look M hO) (fun x21 M1 _ hO1 => ?_)
      refine q_bipush dX12_qGoesOnTest_11 (by decide) ?_
      refine q_icmpne (tgt := 76) dX12_qGoesOnTest_13 (by decide) ?_ ?_
      · refine q_sub [0] rfl ?_
        exact tX12_qGoesOnTest_76 hd M1 hO1
      · refine q_aload_n 0 dX12_qGoesOnTest_16 rfl rfl ?_
        refine q_callVi (As := []) hO1 mb_X12_qHasSquare mv_X12_qHasSquare ml_X12_573 sh_94 rfl dX12_qGoesOnTest_17 (fun _ => rfl) rfl (Nat.le_of_ble_eq_true rfl) rfl (Nat.le_of_ble_eq_true rfl) (tX12_qHasSquare M1 hO1) (fun x22 M2 _ hO2 => ?_)
        refine q_ifeq (tgt := 76) dX12_qGoesOnTest_20 (by decide) ?_ ?_
        · refine q_sub [0] rfl ?_
          exact tX12_qGoesOnTest_76 hd M2 hO2
        · refine q_aload_n 0 dX12_qGoesOnTest_23 rfl rfl ?_
          refine q_dup dX12_qGoesOnTest_24 rfl ?_
          refine q_geti fl_X12_243 sh_94 (q_inO hO2 sh_94) rfl dX12_qGoesOnTest_25 ?_
          refine q_iconst dX12_qGoesOnTest_28 ?_
          refine q_iadd dX12_qGoesOnTest_29 ?_
          refine q_puti fl_X12_243 sh_94 (q_inO hO2 sh_94) (fun h => q_Ok_put h sh_94 rfl) rfl dX12_qGoesOnTest_30 (fun M3 hM3 => ?_)
          have hO3 : q_Ok M3 := by rw [hM3]; exact q_Ok_put hO2 sh_94 rfl
          refine q_sub [0] rfl ?_
          exact tX12_qGoesOnTest_33 hd (fX12_qGoesOnTest_0 n) ih q_FU M3 hO3
def fX12_qGoesOnTest (M : q_Mem) : Option (Int × q_Mem) := (fX12_qGoesOnTest_0 q_FU M)
theorem tX12_qGoesOnTest {d : Nat} (hd : 3 ≤ d) (M : q_Mem) (hO : q_Ok M) : q_EX d yX12_qGoesOnTest cX12_qGoesOnTest 1 (some .boolean) 0 (q_args 0 [.inr (.inr 94)]) [] M (fX12_qGoesOnTest M) := by
  obtain ⟨d, rfl⟩ : ∃ d', d = d' + 1 := ⟨d - 1, by omega⟩
  have hd : 2 ≤ d := by omega
  show q_EX _ _ _ _ _ 0 [(0, .inr (.inr 94))] [] M _
  unfold fX12_qGoesOnTest
  refine q_sub [0] rfl ?_
  exact tX12_qGoesOnTest_0 hd q_FU M hO
def fX12_qTest_106 (K2 : Int → q_Mem → Option (Int × q_Mem)) (s0 : Int) (M : q_Mem) : Option (Int × q_Mem) := (K2 s0 M)
theorem tX12_qTest_106 {d : Nat} (hd : 7 ≤ d) (K2 : Int → q_Mem → Option (Int × q_Mem)) (hK2 : ∀ (x1 : Int) (M : q_Mem), q_Ok M → q_EX (d + 1) yX12_qTest cX12_qTest 3 none 2 [(0, .inr (.inr 94)), (1, .inl x1)] [] M (K2 x1 M)) (s0 : Int) (M : q_Mem) (hO : q_Ok M) : q_EX (d + 1) yX12_qTest cX12_qTest 3 none 106 [(0, .inr (.inr 94))] [.inl s0] M (fX12_qTest_106 K2 s0 M) := by
  unfold fX12_qTest_106
  refine q_istore_n (ls' := [(1, .inl s0), (0, .inr (.inr 94))]) dX12_qTest_106 rfl (by decide) rfl ?_
  refine q_goto (tgt := 2) dX12_qTest_107 (by decide) ?_
  refine q_sub [1, 0] rfl ?_
  exact hK2 s0 M hO
def fX12_qTest_105 (K2 : Int → q_Mem → Option (Int × q_Mem)) (M : q_Mem) : Option (Int × q_Mem) := (fX12_qTest_106 K2 0 M)
theorem tX12_qTest_105 {d : Nat} (hd : 7 ≤ d) (K2 : Int → q_Mem → Option (Int × q_Mem)) (hK2 : ∀ (x1 : Int) (M : q_Mem), q_Ok M → q_EX (d + 1) yX12_qTest cX12_qTest 3 none 2 [(0, .inr (.inr 94)), (1, .inl x1)] [] M (K2 x1 M)) (M : q_Mem) (hO : q_Ok M) : q_EX (d + 1) yX12_qTest cX12_qTest 3 none 105 [(0, .inr (.inr 94))] [] M (fX12_qTest_105 K2 M) := by
  unfold fX12_qTest_105
  refine q_iconst dX12_qTest_105 ?_
  refine q_sub [0] rfl ?_
  exact tX12_qTest_106 hd K2 hK2 0 M hO
def fX12_qTest_110  : Nat → q_Mem → Option (Int × q_Mem)
  | 0, _ => none
  | n + 1, M => if q_w (M.2 94 5) = 0 then (if 0 < q_w (M.2 94 93) then (q_bd (fX12_qDrops M) fun _ M1 => (fX12_qTest_110 n M1)) else (some (0, M))) else (some (0, M))
theorem tX12_qTest_110 {d : Nat} (hd : 7 ≤ d) : ∀ (n : Nat)  (M : q_Mem), q_Ok M → q_EX (d + 1) yX12_qTest cX12_qTest 3 none 110 [(0, .inr (.inr 94))] [] M (fX12_qTest_110 n M) := by
  intro n
  induction n with
  | zero => intro M hO; exact q_none
  | succ n ih =>
    intro M hO
    rw [fX12_qTest_110]
    refine q_aload_n 0 dX12_qTest_110 rfl rfl ?_
    refine q_geti fl_X12_237 sh_94 (q_inO hO sh_94) rfl dX12_qTest_111 ?_
    refine q_ifne (tgt := 131) dX12_qTest_114 (by decide) ?_ ?_
    · exact q_ret dX12_qTest_131 rfl
    · refine q_aload_n 0 dX12_qTest_117 rfl rfl ?_
      refine q_geti fl_X12_321 sh_94 (q_inO hO sh_94) rfl dX12_qTest_118 ?_
      refine q_ifle (tgt := 131) dX12_qTest_121 (by decide) ?_ ?_
      · exact q_ret dX12_qTest_131 rfl
      · refine q_aload_n 0 dX12_qTest_124 rfl rfl ?_
        refine q_callVv (As := []) hO mb_X12_qDrops mv_X12_qDrops ml_X12_528 sh_94 rfl dX12_qTest_125 (fun _ => rfl) rfl (Nat.le_of_ble_eq_true rfl) rfl (Nat.le_of_ble_eq_true rfl) (tX12_qDrops (by omega) M hO) (fun _ M1 _ hO1 => ?_)
        refine q_goto (tgt := 110) dX12_qTest_128 (by decide) ?_
        refine q_sub [0] rfl ?_
        exact ih M1 hO1
def fX12_qTest_2  : Nat → Int → q_Mem → Option (Int × q_Mem)
  | 0, _, _ => none
  | n + 1, x1, M => if q_w x1 = 0 then ((fX12_qTest_110 q_FU M)) else (if q_w (M.2 94 5) = 0 then (q_bd (fX12_look M) fun x21 M1 => if q_w x21 = q_w 91 then (q_bd (fX12_qOpens 25 (M1.2 94 2) M1) fun _ M8 => q_let (q_up M8 94 2 ((M8.2 94 2) + 1)) fun M9 => (fX12_qTest_2 n x1 M9)) else (q_bd (fX12_isHere 146 3 M1) fun x22 M2 => if q_w x22 = 0 then (q_bd (fX12_qFact M2) fun _ M3 => q_bd (fX12_qDropsNots M3) fun _ M4 => if q_w (M4.2 94 5) = 0 then (q_bd (fX12_qGoesOnTest M4) fun x23 M5 => if q_w x23 = 0 then ((fX12_qTest_105 (fX12_qTest_2 n) M5)) else ((fX12_qTest_106 (fX12_qTest_2 n) 1 M5))) else ((fX12_qTest_105 (fX12_qTest_2 n) M4))) else (q_bd (fX12_qOpens 12 (M2.2 94 2) M2) fun _ M6 => q_bd (fX12_asks 146 3 M6) fun _ M7 => (fX12_qTest_2 n x1 M7)))) else ((fX12_qTest_110 q_FU M)))
theorem tX12_qTest_2 {d : Nat} (hd : 7 ≤ d) : ∀ (n : Nat) (x1 : Int) (M : q_Mem), q_Ok M → q_EX (d + 1) yX12_qTest cX12_qTest 3 none 2 [(0, .inr (.inr 94)), (1, .inl x1)] [] M (fX12_qTest_2 n x1 M) := by
  intro n
  induction n with
  | zero => intro x1 M hO; exact q_none
  | succ n ih =>
    intro x1 M hO
    rw [fX12_qTest_2]
    refine q_iload_n 1 dX12_qTest_2 rfl rfl ?_
    refine q_ifeq (tgt := 110) dX12_qTest_3 (by decide) ?_ ?_
    · refine q_sub [0] rfl ?_
      exact tX12_qTest_110 hd q_FU M hO
    · refine q_aload_n 0 dX12_qTest_6 rfl rfl ?_
      refine q_geti fl_X12_237 sh_94 (q_inO hO sh_94) rfl dX12_qTest_7 ?_
      refine q_ifne (tgt := 110) dX12_qTest_10 (by decide) ?_ ?_
      · refine q_sub [0] rfl ?_
        exact tX12_qTest_110 hd q_FU M hO
      · refine q_aload_n 0 dX12_qTest_13 rfl rfl ?_
        refine q_callVi (As := []) hO mb_X12_look mv_X12_look ml_X12_249 sh_94 rfl dX12_qTest_14 (fun _ => rfl) rfl (Nat.le_of_ble_eq_true rfl) rfl (Nat.le_of_ble_eq_true rfl) (tX12_look M hO) (fun x21 M1 _ hO1 => ?_)
        refine q_istore_n (ls' := [(2, .inl x21), (0, .inr (.inr 94)), (1, .inl x1)]) dX12_qTest_17 rfl (by decide) rfl ?_
        refine q_iload_n 0 dX12_qTest_18 rfl rfl ?_
        refine q_bipush dX12_qTest_19 (by decide) ?_
        refine q_icmpne (tgt := 47) dX12_qTest_21 (by decide) ?_ ?_
        · refine q_aload_n 1 dX12_qTest_47 rfl rfl ?_
          refine q_aload_n 1 dX12_qTest_48 rfl rfl ?_
          refine q_getx fl_X12_174 hO1 sh_94 rfl fx_94_74 dX12_qTest_49 ?_
          refine q_callVi (As := [.inr (.inr 146)]) hO1 mb_X12_isHere mv_X12_isHere ml_X12_260 sh_94 rfl dX12_qTest_52 (fun _ => rfl) rfl (Nat.le_of_ble_eq_true rfl) rfl (Nat.le_of_ble_eq_true rfl) (tX12_isHere (by omega) 146 3 M1 hO1 sh_146) (fun x22 M2 _ hO2 => ?_)
          refine q_ifeq (tgt := 79) dX12_qTest_55 (by decide) ?_ ?_
          · refine q_aload_n 1 dX12_qTest_79 rfl rfl ?_
            refine q_callVv (As := []) hO2 mb_X12_qFact mv_X12_qFact ml_X12_564 sh_94 rfl dX12_qTest_80 (fun _ => rfl) rfl (Nat.le_of_ble_eq_true rfl) rfl (Nat.le_of_ble_eq_true rfl) (tX12_qFact (by omega) M2 hO2) (fun _ M3 _ hO3 => ?_)
            refine q_aload_n 1 dX12_qTest_83 rfl rfl ?_
            refine q_callVv (As := []) hO3 mb_X12_qDropsNots mv_X12_qDropsNots ml_X12_567 sh_94 rfl dX12_qTest_84 (fun _ => rfl) rfl (Nat.le_of_ble_eq_true rfl) rfl (Nat.le_of_ble_eq_true rfl) (tX12_qDropsNots (by omega) M3 hO3) (fun _ M4 _ hO4 => ?_)
            refine q_aload_n 1 dX12_qTest_87 rfl rfl ?_
            refine q_geti fl_X12_237 sh_94 (q_inO hO4 sh_94) rfl dX12_qTest_88 ?_
            refine q_ifne (tgt := 105) dX12_qTest_91 (by decide) ?_ ?_
            · refine q_sub [1] rfl ?_
              exact tX12_qTest_105 hd (fX12_qTest_2 n) ih M4 hO4
            · refine q_aload_n 1 dX12_qTest_94 rfl rfl ?_
              refine q_callVi (As := []) hO4 mb_X12_qGoesOnTest mv_X12_qGoesOnTest ml_X12_570 sh_94 rfl dX12_qTest_95 (fun _ => rfl) rfl (Nat.le_of_ble_eq_true rfl) rfl (Nat.le_of_ble_eq_true rfl) (tX12_qGoesOnTest (by omega) M4 hO4) (fun x23 M5 _ hO5 => ?_)
              refine q_ifeq (tgt := 105) dX12_qTest_98 (by decide) ?_ ?_
              · refine q_sub [1] rfl ?_
                exact tX12_qTest_105 hd (fX12_qTest_2 n) ih M5 hO5
              · refine q_iconst dX12_qTest_101 ?_
                refine q_goto (tgt := 106) dX12_qTest_102 (by decide) ?_
                refine q_sub [1] rfl ?_
                exact tX12_qTest_106 hd (fX12_qTest_2 n) ih 1 M5 hO5
          · refine q_aload_n 1 dX12_qTest_58 rfl rfl ?_
            refine q_bipush dX12_qTest_59 (by decide) ?_
            refine q_aload_n 1 dX12_qTest_61 rfl rfl ?_
            refine q_geti fl_X12_243 sh_94 (q_inO hO2 sh_94) rfl dX12_qTest_62 ?_
            refine q_callVv (As := [.inl 12, .inl (M2.2 94 2)]) hO2 mb_X12_qOpens mv_X12_qOpens ml_X12_540 sh_94 rfl dX12_qTest_65 (fun _ => rfl) rfl (Nat.le_of_ble_eq_true rfl) rfl (Nat.le_of_ble_eq_true rfl) (tX12_qOpens (by omega) 12 (M2.2 94 2) M2 hO2) (fun _ M6 _ hO6 => ?_)
            refine q_aload_n 1 dX12_qTest_68 rfl rfl ?_
            refine q_aload_n 1 dX12_qTest_69 rfl rfl ?_
            refine q_getx fl_X12_174 hO6 sh_94 rfl fx_94_74 dX12_qTest_70 ?_
            refine q_callVv (As := [.inr (.inr 146)]) hO6 mb_X12_asks mv_X12_asks ml_X12_299 sh_94 rfl dX12_qTest_73 (fun _ => rfl) rfl (Nat.le_of_ble_eq_true rfl) rfl (Nat.le_of_ble_eq_true rfl) (tX12_asks (by omega) 146 3 M6 hO6 sh_146) (fun _ M7 _ hO7 => ?_)
            refine q_goto (tgt := 2) dX12_qTest_76 (by decide) ?_
            refine q_sub [1, 2] rfl ?_
            exact ih x1 M7 hO7
        · refine q_aload_n 1 dX12_qTest_24 rfl rfl ?_
          refine q_bipush dX12_qTest_25 (by decide) ?_
          refine q_aload_n 1 dX12_qTest_27 rfl rfl ?_
          refine q_geti fl_X12_243 sh_94 (q_inO hO1 sh_94) rfl dX12_qTest_28 ?_
          refine q_callVv (As := [.inl 25, .inl (M1.2 94 2)]) hO1 mb_X12_qOpens mv_X12_qOpens ml_X12_540 sh_94 rfl dX12_qTest_31 (fun _ => rfl) rfl (Nat.le_of_ble_eq_true rfl) rfl (Nat.le_of_ble_eq_true rfl) (tX12_qOpens (by omega) 25 (M1.2 94 2) M1 hO1) (fun _ M8 _ hO8 => ?_)
          refine q_aload_n 1 dX12_qTest_34 rfl rfl ?_
          refine q_dup dX12_qTest_35 rfl ?_
          refine q_geti fl_X12_243 sh_94 (q_inO hO8 sh_94) rfl dX12_qTest_36 ?_
          refine q_iconst dX12_qTest_39 ?_
          refine q_iadd dX12_qTest_40 ?_
          refine q_puti fl_X12_243 sh_94 (q_inO hO8 sh_94) (fun h => q_Ok_put h sh_94 rfl) rfl dX12_qTest_41 (fun M9 hM9 => ?_)
          have hO9 : q_Ok M9 := by rw [hM9]; exact q_Ok_put hO8 sh_94 rfl
          refine q_goto (tgt := 2) dX12_qTest_44 (by decide) ?_
          refine q_sub [1, 2] rfl ?_
          exact ih x1 M9 hO9
def fX12_qTest (M : q_Mem) : Option (Int × q_Mem) := (fX12_qTest_2 q_FU 1 M)
theorem tX12_qTest {d : Nat} (hd : 8 ≤ d) (M : q_Mem) (hO : q_Ok M) : q_EX d yX12_qTest cX12_qTest 3 none 0 (q_args 0 [.inr (.inr 94)]) [] M (fX12_qTest M) := by
  obtain ⟨d, rfl⟩ : ∃ d', d = d' + 1 := ⟨d - 1, by omega⟩
  have hd : 7 ≤ d := by omega
  show q_EX _ _ _ _ _ 0 [(0, .inr (.inr 94))] [] M _
  unfold fX12_qTest
  refine q_iconst dX12_qTest_0 ?_
  refine q_istore_n (ls' := [(1, .inl 1), (0, .inr (.inr 94))]) dX12_qTest_1 rfl (by decide) rfl ?_
  refine q_sub [1, 0] rfl ?_
  exact tX12_qTest_2 hd q_FU 1 M hO
def fX12_codesTold_92  : Nat → Int → Int → q_Mem → Option (Int × q_Mem)
  | 0, _, _, _ => none
  | n + 1, x1, x3, M => if q_w x3 < q_w (M.2 94 91) then ((q_ld M 162 1700 x3).bind fun x21 => (q_sto M 130 3200 (M.2 94 45) x21).bind fun M2 => q_let (q_up M2 94 45 ((M2.2 94 45) + 1)) fun M3 => (fX12_codesTold_92 n x1 (x3 + 1) M3)) else ((q_sto M 129 4 x1 (M.2 94 45)).bind fun M1 => some (0, M1))
theorem tX12_codesTold_92 {d : Nat} (hd : 8 ≤ d) : ∀ (n : Nat) (x1 : Int) (x3 : Int) (M : q_Mem), q_Ok M → q_EX (d + 1) yX12_codesTold cX12_codesTold 4 none 92 [(0, .inr (.inr 94)), (1, .inl x1), (3, .inl x3)] [] M (fX12_codesTold_92 n x1 x3 M) := by
  intro n
  induction n with
  | zero => intro x1 x3 M hO; exact q_none
  | succ n ih =>
    intro x1 x3 M hO
    rw [fX12_codesTold_92]
    refine q_iload_n 2 dX12_codesTold_92 rfl rfl ?_
    refine q_aload_n 0 dX12_codesTold_93 rfl rfl ?_
    refine q_geti fl_X12_318 sh_94 (q_inO hO sh_94) rfl dX12_codesTold_94 ?_
    refine q_icmpge (tgt := 131) dX12_codesTold_97 (by decide) ?_ ?_
    · refine q_aload_n 0 dX12_codesTold_131 rfl rfl ?_
      refine q_getx fl_X12_118 hO sh_94 rfl fx_94_43 dX12_codesTold_132 ?_
      refine q_iload_n 1 dX12_codesTold_135 rfl rfl ?_
      refine q_aload_n 0 dX12_codesTold_136 rfl rfl ?_
      refine q_geti fl_X12_336 sh_94 (q_inO hO sh_94) rfl dX12_codesTold_137 ?_
      refine q_iast sh_129 (q_inA hO sh_129 (by decide)) dX12_codesTold_140 (fun M1 _ _ hM1 => ?_)
      have hO1 : q_Ok M1 := by rw [hM1]; exact q_Ok_arr (t := 0) hO sh_129 (by decide)
      exact q_ret dX12_codesTold_141 rfl
    · refine q_aload_n 0 dX12_codesTold_100 rfl rfl ?_
      refine q_getx fl_X12_121 hO sh_94 rfl fx_94_44 dX12_codesTold_101 ?_
      refine q_aload_n 0 dX12_codesTold_104 rfl rfl ?_
      refine q_geti fl_X12_336 sh_94 (q_inO hO sh_94) rfl dX12_codesTold_105 ?_
      refine q_aload_n 0 dX12_codesTold_108 rfl rfl ?_
      refine q_getx fl_X12_222 hO sh_94 rfl fx_94_90 dX12_codesTold_109 ?_
      refine q_iload_n 2 dX12_codesTold_112 rfl rfl ?_
      refine q_iald sh_162 (q_inA hO sh_162 (by decide)) dX12_codesTold_113 (fun x21 _ _ _ => ?_)
      refine q_iast sh_130 (q_inA hO sh_130 (by decide)) dX12_codesTold_114 (fun M2 _ _ hM2 => ?_)
      have hO2 : q_Ok M2 := by rw [hM2]; exact q_Ok_arr (t := 0) hO sh_130 (by decide)
      refine q_aload_n 0 dX12_codesTold_115 rfl rfl ?_
      refine q_dup dX12_codesTold_116 rfl ?_
      refine q_geti fl_X12_336 sh_94 (q_inO hO2 sh_94) rfl dX12_codesTold_117 ?_
      refine q_iconst dX12_codesTold_120 ?_
      refine q_iadd dX12_codesTold_121 ?_
      refine q_puti fl_X12_336 sh_94 (q_inO hO2 sh_94) (fun h => q_Ok_put h sh_94 rfl) rfl dX12_codesTold_122 (fun M3 hM3 => ?_)
      have hO3 : q_Ok M3 := by rw [hM3]; exact q_Ok_put hO2 sh_94 rfl
      refine q_iinc (ls' := [(3, .inl (x3 + 1)), (0, .inr (.inr 94)), (1, .inl x1)]) 2 dX12_codesTold_125 rfl (by decide) rfl ?_
      refine q_goto (tgt := 92) dX12_codesTold_128 (by decide) ?_
      refine q_sub [1, 2, 0] rfl ?_
      exact ih x1 (x3 + 1) M3 hO3
def fX12_codesTold_72 (x1 : Int) (M : q_Mem) : Option (Int × q_Mem) := if q_w (M.2 94 5) = 0 then ((q_sto M 128 4 x1 (M.2 94 45)).bind fun M1 => (fX12_codesTold_92 q_FU x1 0 M1)) else (some (0, M))
theorem tX12_codesTold_72 {d : Nat} (hd : 8 ≤ d) (x1 : Int) (M : q_Mem) (hO : q_Ok M) : q_EX (d + 1) yX12_codesTold cX12_codesTold 4 none 72 [(0, .inr (.inr 94)), (1, .inl x1)] [] M (fX12_codesTold_72 x1 M) := by
  unfold fX12_codesTold_72
  refine q_aload_n 0 dX12_codesTold_72 rfl rfl ?_
  refine q_geti fl_X12_237 sh_94 (q_inO hO sh_94) rfl dX12_codesTold_73 ?_
  refine q_ifeq (tgt := 80) dX12_codesTold_76 (by decide) ?_ ?_
  · refine q_aload_n 0 dX12_codesTold_80 rfl rfl ?_
    refine q_getx fl_X12_115 hO sh_94 rfl fx_94_42 dX12_codesTold_81 ?_
    refine q_iload_n 1 dX12_codesTold_84 rfl rfl ?_
    refine q_aload_n 0 dX12_codesTold_85 rfl rfl ?_
    refine q_geti fl_X12_336 sh_94 (q_inO hO sh_94) rfl dX12_codesTold_86 ?_
    refine q_iast sh_128 (q_inA hO sh_128 (by decide)) dX12_codesTold_89 (fun M1 _ _ hM1 => ?_)
    have hO1 : q_Ok M1 := by rw [hM1]; exact q_Ok_arr (t := 0) hO sh_128 (by decide)
    refine q_iconst dX12_codesTold_90 ?_
    refine q_istore_n (ls' := [(3, .inl 0), (0, .inr (.inr 94)), (1, .inl x1)]) dX12_codesTold_91 rfl (by decide) rfl ?_
    refine q_sub [1, 2, 0] rfl ?_
    exact tX12_codesTold_92 hd q_FU x1 0 M1 hO1
  · exact q_ret dX12_codesTold_79 rfl
def fX12_codesTold_23 (x1 : Int) (M : q_Mem) : Option (Int × q_Mem) := if q_w (M.2 94 5) = 0 then (q_let (q_up M 94 48 x1) fun M1 => q_let (q_up M1 94 91 0) fun M2 => q_let (q_up M2 94 93 0) fun M3 => q_let (q_up M3 94 94 0) fun M4 => q_let (q_up M4 94 95 0) fun M5 => if q_w x1 = q_w 1 then (q_bd (fX12_qTest M5) fun _ M7 => (fX12_codesTold_72 x1 M7)) else (q_bd (fX12_qSums M5) fun _ M6 => (fX12_codesTold_72 x1 M6))) else (some (0, M))
theorem tX12_codesTold_23 {d : Nat} (hd : 8 ≤ d) (x1 : Int) (M : q_Mem) (hO : q_Ok M) : q_EX (d + 1) yX12_codesTold cX12_codesTold 4 none 23 [(0, .inr (.inr 94)), (1, .inl x1)] [] M (fX12_codesTold_23 x1 M) := by
  unfold fX12_codesTold_23
  refine q_aload_n 0 dX12_codesTold_23 rfl rfl ?_
  refine q_geti fl_X12_237 sh_94 (q_inO hO sh_94) rfl dX12_codesTold_24 ?_
  refine q_ifeq (tgt := 31) dX12_codesTold_27 (by decide) ?_ ?_
  · refine q_aload_n 0 dX12_codesTold_31 rfl rfl ?_
    refine q_iload_n 1 dX12_codesTold_32 rfl rfl ?_
    refine q_puti fl_X12_292 sh_94 (q_inO hO sh_94) (fun h => q_Ok_put h sh_94 rfl) rfl dX12_codesTold_33 (fun M1 hM1 => ?_)
    have hO1 : q_Ok M1 := by rw [hM1]; exact q_Ok_put hO sh_94 rfl
    refine q_aload_n 0 dX12_codesTold_36 rfl rfl ?_
    refine q_iconst dX12_codesTold_37 ?_
    refine q_puti fl_X12_318 sh_94 (q_inO hO1 sh_94) (fun h => q_Ok_put h sh_94 rfl) rfl dX12_codesTold_38 (fun M2 hM2 => ?_)
    have hO2 : q_Ok M2 := by rw [hM2]; exact q_Ok_put hO1 sh_94 rfl
    refine q_aload_n 0 dX12_codesTold_41 rfl rfl ?_
    refine q_iconst dX12_codesTold_42 ?_
    refine q_puti fl_X12_321 sh_94 (q_inO hO2 sh_94) (fun h => q_Ok_put h sh_94 rfl) rfl dX12_codesTold_43 (fun M3 hM3 => ?_)
    have hO3 : q_Ok M3 := by rw [hM3]; exact q_Ok_put hO2 sh_94 rfl
    refine q_aload_n 0 dX12_codesTold_46 rfl rfl ?_
    refine q_iconst dX12_codesTold_47 ?_
    refine q_puti fl_X12_324 sh_94 (q_inO hO3 sh_94) (fun h => q_Ok_put h sh_94 rfl) rfl dX12_codesTold_48 (fun M4 hM4 => ?_)
    have hO4 : q_Ok M4 := by rw [hM4]; exact q_Ok_put hO3 sh_94 rfl
    refine q_aload_n 0 dX12_codesTold_51 rfl rfl ?_
    refine q_iconst dX12_codesTold_52 ?_
    refine q_puti fl_X12_327 sh_94 (q_inO hO4 sh_94) (fun h => q_Ok_put h sh_94 rfl) rfl dX12_codesTold_53 (fun M5 hM5 => ?_)
    have hO5 : q_Ok M5 := by rw [hM5]; exact q_Ok_put hO4 sh_94 rfl
    refine q_iload_n 1 dX12_codesTold_56 rfl rfl ?_
    refine q_iconst dX12_codesTold_57 ?_
    refine q_icmpne (tgt := 68) dX12_codesTold_58 (by decide) ?_ ?_
    · refine q_aload_n 0 dX12_codesTold_68 rfl rfl ?_
      refine q_callVv (As := []) hO5 mb_X12_qSums mv_X12_qSums ml_X12_333 sh_94 rfl dX12_codesTold_69 (fun _ => rfl) rfl (Nat.le_of_ble_eq_true rfl) rfl (Nat.le_of_ble_eq_true rfl) (tX12_qSums (by omega) M5 hO5) (fun _ M6 _ hO6 => ?_)
      refine q_sub [0, 1] rfl ?_
      exact tX12_codesTold_72 hd x1 M6 hO6
    · refine q_aload_n 0 dX12_codesTold_61 rfl rfl ?_
      refine q_callVv (As := []) hO5 mb_X12_qTest mv_X12_qTest ml_X12_330 sh_94 rfl dX12_codesTold_62 (fun _ => rfl) rfl (Nat.le_of_ble_eq_true rfl) rfl (Nat.le_of_ble_eq_true rfl) (tX12_qTest (by omega) M5 hO5) (fun _ M7 _ hO7 => ?_)
      refine q_goto (tgt := 72) dX12_codesTold_65 (by decide) ?_
      refine q_sub [0, 1] rfl ?_
      exact tX12_codesTold_72 hd x1 M7 hO7
  · exact q_ret dX12_codesTold_30 rfl
def fX12_codesTold (x1 : Int) (x2 : Int) (M : q_Mem) : Option (Int × q_Mem) := if q_w (M.2 94 5) = 0 then ((q_ld M 128 4 x1).bind fun x21 => if q_w x21 = q_w (-1) then ((fX12_codesTold_23 x1 M)) else (q_bd (fX12_fail 5 x2 M) fun _ M1 => (fX12_codesTold_23 x1 M1))) else ((fX12_codesTold_23 x1 M))
theorem tX12_codesTold {d : Nat} (hd : 9 ≤ d) (x1 : Int) (x2 : Int) (M : q_Mem) (hO : q_Ok M) : q_EX d yX12_codesTold cX12_codesTold 4 none 0 (q_args 0 [.inr (.inr 94), .inl x1, .inl x2]) [] M (fX12_codesTold x1 x2 M) := by
  obtain ⟨d, rfl⟩ : ∃ d', d = d' + 1 := ⟨d - 1, by omega⟩
  have hd : 8 ≤ d := by omega
  show q_EX _ _ _ _ _ 0 [(0, .inr (.inr 94)), (1, .inl x1), (2, .inl x2)] [] M _
  unfold fX12_codesTold
  refine q_aload_n 0 dX12_codesTold_0 rfl rfl ?_
  refine q_geti fl_X12_237 sh_94 (q_inO hO sh_94) rfl dX12_codesTold_1 ?_
  refine q_ifne (tgt := 23) dX12_codesTold_4 (by decide) ?_ ?_
  · refine q_sub [0, 1] rfl ?_
    exact tX12_codesTold_23 hd x1 M hO
  · refine q_aload_n 0 dX12_codesTold_7 rfl rfl ?_
    refine q_getx fl_X12_115 hO sh_94 rfl fx_94_42 dX12_codesTold_8 ?_
    refine q_iload_n 1 dX12_codesTold_11 rfl rfl ?_
    refine q_iald sh_128 (q_inA hO sh_128 (by decide)) dX12_codesTold_12 (fun x21 _ _ _ => ?_)
    refine q_iconst dX12_codesTold_13 ?_
    refine q_icmpeq (tgt := 23) dX12_codesTold_14 (by decide) ?_ ?_
    · refine q_sub [0, 1] rfl ?_
      exact tX12_codesTold_23 hd x1 M hO
    · refine q_aload_n 0 dX12_codesTold_17 rfl rfl ?_
      refine q_iconst dX12_codesTold_18 ?_
      refine q_iload_n 2 dX12_codesTold_19 rfl rfl ?_
      refine q_callVv (As := [.inl 5, .inl x2]) hO mb_X12_fail mv_X12_fail ml_X12_267 sh_94 rfl dX12_codesTold_20 (fun _ => rfl) rfl (Nat.le_of_ble_eq_true rfl) rfl (Nat.le_of_ble_eq_true rfl) (tX12_fail 5 x2 M hO) (fun _ M1 _ hO1 => ?_)
      refine q_sub [0, 1] rfl ?_
      exact tX12_codesTold_23 hd x1 M1 hO1
def fX12_statementTold_167 (M : q_Mem) : Option (Int × q_Mem) := q_bd (fX12_asksSign 59 M) fun _ M1 => q_let (q_up M1 94 46 ((M1.2 94 46) + 1)) fun M2 => some (0, M2)
theorem tX12_statementTold_167 {d : Nat} (hd : 9 ≤ d) (M : q_Mem) (hO : q_Ok M) : q_EX (d + 1) yX12_statementTold cX12_statementTold 2 none 167 [(0, .inr (.inr 94))] [] M (fX12_statementTold_167 M) := by
  unfold fX12_statementTold_167
  refine q_aload_n 0 dX12_statementTold_167 rfl rfl ?_
  refine q_bipush dX12_statementTold_168 (by decide) ?_
  refine q_callVv (As := [.inl 59]) hO mb_X12_asksSign mv_X12_asksSign ml_X12_307 sh_94 rfl dX12_statementTold_170 (fun _ => rfl) rfl (Nat.le_of_ble_eq_true rfl) rfl (Nat.le_of_ble_eq_true rfl) (tX12_asksSign (by omega) 59 M hO) (fun _ M1 _ hO1 => ?_)
  refine q_aload_n 0 dX12_statementTold_173 rfl rfl ?_
  refine q_dup dX12_statementTold_174 rfl ?_
  refine q_geti fl_X12_339 sh_94 (q_inO hO1 sh_94) rfl dX12_statementTold_175 ?_
  refine q_iconst dX12_statementTold_178 ?_
  refine q_iadd dX12_statementTold_179 ?_
  refine q_puti fl_X12_339 sh_94 (q_inO hO1 sh_94) (fun h => q_Ok_put h sh_94 rfl) rfl dX12_statementTold_180 (fun M2 hM2 => ?_)
  have hO2 : q_Ok M2 := by rw [hM2]; exact q_Ok_put hO1 sh_94 rfl
  exact q_ret dX12_statementTold_183 rfl
def fX12_statementTold (M : q_Mem) : Option (Int × q_Mem) := q_let (M.2 94 2) fun x21 => if q_w (M.2 94 46) = q_w 80 then (q_bd (fX12_fail 5 x21 M) fun _ M17 => some (0, M17)) else (q_bd (fX12_takes 98 5 M) fun x22 M1 => if q_w x22 = 0 then (q_bd (fX12_takes 103 4 M1) fun x23 M2 => if q_w x23 = 0 then (q_bd (fX12_takes 106 5 M2) fun x24 M3 => if q_w x24 = 0 then (q_bd (fX12_takes 108 5 M3) fun x25 M4 => if q_w x25 = 0 then (q_bd (fX12_takes 109 6 M4) fun x26 M5 => if q_w x26 = 0 then (q_bd (fX12_takes 110 6 M5) fun x27 M6 => if q_w x27 = 0 then (q_bd (fX12_asks 111 4 M6) fun _ M7 => q_bd (fX12_number 0 100 M7) fun x28 M8 => (q_sto M8 122 6 2 x28).bind fun M9 => (fX12_statementTold_167 M9)) else (q_bd (fX12_number 0 9999 M6) fun x29 M10 => (q_sto M10 122 6 1 x29).bind fun M11 => (fX12_statementTold_167 M11))) else (q_bd (fX12_codesTold 1 x21 M5) fun _ M12 => (fX12_statementTold_167 M12))) else (q_bd (fX12_codesTold 0 x21 M4) fun _ M13 => (fX12_statementTold_167 M13))) else (q_bd (fX12_cloudTold x21 M3) fun _ M14 => (fX12_statementTold_167 M14))) else (q_bd (fX12_coinTold x21 M2) fun _ M15 => (fX12_statementTold_167 M15))) else (q_bd (fX12_stallTold x21 M1) fun _ M16 => (fX12_statementTold_167 M16)))
theorem tX12_statementTold {d : Nat} (hd : 10 ≤ d) (M : q_Mem) (hO : q_Ok M) : q_EX d yX12_statementTold cX12_statementTold 2 none 0 (q_args 0 [.inr (.inr 94)]) [] M (fX12_statementTold M) := by
  obtain ⟨d, rfl⟩ : ∃ d', d = d' + 1 := ⟨d - 1, by omega⟩
  have hd : 9 ≤ d := by omega
  show q_EX _ _ _ _ _ 0 [(0, .inr (.inr 94))] [] M _
  unfold fX12_statementTold
  refine q_aload_n 0 dX12_statementTold_0 rfl rfl ?_
  refine q_geti fl_X12_243 sh_94 (q_inO hO sh_94) rfl dX12_statementTold_1 ?_
  refine q_nameI (fun x21 _ => ?_)
  refine q_istore_n (ls' := [(1, .inl x21), (0, .inr (.inr 94))]) dX12_statementTold_4 rfl (by decide) rfl ?_
  refine q_aload_n 1 dX12_statementTold_5 rfl rfl ?_
  refine q_geti fl_X12_339 sh_94 (q_inO hO sh_94) rfl dX12_statementTold_6 ?_
  refine q_bipush dX12_statementTold_9 (by decide) ?_
  refine q_icmpne (tgt := 21) dX12_statementTold_11 (by decide) ?_ ?_
  · refine q_aload_n 1 dX12_statementTold_21 rfl rfl ?_
    refine q_aload_n 1 dX12_statementTold_22 rfl rfl ?_
    refine q_getx fl_X12_24 hO sh_94 rfl fx_94_11 dX12_statementTold_23 ?_
    refine q_callVi (As := [.inr (.inr 98)]) hO mb_X12_takes mv_X12_takes ml_X12_264 sh_94 rfl dX12_statementTold_26 (fun _ => rfl) rfl (Nat.le_of_ble_eq_true rfl) rfl (Nat.le_of_ble_eq_true rfl) (tX12_takes (by omega) 98 5 M hO sh_98) (fun x22 M1 _ hO1 => ?_)
    refine q_ifeq (tgt := 40) dX12_statementTold_29 (by decide) ?_ ?_
    · refine q_aload_n 1 dX12_statementTold_40 rfl rfl ?_
      refine q_aload_n 1 dX12_statementTold_41 rfl rfl ?_
      refine q_getx fl_X12_39 hO1 sh_94 rfl fx_94_16 dX12_statementTold_42 ?_
      refine q_callVi (As := [.inr (.inr 103)]) hO1 mb_X12_takes mv_X12_takes ml_X12_264 sh_94 rfl dX12_statementTold_45 (fun _ => rfl) rfl (Nat.le_of_ble_eq_true rfl) rfl (Nat.le_of_ble_eq_true rfl) (tX12_takes (by omega) 103 4 M1 hO1 sh_103) (fun x23 M2 _ hO2 => ?_)
      refine q_ifeq (tgt := 59) dX12_statementTold_48 (by decide) ?_ ?_
      · refine q_aload_n 1 dX12_statementTold_59 rfl rfl ?_
        refine q_aload_n 1 dX12_statementTold_60 rfl rfl ?_
        refine q_getx fl_X12_48 hO2 sh_94 rfl fx_94_19 dX12_statementTold_61 ?_
        refine q_callVi (As := [.inr (.inr 106)]) hO2 mb_X12_takes mv_X12_takes ml_X12_264 sh_94 rfl dX12_statementTold_64 (fun _ => rfl) rfl (Nat.le_of_ble_eq_true rfl) rfl (Nat.le_of_ble_eq_true rfl) (tX12_takes (by omega) 106 5 M2 hO2 sh_106) (fun x24 M3 _ hO3 => ?_)
        refine q_ifeq (tgt := 78) dX12_statementTold_67 (by decide) ?_ ?_
        · refine q_aload_n 1 dX12_statementTold_78 rfl rfl ?_
          refine q_aload_n 1 dX12_statementTold_79 rfl rfl ?_
          refine q_getx fl_X12_54 hO3 sh_94 rfl fx_94_21 dX12_statementTold_80 ?_
          refine q_callVi (As := [.inr (.inr 108)]) hO3 mb_X12_takes mv_X12_takes ml_X12_264 sh_94 rfl dX12_statementTold_83 (fun _ => rfl) rfl (Nat.le_of_ble_eq_true rfl) rfl (Nat.le_of_ble_eq_true rfl) (tX12_takes (by omega) 108 5 M3 hO3 sh_108) (fun x25 M4 _ hO4 => ?_)
          refine q_ifeq (tgt := 98) dX12_statementTold_86 (by decide) ?_ ?_
          · refine q_aload_n 1 dX12_statementTold_98 rfl rfl ?_
            refine q_aload_n 1 dX12_statementTold_99 rfl rfl ?_
            refine q_getx fl_X12_57 hO4 sh_94 rfl fx_94_22 dX12_statementTold_100 ?_
            refine q_callVi (As := [.inr (.inr 109)]) hO4 mb_X12_takes mv_X12_takes ml_X12_264 sh_94 rfl dX12_statementTold_103 (fun _ => rfl) rfl (Nat.le_of_ble_eq_true rfl) rfl (Nat.le_of_ble_eq_true rfl) (tX12_takes (by omega) 109 6 M4 hO4 sh_109) (fun x26 M5 _ hO5 => ?_)
            refine q_ifeq (tgt := 118) dX12_statementTold_106 (by decide) ?_ ?_
            · refine q_aload_n 1 dX12_statementTold_118 rfl rfl ?_
              refine q_aload_n 1 dX12_statementTold_119 rfl rfl ?_
              refine q_getx fl_X12_60 hO5 sh_94 rfl fx_94_23 dX12_statementTold_120 ?_
              refine q_callVi (As := [.inr (.inr 110)]) hO5 mb_X12_takes mv_X12_takes ml_X12_264 sh_94 rfl dX12_statementTold_123 (fun _ => rfl) rfl (Nat.le_of_ble_eq_true rfl) rfl (Nat.le_of_ble_eq_true rfl) (tX12_takes (by omega) 110 6 M5 hO5 sh_110) (fun x27 M6 _ hO6 => ?_)
              refine q_ifeq (tgt := 146) dX12_statementTold_126 (by decide) ?_ ?_
              · refine q_aload_n 1 dX12_statementTold_146 rfl rfl ?_
                refine q_aload_n 1 dX12_statementTold_147 rfl rfl ?_
                refine q_getx fl_X12_63 hO6 sh_94 rfl fx_94_24 dX12_statementTold_148 ?_
                refine q_callVv (As := [.inr (.inr 111)]) hO6 mb_X12_asks mv_X12_asks ml_X12_299 sh_94 rfl dX12_statementTold_151 (fun _ => rfl) rfl (Nat.le_of_ble_eq_true rfl) rfl (Nat.le_of_ble_eq_true rfl) (tX12_asks (by omega) 111 4 M6 hO6 sh_111) (fun _ M7 _ hO7 => ?_)
                refine q_aload_n 1 dX12_statementTold_154 rfl rfl ?_
                refine q_getx fl_X12_96 hO7 sh_94 rfl fx_94_36 dX12_statementTold_155 ?_
                refine q_iconst dX12_statementTold_158 ?_
                refine q_aload_n 1 dX12_statementTold_159 rfl rfl ?_
                refine q_iconst dX12_statementTold_160 ?_
                refine q_bipush dX12_statementTold_161 (by decide) ?_
                refine q_callVi (As := [.inl 0, .inl 100]) hO7 mb_X12_number mv_X12_number ml_X12_303 sh_94 rfl dX12_statementTold_163 (fun _ => rfl) rfl (Nat.le_of_ble_eq_true rfl) rfl (Nat.le_of_ble_eq_true rfl) (tX12_number (by omega) 0 100 M7 hO7) (fun x28 M8 _ hO8 => ?_)
                refine q_iast sh_122 (q_inA hO8 sh_122 (by decide)) dX12_statementTold_166 (fun M9 _ _ hM9 => ?_)
                have hO9 : q_Ok M9 := by rw [hM9]; exact q_Ok_arr (t := 0) hO8 sh_122 (by decide)
                refine q_sub [1] rfl ?_
                exact tX12_statementTold_167 hd M9 hO9
              · refine q_aload_n 1 dX12_statementTold_129 rfl rfl ?_
                refine q_getx fl_X12_96 hO6 sh_94 rfl fx_94_36 dX12_statementTold_130 ?_
                refine q_iconst dX12_statementTold_133 ?_
                refine q_aload_n 1 dX12_statementTold_134 rfl rfl ?_
                refine q_iconst dX12_statementTold_135 ?_
                refine q_sipush dX12_statementTold_136 (by decide) ?_
                refine q_callVi (As := [.inl 0, .inl 9999]) hO6 mb_X12_number mv_X12_number ml_X12_303 sh_94 rfl dX12_statementTold_139 (fun _ => rfl) rfl (Nat.le_of_ble_eq_true rfl) rfl (Nat.le_of_ble_eq_true rfl) (tX12_number (by omega) 0 9999 M6 hO6) (fun x29 M10 _ hO10 => ?_)
                refine q_iast sh_122 (q_inA hO10 sh_122 (by decide)) dX12_statementTold_142 (fun M11 _ _ hM11 => ?_)
                have hO11 : q_Ok M11 := by rw [hM11]; exact q_Ok_arr (t := 0) hO10 sh_122 (by decide)
                refine q_goto (tgt := 167) dX12_statementTold_143 (by decide) ?_
                refine q_sub [1] rfl ?_
                exact tX12_statementTold_167 hd M11 hO11
            · refine q_aload_n 1 dX12_statementTold_109 rfl rfl ?_
              refine q_iconst dX12_statementTold_110 ?_
              refine q_iload_n 0 dX12_statementTold_111 rfl rfl ?_
              refine q_callVv (As := [.inl 1, .inl x21]) hO5 mb_X12_codesTold mv_X12_codesTold ml_X12_351 sh_94 rfl dX12_statementTold_112 (fun _ => rfl) rfl (Nat.le_of_ble_eq_true rfl) rfl (Nat.le_of_ble_eq_true rfl) (tX12_codesTold (by omega) 1 x21 M5 hO5) (fun _ M12 _ hO12 => ?_)
              refine q_goto (tgt := 167) dX12_statementTold_115 (by decide) ?_
              refine q_sub [1] rfl ?_
              exact tX12_statementTold_167 hd M12 hO12
          · refine q_aload_n 1 dX12_statementTold_89 rfl rfl ?_
            refine q_iconst dX12_statementTold_90 ?_
            refine q_iload_n 0 dX12_statementTold_91 rfl rfl ?_
            refine q_callVv (As := [.inl 0, .inl x21]) hO4 mb_X12_codesTold mv_X12_codesTold ml_X12_351 sh_94 rfl dX12_statementTold_92 (fun _ => rfl) rfl (Nat.le_of_ble_eq_true rfl) rfl (Nat.le_of_ble_eq_true rfl) (tX12_codesTold (by omega) 0 x21 M4 hO4) (fun _ M13 _ hO13 => ?_)
            refine q_goto (tgt := 167) dX12_statementTold_95 (by decide) ?_
            refine q_sub [1] rfl ?_
            exact tX12_statementTold_167 hd M13 hO13
        · refine q_aload_n 1 dX12_statementTold_70 rfl rfl ?_
          refine q_iload_n 0 dX12_statementTold_71 rfl rfl ?_
          refine q_callVv (As := [.inl x21]) hO3 mb_X12_cloudTold mv_X12_cloudTold ml_X12_348 sh_94 rfl dX12_statementTold_72 (fun _ => rfl) rfl (Nat.le_of_ble_eq_true rfl) rfl (Nat.le_of_ble_eq_true rfl) (tX12_cloudTold (by omega) x21 M3 hO3) (fun _ M14 _ hO14 => ?_)
          refine q_goto (tgt := 167) dX12_statementTold_75 (by decide) ?_
          refine q_sub [1] rfl ?_
          exact tX12_statementTold_167 hd M14 hO14
      · refine q_aload_n 1 dX12_statementTold_51 rfl rfl ?_
        refine q_iload_n 0 dX12_statementTold_52 rfl rfl ?_
        refine q_callVv (As := [.inl x21]) hO2 mb_X12_coinTold mv_X12_coinTold ml_X12_345 sh_94 rfl dX12_statementTold_53 (fun _ => rfl) rfl (Nat.le_of_ble_eq_true rfl) rfl (Nat.le_of_ble_eq_true rfl) (tX12_coinTold (by omega) x21 M2 hO2) (fun _ M15 _ hO15 => ?_)
        refine q_goto (tgt := 167) dX12_statementTold_56 (by decide) ?_
        refine q_sub [1] rfl ?_
        exact tX12_statementTold_167 hd M15 hO15
    · refine q_aload_n 1 dX12_statementTold_32 rfl rfl ?_
      refine q_iload_n 0 dX12_statementTold_33 rfl rfl ?_
      refine q_callVv (As := [.inl x21]) hO1 mb_X12_stallTold mv_X12_stallTold ml_X12_342 sh_94 rfl dX12_statementTold_34 (fun _ => rfl) rfl (Nat.le_of_ble_eq_true rfl) rfl (Nat.le_of_ble_eq_true rfl) (tX12_stallTold (by omega) x21 M1 hO1) (fun _ M16 _ hO16 => ?_)
      refine q_goto (tgt := 167) dX12_statementTold_37 (by decide) ?_
      refine q_sub [1] rfl ?_
      exact tX12_statementTold_167 hd M16 hO16
  · refine q_aload_n 1 dX12_statementTold_14 rfl rfl ?_
    refine q_iconst dX12_statementTold_15 ?_
    refine q_iload_n 0 dX12_statementTold_16 rfl rfl ?_
    refine q_callVv (As := [.inl 5, .inl x21]) hO mb_X12_fail mv_X12_fail ml_X12_267 sh_94 rfl dX12_statementTold_17 (fun _ => rfl) rfl (Nat.le_of_ble_eq_true rfl) rfl (Nat.le_of_ble_eq_true rfl) (tX12_fail 5 x21 M hO) (fun _ M17 _ hO17 => ?_)
    exact q_ret dX12_statementTold_20 rfl
def fX12_stands_209  : Nat → Int → q_Mem → Option (Int × q_Mem)
  | 0, _, _ => none
  | n + 1, x1, M => if q_w x1 < q_w 141 then ((q_sto M 131 141 x1 0).bind fun M3 => (fX12_stands_209 n (x1 + 1) M3)) else (q_let (q_up M 94 65 0) fun M1 => q_let (q_up M1 94 62 0) fun M2 => some (0, M2))
theorem tX12_stands_209 {d : Nat} : ∀ (n : Nat) (x1 : Int) (M : q_Mem), q_Ok M → q_EX d yX12_stands cX12_stands 2 none 209 [(0, .inr (.inr 94)), (1, .inl x1)] [] M (fX12_stands_209 n x1 M) := by
  intro n
  induction n with
  | zero => intro x1 M hO; exact q_none
  | succ n ih =>
    intro x1 M hO
    rw [fX12_stands_209]
    refine q_iload_n 1 dX12_stands_209 rfl rfl ?_
    refine q_sipush dX12_stands_210 (by decide) ?_
    refine q_icmpge (tgt := 229) dX12_stands_213 (by decide) ?_ ?_
    · refine q_aload_n 0 dX12_stands_229 rfl rfl ?_
      refine q_iconst dX12_stands_230 ?_
      refine q_puti fl_X12_370 sh_94 (q_inO hO sh_94) (fun h => q_Ok_put h sh_94 rfl) rfl dX12_stands_231 (fun M1 hM1 => ?_)
      have hO1 : q_Ok M1 := by rw [hM1]; exact q_Ok_put hO sh_94 rfl
      refine q_aload_n 0 dX12_stands_234 rfl rfl ?_
      refine q_iconst dX12_stands_235 ?_
      refine q_puti fl_X12_373 sh_94 (q_inO hO1 sh_94) (fun h => q_Ok_put h sh_94 rfl) rfl dX12_stands_236 (fun M2 hM2 => ?_)
      have hO2 : q_Ok M2 := by rw [hM2]; exact q_Ok_put hO1 sh_94 rfl
      exact q_ret dX12_stands_239 rfl
    · refine q_aload_n 0 dX12_stands_216 rfl rfl ?_
      refine q_getx fl_X12_124 hO sh_94 rfl fx_94_49 dX12_stands_217 ?_
      refine q_iload_n 1 dX12_stands_220 rfl rfl ?_
      refine q_iconst dX12_stands_221 ?_
      refine q_iast sh_131 (q_inA hO sh_131 (by decide)) dX12_stands_222 (fun M3 _ _ hM3 => ?_)
      have hO3 : q_Ok M3 := by rw [hM3]; exact q_Ok_arr (t := 0) hO sh_131 (by decide)
      refine q_iinc (ls' := [(1, .inl (x1 + 1)), (0, .inr (.inr 94))]) 1 dX12_stands_223 rfl (by decide) rfl ?_
      refine q_goto (tgt := 209) dX12_stands_226 (by decide) ?_
      refine q_sub [1, 0] rfl ?_
      exact ih (x1 + 1) M3 hO3
def fX12_stands_177  : Nat → Int → q_Mem → Option (Int × q_Mem)
  | 0, _, _ => none
  | n + 1, x1, M => if q_w x1 < q_w (M.2 94 45) then ((q_ld M 130 3200 x1).bind fun x21 => (q_sto M 130 3200 (1600 + x1) x21).bind fun M1 => (fX12_stands_177 n (x1 + 1) M1)) else ((fX12_stands_209 q_FU 0 M))
theorem tX12_stands_177 {d : Nat} : ∀ (n : Nat) (x1 : Int) (M : q_Mem), q_Ok M → q_EX d yX12_stands cX12_stands 2 none 177 [(0, .inr (.inr 94)), (1, .inl x1)] [] M (fX12_stands_177 n x1 M) := by
  intro n
  induction n with
  | zero => intro x1 M hO; exact q_none
  | succ n ih =>
    intro x1 M hO
    rw [fX12_stands_177]
    refine q_iload_n 1 dX12_stands_177 rfl rfl ?_
    refine q_aload_n 0 dX12_stands_178 rfl rfl ?_
    refine q_geti fl_X12_336 sh_94 (q_inO hO sh_94) rfl dX12_stands_179 ?_
    refine q_icmpge (tgt := 207) dX12_stands_182 (by decide) ?_ ?_
    · refine q_iconst dX12_stands_207 ?_
      refine q_istore_n (ls' := [(1, .inl 0), (0, .inr (.inr 94))]) dX12_stands_208 rfl (by decide) rfl ?_
      refine q_sub [1, 0] rfl ?_
      exact tX12_stands_209 q_FU 0 M hO
    · refine q_aload_n 0 dX12_stands_185 rfl rfl ?_
      refine q_getx fl_X12_121 hO sh_94 rfl fx_94_44 dX12_stands_186 ?_
      refine q_sipush dX12_stands_189 (by decide) ?_
      refine q_iload_n 1 dX12_stands_192 rfl rfl ?_
      refine q_iadd dX12_stands_193 ?_
      refine q_aload_n 0 dX12_stands_194 rfl rfl ?_
      refine q_getx fl_X12_121 hO sh_94 rfl fx_94_44 dX12_stands_195 ?_
      refine q_iload_n 1 dX12_stands_198 rfl rfl ?_
      refine q_iald sh_130 (q_inA hO sh_130 (by decide)) dX12_stands_199 (fun x21 _ _ _ => ?_)
      refine q_iast sh_130 (q_inA hO sh_130 (by decide)) dX12_stands_200 (fun M1 _ _ hM1 => ?_)
      have hO1 : q_Ok M1 := by rw [hM1]; exact q_Ok_arr (t := 0) hO sh_130 (by decide)
      refine q_iinc (ls' := [(1, .inl (x1 + 1)), (0, .inr (.inr 94))]) 1 dX12_stands_201 rfl (by decide) rfl ?_
      refine q_goto (tgt := 177) dX12_stands_204 (by decide) ?_
      refine q_sub [1, 0] rfl ?_
      exact ih (x1 + 1) M1 hO1
def fX12_stands_148  : Nat → Int → q_Mem → Option (Int × q_Mem)
  | 0, _, _ => none
  | n + 1, x1, M => if q_w x1 < q_w 24 then ((q_ld M 125 48 x1).bind fun x21 => (q_sto M 125 48 (24 + x1) x21).bind fun M1 => (fX12_stands_148 n (x1 + 1) M1)) else ((fX12_stands_177 q_FU 0 M))
theorem tX12_stands_148 {d : Nat} : ∀ (n : Nat) (x1 : Int) (M : q_Mem), q_Ok M → q_EX d yX12_stands cX12_stands 2 none 148 [(0, .inr (.inr 94)), (1, .inl x1)] [] M (fX12_stands_148 n x1 M) := by
  intro n
  induction n with
  | zero => intro x1 M hO; exact q_none
  | succ n ih =>
    intro x1 M hO
    rw [fX12_stands_148]
    refine q_iload_n 1 dX12_stands_148 rfl rfl ?_
    refine q_bipush dX12_stands_149 (by decide) ?_
    refine q_icmpge (tgt := 175) dX12_stands_151 (by decide) ?_ ?_
    · refine q_iconst dX12_stands_175 ?_
      refine q_istore_n (ls' := [(1, .inl 0), (0, .inr (.inr 94))]) dX12_stands_176 rfl (by decide) rfl ?_
      refine q_sub [1, 0] rfl ?_
      exact tX12_stands_177 q_FU 0 M hO
    · refine q_aload_n 0 dX12_stands_154 rfl rfl ?_
      refine q_getx fl_X12_106 hO sh_94 rfl fx_94_39 dX12_stands_155 ?_
      refine q_bipush dX12_stands_158 (by decide) ?_
      refine q_iload_n 1 dX12_stands_160 rfl rfl ?_
      refine q_iadd dX12_stands_161 ?_
      refine q_aload_n 0 dX12_stands_162 rfl rfl ?_
      refine q_getx fl_X12_106 hO sh_94 rfl fx_94_39 dX12_stands_163 ?_
      refine q_iload_n 1 dX12_stands_166 rfl rfl ?_
      refine q_iald sh_125 (q_inA hO sh_125 (by decide)) dX12_stands_167 (fun x21 _ _ _ => ?_)
      refine q_iast sh_125 (q_inA hO sh_125 (by decide)) dX12_stands_168 (fun M1 _ _ hM1 => ?_)
      have hO1 : q_Ok M1 := by rw [hM1]; exact q_Ok_arr (t := 0) hO sh_125 (by decide)
      refine q_iinc (ls' := [(1, .inl (x1 + 1)), (0, .inr (.inr 94))]) 1 dX12_stands_169 rfl (by decide) rfl ?_
      refine q_goto (tgt := 148) dX12_stands_172 (by decide) ?_
      refine q_sub [1, 0] rfl ?_
      exact ih (x1 + 1) M1 hO1
def fX12_stands_89  : Nat → Int → q_Mem → Option (Int × q_Mem)
  | 0, _, _ => none
  | n + 1, x1, M => if q_w x1 < q_w 16 then ((q_ld M 124 32 x1).bind fun x21 => (q_sto M 124 32 (16 + x1) x21).bind fun M1 => (q_ld M1 126 32 x1).bind fun x22 => (q_sto M1 126 32 (16 + x1) x22).bind fun M2 => (q_ld M2 127 32 x1).bind fun x23 => (q_sto M2 127 32 (16 + x1) x23).bind fun M3 => (fX12_stands_89 n (x1 + 1) M3)) else ((fX12_stands_148 q_FU 0 M))
theorem tX12_stands_89 {d : Nat} : ∀ (n : Nat) (x1 : Int) (M : q_Mem), q_Ok M → q_EX d yX12_stands cX12_stands 2 none 89 [(0, .inr (.inr 94)), (1, .inl x1)] [] M (fX12_stands_89 n x1 M) := by
  intro n
  induction n with
  | zero => intro x1 M hO; exact q_none
  | succ n ih =>
    intro x1 M hO
    rw [fX12_stands_89]
    refine q_iload_n 1 dX12_stands_89 rfl rfl ?_
    refine q_bipush dX12_stands_90 (by decide) ?_
    refine q_icmpge (tgt := 146) dX12_stands_92 (by decide) ?_ ?_
    · refine q_iconst dX12_stands_146 ?_
      refine q_istore_n (ls' := [(1, .inl 0), (0, .inr (.inr 94))]) dX12_stands_147 rfl (by decide) rfl ?_
      refine q_sub [1, 0] rfl ?_
      exact tX12_stands_148 q_FU 0 M hO
    · refine q_aload_n 0 dX12_stands_95 rfl rfl ?_
      refine q_getx fl_X12_102 hO sh_94 rfl fx_94_38 dX12_stands_96 ?_
      refine q_bipush dX12_stands_99 (by decide) ?_
      refine q_iload_n 1 dX12_stands_101 rfl rfl ?_
      refine q_iadd dX12_stands_102 ?_
      refine q_aload_n 0 dX12_stands_103 rfl rfl ?_
      refine q_getx fl_X12_102 hO sh_94 rfl fx_94_38 dX12_stands_104 ?_
      refine q_iload_n 1 dX12_stands_107 rfl rfl ?_
      refine q_lald sh_124 (q_inA hO sh_124 (by decide)) dX12_stands_108 (fun x21 _ _ _ => ?_)
      refine q_last sh_124 (q_inA hO sh_124 (by decide)) dX12_stands_109 (fun M1 _ _ hM1 => ?_)
      have hO1 : q_Ok M1 := by rw [hM1]; exact q_Ok_arr (t := 3) hO sh_124 (by decide)
      refine q_aload_n 0 dX12_stands_110 rfl rfl ?_
      refine q_getx fl_X12_109 hO1 sh_94 rfl fx_94_40 dX12_stands_111 ?_
      refine q_bipush dX12_stands_114 (by decide) ?_
      refine q_iload_n 1 dX12_stands_116 rfl rfl ?_
      refine q_iadd dX12_stands_117 ?_
      refine q_aload_n 0 dX12_stands_118 rfl rfl ?_
      refine q_getx fl_X12_109 hO1 sh_94 rfl fx_94_40 dX12_stands_119 ?_
      refine q_iload_n 1 dX12_stands_122 rfl rfl ?_
      refine q_iald sh_126 (q_inA hO1 sh_126 (by decide)) dX12_stands_123 (fun x22 _ _ _ => ?_)
      refine q_iast sh_126 (q_inA hO1 sh_126 (by decide)) dX12_stands_124 (fun M2 _ _ hM2 => ?_)
      have hO2 : q_Ok M2 := by rw [hM2]; exact q_Ok_arr (t := 0) hO1 sh_126 (by decide)
      refine q_aload_n 0 dX12_stands_125 rfl rfl ?_
      refine q_getx fl_X12_112 hO2 sh_94 rfl fx_94_41 dX12_stands_126 ?_
      refine q_bipush dX12_stands_129 (by decide) ?_
      refine q_iload_n 1 dX12_stands_131 rfl rfl ?_
      refine q_iadd dX12_stands_132 ?_
      refine q_aload_n 0 dX12_stands_133 rfl rfl ?_
      refine q_getx fl_X12_112 hO2 sh_94 rfl fx_94_41 dX12_stands_134 ?_
      refine q_iload_n 1 dX12_stands_137 rfl rfl ?_
      refine q_iald sh_127 (q_inA hO2 sh_127 (by decide)) dX12_stands_138 (fun x23 _ _ _ => ?_)
      refine q_iast sh_127 (q_inA hO2 sh_127 (by decide)) dX12_stands_139 (fun M3 _ _ hM3 => ?_)
      have hO3 : q_Ok M3 := by rw [hM3]; exact q_Ok_arr (t := 0) hO2 sh_127 (by decide)
      refine q_iinc (ls' := [(1, .inl (x1 + 1)), (0, .inr (.inr 94))]) 1 dX12_stands_140 rfl (by decide) rfl ?_
      refine q_goto (tgt := 89) dX12_stands_143 (by decide) ?_
      refine q_sub [1, 0] rfl ?_
      exact ih (x1 + 1) M3 hO3
def fX12_stands_48  : Nat → Int → q_Mem → Option (Int × q_Mem)
  | 0, _, _ => none
  | n + 1, x1, M => if q_w x1 < q_w 2 then ((q_ld M 128 4 x1).bind fun x21 => (q_sto M 128 4 (2 + x1) x21).bind fun M1 => (q_ld M1 129 4 x1).bind fun x22 => (q_sto M1 129 4 (2 + x1) x22).bind fun M2 => (fX12_stands_48 n (x1 + 1) M2)) else ((fX12_stands_89 q_FU 0 M))
theorem tX12_stands_48 {d : Nat} : ∀ (n : Nat) (x1 : Int) (M : q_Mem), q_Ok M → q_EX d yX12_stands cX12_stands 2 none 48 [(0, .inr (.inr 94)), (1, .inl x1)] [] M (fX12_stands_48 n x1 M) := by
  intro n
  induction n with
  | zero => intro x1 M hO; exact q_none
  | succ n ih =>
    intro x1 M hO
    rw [fX12_stands_48]
    refine q_iload_n 1 dX12_stands_48 rfl rfl ?_
    refine q_iconst dX12_stands_49 ?_
    refine q_icmpge (tgt := 87) dX12_stands_50 (by decide) ?_ ?_
    · refine q_iconst dX12_stands_87 ?_
      refine q_istore_n (ls' := [(1, .inl 0), (0, .inr (.inr 94))]) dX12_stands_88 rfl (by decide) rfl ?_
      refine q_sub [1, 0] rfl ?_
      exact tX12_stands_89 q_FU 0 M hO
    · refine q_aload_n 0 dX12_stands_53 rfl rfl ?_
      refine q_getx fl_X12_115 hO sh_94 rfl fx_94_42 dX12_stands_54 ?_
      refine q_iconst dX12_stands_57 ?_
      refine q_iload_n 1 dX12_stands_58 rfl rfl ?_
      refine q_iadd dX12_stands_59 ?_
      refine q_aload_n 0 dX12_stands_60 rfl rfl ?_
      refine q_getx fl_X12_115 hO sh_94 rfl fx_94_42 dX12_stands_61 ?_
      refine q_iload_n 1 dX12_stands_64 rfl rfl ?_
      refine q_iald sh_128 (q_inA hO sh_128 (by decide)) dX12_stands_65 (fun x21 _ _ _ => ?_)
      refine q_iast sh_128 (q_inA hO sh_128 (by decide)) dX12_stands_66 (fun M1 _ _ hM1 => ?_)
      have hO1 : q_Ok M1 := by rw [hM1]; exact q_Ok_arr (t := 0) hO sh_128 (by decide)
      refine q_aload_n 0 dX12_stands_67 rfl rfl ?_
      refine q_getx fl_X12_118 hO1 sh_94 rfl fx_94_43 dX12_stands_68 ?_
      refine q_iconst dX12_stands_71 ?_
      refine q_iload_n 1 dX12_stands_72 rfl rfl ?_
      refine q_iadd dX12_stands_73 ?_
      refine q_aload_n 0 dX12_stands_74 rfl rfl ?_
      refine q_getx fl_X12_118 hO1 sh_94 rfl fx_94_43 dX12_stands_75 ?_
      refine q_iload_n 1 dX12_stands_78 rfl rfl ?_
      refine q_iald sh_129 (q_inA hO1 sh_129 (by decide)) dX12_stands_79 (fun x22 _ _ _ => ?_)
      refine q_iast sh_129 (q_inA hO1 sh_129 (by decide)) dX12_stands_80 (fun M2 _ _ hM2 => ?_)
      have hO2 : q_Ok M2 := by rw [hM2]; exact q_Ok_arr (t := 0) hO1 sh_129 (by decide)
      refine q_iinc (ls' := [(1, .inl (x1 + 1)), (0, .inr (.inr 94))]) 1 dX12_stands_81 rfl (by decide) rfl ?_
      refine q_goto (tgt := 48) dX12_stands_84 (by decide) ?_
      refine q_sub [1, 0] rfl ?_
      exact ih (x1 + 1) M2 hO2
def fX12_stands_7  : Nat → Int → q_Mem → Option (Int × q_Mem)
  | 0, _, _ => none
  | n + 1, x1, M => if q_w x1 < q_w 3 then ((q_ld M 122 6 x1).bind fun x21 => (q_sto M 122 6 (3 + x1) x21).bind fun M1 => (q_ld M1 123 6 x1).bind fun x22 => (q_sto M1 123 6 (3 + x1) x22).bind fun M2 => (fX12_stands_7 n (x1 + 1) M2)) else ((fX12_stands_48 q_FU 0 M))
theorem tX12_stands_7 {d : Nat} : ∀ (n : Nat) (x1 : Int) (M : q_Mem), q_Ok M → q_EX d yX12_stands cX12_stands 2 none 7 [(0, .inr (.inr 94)), (1, .inl x1)] [] M (fX12_stands_7 n x1 M) := by
  intro n
  induction n with
  | zero => intro x1 M hO; exact q_none
  | succ n ih =>
    intro x1 M hO
    rw [fX12_stands_7]
    refine q_iload_n 1 dX12_stands_7 rfl rfl ?_
    refine q_iconst dX12_stands_8 ?_
    refine q_icmpge (tgt := 46) dX12_stands_9 (by decide) ?_ ?_
    · refine q_iconst dX12_stands_46 ?_
      refine q_istore_n (ls' := [(1, .inl 0), (0, .inr (.inr 94))]) dX12_stands_47 rfl (by decide) rfl ?_
      refine q_sub [1, 0] rfl ?_
      exact tX12_stands_48 q_FU 0 M hO
    · refine q_aload_n 0 dX12_stands_12 rfl rfl ?_
      refine q_getx fl_X12_96 hO sh_94 rfl fx_94_36 dX12_stands_13 ?_
      refine q_iconst dX12_stands_16 ?_
      refine q_iload_n 1 dX12_stands_17 rfl rfl ?_
      refine q_iadd dX12_stands_18 ?_
      refine q_aload_n 0 dX12_stands_19 rfl rfl ?_
      refine q_getx fl_X12_96 hO sh_94 rfl fx_94_36 dX12_stands_20 ?_
      refine q_iload_n 1 dX12_stands_23 rfl rfl ?_
      refine q_iald sh_122 (q_inA hO sh_122 (by decide)) dX12_stands_24 (fun x21 _ _ _ => ?_)
      refine q_iast sh_122 (q_inA hO sh_122 (by decide)) dX12_stands_25 (fun M1 _ _ hM1 => ?_)
      have hO1 : q_Ok M1 := by rw [hM1]; exact q_Ok_arr (t := 0) hO sh_122 (by decide)
      refine q_aload_n 0 dX12_stands_26 rfl rfl ?_
      refine q_getx fl_X12_99 hO1 sh_94 rfl fx_94_37 dX12_stands_27 ?_
      refine q_iconst dX12_stands_30 ?_
      refine q_iload_n 1 dX12_stands_31 rfl rfl ?_
      refine q_iadd dX12_stands_32 ?_
      refine q_aload_n 0 dX12_stands_33 rfl rfl ?_
      refine q_getx fl_X12_99 hO1 sh_94 rfl fx_94_37 dX12_stands_34 ?_
      refine q_iload_n 1 dX12_stands_37 rfl rfl ?_
      refine q_iald sh_123 (q_inA hO1 sh_123 (by decide)) dX12_stands_38 (fun x22 _ _ _ => ?_)
      refine q_iast sh_123 (q_inA hO1 sh_123 (by decide)) dX12_stands_39 (fun M2 _ _ hM2 => ?_)
      have hO2 : q_Ok M2 := by rw [hM2]; exact q_Ok_arr (t := 0) hO1 sh_123 (by decide)
      refine q_iinc (ls' := [(1, .inl (x1 + 1)), (0, .inr (.inr 94))]) 1 dX12_stands_40 rfl (by decide) rfl ?_
      refine q_goto (tgt := 7) dX12_stands_43 (by decide) ?_
      refine q_sub [1, 0] rfl ?_
      exact ih (x1 + 1) M2 hO2
def fX12_stands (M : q_Mem) : Option (Int × q_Mem) := q_let (q_up M 94 47 1) fun M1 => (fX12_stands_7 q_FU 0 M1)
theorem tX12_stands {d : Nat} (M : q_Mem) (hO : q_Ok M) : q_EX d yX12_stands cX12_stands 2 none 0 (q_args 0 [.inr (.inr 94)]) [] M (fX12_stands M) := by
  show q_EX _ _ _ _ _ 0 [(0, .inr (.inr 94))] [] M _
  unfold fX12_stands
  refine q_aload_n 0 dX12_stands_0 rfl rfl ?_
  refine q_iconst dX12_stands_1 ?_
  refine q_putz fl_X12_366 sh_94 (q_inO hO sh_94) (fun h => q_Ok_put h sh_94 rfl) rfl (by decide) dX12_stands_2 (fun M1 hM1 => ?_)
  have hO1 : q_Ok M1 := by rw [hM1]; exact q_Ok_put hO sh_94 rfl
  refine q_iconst dX12_stands_5 ?_
  refine q_istore_n (ls' := [(1, .inl 0), (0, .inr (.inr 94))]) dX12_stands_6 rfl (by decide) rfl ?_
  refine q_sub [1, 0] rfl ?_
  exact tX12_stands_7 q_FU 0 M1 hO1
