def fX12_checked_6 (r0 n0 : Nat) : Nat → Int → Int → Int → q_Mem → Option (Int × q_Mem)
  | 0, _, _, _, _ => none
  | n + 1, x1, x2, x3, M => if q_w x3 < q_w x1 then ((q_ld M r0 n0 x3).bind fun x21 => q_let (q_rem ((3 * x2) + x21) 251) fun x22 => (fX12_checked_6 r0 n0 n x1 x22 (x3 + 1) M)) else (some (x2, M))
theorem tX12_checked_6 {d : Nat} (r0 n0 : Nat) (hr0 : q_shp r0 = (1, n0)) : ∀ (n : Nat) (x1 : Int) (x2 : Int) (x3 : Int) (M : q_Mem), q_Ok M → q_EX d yX12_checked cX12_checked 4 (some .int) 6 [(0, .inr (.inr r0)), (1, .inl x1), (2, .inl x2), (3, .inl x3)] [] M (fX12_checked_6 r0 n0 n x1 x2 x3 M) := by
  intro n
  induction n with
  | zero => intro x1 x2 x3 M hO; exact q_none
  | succ n ih =>
    intro x1 x2 x3 M hO
    rw [fX12_checked_6]
    refine q_iload_n 3 dX12_checked_6 rfl rfl ?_
    refine q_iload_n 1 dX12_checked_7 rfl rfl ?_
    refine q_icmpge (tgt := 29) dX12_checked_8 (by decide) ?_ ?_
    · refine q_iload_n 2 dX12_checked_29 rfl rfl ?_
      exact q_ret dX12_checked_30 rfl
    · refine q_iconst dX12_checked_11 ?_
      refine q_iload_n 2 dX12_checked_12 rfl rfl ?_
      refine q_imul dX12_checked_13 ?_
      refine q_aload_n 0 dX12_checked_14 rfl rfl ?_
      refine q_iload_n 3 dX12_checked_15 rfl rfl ?_
      refine q_iald hr0 (q_inA hO hr0 (by decide)) dX12_checked_16 (fun x21 _ _ _ => ?_)
      refine q_iadd dX12_checked_17 ?_
      refine q_sipush dX12_checked_18 (by decide) ?_
      refine q_irem dX12_checked_21 (by decide) ?_
      refine q_nameI (fun x22 _ => ?_)
      refine q_istore_n (ls' := [(2, .inl x22), (0, .inr (.inr r0)), (1, .inl x1), (3, .inl x3)]) dX12_checked_22 rfl (by decide) rfl ?_
      refine q_iinc (ls' := [(3, .inl (x3 + 1)), (2, .inl x22), (0, .inr (.inr r0)), (1, .inl x1)]) 3 dX12_checked_23 rfl (by decide) rfl ?_
      refine q_goto (tgt := 6) dX12_checked_26 (by decide) ?_
      refine q_sub [2, 3, 1, 0] rfl ?_
      exact ih x1 x22 (x3 + 1) M hO
def fX12_checked (r0 : Nat) (n0 : Nat) (x1 : Int) (M : q_Mem) : Option (Int × q_Mem) := (fX12_checked_6 r0 n0 q_FU x1 167 0 M)
theorem tX12_checked {d : Nat} (r0 : Nat) (n0 : Nat) (x1 : Int) (M : q_Mem) (hO : q_Ok M) (hr0 : q_shp r0 = (1, n0)) : q_EX d yX12_checked cX12_checked 4 (some .int) 0 (q_args 0 [.inr (.inr r0), .inl x1]) [] M (fX12_checked r0 n0 x1 M) := by
  show q_EX _ _ _ _ _ 0 [(0, .inr (.inr r0)), (1, .inl x1)] [] M _
  unfold fX12_checked
  refine q_sipush dX12_checked_0 (by decide) ?_
  refine q_istore_n (ls' := [(2, .inl 167), (0, .inr (.inr r0)), (1, .inl x1)]) dX12_checked_3 rfl (by decide) rfl ?_
  refine q_iconst dX12_checked_4 ?_
  refine q_istore_n (ls' := [(3, .inl 0), (2, .inl 167), (0, .inr (.inr r0)), (1, .inl x1)]) dX12_checked_5 rfl (by decide) rfl ?_
  refine q_sub [2, 3, 1, 0] rfl ?_
  exact tX12_checked_6 r0 n0 hr0 q_FU x1 167 0 M hO
def fX12_writes (x1 : Int) (M : q_Mem) : Option (Int × q_Mem) := (q_sto M 165 38 (M.2 94 101) x1).bind fun M1 => q_let (q_up M1 94 101 ((M1.2 94 101) + 1)) fun M2 => some (0, M2)
theorem tX12_writes {d : Nat} (x1 : Int) (M : q_Mem) (hO : q_Ok M) : q_EX d yX12_writes cX12_writes 2 none 0 (q_args 0 [.inr (.inr 94), .inl x1]) [] M (fX12_writes x1 M) := by
  show q_EX _ _ _ _ _ 0 [(0, .inr (.inr 94)), (1, .inl x1)] [] M _
  unfold fX12_writes
  refine q_aload_n 0 dX12_writes_0 rfl rfl ?_
  refine q_getx fl_X12_231 hO sh_94 rfl fx_94_100 dX12_writes_1 ?_
  refine q_aload_n 0 dX12_writes_4 rfl rfl ?_
  refine q_geti fl_X12_617 sh_94 (q_inO hO sh_94) rfl dX12_writes_5 ?_
  refine q_iload_n 1 dX12_writes_8 rfl rfl ?_
  refine q_iast sh_165 (q_inA hO sh_165 (by decide)) dX12_writes_9 (fun M1 _ _ hM1 => ?_)
  have hO1 : q_Ok M1 := by rw [hM1]; exact q_Ok_arr (t := 0) hO sh_165 (by decide)
  refine q_aload_n 0 dX12_writes_10 rfl rfl ?_
  refine q_dup dX12_writes_11 rfl ?_
  refine q_geti fl_X12_617 sh_94 (q_inO hO1 sh_94) rfl dX12_writes_12 ?_
  refine q_iconst dX12_writes_15 ?_
  refine q_iadd dX12_writes_16 ?_
  refine q_puti fl_X12_617 sh_94 (q_inO hO1 sh_94) (fun h => q_Ok_put h sh_94 rfl) rfl dX12_writes_17 (fun M2 hM2 => ?_)
  have hO2 : q_Ok M2 := by rw [hM2]; exact q_Ok_put hO1 sh_94 rfl
  exact q_ret dX12_writes_20 rfl
def fX12_image_65  : Nat → Int → q_Mem → Option (Int × q_Mem)
  | 0, _, _ => none
  | n + 1, x1, M => (q_ld M 131 141 3).bind fun x21 => if q_w x1 < q_w x21 then ((q_ld M 131 141 (4 + x1)).bind fun x23 => q_bd (fX12_writes (q_div x23 256) M) fun _ M3 => (q_ld M3 131 141 (4 + x1)).bind fun x24 => q_bd (fX12_writes (q_rem x24 256) M3) fun _ M4 => (fX12_image_65 n (x1 + 1) M4)) else (q_bd (fX12_checked 165 38 (M.2 94 101) M) fun x22 M1 => q_bd (fX12_writes x22 M1) fun _ M2 => some ((M2.2 94 101), M2))
theorem tX12_image_65 {d : Nat} (hd : 0 ≤ d) : ∀ (n : Nat) (x1 : Int) (M : q_Mem), q_Ok M → q_EX (d + 1) yX12_image cX12_image 2 (some .int) 65 [(0, .inr (.inr 94)), (1, .inl x1)] [] M (fX12_image_65 n x1 M) := by
  intro n
  induction n with
  | zero => intro x1 M hO; exact q_none
  | succ n ih =>
    intro x1 M hO
    rw [fX12_image_65]
    refine q_iload_n 1 dX12_image_65 rfl rfl ?_
    refine q_aload_n 0 dX12_image_66 rfl rfl ?_
    refine q_getx fl_X12_124 hO sh_94 rfl fx_94_49 dX12_image_67 ?_
    refine q_iconst dX12_image_70 ?_
    refine q_iald sh_131 (q_inA hO sh_131 (by decide)) dX12_image_71 (fun x21 _ _ _ => ?_)
    refine q_icmpge (tgt := 113) dX12_image_72 (by decide) ?_ ?_
    · refine q_aload_n 0 dX12_image_113 rfl rfl ?_
      refine q_aload_n 0 dX12_image_114 rfl rfl ?_
      refine q_getx fl_X12_231 hO sh_94 rfl fx_94_100 dX12_image_115 ?_
      refine q_aload_n 0 dX12_image_118 rfl rfl ?_
      refine q_geti fl_X12_617 sh_94 (q_inO hO sh_94) rfl dX12_image_119 ?_
      refine q_callSi (As := [.inr (.inr 165), .inl (M.2 94 101)]) hO mb_X12_checked ms_X12_checked ml_X12_623 dX12_image_122 (fun _ => rfl) rfl (Nat.le_of_ble_eq_true rfl) rfl (Nat.le_of_ble_eq_true rfl) (tX12_checked 165 38 (M.2 94 101) M hO sh_165) (fun x22 M1 _ hO1 => ?_)
      refine q_callVv (As := [.inl x22]) hO1 mb_X12_writes mv_X12_writes ml_X12_620 sh_94 rfl dX12_image_125 (fun _ => rfl) rfl (Nat.le_of_ble_eq_true rfl) rfl (Nat.le_of_ble_eq_true rfl) (tX12_writes x22 M1 hO1) (fun _ M2 _ hO2 => ?_)
      refine q_aload_n 0 dX12_image_128 rfl rfl ?_
      refine q_geti fl_X12_617 sh_94 (q_inO hO2 sh_94) rfl dX12_image_129 ?_
      exact q_ret dX12_image_132 rfl
    · refine q_aload_n 0 dX12_image_75 rfl rfl ?_
      refine q_aload_n 0 dX12_image_76 rfl rfl ?_
      refine q_getx fl_X12_124 hO sh_94 rfl fx_94_49 dX12_image_77 ?_
      refine q_iconst dX12_image_80 ?_
      refine q_iload_n 1 dX12_image_81 rfl rfl ?_
      refine q_iadd dX12_image_82 ?_
      refine q_iald sh_131 (q_inA hO sh_131 (by decide)) dX12_image_83 (fun x23 _ _ _ => ?_)
      refine q_sipush dX12_image_84 (by decide) ?_
      refine q_idiv dX12_image_87 (by decide) ?_
      refine q_callVv (As := [.inl (q_div x23 256)]) hO mb_X12_writes mv_X12_writes ml_X12_620 sh_94 rfl dX12_image_88 (fun _ => rfl) rfl (Nat.le_of_ble_eq_true rfl) rfl (Nat.le_of_ble_eq_true rfl) (tX12_writes (q_div x23 256) M hO) (fun _ M3 _ hO3 => ?_)
      refine q_aload_n 0 dX12_image_91 rfl rfl ?_
      refine q_aload_n 0 dX12_image_92 rfl rfl ?_
      refine q_getx fl_X12_124 hO3 sh_94 rfl fx_94_49 dX12_image_93 ?_
      refine q_iconst dX12_image_96 ?_
      refine q_iload_n 1 dX12_image_97 rfl rfl ?_
      refine q_iadd dX12_image_98 ?_
      refine q_iald sh_131 (q_inA hO3 sh_131 (by decide)) dX12_image_99 (fun x24 _ _ _ => ?_)
      refine q_sipush dX12_image_100 (by decide) ?_
      refine q_irem dX12_image_103 (by decide) ?_
      refine q_callVv (As := [.inl (q_rem x24 256)]) hO3 mb_X12_writes mv_X12_writes ml_X12_620 sh_94 rfl dX12_image_104 (fun _ => rfl) rfl (Nat.le_of_ble_eq_true rfl) rfl (Nat.le_of_ble_eq_true rfl) (tX12_writes (q_rem x24 256) M3 hO3) (fun _ M4 _ hO4 => ?_)
      refine q_iinc (ls' := [(1, .inl (x1 + 1)), (0, .inr (.inr 94))]) 1 dX12_image_107 rfl (by decide) rfl ?_
      refine q_goto (tgt := 65) dX12_image_110 (by decide) ?_
      refine q_sub [1, 0] rfl ?_
      exact ih (x1 + 1) M4 hO4
def fX12_image (M : q_Mem) : Option (Int × q_Mem) := q_let (q_up M 94 101 0) fun M1 => (q_ld M1 131 141 0).bind fun x21 => q_bd (fX12_writes (q_div x21 256) M1) fun _ M2 => (q_ld M2 131 141 0).bind fun x22 => q_bd (fX12_writes (q_rem x22 256) M2) fun _ M3 => (q_ld M3 131 141 1).bind fun x23 => q_bd (fX12_writes x23 M3) fun _ M4 => (q_ld M4 131 141 2).bind fun x24 => q_bd (fX12_writes x24 M4) fun _ M5 => (q_ld M5 131 141 3).bind fun x25 => q_bd (fX12_writes x25 M5) fun _ M6 => (fX12_image_65 q_FU 0 M6)
theorem tX12_image {d : Nat} (hd : 1 ≤ d) (M : q_Mem) (hO : q_Ok M) : q_EX d yX12_image cX12_image 2 (some .int) 0 (q_args 0 [.inr (.inr 94)]) [] M (fX12_image M) := by
  obtain ⟨d, rfl⟩ : ∃ d', d = d' + 1 := ⟨d - 1, by omega⟩
  have hd : 0 ≤ d := by omega
  show q_EX _ _ _ _ _ 0 [(0, .inr (.inr 94))] [] M _
  unfold fX12_image
  refine q_aload_n 0 dX12_image_0 rfl rfl ?_
  refine q_iconst dX12_image_1 ?_
  refine q_puti fl_X12_617 sh_94 (q_inO hO sh_94) (fun h => q_Ok_put h sh_94 rfl) rfl dX12_image_2 (fun M1 hM1 => ?_)
  have hO1 : q_Ok M1 := by rw [hM1]; exact q_Ok_put hO sh_94 rfl
  refine q_aload_n 0 dX12_image_5 rfl rfl ?_
  refine q_aload_n 0 dX12_image_6 rfl rfl ?_
  refine q_getx fl_X12_124 hO1 sh_94 rfl fx_94_49 dX12_image_7 ?_
  refine q_iconst dX12_image_10 ?_
  refine q_iald sh_131 (q_inA hO1 sh_131 (by decide)) dX12_image_11 (fun x21 _ _ _ => ?_)
  refine q_sipush dX12_image_12 (by decide) ?_
  refine q_idiv dX12_image_15 (by decide) ?_
  refine q_callVv (As := [.inl (q_div x21 256)]) hO1 mb_X12_writes mv_X12_writes ml_X12_620 sh_94 rfl dX12_image_16 (fun _ => rfl) rfl (Nat.le_of_ble_eq_true rfl) rfl (Nat.le_of_ble_eq_true rfl) (tX12_writes (q_div x21 256) M1 hO1) (fun _ M2 _ hO2 => ?_)
  refine q_aload_n 0 dX12_image_19 rfl rfl ?_
  refine q_aload_n 0 dX12_image_20 rfl rfl ?_
  refine q_getx fl_X12_124 hO2 sh_94 rfl fx_94_49 dX12_image_21 ?_
  refine q_iconst dX12_image_24 ?_
  refine q_iald sh_131 (q_inA hO2 sh_131 (by decide)) dX12_image_25 (fun x22 _ _ _ => ?_)
  refine q_sipush dX12_image_26 (by decide) ?_
  refine q_irem dX12_image_29 (by decide) ?_
  refine q_callVv (As := [.inl (q_rem x22 256)]) hO2 mb_X12_writes mv_X12_writes ml_X12_620 sh_94 rfl dX12_image_30 (fun _ => rfl) rfl (Nat.le_of_ble_eq_true rfl) rfl (Nat.le_of_ble_eq_true rfl) (tX12_writes (q_rem x22 256) M2 hO2) (fun _ M3 _ hO3 => ?_)
  refine q_aload_n 0 dX12_image_33 rfl rfl ?_
  refine q_aload_n 0 dX12_image_34 rfl rfl ?_
  refine q_getx fl_X12_124 hO3 sh_94 rfl fx_94_49 dX12_image_35 ?_
  refine q_iconst dX12_image_38 ?_
  refine q_iald sh_131 (q_inA hO3 sh_131 (by decide)) dX12_image_39 (fun x23 _ _ _ => ?_)
  refine q_callVv (As := [.inl x23]) hO3 mb_X12_writes mv_X12_writes ml_X12_620 sh_94 rfl dX12_image_40 (fun _ => rfl) rfl (Nat.le_of_ble_eq_true rfl) rfl (Nat.le_of_ble_eq_true rfl) (tX12_writes x23 M3 hO3) (fun _ M4 _ hO4 => ?_)
  refine q_aload_n 0 dX12_image_43 rfl rfl ?_
  refine q_aload_n 0 dX12_image_44 rfl rfl ?_
  refine q_getx fl_X12_124 hO4 sh_94 rfl fx_94_49 dX12_image_45 ?_
  refine q_iconst dX12_image_48 ?_
  refine q_iald sh_131 (q_inA hO4 sh_131 (by decide)) dX12_image_49 (fun x24 _ _ _ => ?_)
  refine q_callVv (As := [.inl x24]) hO4 mb_X12_writes mv_X12_writes ml_X12_620 sh_94 rfl dX12_image_50 (fun _ => rfl) rfl (Nat.le_of_ble_eq_true rfl) rfl (Nat.le_of_ble_eq_true rfl) (tX12_writes x24 M4 hO4) (fun _ M5 _ hO5 => ?_)
  refine q_aload_n 0 dX12_image_53 rfl rfl ?_
  refine q_aload_n 0 dX12_image_54 rfl rfl ?_
  refine q_getx fl_X12_124 hO5 sh_94 rfl fx_94_49 dX12_image_55 ?_
  refine q_iconst dX12_image_58 ?_
  refine q_iald sh_131 (q_inA hO5 sh_131 (by decide)) dX12_image_59 (fun x25 _ _ _ => ?_)
  refine q_callVv (As := [.inl x25]) hO5 mb_X12_writes mv_X12_writes ml_X12_620 sh_94 rfl dX12_image_60 (fun _ => rfl) rfl (Nat.le_of_ble_eq_true rfl) rfl (Nat.le_of_ble_eq_true rfl) (tX12_writes x25 M5 hO5) (fun _ M6 _ hO6 => ?_)
  refine q_iconst dX12_image_63 ?_
  refine q_istore_n (ls' := [(1, .inl 0), (0, .inr (.inr 94))]) dX12_image_64 rfl (by decide) rfl ?_
  refine q_sub [1, 0] rfl ?_
  exact tX12_image_65 hd q_FU 0 M6 hO6
def fX12_octet (x1 : Int) (M : q_Mem) : Option (Int × q_Mem) := if q_w x1 < 0 then (some ((-1), M)) else (if q_w x1 < q_w (M.2 94 101) then ((q_ld M 165 38 x1).bind fun x21 => some (x21, M)) else (some ((-1), M)))
theorem tX12_octet {d : Nat} (x1 : Int) (M : q_Mem) (hO : q_Ok M) : q_EX d yX12_octet cX12_octet 2 (some .int) 0 (q_args 0 [.inr (.inr 94), .inl x1]) [] M (fX12_octet x1 M) := by
  show q_EX _ _ _ _ _ 0 [(0, .inr (.inr 94)), (1, .inl x1)] [] M _
  unfold fX12_octet
  refine q_iload_n 1 dX12_octet_0 rfl rfl ?_
  refine q_iflt (tgt := 21) dX12_octet_1 (by decide) ?_ ?_
  · refine q_iconst dX12_octet_21 ?_
    exact q_ret dX12_octet_22 rfl
  · refine q_iload_n 1 dX12_octet_4 rfl rfl ?_
    refine q_aload_n 0 dX12_octet_5 rfl rfl ?_
    refine q_geti fl_X12_617 sh_94 (q_inO hO sh_94) rfl dX12_octet_6 ?_
    refine q_icmpge (tgt := 21) dX12_octet_9 (by decide) ?_ ?_
    · refine q_iconst dX12_octet_21 ?_
      exact q_ret dX12_octet_22 rfl
    · refine q_aload_n 0 dX12_octet_12 rfl rfl ?_
      refine q_getx fl_X12_231 hO sh_94 rfl fx_94_100 dX12_octet_13 ?_
      refine q_iload_n 1 dX12_octet_16 rfl rfl ?_
      refine q_iald sh_165 (q_inA hO sh_165 (by decide)) dX12_octet_17 (fun x21 _ _ _ => ?_)
      refine q_goto (tgt := 22) dX12_octet_18 (by decide) ?_
      exact q_ret dX12_octet_22 rfl
def fX12_isImage_123  : Nat → Int → q_Mem → Option (Int × q_Mem)
  | 0, _, _ => none
  | n + 1, x2, M => (q_ld M 95 1600 4).bind fun x21 => if q_w x2 < q_w x21 then ((q_ld M 95 1600 (5 + (2 * x2))).bind fun x22 => (q_ld M 95 1600 (6 + (2 * x2))).bind fun x23 => q_bd (fX12_fairMinutes M) fun x24 M1 => if q_w x24 < q_w ((256 * x22) + x23) then (some (0, M1)) else ((fX12_isImage_123 n (x2 + 1) M1))) else (some (1, M))
theorem tX12_isImage_123 {d : Nat} (hd : 0 ≤ d) : ∀ (n : Nat) (x2 : Int) (M : q_Mem), q_Ok M → q_EX (d + 1) yX12_isImage cX12_isImage 3 (some .boolean) 123 [(0, .inr (.inr 94)), (2, .inl x2)] [] M (fX12_isImage_123 n x2 M) := by
  intro n
  induction n with
  | zero => intro x2 M hO; exact q_none
  | succ n ih =>
    intro x2 M hO
    rw [fX12_isImage_123]
    refine q_iload_n 1 dX12_isImage_123 rfl rfl ?_
    refine q_aload_n 0 dX12_isImage_124 rfl rfl ?_
    refine q_getx fl_X12_7 hO sh_94 rfl fx_94_0 dX12_isImage_125 ?_
    refine q_iconst dX12_isImage_128 ?_
    refine q_iald sh_95 (q_inA hO sh_95 (by decide)) dX12_isImage_129 (fun x21 _ _ _ => ?_)
    refine q_icmpge (tgt := 174) dX12_isImage_130 (by decide) ?_ ?_
    · refine q_iconst dX12_isImage_174 ?_
      exact q_ret ⟨dX12_isImage_175, by decide⟩ rfl
    · refine q_sipush dX12_isImage_133 (by decide) ?_
      refine q_aload_n 0 dX12_isImage_136 rfl rfl ?_
      refine q_getx fl_X12_7 hO sh_94 rfl fx_94_0 dX12_isImage_137 ?_
      refine q_iconst dX12_isImage_140 ?_
      refine q_iconst dX12_isImage_141 ?_
      refine q_iload_n 1 dX12_isImage_142 rfl rfl ?_
      refine q_imul dX12_isImage_143 ?_
      refine q_iadd dX12_isImage_144 ?_
      refine q_iald sh_95 (q_inA hO sh_95 (by decide)) dX12_isImage_145 (fun x22 _ _ _ => ?_)
      refine q_imul dX12_isImage_146 ?_
      refine q_aload_n 0 dX12_isImage_147 rfl rfl ?_
      refine q_getx fl_X12_7 hO sh_94 rfl fx_94_0 dX12_isImage_148 ?_
      refine q_bipush dX12_isImage_151 (by decide) ?_
      refine q_iconst dX12_isImage_153 ?_
      refine q_iload_n 1 dX12_isImage_154 rfl rfl ?_
      refine q_imul dX12_isImage_155 ?_
      refine q_iadd dX12_isImage_156 ?_
      refine q_iald sh_95 (q_inA hO sh_95 (by decide)) dX12_isImage_157 (fun x23 _ _ _ => ?_)
      refine q_iadd dX12_isImage_158 ?_
      refine q_aload_n 0 dX12_isImage_159 rfl rfl ?_
      refine q_callVi (As := []) hO mb_X12_fairMinutes mv_X12_fairMinutes ml_X12_382 sh_94 rfl dX12_isImage_160 (fun _ => rfl) rfl (Nat.le_of_ble_eq_true rfl) rfl (Nat.le_of_ble_eq_true rfl) (tX12_fairMinutes M hO) (fun x24 M1 _ hO1 => ?_)
      refine q_icmple (tgt := 168) dX12_isImage_163 (by decide) ?_ ?_
      · refine q_iinc (ls' := [(2, .inl (x2 + 1)), (0, .inr (.inr 94))]) 1 dX12_isImage_168 rfl (by decide) rfl ?_
        refine q_goto (tgt := 123) dX12_isImage_171 (by decide) ?_
        refine q_sub [1, 0] rfl ?_
        exact ih (x2 + 1) M1 hO1
      · refine q_iconst dX12_isImage_166 ?_
        exact q_ret ⟨dX12_isImage_167, by decide⟩ rfl
def fX12_isImage (x1 : Int) (M : q_Mem) : Option (Int × q_Mem) := if q_w (M.2 94 47) = 0 then (some (0, M)) else (if q_w x1 < q_w 6 then (some (0, M)) else ((q_ld M 95 1600 4).bind fun x21 => if q_w x1 = q_w (6 + (2 * x21)) then ((q_ld M 95 1600 (x1 - 1)).bind fun x22 => q_bd (fX12_checked 95 1600 (x1 - 1) M) fun x23 M1 => if q_w x22 = q_w x23 then ((q_ld M1 95 1600 0).bind fun x24 => (q_ld M1 95 1600 1).bind fun x25 => q_bd (fX12_fairMinutes M1) fun x26 M2 => if q_w x26 < q_w ((256 * x24) + x25) then (some (0, M2)) else ((q_ld M2 95 1600 2).bind fun x27 => if q_w 99 < q_w x27 then (some (0, M2)) else ((q_ld M2 95 1600 3).bind fun x28 => q_bd (fX12_stallMany M2) fun x29 M3 => if q_w x28 < q_w (q_shl 1 x29) then ((q_ld M3 95 1600 4).bind fun x30 => (q_ld M3 123 6 5).bind fun x31 => if q_w 16 < q_w (x30 + x31) then (some (0, M3)) else ((fX12_isImage_123 q_FU 0 M3))) else (some (0, M3))))) else (some (0, M1))) else (some (0, M))))
theorem tX12_isImage {d : Nat} (hd : 1 ≤ d) (x1 : Int) (M : q_Mem) (hO : q_Ok M) : q_EX d yX12_isImage cX12_isImage 3 (some .boolean) 0 (q_args 0 [.inr (.inr 94), .inl x1]) [] M (fX12_isImage x1 M) := by
  obtain ⟨d, rfl⟩ : ∃ d', d = d' + 1 := ⟨d - 1, by omega⟩
  have hd : 0 ≤ d := by omega
  show q_EX _ _ _ _ _ 0 [(0, .inr (.inr 94)), (1, .inl x1)] [] M _
  unfold fX12_isImage
  refine q_aload_n 0 dX12_isImage_0 rfl rfl ?_
  refine q_geti fl_X12_366 sh_94 (q_inO hO sh_94) rfl dX12_isImage_1 ?_
  refine q_ifeq (tgt := 73) dX12_isImage_4 (by decide) ?_ ?_
  · refine q_iconst dX12_isImage_73 ?_
    exact q_ret ⟨dX12_isImage_74, by decide⟩ rfl
  · refine q_iload_n 1 dX12_isImage_7 rfl rfl ?_
    refine q_bipush dX12_isImage_8 (by decide) ?_
    refine q_icmplt (tgt := 73) dX12_isImage_10 (by decide) ?_ ?_
    · refine q_iconst dX12_isImage_73 ?_
      exact q_ret ⟨dX12_isImage_74, by decide⟩ rfl
    · refine q_iload_n 1 dX12_isImage_13 rfl rfl ?_
      refine q_bipush dX12_isImage_14 (by decide) ?_
      refine q_iconst dX12_isImage_16 ?_
      refine q_aload_n 0 dX12_isImage_17 rfl rfl ?_
      refine q_getx fl_X12_7 hO sh_94 rfl fx_94_0 dX12_isImage_18 ?_
      refine q_iconst dX12_isImage_21 ?_
      refine q_iald sh_95 (q_inA hO sh_95 (by decide)) dX12_isImage_22 (fun x21 _ _ _ => ?_)
      refine q_imul dX12_isImage_23 ?_
      refine q_iadd dX12_isImage_24 ?_
      refine q_icmpne (tgt := 73) dX12_isImage_25 (by decide) ?_ ?_
      · refine q_iconst dX12_isImage_73 ?_
        exact q_ret ⟨dX12_isImage_74, by decide⟩ rfl
      · refine q_aload_n 0 dX12_isImage_28 rfl rfl ?_
        refine q_getx fl_X12_7 hO sh_94 rfl fx_94_0 dX12_isImage_29 ?_
        refine q_iload_n 1 dX12_isImage_32 rfl rfl ?_
        refine q_iconst dX12_isImage_33 ?_
        refine q_isub dX12_isImage_34 ?_
        refine q_iald sh_95 (q_inA hO sh_95 (by decide)) dX12_isImage_35 (fun x22 _ _ _ => ?_)
        refine q_aload_n 0 dX12_isImage_36 rfl rfl ?_
        refine q_getx fl_X12_7 hO sh_94 rfl fx_94_0 dX12_isImage_37 ?_
        refine q_iload_n 1 dX12_isImage_40 rfl rfl ?_
        refine q_iconst dX12_isImage_41 ?_
        refine q_isub dX12_isImage_42 ?_
        refine q_callSi (As := [.inr (.inr 95), .inl (x1 - 1)]) hO mb_X12_checked ms_X12_checked ml_X12_623 dX12_isImage_43 (fun _ => rfl) rfl (Nat.le_of_ble_eq_true rfl) rfl (Nat.le_of_ble_eq_true rfl) (tX12_checked 95 1600 (x1 - 1) M hO sh_95) (fun x23 M1 _ hO1 => ?_)
        refine q_icmpne (tgt := 73) dX12_isImage_46 (by decide) ?_ ?_
        · refine q_iconst dX12_isImage_73 ?_
          exact q_ret ⟨dX12_isImage_74, by decide⟩ rfl
        · refine q_sipush dX12_isImage_49 (by decide) ?_
          refine q_aload_n 0 dX12_isImage_52 rfl rfl ?_
          refine q_getx fl_X12_7 hO1 sh_94 rfl fx_94_0 dX12_isImage_53 ?_
          refine q_iconst dX12_isImage_56 ?_
          refine q_iald sh_95 (q_inA hO1 sh_95 (by decide)) dX12_isImage_57 (fun x24 _ _ _ => ?_)
          refine q_imul dX12_isImage_58 ?_
          refine q_aload_n 0 dX12_isImage_59 rfl rfl ?_
          refine q_getx fl_X12_7 hO1 sh_94 rfl fx_94_0 dX12_isImage_60 ?_
          refine q_iconst dX12_isImage_63 ?_
          refine q_iald sh_95 (q_inA hO1 sh_95 (by decide)) dX12_isImage_64 (fun x25 _ _ _ => ?_)
          refine q_iadd dX12_isImage_65 ?_
          refine q_aload_n 0 dX12_isImage_66 rfl rfl ?_
          refine q_callVi (As := []) hO1 mb_X12_fairMinutes mv_X12_fairMinutes ml_X12_382 sh_94 rfl dX12_isImage_67 (fun _ => rfl) rfl (Nat.le_of_ble_eq_true rfl) rfl (Nat.le_of_ble_eq_true rfl) (tX12_fairMinutes M1 hO1) (fun x26 M2 _ hO2 => ?_)
          refine q_icmple (tgt := 75) dX12_isImage_70 (by decide) ?_ ?_
          · refine q_aload_n 0 dX12_isImage_75 rfl rfl ?_
            refine q_getx fl_X12_7 hO2 sh_94 rfl fx_94_0 dX12_isImage_76 ?_
            refine q_iconst dX12_isImage_79 ?_
            refine q_iald sh_95 (q_inA hO2 sh_95 (by decide)) dX12_isImage_80 (fun x27 _ _ _ => ?_)
            refine q_bipush dX12_isImage_81 (by decide) ?_
            refine q_icmpgt (tgt := 119) dX12_isImage_83 (by decide) ?_ ?_
            · refine q_iconst dX12_isImage_119 ?_
              exact q_ret ⟨dX12_isImage_120, by decide⟩ rfl
            · refine q_aload_n 0 dX12_isImage_86 rfl rfl ?_
              refine q_getx fl_X12_7 hO2 sh_94 rfl fx_94_0 dX12_isImage_87 ?_
              refine q_iconst dX12_isImage_90 ?_
              refine q_iald sh_95 (q_inA hO2 sh_95 (by decide)) dX12_isImage_91 (fun x28 _ _ _ => ?_)
              refine q_iconst dX12_isImage_92 ?_
              refine q_aload_n 0 dX12_isImage_93 rfl rfl ?_
              refine q_callVi (As := []) hO2 mb_X12_stallMany mv_X12_stallMany ml_X12_376 sh_94 rfl dX12_isImage_94 (fun _ => rfl) rfl (Nat.le_of_ble_eq_true rfl) rfl (Nat.le_of_ble_eq_true rfl) (tX12_stallMany M2 hO2) (fun x29 M3 _ hO3 => ?_)
              refine q_ishl dX12_isImage_97 ?_
              refine q_icmpge (tgt := 119) dX12_isImage_98 (by decide) ?_ ?_
              · refine q_iconst dX12_isImage_119 ?_
                exact q_ret ⟨dX12_isImage_120, by decide⟩ rfl
              · refine q_aload_n 0 dX12_isImage_101 rfl rfl ?_
                refine q_getx fl_X12_7 hO3 sh_94 rfl fx_94_0 dX12_isImage_102 ?_
                refine q_iconst dX12_isImage_105 ?_
                refine q_iald sh_95 (q_inA hO3 sh_95 (by decide)) dX12_isImage_106 (fun x30 _ _ _ => ?_)
                refine q_aload_n 0 dX12_isImage_107 rfl rfl ?_
                refine q_getx fl_X12_99 hO3 sh_94 rfl fx_94_37 dX12_isImage_108 ?_
                refine q_iconst dX12_isImage_111 ?_
                refine q_iald sh_123 (q_inA hO3 sh_123 (by decide)) dX12_isImage_112 (fun x31 _ _ _ => ?_)
                refine q_iadd dX12_isImage_113 ?_
                refine q_bipush dX12_isImage_114 (by decide) ?_
                refine q_icmple (tgt := 121) dX12_isImage_116 (by decide) ?_ ?_
                · refine q_iconst dX12_isImage_121 ?_
                  refine q_istore_n (ls' := [(2, .inl 0), (0, .inr (.inr 94)), (1, .inl x1)]) dX12_isImage_122 rfl (by decide) rfl ?_
                  refine q_sub [1, 0] rfl ?_
                  exact tX12_isImage_123 hd q_FU 0 M3 hO3
                · refine q_iconst dX12_isImage_119 ?_
                  exact q_ret ⟨dX12_isImage_120, by decide⟩ rfl
          · refine q_iconst dX12_isImage_73 ?_
            exact q_ret ⟨dX12_isImage_74, by decide⟩ rfl
def fX12_on_82  : Nat → Int → q_Mem → Option (Int × q_Mem)
  | 0, _, _ => none
  | n + 1, x2, M => (q_ld M 131 141 3).bind fun x21 => if q_w x2 < q_w x21 then ((q_ld M 95 1600 (5 + (2 * x2))).bind fun x22 => (q_ld M 95 1600 (6 + (2 * x2))).bind fun x23 => (q_sto M 131 141 (4 + x2) ((256 * x22) + x23)).bind fun M3 => (fX12_on_82 n (x2 + 1) M3)) else ((q_sto M 131 141 20 0).bind fun M1 => q_let (q_up M1 94 65 0) fun M2 => some (1, M2))
theorem tX12_on_82 {d : Nat} (hd : 1 ≤ d) : ∀ (n : Nat) (x2 : Int) (M : q_Mem), q_Ok M → q_EX (d + 1) yX12_on cX12_on 3 (some .boolean) 82 [(0, .inr (.inr 94)), (2, .inl x2)] [] M (fX12_on_82 n x2 M) := by
  intro n
  induction n with
  | zero => intro x2 M hO; exact q_none
  | succ n ih =>
    intro x2 M hO
    rw [fX12_on_82]
    refine q_iload_n 1 dX12_on_82 rfl rfl ?_
    refine q_aload_n 0 dX12_on_83 rfl rfl ?_
    refine q_getx fl_X12_124 hO sh_94 rfl fx_94_49 dX12_on_84 ?_
    refine q_iconst dX12_on_87 ?_
    refine q_iald sh_131 (q_inA hO sh_131 (by decide)) dX12_on_88 (fun x21 _ _ _ => ?_)
    refine q_icmpge (tgt := 132) dX12_on_89 (by decide) ?_ ?_
    · refine q_aload_n 0 dX12_on_132 rfl rfl ?_
      refine q_getx fl_X12_124 hO sh_94 rfl fx_94_49 dX12_on_133 ?_
      refine q_bipush dX12_on_136 (by decide) ?_
      refine q_iconst dX12_on_138 ?_
      refine q_iast sh_131 (q_inA hO sh_131 (by decide)) dX12_on_139 (fun M1 _ _ hM1 => ?_)
      have hO1 : q_Ok M1 := by rw [hM1]; exact q_Ok_arr (t := 0) hO sh_131 (by decide)
      refine q_aload_n 0 dX12_on_140 rfl rfl ?_
      refine q_iconst dX12_on_141 ?_
      refine q_puti fl_X12_370 sh_94 (q_inO hO1 sh_94) (fun h => q_Ok_put h sh_94 rfl) rfl dX12_on_142 (fun M2 hM2 => ?_)
      have hO2 : q_Ok M2 := by rw [hM2]; exact q_Ok_put hO1 sh_94 rfl
      refine q_iconst dX12_on_145 ?_
      exact q_ret ⟨dX12_on_146, by decide⟩ rfl
    · refine q_aload_n 0 dX12_on_92 rfl rfl ?_
      refine q_getx fl_X12_124 hO sh_94 rfl fx_94_49 dX12_on_93 ?_
      refine q_iconst dX12_on_96 ?_
      refine q_iload_n 1 dX12_on_97 rfl rfl ?_
      refine q_iadd dX12_on_98 ?_
      refine q_sipush dX12_on_99 (by decide) ?_
      refine q_aload_n 0 dX12_on_102 rfl rfl ?_
      refine q_getx fl_X12_7 hO sh_94 rfl fx_94_0 dX12_on_103 ?_
      refine q_iconst dX12_on_106 ?_
      refine q_iconst dX12_on_107 ?_
      refine q_iload_n 1 dX12_on_108 rfl rfl ?_
      refine q_imul dX12_on_109 ?_
      refine q_iadd dX12_on_110 ?_
      refine q_iald sh_95 (q_inA hO sh_95 (by decide)) dX12_on_111 (fun x22 _ _ _ => ?_)
      refine q_imul dX12_on_112 ?_
      refine q_aload_n 0 dX12_on_113 rfl rfl ?_
      refine q_getx fl_X12_7 hO sh_94 rfl fx_94_0 dX12_on_114 ?_
      refine q_bipush dX12_on_117 (by decide) ?_
      refine q_iconst dX12_on_119 ?_
      refine q_iload_n 1 dX12_on_120 rfl rfl ?_
      refine q_imul dX12_on_121 ?_
      refine q_iadd dX12_on_122 ?_
      refine q_iald sh_95 (q_inA hO sh_95 (by decide)) dX12_on_123 (fun x23 _ _ _ => ?_)
      refine q_iadd dX12_on_124 ?_
      refine q_iast sh_131 (q_inA hO sh_131 (by decide)) dX12_on_125 (fun M3 _ _ hM3 => ?_)
      have hO3 : q_Ok M3 := by rw [hM3]; exact q_Ok_arr (t := 0) hO sh_131 (by decide)
      refine q_iinc (ls' := [(2, .inl (x2 + 1)), (0, .inr (.inr 94))]) 1 dX12_on_126 rfl (by decide) rfl ?_
      refine q_goto (tgt := 82) dX12_on_129 (by decide) ?_
      refine q_sub [1, 0] rfl ?_
      exact ih (x2 + 1) M3 hO3
def fX12_on_55  : Nat → Int → q_Mem → Option (Int × q_Mem)
  | 0, _, _ => none
  | n + 1, x2, M => if q_w x2 < q_w 4 then ((q_ld M 95 1600 (x2 + 1)).bind fun x21 => (q_sto M 131 141 x2 x21).bind fun M1 => (fX12_on_55 n (x2 + 1) M1)) else ((fX12_on_82 q_FU 0 M))
theorem tX12_on_55 {d : Nat} (hd : 1 ≤ d) : ∀ (n : Nat) (x2 : Int) (M : q_Mem), q_Ok M → q_EX (d + 1) yX12_on cX12_on 3 (some .boolean) 55 [(0, .inr (.inr 94)), (2, .inl x2)] [] M (fX12_on_55 n x2 M) := by
  intro n
  induction n with
  | zero => intro x2 M hO; exact q_none
  | succ n ih =>
    intro x2 M hO
    rw [fX12_on_55]
    refine q_iload_n 1 dX12_on_55 rfl rfl ?_
    refine q_iconst dX12_on_56 ?_
    refine q_icmpge (tgt := 80) dX12_on_57 (by decide) ?_ ?_
    · refine q_iconst dX12_on_80 ?_
      refine q_istore_n (ls' := [(2, .inl 0), (0, .inr (.inr 94))]) dX12_on_81 rfl (by decide) rfl ?_
      refine q_sub [1, 0] rfl ?_
      exact tX12_on_82 hd q_FU 0 M hO
    · refine q_aload_n 0 dX12_on_60 rfl rfl ?_
      refine q_getx fl_X12_124 hO sh_94 rfl fx_94_49 dX12_on_61 ?_
      refine q_iload_n 1 dX12_on_64 rfl rfl ?_
      refine q_aload_n 0 dX12_on_65 rfl rfl ?_
      refine q_getx fl_X12_7 hO sh_94 rfl fx_94_0 dX12_on_66 ?_
      refine q_iload_n 1 dX12_on_69 rfl rfl ?_
      refine q_iconst dX12_on_70 ?_
      refine q_iadd dX12_on_71 ?_
      refine q_iald sh_95 (q_inA hO sh_95 (by decide)) dX12_on_72 (fun x21 _ _ _ => ?_)
      refine q_iast sh_131 (q_inA hO sh_131 (by decide)) dX12_on_73 (fun M1 _ _ hM1 => ?_)
      have hO1 : q_Ok M1 := by rw [hM1]; exact q_Ok_arr (t := 0) hO sh_131 (by decide)
      refine q_iinc (ls' := [(2, .inl (x2 + 1)), (0, .inr (.inr 94))]) 1 dX12_on_74 rfl (by decide) rfl ?_
      refine q_goto (tgt := 55) dX12_on_77 (by decide) ?_
      refine q_sub [1, 0] rfl ?_
      exact ih (x2 + 1) M1 hO1
def fX12_on (M : q_Mem) : Option (Int × q_Mem) := q_let (M.2 94 1) fun x21 => q_let (q_up M 94 1 0) fun M1 => q_bd (fX12_isImage x21 M1) fun x22 M2 => if q_w x22 = 0 then ((q_ld M2 96 6 5).bind fun x25 => (q_sto M2 96 6 5 (x25 + 1)).bind fun M4 => some (0, M4)) else ((q_ld M2 95 1600 0).bind fun x23 => (q_ld M2 95 1600 1).bind fun x24 => (q_sto M2 131 141 0 ((256 * x23) + x24)).bind fun M3 => (fX12_on_55 q_FU 1 M3))
theorem tX12_on {d : Nat} (hd : 2 ≤ d) (M : q_Mem) (hO : q_Ok M) : q_EX d yX12_on cX12_on 3 (some .boolean) 0 (q_args 0 [.inr (.inr 94)]) [] M (fX12_on M) := by
  obtain ⟨d, rfl⟩ : ∃ d', d = d' + 1 := ⟨d - 1, by omega⟩
  have hd : 1 ≤ d := by omega
  show q_EX _ _ _ _ _ 0 [(0, .inr (.inr 94))] [] M _
  unfold fX12_on
  refine q_aload_n 0 dX12_on_0 rfl rfl ?_
  refine q_geti fl_X12_234 sh_94 (q_inO hO sh_94) rfl dX12_on_1 ?_
  refine q_nameI (fun x21 _ => ?_)
  refine q_istore_n (ls' := [(1, .inl x21), (0, .inr (.inr 94))]) dX12_on_4 rfl (by decide) rfl ?_
  refine q_aload_n 1 dX12_on_5 rfl rfl ?_
  refine q_iconst dX12_on_6 ?_
  refine q_puti fl_X12_234 sh_94 (q_inO hO sh_94) (fun h => q_Ok_put h sh_94 rfl) rfl dX12_on_7 (fun M1 hM1 => ?_)
  have hO1 : q_Ok M1 := by rw [hM1]; exact q_Ok_put hO sh_94 rfl
  refine q_aload_n 1 dX12_on_10 rfl rfl ?_
  refine q_iload_n 0 dX12_on_11 rfl rfl ?_
  refine q_callVi (As := [.inl x21]) hO1 mb_X12_isImage mv_X12_isImage ml_X12_627 sh_94 rfl dX12_on_12 (fun _ => rfl) rfl (Nat.le_of_ble_eq_true rfl) rfl (Nat.le_of_ble_eq_true rfl) (tX12_isImage (by omega) x21 M1 hO1) (fun x22 M2 _ hO2 => ?_)
  refine q_ifne (tgt := 30) dX12_on_15 (by decide) ?_ ?_
  · refine q_aload_n 1 dX12_on_30 rfl rfl ?_
    refine q_getx fl_X12_124 hO2 sh_94 rfl fx_94_49 dX12_on_31 ?_
    refine q_iconst dX12_on_34 ?_
    refine q_sipush dX12_on_35 (by decide) ?_
    refine q_aload_n 1 dX12_on_38 rfl rfl ?_
    refine q_getx fl_X12_7 hO2 sh_94 rfl fx_94_0 dX12_on_39 ?_
    refine q_iconst dX12_on_42 ?_
    refine q_iald sh_95 (q_inA hO2 sh_95 (by decide)) dX12_on_43 (fun x23 _ _ _ => ?_)
    refine q_imul dX12_on_44 ?_
    refine q_aload_n 1 dX12_on_45 rfl rfl ?_
    refine q_getx fl_X12_7 hO2 sh_94 rfl fx_94_0 dX12_on_46 ?_
    refine q_iconst dX12_on_49 ?_
    refine q_iald sh_95 (q_inA hO2 sh_95 (by decide)) dX12_on_50 (fun x24 _ _ _ => ?_)
    refine q_iadd dX12_on_51 ?_
    refine q_iast sh_131 (q_inA hO2 sh_131 (by decide)) dX12_on_52 (fun M3 _ _ hM3 => ?_)
    have hO3 : q_Ok M3 := by rw [hM3]; exact q_Ok_arr (t := 0) hO2 sh_131 (by decide)
    refine q_iconst dX12_on_53 ?_
    refine q_istore_n (ls' := [(2, .inl 1), (1, .inl x21), (0, .inr (.inr 94))]) dX12_on_54 rfl (by decide) rfl ?_
    refine q_sub [2, 0] rfl ?_
    exact tX12_on_55 hd q_FU 1 M3 hO3
  · refine q_aload_n 1 dX12_on_18 rfl rfl ?_
    refine q_getx fl_X12_17 hO2 sh_94 rfl fx_94_9 dX12_on_19 ?_
    refine q_iconst dX12_on_22 ?_
    refine q_dup2 dX12_on_23 rfl rfl ?_
    refine q_iald sh_96 (q_inA hO2 sh_96 (by decide)) dX12_on_24 (fun x25 _ _ _ => ?_)
    refine q_iconst dX12_on_25 ?_
    refine q_iadd dX12_on_26 ?_
    refine q_iast sh_96 (q_inA hO2 sh_96 (by decide)) dX12_on_27 (fun M4 _ _ hM4 => ?_)
    have hO4 : q_Ok M4 := by rw [hM4]; exact q_Ok_arr (t := 0) hO2 sh_96 (by decide)
    refine q_iconst dX12_on_28 ?_
    exact q_ret ⟨dX12_on_29, by decide⟩ rfl
def fX12_status (x1 : Int) (M : q_Mem) : Option (Int × q_Mem) := q_bd (fX12_isIn (q_w x1) 0 5 M) fun x21 M1 => if q_w x21 = 0 then (some ((-1), M1)) else ((q_ld M1 96 6 x1).bind fun x22 => some (x22, M1))
theorem tX12_status {d : Nat} (hd : 1 ≤ d) (x1 : Int) (M : q_Mem) (hO : q_Ok M) : q_EX d yX12_status cX12_status 2 (some .int) 0 (q_args 0 [.inr (.inr 94), .inl x1]) [] M (fX12_status x1 M) := by
  obtain ⟨d, rfl⟩ : ∃ d', d = d' + 1 := ⟨d - 1, by omega⟩
  have hd : 0 ≤ d := by omega
  show q_EX _ _ _ _ _ 0 [(0, .inr (.inr 94)), (1, .inl x1)] [] M _
  unfold fX12_status
  refine q_iload_n 1 dX12_status_0 rfl rfl ?_
  refine q_i2l dX12_status_1 ?_
  refine q_lconst (v := 0) dX12_status_2 (by decide) ?_
  refine q_ldc2 dX12_status_3 kl_X12_439 (n := 5) rfl ?_
  refine q_callSi (As := [.inr (.inl (q_w x1)), .inr (.inl 0), .inr (.inl 5)]) hO mb_X12_isIn ms_X12_isIn ml_X12_277 dX12_status_6 (fun _ => rfl) rfl (Nat.le_of_ble_eq_true rfl) rfl (Nat.le_of_ble_eq_true rfl) (tX12_isIn (q_w x1) 0 5 M hO) (fun x21 M1 _ hO1 => ?_)
  refine q_ifeq (tgt := 21) dX12_status_9 (by decide) ?_ ?_
  · refine q_iconst dX12_status_21 ?_
    exact q_ret dX12_status_22 rfl
  · refine q_aload_n 0 dX12_status_12 rfl rfl ?_
    refine q_getx fl_X12_17 hO1 sh_94 rfl fx_94_9 dX12_status_13 ?_
    refine q_iload_n 1 dX12_status_16 rfl rfl ?_
    refine q_iald sh_96 (q_inA hO1 sh_96 (by decide)) dX12_status_17 (fun x22 _ _ _ => ?_)
    refine q_goto (tgt := 22) dX12_status_18 (by decide) ?_
    exact q_ret dX12_status_22 rfl
