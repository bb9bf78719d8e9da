def fX11_end_15 (M : q_Mem) : Option (Int × q_Mem) := q_bd (fX11_refuse 0 M) fun x21 M1 => some (0, M1)
theorem tX11_end_15 {d : Nat} (hd : 0 ≤ d) (M : q_Mem) (hO : q_Ok M) : q_EX (d + 1) yX11_end cX11_end 2 (some .boolean) 15 [(0, .inr (.inr 0))] [] M (fX11_end_15 M) := by
  unfold fX11_end_15
  refine q_aload_n 0 dX11_end_15 rfl rfl ?_
  refine q_iconst dX11_end_16 ?_
  refine q_callVi (As := [.inl 0]) hO mb_X11_refuse mv_X11_refuse ml_X11_116 sh_0 rfl dX11_end_17 (fun _ => rfl) rfl (Nat.le_of_ble_eq_true rfl) rfl (Nat.le_of_ble_eq_true rfl) (tX11_refuse 0 M hO) (fun x21 M1 _ hO1 => ?_)
  refine q_pop dX11_end_20 rfl ?_
  refine q_iconst dX11_end_21 ?_
  exact q_ret ⟨dX11_end_22, by decide⟩ rfl
def fX11_end (x1 : Int) (M : q_Mem) : Option (Int × q_Mem) := if q_w x1 < 0 then ((fX11_end_15 M)) else (if q_w (M.2 1 1) < q_w x1 then ((fX11_end_15 M)) else (q_let (q_up M 1 1 x1) fun M1 => some (1, M1)))
theorem tX11_end {d : Nat} (hd : 1 ≤ d) (x1 : Int) (M : q_Mem) (hO : q_Ok M) : q_EX d yX11_end cX11_end 2 (some .boolean) 0 (q_args 0 [.inr (.inr 0), .inl x1]) [] M (fX11_end x1 M) := by
  obtain ⟨d, rfl⟩ : ∃ d', d = d' + 1 := ⟨d - 1, by omega⟩
  have hd : 0 ≤ d := by omega
  show q_EX _ _ _ _ _ 0 [(0, .inr (.inr 0)), (1, .inl x1)] [] M _
  unfold fX11_end
  refine q_iload_n 1 dX11_end_0 rfl rfl ?_
  refine q_iflt (tgt := 15) dX11_end_1 (by decide) ?_ ?_
  · refine q_sub [0] rfl ?_
    exact tX11_end_15 hd M hO
  · refine q_iload_n 1 dX11_end_4 rfl rfl ?_
    refine q_aload_n 0 dX11_end_5 rfl rfl ?_
    refine q_getx fl_X11_14 hO sh_0 rfl fx_0_0 dX11_end_6 ?_
    refine q_geti fl_X11_113 sh_1 (q_inO hO sh_1) rfl dX11_end_9 ?_
    refine q_icmple (tgt := 23) dX11_end_12 (by decide) ?_ ?_
    · refine q_aload_n 0 dX11_end_23 rfl rfl ?_
      refine q_getx fl_X11_14 hO sh_0 rfl fx_0_0 dX11_end_24 ?_
      refine q_iload_n 1 dX11_end_27 rfl rfl ?_
      refine q_puti fl_X11_113 sh_1 (q_inO hO sh_1) (fun h => q_Ok_put h sh_1 rfl) rfl dX11_end_28 (fun M1 hM1 => ?_)
      have hO1 : q_Ok M1 := by rw [hM1]; exact q_Ok_put hO sh_1 rfl
      refine q_iconst dX11_end_31 ?_
      exact q_ret ⟨dX11_end_32, by decide⟩ rfl
    · refine q_sub [0] rfl ?_
      exact tX11_end_15 hd M hO
def fX11_noteFault (M : q_Mem) : Option (Int × q_Mem) := q_let (q_up M 0 14 (M.2 5 5)) fun M1 => q_let (q_up M1 0 15 (M1.2 5 6)) fun M2 => some (0, M2)
theorem tX11_noteFault {d : Nat} (M : q_Mem) (hO : q_Ok M) : q_EX d yX11_noteFault cX11_noteFault 1 none 0 (q_args 0 [.inr (.inr 0)]) [] M (fX11_noteFault M) := by
  show q_EX _ _ _ _ _ 0 [(0, .inr (.inr 0))] [] M _
  unfold fX11_noteFault
  refine q_aload_n 0 dX11_noteFault_0 rfl rfl ?_
  refine q_aload_n 0 dX11_noteFault_1 rfl rfl ?_
  refine q_getx fl_X11_26 hO sh_0 rfl fx_0_2 dX11_noteFault_2 ?_
  refine q_geti fl_X11_331 sh_5 (q_inO hO sh_5) rfl dX11_noteFault_5 ?_
  refine q_puti fl_X11_106 sh_0 (q_inO hO sh_0) (fun h => q_Ok_put h sh_0 rfl) rfl dX11_noteFault_8 (fun M1 hM1 => ?_)
  have hO1 : q_Ok M1 := by rw [hM1]; exact q_Ok_put hO sh_0 rfl
  refine q_aload_n 0 dX11_noteFault_11 rfl rfl ?_
  refine q_aload_n 0 dX11_noteFault_12 rfl rfl ?_
  refine q_getx fl_X11_26 hO1 sh_0 rfl fx_0_2 dX11_noteFault_13 ?_
  refine q_geti fl_X11_334 sh_5 (q_inO hO1 sh_5) rfl dX11_noteFault_16 ?_
  refine q_puti fl_X11_110 sh_0 (q_inO hO1 sh_0) (fun h => q_Ok_put h sh_0 rfl) rfl dX11_noteFault_19 (fun M2 hM2 => ?_)
  have hO2 : q_Ok M2 := by rw [hM2]; exact q_Ok_put hO1 sh_0 rfl
  exact q_ret dX11_noteFault_22 rfl
def fX11_fair (M : q_Mem) : Option (Int × q_Mem) := q_let (M.2 0 12).toNat fun r21 => q_bd (fX3_read r21 M) fun x21 M1 => q_let (q_up M1 1 1 0) fun M2 => q_bd (fX11_noteFault M2) fun _ M3 => if q_w (M3.2 0 14) = 0 then (q_let (M3.2 0 11).toNat fun r22 => q_let (M3.2 0 12).toNat fun r23 => q_let (q_up M3 0 11 (r23 : Int)) fun M4 => q_let (q_up M4 0 12 (r22 : Int)) fun M5 => q_bd (fX1_begin M5) fun _ M6 => q_let (q_up M6 36 0 0) fun M7 => q_let (M7.2 0 11).toNat fun r24 => q_bd (fX5_begin r24 M7) fun _ M8 => q_bd (fX5_markClouds M8) fun _ M9 => some (x21, M9)) else (q_bd (fX11_refuse 1 M3) fun x22 M10 => some (x22, M10))
theorem tX11_fair {d : Nat} (hd : 75 ≤ d) (M : q_Mem) (hO : q_Ok M) : q_EX d yX11_fair cX11_fair 3 (some .int) 0 (q_args 0 [.inr (.inr 0)]) [] M (fX11_fair M) := by
  obtain ⟨d, rfl⟩ : ∃ d', d = d' + 1 := ⟨d - 1, by omega⟩
  have hd : 74 ≤ d := by omega
  show q_EX _ _ _ _ _ 0 [(0, .inr (.inr 0))] [] M _
  unfold fX11_fair
  refine q_aload_n 0 dX11_fair_0 rfl rfl ?_
  refine q_getx fl_X11_51 hO sh_0 rfl fx_0_5 dX11_fair_1 ?_
  refine q_aload_n 0 dX11_fair_4 rfl rfl ?_
  refine q_gettL fl_X11_94 hO sh_0 rfl tr_0_12 dX11_fair_5 (fun r21 _ hr21 => ?_)
  refine q_callVi (As := [.inr (.inr r21)]) hO mb_X3_read mv_X3_read ml_X11_123 sh_9 rfl dX11_fair_8 (fun _ => rfl) rfl (Nat.le_of_ble_eq_true rfl) rfl (Nat.le_of_ble_eq_true rfl) (tX3_read (by omega) r21 M hO hr21) (fun x21 M1 _ hO1 => ?_)
  refine q_istore_n (ls' := [(1, .inl x21), (0, .inr (.inr 0))]) dX11_fair_11 rfl (by decide) rfl ?_
  refine q_aload_n 1 dX11_fair_12 rfl rfl ?_
  refine q_getx fl_X11_14 hO1 sh_0 rfl fx_0_0 dX11_fair_13 ?_
  refine q_iconst dX11_fair_16 ?_
  refine q_puti fl_X11_113 sh_1 (q_inO hO1 sh_1) (fun h => q_Ok_put h sh_1 rfl) rfl dX11_fair_17 (fun M2 hM2 => ?_)
  have hO2 : q_Ok M2 := by rw [hM2]; exact q_Ok_put hO1 sh_1 rfl
  refine q_aload_n 1 dX11_fair_20 rfl rfl ?_
  refine q_callVv (As := []) hO2 mb_X11_noteFault mv_X11_noteFault ml_X11_127 sh_0 rfl dX11_fair_21 (fun _ => rfl) rfl (Nat.le_of_ble_eq_true rfl) rfl (Nat.le_of_ble_eq_true rfl) (tX11_noteFault M2 hO2) (fun _ M3 _ hO3 => ?_)
  refine q_aload_n 1 dX11_fair_24 rfl rfl ?_
  refine q_geti fl_X11_106 sh_0 (q_inO hO3 sh_0) rfl dX11_fair_25 ?_
  refine q_ifeq (tgt := 37) dX11_fair_28 (by decide) ?_ ?_
  · refine q_aload_n 1 dX11_fair_37 rfl rfl ?_
    refine q_gettL fl_X11_90 hO3 sh_0 rfl tr_0_11 dX11_fair_38 (fun r22 _ hr22 => ?_)
    refine q_astore_n (ls' := [(2, .inr (.inr r22)), (1, .inl x21), (0, .inr (.inr 0))]) dX11_fair_41 rfl (by decide) rfl ?_
    refine q_aload_n 2 dX11_fair_42 rfl rfl ?_
    refine q_aload_n 2 dX11_fair_43 rfl rfl ?_
    refine q_gettL fl_X11_94 hO3 sh_0 rfl tr_0_12 dX11_fair_44 (fun r23 _ hr23 => ?_)
    refine q_putr fl_X11_90 sh_0 (q_inO hO3 sh_0) (fun h => q_Ok_ref h tr_0_11 hr23) (fun h6 => absurd hO3.1 (by omega)) rfl dX11_fair_47 (fun M4 hM4 => ?_)
    have hO4 : q_Ok M4 := by rw [hM4]; exact q_Ok_ref hO3 tr_0_11 hr23
    refine q_aload_n 2 dX11_fair_50 rfl rfl ?_
    refine q_aload_n 0 dX11_fair_51 rfl rfl ?_
    refine q_putr fl_X11_94 sh_0 (q_inO hO4 sh_0) (fun h => q_Ok_ref h tr_0_12 hr22) (fun h6 => absurd hO4.1 (by omega)) rfl dX11_fair_52 (fun M5 hM5 => ?_)
    have hO5 : q_Ok M5 := by rw [hM5]; exact q_Ok_ref hO4 tr_0_12 hr22
    refine q_aload_n 2 dX11_fair_55 rfl rfl ?_
    refine q_getx fl_X11_58 hO5 sh_0 rfl fx_0_6 dX11_fair_56 ?_
    refine q_callVv (As := []) hO5 mb_X1_begin mv_X1_begin ml_X11_130 sh_10 rfl dX11_fair_59 (fun _ => rfl) rfl (Nat.le_of_ble_eq_true rfl) rfl (Nat.le_of_ble_eq_true rfl) (tX1_begin (by omega) M5 hO5) (fun _ M6 _ hO6 => ?_)
    refine q_aload_n 2 dX11_fair_62 rfl rfl ?_
    refine q_getx fl_X11_65 hO6 sh_0 rfl fx_0_7 dX11_fair_63 ?_
    refine q_iconst dX11_fair_66 ?_
    refine q_puti fl_X11_133 sh_36 (q_inO hO6 sh_36) (fun h => q_Ok_put h sh_36 rfl) rfl dX11_fair_67 (fun M7 hM7 => ?_)
    have hO7 : q_Ok M7 := by rw [hM7]; exact q_Ok_put hO6 sh_36 rfl
    refine q_aload_n 2 dX11_fair_70 rfl rfl ?_
    refine q_getx fl_X11_102 hO7 sh_0 rfl fx_0_13 dX11_fair_71 ?_
    refine q_aload_n 2 dX11_fair_74 rfl rfl ?_
    refine q_gettL fl_X11_90 hO7 sh_0 rfl tr_0_11 dX11_fair_75 (fun r24 _ hr24 => ?_)
    refine q_callVv (As := [.inr (.inr r24)]) hO7 mb_X5_begin mv_X5_begin ml_X11_136 sh_87 rfl dX11_fair_78 (fun _ => rfl) rfl (Nat.le_of_ble_eq_true rfl) rfl (Nat.le_of_ble_eq_true rfl) (tX5_begin (by omega) r24 M7 hO7 hr24) (fun _ M8 _ hO8 => ?_)
    refine q_aload_n 2 dX11_fair_81 rfl rfl ?_
    refine q_getx fl_X11_102 hO8 sh_0 rfl fx_0_13 dX11_fair_82 ?_
    refine q_aload_n 2 dX11_fair_85 rfl rfl ?_
    refine q_getx fl_X11_58 hO8 sh_0 rfl fx_0_6 dX11_fair_86 ?_
    refine q_callVv (As := [.inr (.inr 10)]) hO8 mb_X5_markClouds mv_X5_markClouds ml_X11_138 sh_87 rfl dX11_fair_89 (fun _ => rfl) rfl (Nat.le_of_ble_eq_true rfl) rfl (Nat.le_of_ble_eq_true rfl) (tX5_markClouds (by omega) M8 hO8) (fun _ M9 _ hO9 => ?_)
    refine q_iload_n 1 dX11_fair_92 rfl rfl ?_
    exact q_ret dX11_fair_93 rfl
  · refine q_aload_n 1 dX11_fair_31 rfl rfl ?_
    refine q_iconst dX11_fair_32 ?_
    refine q_callVi (As := [.inl 1]) hO3 mb_X11_refuse mv_X11_refuse ml_X11_116 sh_0 rfl dX11_fair_33 (fun _ => rfl) rfl (Nat.le_of_ble_eq_true rfl) rfl (Nat.le_of_ble_eq_true rfl) (tX11_refuse 1 M3 hO3) (fun x22 M10 _ hO10 => ?_)
    exact q_ret dX11_fair_36 rfl
def fX11_fault (x1 : Int) (M : q_Mem) : Option (Int × q_Mem) := if q_w x1 = 0 then some ((M.2 0 14), M) else (if q_w x1 = 1 then some ((M.2 0 15), M) else (some ((-1), M)))
theorem tX11_fault {d : Nat} (x1 : Int) (M : q_Mem) (hO : q_Ok M) : q_EX d yX11_fault cX11_fault 2 (some .int) 0 (q_args 0 [.inr (.inr 0), .inl x1]) [] M (fX11_fault x1 M) := by
  show q_EX _ _ _ _ _ 0 [(0, .inr (.inr 0)), (1, .inl x1)] [] M _
  unfold fX11_fault
  refine q_iload_n 1 dX11_fault_0 rfl rfl ?_
  refine q_case (fun h1 => ?_) (fun h1 => ?_)
  · refine q_lsw (tgt := 28) (off := 27) dX11_fault_1 (by decide) (by first | (rw [h1]; rfl) | rw [h1]) (by decide) ?_
    refine q_aload_n 0 dX11_fault_28 rfl rfl ?_
    refine q_geti fl_X11_106 sh_0 (q_inO hO sh_0) rfl dX11_fault_29 ?_
    exact q_ret dX11_fault_32 rfl
  · refine q_case (fun h2 => ?_) (fun h2 => ?_)
    · refine q_lsw (tgt := 33) (off := 32) dX11_fault_1 (by decide) (by first | (rw [h2]; rfl) | rw [h2]) (by decide) ?_
      refine q_aload_n 0 dX11_fault_33 rfl rfl ?_
      refine q_geti fl_X11_110 sh_0 (q_inO hO sh_0) rfl dX11_fault_34 ?_
      exact q_ret dX11_fault_37 rfl
    · refine q_lsw (tgt := 38) (off := 37) dX11_fault_1 (by decide) (by simp only [if_neg (Ne.symm h1), if_neg (Ne.symm h2), Op.lookupswitch.offset_cons]; rfl) (by decide) ?_
      refine q_iconst dX11_fault_38 ?_
      exact q_ret dX11_fault_39 rfl
def fX11_has (x1 : Int) (M : q_Mem) : Option (Int × q_Mem) := if q_w x1 = 0 then q_let (M.2 0 11).toNat fun r21 => some ((M.2 r21 0), M) else (if q_w x1 = 1 then q_let (M.2 0 11).toNat fun r22 => some ((M.2 r22 1), M) else (if q_w x1 = 2 then q_let (M.2 0 11).toNat fun r23 => some ((M.2 r23 7), M) else (if q_w x1 = 3 then q_let (M.2 0 11).toNat fun r24 => some (((M.2 r24 11) + (M.2 10 3)), M) else (if q_w x1 = 4 then some ((M.2 10 0), M) else (if q_w x1 = 5 then some ((M.2 10 1), M) else (if q_w x1 = 6 then q_bd (fJ6_bitCount_0f7a4 (M.2 10 2) M) fun x21 M1 => some (x21, M1) else (if q_w x1 = 7 then q_bd (fX5_isCloudy (M.2 10 0) M) fun x22 M2 => if q_w x22 = 0 then (some (0, M2)) else (some (1, M2)) else (if q_w x1 = 8 then some ((M.2 10 5), M) else (if q_w x1 = 9 then some ((M.2 36 0), M) else (if q_w x1 = 10 then some ((M.2 10 11), M) else (some ((-1), M))))))))))))
theorem tX11_has {d : Nat} (hd : 1 ≤ d) (x1 : Int) (M : q_Mem) (hO : q_Ok M) : q_EX d yX11_has cX11_has 2 (some .int) 0 (q_args 0 [.inr (.inr 0), .inl x1]) [] M (fX11_has x1 M) := by
  obtain ⟨d, rfl⟩ : ∃ d', d = d' + 1 := ⟨d - 1, by omega⟩
  have hd : 0 ≤ d := by omega
  show q_EX _ _ _ _ _ 0 [(0, .inr (.inr 0)), (1, .inl x1)] [] M _
  unfold fX11_has
  refine q_iload_n 1 dX11_has_0 rfl rfl ?_
  refine q_case (fun h1 => ?_) (fun h1 => ?_)
  · refine q_tswI (tgt := 60) h1 dX11_has_1 (by decide) (by decide) rfl (by decide) ?_
    refine q_aload_n 0 dX11_has_60 rfl rfl ?_
    refine q_gettL fl_X11_90 hO sh_0 rfl tr_0_11 dX11_has_61 (fun r21 _ hr21 => ?_)
    refine q_geti fl_X11_142 hr21 (q_inO hO hr21) rfl dX11_has_64 ?_
    exact q_ret dX11_has_67 rfl
  · refine q_case (fun h2 => ?_) (fun h2 => ?_)
    · refine q_tswI (tgt := 68) h2 dX11_has_1 (by decide) (by decide) rfl (by decide) ?_
      refine q_aload_n 0 dX11_has_68 rfl rfl ?_
      refine q_gettL fl_X11_90 hO sh_0 rfl tr_0_11 dX11_has_69 (fun r22 _ hr22 => ?_)
      refine q_geti fl_X11_145 hr22 (q_inO hO hr22) rfl dX11_has_72 ?_
      exact q_ret dX11_has_75 rfl
    · refine q_case (fun h3 => ?_) (fun h3 => ?_)
      · refine q_tswI (tgt := 76) h3 dX11_has_1 (by decide) (by decide) rfl (by decide) ?_
        refine q_aload_n 0 dX11_has_76 rfl rfl ?_
        refine q_gettL fl_X11_90 hO sh_0 rfl tr_0_11 dX11_has_77 (fun r23 _ hr23 => ?_)
        refine q_geti fl_X11_148 hr23 (q_inO hO hr23) rfl dX11_has_80 ?_
        exact q_ret dX11_has_83 rfl
      · refine q_case (fun h4 => ?_) (fun h4 => ?_)
        · refine q_tswI (tgt := 84) h4 dX11_has_1 (by decide) (by decide) rfl (by decide) ?_
          refine q_aload_n 0 dX11_has_84 rfl rfl ?_
          refine q_gettL fl_X11_90 hO sh_0 rfl tr_0_11 dX11_has_85 (fun r24 _ hr24 => ?_)
          refine q_geti fl_X11_151 hr24 (q_inO hO hr24) rfl dX11_has_88 ?_
          refine q_aload_n 0 dX11_has_91 rfl rfl ?_
          refine q_getx fl_X11_58 hO sh_0 rfl fx_0_6 dX11_has_92 ?_
          refine q_geti fl_X11_154 sh_10 (q_inO hO sh_10) rfl dX11_has_95 ?_
          refine q_iadd dX11_has_98 ?_
          exact q_ret dX11_has_99 rfl
        · refine q_case (fun h5 => ?_) (fun h5 => ?_)
          · refine q_tswI (tgt := 100) h5 dX11_has_1 (by decide) (by decide) rfl (by decide) ?_
            refine q_aload_n 0 dX11_has_100 rfl rfl ?_
            refine q_getx fl_X11_58 hO sh_0 rfl fx_0_6 dX11_has_101 ?_
            refine q_geti fl_X11_155 sh_10 (q_inO hO sh_10) rfl dX11_has_104 ?_
            exact q_ret dX11_has_107 rfl
          · refine q_case (fun h6 => ?_) (fun h6 => ?_)
            · refine q_tswI (tgt := 108) h6 dX11_has_1 (by decide) (by decide) rfl (by decide) ?_
              refine q_aload_n 0 dX11_has_108 rfl rfl ?_
              refine q_getx fl_X11_58 hO sh_0 rfl fx_0_6 dX11_has_109 ?_
              refine q_geti fl_X11_158 sh_10 (q_inO hO sh_10) rfl dX11_has_112 ?_
              exact q_ret dX11_has_115 rfl
            · refine q_case (fun h7 => ?_) (fun h7 => ?_)
              · refine q_tswI (tgt := 116) h7 dX11_has_1 (by decide) (by decide) rfl (by decide) ?_
                refine q_aload_n 0 dX11_has_116 rfl rfl ?_
                refine q_getx fl_X11_58 hO sh_0 rfl fx_0_6 dX11_has_117 ?_
                refine q_geti fl_X11_161 sh_10 (q_inO hO sh_10) rfl dX11_has_120 ?_
                refine q_callSi (As := [.inl (M.2 10 2)]) hO mb_J6_bitCount_0f7a4 ms_J6_bitCount_0f7a4 ml_X11_164 dX11_has_123 (fun _ => rfl) rfl (Nat.le_of_ble_eq_true rfl) rfl (Nat.le_of_ble_eq_true rfl) (tJ6_bitCount_0f7a4 (M.2 10 2) M hO) (fun x21 M1 _ hO1 => ?_)
                exact q_ret dX11_has_126 rfl
              · refine q_case (fun h8 => ?_) (fun h8 => ?_)
                · refine q_tswI (tgt := 127) h8 dX11_has_1 (by decide) (by decide) rfl (by decide) ?_
                  refine q_aload_n 0 dX11_has_127 rfl rfl ?_
                  refine q_getx fl_X11_102 hO sh_0 rfl fx_0_13 dX11_has_128 ?_
                  refine q_aload_n 0 dX11_has_131 rfl rfl ?_
                  refine q_getx fl_X11_58 hO sh_0 rfl fx_0_6 dX11_has_132 ?_
                  refine q_geti fl_X11_155 sh_10 (q_inO hO sh_10) rfl dX11_has_135 ?_
                  refine q_callVi (As := [.inl (M.2 10 0)]) hO mb_X5_isCloudy mv_X5_isCloudy ml_X11_169 sh_87 rfl dX11_has_138 (fun _ => rfl) rfl (Nat.le_of_ble_eq_true rfl) rfl (Nat.le_of_ble_eq_true rfl) (tX5_isCloudy (M.2 10 0) M hO) (fun x22 M2 _ hO2 => ?_)
                  refine q_ifeq (tgt := 148) dX11_has_141 (by decide) ?_ ?_
                  · refine q_iconst dX11_has_148 ?_
                    exact q_ret dX11_has_149 rfl
                  · refine q_iconst dX11_has_144 ?_
                    refine q_goto (tgt := 149) dX11_has_145 (by decide) ?_
                    exact q_ret dX11_has_149 rfl
                · refine q_case (fun h9 => ?_) (fun h9 => ?_)
                  · refine q_tswI (tgt := 150) h9 dX11_has_1 (by decide) (by decide) rfl (by decide) ?_
                    refine q_aload_n 0 dX11_has_150 rfl rfl ?_
                    refine q_getx fl_X11_58 hO sh_0 rfl fx_0_6 dX11_has_151 ?_
                    refine q_geti fl_X11_173 sh_10 (q_inO hO sh_10) rfl dX11_has_154 ?_
                    exact q_ret dX11_has_157 rfl
                  · refine q_case (fun h10 => ?_) (fun h10 => ?_)
                    · refine q_tswI (tgt := 158) h10 dX11_has_1 (by decide) (by decide) rfl (by decide) ?_
                      refine q_aload_n 0 dX11_has_158 rfl rfl ?_
                      refine q_getx fl_X11_65 hO sh_0 rfl fx_0_7 dX11_has_159 ?_
                      refine q_geti fl_X11_133 sh_36 (q_inO hO sh_36) rfl dX11_has_162 ?_
                      exact q_ret dX11_has_165 rfl
                    · refine q_case (fun h11 => ?_) (fun h11 => ?_)
                      · refine q_tswI (tgt := 166) h11 dX11_has_1 (by decide) (by decide) rfl (by decide) ?_
                        refine q_aload_n 0 dX11_has_166 rfl rfl ?_
                        refine q_getx fl_X11_58 hO sh_0 rfl fx_0_6 dX11_has_167 ?_
                        refine q_geti fl_X11_176 sh_10 (q_inO hO sh_10) rfl dX11_has_170 ?_
                        exact q_ret dX11_has_173 rfl
                      · refine q_tswO (tgt := 174) (by omega) dX11_has_1 (by decide) ?_
                        refine q_iconst dX11_has_174 ?_
                        exact q_ret dX11_has_175 rfl
def fX11_isStall (x1 : Int) (M : q_Mem) : Option (Int × q_Mem) := if q_w x1 < 0 then (some (0, M)) else (q_let (M.2 0 11).toNat fun r21 => if q_w x1 < q_w (M.2 r21 1) then (some (1, M)) else (some (0, M)))
theorem tX11_isStall {d : Nat} (x1 : Int) (M : q_Mem) (hO : q_Ok M) : q_EX d yX11_isStall cX11_isStall 2 (some .boolean) 0 (q_args 0 [.inr (.inr 0), .inl x1]) [] M (fX11_isStall x1 M) := by
  show q_EX _ _ _ _ _ 0 [(0, .inr (.inr 0)), (1, .inl x1)] [] M _
  unfold fX11_isStall
  refine q_iload_n 1 dX11_isStall_0 rfl rfl ?_
  refine q_iflt (tgt := 19) dX11_isStall_1 (by decide) ?_ ?_
  · refine q_iconst dX11_isStall_19 ?_
    exact q_ret ⟨dX11_isStall_20, by decide⟩ rfl
  · refine q_iload_n 1 dX11_isStall_4 rfl rfl ?_
    refine q_aload_n 0 dX11_isStall_5 rfl rfl ?_
    refine q_gettL fl_X11_90 hO sh_0 rfl tr_0_11 dX11_isStall_6 (fun r21 _ hr21 => ?_)
    refine q_geti fl_X11_145 hr21 (q_inO hO hr21) rfl dX11_isStall_9 ?_
    refine q_icmpge (tgt := 19) dX11_isStall_12 (by decide) ?_ ?_
    · refine q_iconst dX11_isStall_19 ?_
      exact q_ret ⟨dX11_isStall_20, by decide⟩ rfl
    · refine q_iconst dX11_isStall_15 ?_
      refine q_goto (tgt := 20) dX11_isStall_16 (by decide) ?_
      exact q_ret ⟨dX11_isStall_20, by decide⟩ rfl
def fX11_letterOf (x0 : Int) (x1 : Int) (M : q_Mem) : Option (Int × q_Mem) := some ((q_and (q_shr x0 (5 * x1)) 31), M)
theorem tX11_letterOf {d : Nat} (x0 : Int) (x1 : Int) (M : q_Mem) (hO : q_Ok M) : q_EX d yX11_letterOf cX11_letterOf 2 (some .int) 0 (q_args 0 [.inl x0, .inl x1]) [] M (fX11_letterOf x0 x1 M) := by
  show q_EX _ _ _ _ _ 0 [(0, .inl x0), (1, .inl x1)] [] M _
  unfold fX11_letterOf
  refine q_iload_n 0 dX11_letterOf_0 rfl rfl ?_
  refine q_iconst dX11_letterOf_1 ?_
  refine q_iload_n 1 dX11_letterOf_2 rfl rfl ?_
  refine q_imul dX11_letterOf_3 ?_
  refine q_ishr dX11_letterOf_4 ?_
  refine q_bipush dX11_letterOf_5 (by decide) ?_
  refine q_iand dX11_letterOf_7 ?_
  exact q_ret dX11_letterOf_8 rfl
def fX11_isCoin (x1 : Int) (M : q_Mem) : Option (Int × q_Mem) := if q_w x1 < 0 then (some (0, M)) else (q_let (M.2 0 11).toNat fun r21 => if q_w x1 < q_w (M.2 r21 7) then (some (1, M)) else (some (0, M)))
theorem tX11_isCoin {d : Nat} (x1 : Int) (M : q_Mem) (hO : q_Ok M) : q_EX d yX11_isCoin cX11_isCoin 2 (some .boolean) 0 (q_args 0 [.inr (.inr 0), .inl x1]) [] M (fX11_isCoin x1 M) := by
  show q_EX _ _ _ _ _ 0 [(0, .inr (.inr 0)), (1, .inl x1)] [] M _
  unfold fX11_isCoin
  refine q_iload_n 1 dX11_isCoin_0 rfl rfl ?_
  refine q_iflt (tgt := 19) dX11_isCoin_1 (by decide) ?_ ?_
  · refine q_iconst dX11_isCoin_19 ?_
    exact q_ret ⟨dX11_isCoin_20, by decide⟩ rfl
  · refine q_iload_n 1 dX11_isCoin_4 rfl rfl ?_
    refine q_aload_n 0 dX11_isCoin_5 rfl rfl ?_
    refine q_gettL fl_X11_90 hO sh_0 rfl tr_0_11 dX11_isCoin_6 (fun r21 _ hr21 => ?_)
    refine q_geti fl_X11_148 hr21 (q_inO hO hr21) rfl dX11_isCoin_9 ?_
    refine q_icmpge (tgt := 19) dX11_isCoin_12 (by decide) ?_ ?_
    · refine q_iconst dX11_isCoin_19 ?_
      exact q_ret ⟨dX11_isCoin_20, by decide⟩ rfl
    · refine q_iconst dX11_isCoin_15 ?_
      refine q_goto (tgt := 20) dX11_isCoin_16 (by decide) ?_
      exact q_ret ⟨dX11_isCoin_20, by decide⟩ rfl
def fX11_letter_38 (x1 : Int) (x2 : Int) (x3 : Int) (M : q_Mem) : Option (Int × q_Mem) := if q_w x1 = q_w 1 then (q_bd (fX11_isCoin x2 M) fun x21 M1 => if q_w x21 = 0 then (some ((-1), M1)) else (q_let (M1.2 0 11).toNat fun r21 => (q_ld M1 (q_fr r21 8) 8 x2).bind fun x22 => q_bd (fX11_letterOf x22 x3 M1) fun x23 M2 => some (x23, M2))) else (some ((-1), M))
theorem tX11_letter_38 {d : Nat} (hd : 0 ≤ d) (x1 : Int) (x2 : Int) (x3 : Int) (M : q_Mem) (hO : q_Ok M) : q_EX (d + 1) yX11_letter cX11_letter 4 (some .int) 38 [(0, .inr (.inr 0)), (1, .inl x1), (2, .inl x2), (3, .inl x3)] [] M (fX11_letter_38 x1 x2 x3 M) := by
  unfold fX11_letter_38
  refine q_iload_n 1 dX11_letter_38 rfl rfl ?_
  refine q_iconst dX11_letter_39 ?_
  refine q_icmpne (tgt := 65) dX11_letter_40 (by decide) ?_ ?_
  · refine q_iconst dX11_letter_65 ?_
    exact q_ret dX11_letter_66 rfl
  · refine q_aload_n 0 dX11_letter_43 rfl rfl ?_
    refine q_iload_n 2 dX11_letter_44 rfl rfl ?_
    refine q_callVi (As := [.inl x2]) hO mb_X11_isCoin mv_X11_isCoin ml_X11_189 sh_0 rfl dX11_letter_45 (fun _ => rfl) rfl (Nat.le_of_ble_eq_true rfl) rfl (Nat.le_of_ble_eq_true rfl) (tX11_isCoin x2 M hO) (fun x21 M1 _ hO1 => ?_)
    refine q_ifeq (tgt := 65) dX11_letter_48 (by decide) ?_ ?_
    · refine q_iconst dX11_letter_65 ?_
      exact q_ret dX11_letter_66 rfl
    · refine q_aload_n 0 dX11_letter_51 rfl rfl ?_
      refine q_gettL fl_X11_90 hO1 sh_0 rfl tr_0_11 dX11_letter_52 (fun r21 _ hr21 => ?_)
      refine q_getx fl_X11_192 hO1 hr21 rfl (fs_2_8 hr21) dX11_letter_55 ?_
      refine q_iload_n 2 dX11_letter_58 rfl rfl ?_
      refine q_iald (ft_2_8 hr21) (q_inA hO1 (ft_2_8 hr21) (by decide)) dX11_letter_59 (fun x22 _ _ _ => ?_)
      refine q_iload_n 3 dX11_letter_60 rfl rfl ?_
      refine q_callSi (As := [.inl x22, .inl x3]) hO1 mb_X11_letterOf ms_X11_letterOf ml_X11_185 dX11_letter_61 (fun _ => rfl) rfl (Nat.le_of_ble_eq_true rfl) rfl (Nat.le_of_ble_eq_true rfl) (tX11_letterOf x22 x3 M1 hO1) (fun x23 M2 _ hO2 => ?_)
      exact q_ret dX11_letter_64 rfl
def fX11_letter (x1 : Int) (x2 : Int) (x3 : Int) (M : q_Mem) : Option (Int × q_Mem) := if q_w x3 < 0 then (some ((-1), M)) else (if q_w x3 < q_w 6 then (if q_w x1 = 0 then (q_bd (fX11_isStall x2 M) fun x21 M1 => if q_w x21 = 0 then ((fX11_letter_38 x1 x2 x3 M1)) else (q_let (M1.2 0 11).toNat fun r21 => (q_ld M1 (q_fr r21 2) 6 x2).bind fun x22 => q_bd (fX11_letterOf x22 x3 M1) fun x23 M2 => some (x23, M2))) else ((fX11_letter_38 x1 x2 x3 M))) else (some ((-1), M)))
theorem tX11_letter {d : Nat} (hd : 1 ≤ d) (x1 : Int) (x2 : Int) (x3 : Int) (M : q_Mem) (hO : q_Ok M) : q_EX d yX11_letter cX11_letter 4 (some .int) 0 (q_args 0 [.inr (.inr 0), .inl x1, .inl x2, .inl x3]) [] M (fX11_letter x1 x2 x3 M) := by
  obtain ⟨d, rfl⟩ : ∃ d', d = d' + 1 := ⟨d - 1, by omega⟩
  have hd : 0 ≤ d := by omega
  show q_EX _ _ _ _ _ 0 [(0, .inr (.inr 0)), (1, .inl x1), (2, .inl x2), (3, .inl x3)] [] M _
  unfold fX11_letter
  refine q_iload_n 3 dX11_letter_0 rfl rfl ?_
  refine q_iflt (tgt := 10) dX11_letter_1 (by decide) ?_ ?_
  · refine q_iconst dX11_letter_10 ?_
    exact q_ret dX11_letter_11 rfl
  · refine q_iload_n 3 dX11_letter_4 rfl rfl ?_
    refine q_bipush dX11_letter_5 (by decide) ?_
    refine q_icmplt (tgt := 12) dX11_letter_7 (by decide) ?_ ?_
    · refine q_iload_n 1 dX11_letter_12 rfl rfl ?_
      refine q_ifne (tgt := 38) dX11_letter_13 (by decide) ?_ ?_
      · refine q_sub [0, 1, 2, 3] rfl ?_
        exact tX11_letter_38 hd x1 x2 x3 M hO
      · refine q_aload_n 0 dX11_letter_16 rfl rfl ?_
        refine q_iload_n 2 dX11_letter_17 rfl rfl ?_
        refine q_callVi (As := [.inl x2]) hO mb_X11_isStall mv_X11_isStall ml_X11_179 sh_0 rfl dX11_letter_18 (fun _ => rfl) rfl (Nat.le_of_ble_eq_true rfl) rfl (Nat.le_of_ble_eq_true rfl) (tX11_isStall x2 M hO) (fun x21 M1 _ hO1 => ?_)
        refine q_ifeq (tgt := 38) dX11_letter_21 (by decide) ?_ ?_
        · refine q_sub [0, 1, 2, 3] rfl ?_
          exact tX11_letter_38 hd x1 x2 x3 M1 hO1
        · refine q_aload_n 0 dX11_letter_24 rfl rfl ?_
          refine q_gettL fl_X11_90 hO1 sh_0 rfl tr_0_11 dX11_letter_25 (fun r21 _ hr21 => ?_)
          refine q_getx fl_X11_182 hO1 hr21 rfl (fs_2_2 hr21) dX11_letter_28 ?_
          refine q_iload_n 2 dX11_letter_31 rfl rfl ?_
          refine q_iald (ft_2_2 hr21) (q_inA hO1 (ft_2_2 hr21) (by decide)) dX11_letter_32 (fun x22 _ _ _ => ?_)
          refine q_iload_n 3 dX11_letter_33 rfl rfl ?_
          refine q_callSi (As := [.inl x22, .inl x3]) hO1 mb_X11_letterOf ms_X11_letterOf ml_X11_185 dX11_letter_34 (fun _ => rfl) rfl (Nat.le_of_ble_eq_true rfl) rfl (Nat.le_of_ble_eq_true rfl) (tX11_letterOf x22 x3 M1 hO1) (fun x23 M2 _ hO2 => ?_)
          exact q_ret dX11_letter_37 rfl
    · refine q_iconst dX11_letter_10 ?_
      exact q_ret dX11_letter_11 rfl
def fX11_stall (x1 : Int) (x2 : Int) (M : q_Mem) : Option (Int × q_Mem) := q_bd (fX11_isStall x1 M) fun x21 M1 => if q_w x21 = 0 then (some ((-1), M1)) else (if q_w x2 = 0 then q_let (M1.2 0 11).toNat fun r21 => (q_ld M1 (q_fr r21 3) 6 x1).bind fun x22 => some (x22, M1) else (if q_w x2 = 1 then q_let (M1.2 0 11).toNat fun r22 => (q_ld M1 (q_fr r22 4) 6 x1).bind fun x23 => some (x23, M1) else (if q_w x2 = 2 then q_let (M1.2 0 11).toNat fun r23 => (q_ld M1 (q_fr r23 5) 6 x1).bind fun x24 => some (x24, M1) else (if q_w x2 = 3 then q_let (M1.2 0 11).toNat fun r24 => (q_ld M1 (q_fr r24 6) 6 x1).bind fun x25 => some (x25, M1) else (if q_w x2 = 4 then q_bd (fX1_hasBought x1 M1) fun x26 M2 => if q_w x26 = 0 then (some (0, M2)) else (some (1, M2)) else (some ((-1), M1)))))))
theorem tX11_stall {d : Nat} (hd : 1 ≤ d) (x1 : Int) (x2 : Int) (M : q_Mem) (hO : q_Ok M) : q_EX d yX11_stall cX11_stall 3 (some .int) 0 (q_args 0 [.inr (.inr 0), .inl x1, .inl x2]) [] M (fX11_stall x1 x2 M) := by
  obtain ⟨d, rfl⟩ : ∃ d', d = d' + 1 := ⟨d - 1, by omega⟩
  have hd : 0 ≤ d := by omega
  show q_EX _ _ _ _ _ 0 [(0, .inr (.inr 0)), (1, .inl x1), (2, .inl x2)] [] M _
  unfold fX11_stall
  refine q_aload_n 0 dX11_stall_0 rfl rfl ?_
  refine q_iload_n 1 dX11_stall_1 rfl rfl ?_
  refine q_callVi (As := [.inl x1]) hO mb_X11_isStall mv_X11_isStall ml_X11_179 sh_0 rfl dX11_stall_2 (fun _ => rfl) rfl (Nat.le_of_ble_eq_true rfl) rfl (Nat.le_of_ble_eq_true rfl) (tX11_isStall x1 M hO) (fun x21 M1 _ hO1 => ?_)
  refine q_ifne (tgt := 10) dX11_stall_5 (by decide) ?_ ?_
  · refine q_iload_n 2 dX11_stall_10 rfl rfl ?_
    refine q_case (fun h1 => ?_) (fun h1 => ?_)
    · refine q_tswI (tgt := 44) h1 dX11_stall_11 (by decide) (by decide) rfl (by decide) ?_
      refine q_aload_n 0 dX11_stall_44 rfl rfl ?_
      refine q_gettL fl_X11_90 hO1 sh_0 rfl tr_0_11 dX11_stall_45 (fun r21 _ hr21 => ?_)
      refine q_getx fl_X11_195 hO1 hr21 rfl (fs_2_3 hr21) dX11_stall_48 ?_
      refine q_iload_n 1 dX11_stall_51 rfl rfl ?_
      refine q_iald (ft_2_3 hr21) (q_inA hO1 (ft_2_3 hr21) (by decide)) dX11_stall_52 (fun x22 _ _ _ => ?_)
      exact q_ret dX11_stall_53 rfl
    · refine q_case (fun h2 => ?_) (fun h2 => ?_)
      · refine q_tswI (tgt := 54) h2 dX11_stall_11 (by decide) (by decide) rfl (by decide) ?_
        refine q_aload_n 0 dX11_stall_54 rfl rfl ?_
        refine q_gettL fl_X11_90 hO1 sh_0 rfl tr_0_11 dX11_stall_55 (fun r22 _ hr22 => ?_)
        refine q_getx fl_X11_197 hO1 hr22 rfl (fs_2_4 hr22) dX11_stall_58 ?_
        refine q_iload_n 1 dX11_stall_61 rfl rfl ?_
        refine q_iald (ft_2_4 hr22) (q_inA hO1 (ft_2_4 hr22) (by decide)) dX11_stall_62 (fun x23 _ _ _ => ?_)
        exact q_ret dX11_stall_63 rfl
      · refine q_case (fun h3 => ?_) (fun h3 => ?_)
        · refine q_tswI (tgt := 64) h3 dX11_stall_11 (by decide) (by decide) rfl (by decide) ?_
          refine q_aload_n 0 dX11_stall_64 rfl rfl ?_
          refine q_gettL fl_X11_90 hO1 sh_0 rfl tr_0_11 dX11_stall_65 (fun r23 _ hr23 => ?_)
          refine q_getx fl_X11_200 hO1 hr23 rfl (fs_2_5 hr23) dX11_stall_68 ?_
          refine q_iload_n 1 dX11_stall_71 rfl rfl ?_
          refine q_iald (ft_2_5 hr23) (q_inA hO1 (ft_2_5 hr23) (by decide)) dX11_stall_72 (fun x24 _ _ _ => ?_)
          exact q_ret dX11_stall_73 rfl
        · refine q_case (fun h4 => ?_) (fun h4 => ?_)
          · refine q_tswI (tgt := 74) h4 dX11_stall_11 (by decide) (by decide) rfl (by decide) ?_
            refine q_aload_n 0 dX11_stall_74 rfl rfl ?_
            refine q_gettL fl_X11_90 hO1 sh_0 rfl tr_0_11 dX11_stall_75 (fun r24 _ hr24 => ?_)
            refine q_getx fl_X11_203 hO1 hr24 rfl (fs_2_6 hr24) dX11_stall_78 ?_
            refine q_iload_n 1 dX11_stall_81 rfl rfl ?_
            refine q_iald (ft_2_6 hr24) (q_inA hO1 (ft_2_6 hr24) (by decide)) dX11_stall_82 (fun x25 _ _ _ => ?_)
            exact q_ret dX11_stall_83 rfl
          · refine q_case (fun h5 => ?_) (fun h5 => ?_)
            · refine q_tswI (tgt := 84) h5 dX11_stall_11 (by decide) (by decide) rfl (by decide) ?_
              refine q_aload_n 0 dX11_stall_84 rfl rfl ?_
              refine q_getx fl_X11_58 hO1 sh_0 rfl fx_0_6 dX11_stall_85 ?_
              refine q_iload_n 1 dX11_stall_88 rfl rfl ?_
              refine q_callVi (As := [.inl x1]) hO1 mb_X1_hasBought mv_X1_hasBought ml_X11_206 sh_10 rfl dX11_stall_89 (fun _ => rfl) rfl (Nat.le_of_ble_eq_true rfl) rfl (Nat.le_of_ble_eq_true rfl) (tX1_hasBought x1 M1 hO1) (fun x26 M2 _ hO2 => ?_)
              refine q_ifeq (tgt := 99) dX11_stall_92 (by decide) ?_ ?_
              · refine q_iconst dX11_stall_99 ?_
                exact q_ret dX11_stall_100 rfl
              · refine q_iconst dX11_stall_95 ?_
                refine q_goto (tgt := 100) dX11_stall_96 (by decide) ?_
                exact q_ret dX11_stall_100 rfl
            · refine q_tswO (tgt := 101) (by omega) dX11_stall_11 (by decide) ?_
              refine q_iconst dX11_stall_101 ?_
              exact q_ret dX11_stall_102 rfl
  · refine q_iconst dX11_stall_8 ?_
    exact q_ret dX11_stall_9 rfl
def fX11_coin (x1 : Int) (x2 : Int) (M : q_Mem) : Option (Int × q_Mem) := q_bd (fX11_isCoin x1 M) fun x21 M1 => if q_w x21 = 0 then (some ((-1), M1)) else (if q_w x2 = 0 then q_let (M1.2 0 11).toNat fun r21 => (q_ld M1 (q_fr r21 9) 8 x1).bind fun x22 => some (x22, M1) else (if q_w x2 = 1 then q_let (M1.2 0 11).toNat fun r22 => (q_ld M1 (q_fr r22 10) 8 x1).bind fun x23 => some (x23, M1) else (some ((-1), M1))))
theorem tX11_coin {d : Nat} (hd : 1 ≤ d) (x1 : Int) (x2 : Int) (M : q_Mem) (hO : q_Ok M) : q_EX d yX11_coin cX11_coin 3 (some .int) 0 (q_args 0 [.inr (.inr 0), .inl x1, .inl x2]) [] M (fX11_coin x1 x2 M) := by
  obtain ⟨d, rfl⟩ : ∃ d', d = d' + 1 := ⟨d - 1, by omega⟩
  have hd : 0 ≤ d := by omega
  show q_EX _ _ _ _ _ 0 [(0, .inr (.inr 0)), (1, .inl x1), (2, .inl x2)] [] M _
  unfold fX11_coin
  refine q_aload_n 0 dX11_coin_0 rfl rfl ?_
  refine q_iload_n 1 dX11_coin_1 rfl rfl ?_
  refine q_callVi (As := [.inl x1]) hO mb_X11_isCoin mv_X11_isCoin ml_X11_189 sh_0 rfl dX11_coin_2 (fun _ => rfl) rfl (Nat.le_of_ble_eq_true rfl) rfl (Nat.le_of_ble_eq_true rfl) (tX11_isCoin x1 M hO) (fun x21 M1 _ hO1 => ?_)
  refine q_ifne (tgt := 10) dX11_coin_5 (by decide) ?_ ?_
  · refine q_iload_n 2 dX11_coin_10 rfl rfl ?_
    refine q_case (fun h1 => ?_) (fun h1 => ?_)
    · refine q_lsw (tgt := 36) (off := 25) dX11_coin_11 (by decide) (by first | (rw [h1]; rfl) | rw [h1]) (by decide) ?_
      refine q_aload_n 0 dX11_coin_36 rfl rfl ?_
      refine q_gettL fl_X11_90 hO1 sh_0 rfl tr_0_11 dX11_coin_37 (fun r21 _ hr21 => ?_)
      refine q_getx fl_X11_209 hO1 hr21 rfl (fs_2_9 hr21) dX11_coin_40 ?_
      refine q_iload_n 1 dX11_coin_43 rfl rfl ?_
      refine q_iald (ft_2_9 hr21) (q_inA hO1 (ft_2_9 hr21) (by decide)) dX11_coin_44 (fun x22 _ _ _ => ?_)
      exact q_ret dX11_coin_45 rfl
    · refine q_case (fun h2 => ?_) (fun h2 => ?_)
      · refine q_lsw (tgt := 46) (off := 35) dX11_coin_11 (by decide) (by first | (rw [h2]; rfl) | rw [h2]) (by decide) ?_
        refine q_aload_n 0 dX11_coin_46 rfl rfl ?_
        refine q_gettL fl_X11_90 hO1 sh_0 rfl tr_0_11 dX11_coin_47 (fun r22 _ hr22 => ?_)
        refine q_getx fl_X11_212 hO1 hr22 rfl (fs_2_10 hr22) dX11_coin_50 ?_
        refine q_iload_n 1 dX11_coin_53 rfl rfl ?_
        refine q_iald (ft_2_10 hr22) (q_inA hO1 (ft_2_10 hr22) (by decide)) dX11_coin_54 (fun x23 _ _ _ => ?_)
        exact q_ret dX11_coin_55 rfl
      · refine q_lsw (tgt := 56) (off := 45) dX11_coin_11 (by decide) (by simp only [if_neg (Ne.symm h1), if_neg (Ne.symm h2), Op.lookupswitch.offset_cons]; rfl) (by decide) ?_
        refine q_iconst dX11_coin_56 ?_
        exact q_ret dX11_coin_57 rfl
  · refine q_iconst dX11_coin_8 ?_
    exact q_ret dX11_coin_9 rfl
def fX11_isMinute (x1 : Int) (M : q_Mem) : Option (Int × q_Mem) := if q_w x1 < 0 then (some (0, M)) else (q_let (M.2 0 11).toNat fun r21 => if q_w (M.2 r21 0) < q_w x1 then (some (0, M)) else (some (1, M)))
theorem tX11_isMinute {d : Nat} (x1 : Int) (M : q_Mem) (hO : q_Ok M) : q_EX d yX11_isMinute cX11_isMinute 2 (some .boolean) 0 (q_args 0 [.inr (.inr 0), .inl x1]) [] M (fX11_isMinute x1 M) := by
  show q_EX _ _ _ _ _ 0 [(0, .inr (.inr 0)), (1, .inl x1)] [] M _
  unfold fX11_isMinute
  refine q_iload_n 1 dX11_isMinute_0 rfl rfl ?_
  refine q_iflt (tgt := 19) dX11_isMinute_1 (by decide) ?_ ?_
  · refine q_iconst dX11_isMinute_19 ?_
    exact q_ret ⟨dX11_isMinute_20, by decide⟩ rfl
  · refine q_iload_n 1 dX11_isMinute_4 rfl rfl ?_
    refine q_aload_n 0 dX11_isMinute_5 rfl rfl ?_
    refine q_gettL fl_X11_90 hO sh_0 rfl tr_0_11 dX11_isMinute_6 (fun r21 _ hr21 => ?_)
    refine q_geti fl_X11_142 hr21 (q_inO hO hr21) rfl dX11_isMinute_9 ?_
    refine q_icmpgt (tgt := 19) dX11_isMinute_12 (by decide) ?_ ?_
    · refine q_iconst dX11_isMinute_19 ?_
      exact q_ret ⟨dX11_isMinute_20, by decide⟩ rfl
    · refine q_iconst dX11_isMinute_15 ?_
      refine q_goto (tgt := 20) dX11_isMinute_16 (by decide) ?_
      exact q_ret ⟨dX11_isMinute_20, by decide⟩ rfl
def fX11_shadow (x1 : Int) (x2 : Int) (x3 : Int) (M : q_Mem) : Option (Int × q_Mem) := q_bd (fX11_isCoin x1 M) fun x21 M1 => if q_w x21 = 0 then (some ((-1), M1)) else (q_bd (fX11_isStall x2 M1) fun x22 M2 => if q_w x22 = 0 then (some ((-1), M2)) else (q_bd (fX11_isMinute x3 M2) fun x23 M3 => if q_w x23 = 0 then (some ((-1), M3)) else (q_bd (fX5_lengthAt x1 x2 x3 M3) fun x24 M4 => some (x24, M4))))
theorem tX11_shadow {d : Nat} (hd : 5 ≤ d) (x1 : Int) (x2 : Int) (x3 : Int) (M : q_Mem) (hO : q_Ok M) : q_EX d yX11_shadow cX11_shadow 4 (some .int) 0 (q_args 0 [.inr (.inr 0), .inl x1, .inl x2, .inl x3]) [] M (fX11_shadow x1 x2 x3 M) := by
  obtain ⟨d, rfl⟩ : ∃ d', d = d' + 1 := ⟨d - 1, by omega⟩
  have hd : 4 ≤ d := by omega
  show q_EX _ _ _ _ _ 0 [(0, .inr (.inr 0)), (1, .inl x1), (2, .inl x2), (3, .inl x3)] [] M _
  unfold fX11_shadow
  refine q_aload_n 0 dX11_shadow_0 rfl rfl ?_
  refine q_iload_n 1 dX11_shadow_1 rfl rfl ?_
  refine q_callVi (As := [.inl x1]) hO mb_X11_isCoin mv_X11_isCoin ml_X11_189 sh_0 rfl dX11_shadow_2 (fun _ => rfl) rfl (Nat.le_of_ble_eq_true rfl) rfl (Nat.le_of_ble_eq_true rfl) (tX11_isCoin x1 M hO) (fun x21 M1 _ hO1 => ?_)
  refine q_ifeq (tgt := 24) dX11_shadow_5 (by decide) ?_ ?_
  · refine q_iconst dX11_shadow_24 ?_
    exact q_ret dX11_shadow_25 rfl
  · refine q_aload_n 0 dX11_shadow_8 rfl rfl ?_
    refine q_iload_n 2 dX11_shadow_9 rfl rfl ?_
    refine q_callVi (As := [.inl x2]) hO1 mb_X11_isStall mv_X11_isStall ml_X11_179 sh_0 rfl dX11_shadow_10 (fun _ => rfl) rfl (Nat.le_of_ble_eq_true rfl) rfl (Nat.le_of_ble_eq_true rfl) (tX11_isStall x2 M1 hO1) (fun x22 M2 _ hO2 => ?_)
    refine q_ifeq (tgt := 24) dX11_shadow_13 (by decide) ?_ ?_
    · refine q_iconst dX11_shadow_24 ?_
      exact q_ret dX11_shadow_25 rfl
    · refine q_aload_n 0 dX11_shadow_16 rfl rfl ?_
      refine q_iload_n 3 dX11_shadow_17 rfl rfl ?_
      refine q_callVi (As := [.inl x3]) hO2 mb_X11_isMinute mv_X11_isMinute ml_X11_215 sh_0 rfl dX11_shadow_18 (fun _ => rfl) rfl (Nat.le_of_ble_eq_true rfl) rfl (Nat.le_of_ble_eq_true rfl) (tX11_isMinute x3 M2 hO2) (fun x23 M3 _ hO3 => ?_)
      refine q_ifne (tgt := 26) dX11_shadow_21 (by decide) ?_ ?_
      · refine q_aload_n 0 dX11_shadow_26 rfl rfl ?_
        refine q_getx fl_X11_102 hO3 sh_0 rfl fx_0_13 dX11_shadow_27 ?_
        refine q_iload_n 1 dX11_shadow_30 rfl rfl ?_
        refine q_iload_n 2 dX11_shadow_31 rfl rfl ?_
        refine q_iload_n 3 dX11_shadow_32 rfl rfl ?_
        refine q_callVi (As := [.inl x1, .inl x2, .inl x3]) hO3 mb_X5_lengthAt mv_X5_lengthAt ml_X11_218 sh_87 rfl dX11_shadow_33 (fun _ => rfl) rfl (Nat.le_of_ble_eq_true rfl) rfl (Nat.le_of_ble_eq_true rfl) (tX5_lengthAt (by omega) x1 x2 x3 M3 hO3) (fun x24 M4 _ hO4 => ?_)
        exact q_ret dX11_shadow_36 rfl
      · refine q_iconst dX11_shadow_24 ?_
        exact q_ret dX11_shadow_25 rfl
def fX11_buys (x1 : Int) (x2 : Int) (x3 : Int) (M : q_Mem) : Option (Int × q_Mem) := q_bd (fX11_isCoin x1 M) fun x21 M1 => if q_w x21 = 0 then (some ((-1), M1)) else (q_bd (fX11_isStall x2 M1) fun x22 M2 => if q_w x22 = 0 then (some ((-1), M2)) else (q_bd (fX11_isMinute x3 M2) fun x23 M3 => if q_w x23 = 0 then (some ((-1), M3)) else (q_bd (fX5_paysAt x1 x2 x3 M3) fun x24 M4 => if q_w x24 = 0 then (some (0, M4)) else (some (1, M4)))))
theorem tX11_buys {d : Nat} (hd : 5 ≤ d) (x1 : Int) (x2 : Int) (x3 : Int) (M : q_Mem) (hO : q_Ok M) : q_EX d yX11_buys cX11_buys 4 (some .int) 0 (q_args 0 [.inr (.inr 0), .inl x1, .inl x2, .inl x3]) [] M (fX11_buys x1 x2 x3 M) := by
  obtain ⟨d, rfl⟩ : ∃ d', d = d' + 1 := ⟨d - 1, by omega⟩
  have hd : 4 ≤ d := by omega
  show q_EX _ _ _ _ _ 0 [(0, .inr (.inr 0)), (1, .inl x1), (2, .inl x2), (3, .inl x3)] [] M _
  unfold fX11_buys
  refine q_aload_n 0 dX11_buys_0 rfl rfl ?_
  refine q_iload_n 1 dX11_buys_1 rfl rfl ?_
  refine q_callVi (As := [.inl x1]) hO mb_X11_isCoin mv_X11_isCoin ml_X11_189 sh_0 rfl dX11_buys_2 (fun _ => rfl) rfl (Nat.le_of_ble_eq_true rfl) rfl (Nat.le_of_ble_eq_true rfl) (tX11_isCoin x1 M hO) (fun x21 M1 _ hO1 => ?_)
  refine q_ifeq (tgt := 24) dX11_buys_5 (by decide) ?_ ?_
  · refine q_iconst dX11_buys_24 ?_
    exact q_ret dX11_buys_25 rfl
  · refine q_aload_n 0 dX11_buys_8 rfl rfl ?_
    refine q_iload_n 2 dX11_buys_9 rfl rfl ?_
    refine q_callVi (As := [.inl x2]) hO1 mb_X11_isStall mv_X11_isStall ml_X11_179 sh_0 rfl dX11_buys_10 (fun _ => rfl) rfl (Nat.le_of_ble_eq_true rfl) rfl (Nat.le_of_ble_eq_true rfl) (tX11_isStall x2 M1 hO1) (fun x22 M2 _ hO2 => ?_)
    refine q_ifeq (tgt := 24) dX11_buys_13 (by decide) ?_ ?_
    · refine q_iconst dX11_buys_24 ?_
      exact q_ret dX11_buys_25 rfl
    · refine q_aload_n 0 dX11_buys_16 rfl rfl ?_
      refine q_iload_n 3 dX11_buys_17 rfl rfl ?_
      refine q_callVi (As := [.inl x3]) hO2 mb_X11_isMinute mv_X11_isMinute ml_X11_215 sh_0 rfl dX11_buys_18 (fun _ => rfl) rfl (Nat.le_of_ble_eq_true rfl) rfl (Nat.le_of_ble_eq_true rfl) (tX11_isMinute x3 M2 hO2) (fun x23 M3 _ hO3 => ?_)
      refine q_ifne (tgt := 26) dX11_buys_21 (by decide) ?_ ?_
      · refine q_aload_n 0 dX11_buys_26 rfl rfl ?_
        refine q_getx fl_X11_102 hO3 sh_0 rfl fx_0_13 dX11_buys_27 ?_
        refine q_iload_n 1 dX11_buys_30 rfl rfl ?_
        refine q_iload_n 2 dX11_buys_31 rfl rfl ?_
        refine q_iload_n 3 dX11_buys_32 rfl rfl ?_
        refine q_callVi (As := [.inl x1, .inl x2, .inl x3]) hO3 mb_X5_paysAt mv_X5_paysAt ml_X11_222 sh_87 rfl dX11_buys_33 (fun _ => rfl) rfl (Nat.le_of_ble_eq_true rfl) rfl (Nat.le_of_ble_eq_true rfl) (tX5_paysAt (by omega) x1 x2 x3 M3 hO3) (fun x24 M4 _ hO4 => ?_)
        refine q_ifeq (tgt := 43) dX11_buys_36 (by decide) ?_ ?_
        · refine q_iconst dX11_buys_43 ?_
          exact q_ret dX11_buys_44 rfl
        · refine q_iconst dX11_buys_39 ?_
          refine q_goto (tgt := 44) dX11_buys_40 (by decide) ?_
          exact q_ret dX11_buys_44 rfl
      · refine q_iconst dX11_buys_24 ?_
        exact q_ret dX11_buys_25 rfl
def fX11_kept (x1 : Int) (x2 : Int) (M : q_Mem) : Option (Int × q_Mem) := if q_w x1 < 0 then (some ((-1), M)) else (if q_w x1 < q_w (M.2 10 5) then (if q_w x2 = 0 then (q_ld M 12 6 x1).bind fun x21 => some (x21, M) else (if q_w x2 = 1 then (q_ld M 13 6 x1).bind fun x22 => some (x22, M) else (if q_w x2 = 2 then (q_ld M 14 6 x1).bind fun x23 => some (x23, M) else (some ((-1), M))))) else (some ((-1), M)))
theorem tX11_kept {d : Nat} (x1 : Int) (x2 : Int) (M : q_Mem) (hO : q_Ok M) : q_EX d yX11_kept cX11_kept 3 (some .int) 0 (q_args 0 [.inr (.inr 0), .inl x1, .inl x2]) [] M (fX11_kept x1 x2 M) := by
  show q_EX _ _ _ _ _ 0 [(0, .inr (.inr 0)), (1, .inl x1), (2, .inl x2)] [] M _
  unfold fX11_kept
  refine q_iload_n 1 dX11_kept_0 rfl rfl ?_
  refine q_iflt (tgt := 15) dX11_kept_1 (by decide) ?_ ?_
  · refine q_iconst dX11_kept_15 ?_
    exact q_ret dX11_kept_16 rfl
  · refine q_iload_n 1 dX11_kept_4 rfl rfl ?_
    refine q_aload_n 0 dX11_kept_5 rfl rfl ?_
    refine q_getx fl_X11_58 hO sh_0 rfl fx_0_6 dX11_kept_6 ?_
    refine q_geti fl_X11_173 sh_10 (q_inO hO sh_10) rfl dX11_kept_9 ?_
    refine q_icmplt (tgt := 17) dX11_kept_12 (by decide) ?_ ?_
    · refine q_iload_n 2 dX11_kept_17 rfl rfl ?_
      refine q_case (fun h1 => ?_) (fun h1 => ?_)
      · refine q_tswI (tgt := 44) h1 dX11_kept_18 (by decide) (by decide) rfl (by decide) ?_
        refine q_aload_n 0 dX11_kept_44 rfl rfl ?_
        refine q_getx fl_X11_58 hO sh_0 rfl fx_0_6 dX11_kept_45 ?_
        refine q_getx fl_X11_226 hO sh_10 rfl fx_10_6 dX11_kept_48 ?_
        refine q_iload_n 1 dX11_kept_51 rfl rfl ?_
        refine q_iald sh_12 (q_inA hO sh_12 (by decide)) dX11_kept_52 (fun x21 _ _ _ => ?_)
        exact q_ret dX11_kept_53 rfl
      · refine q_case (fun h2 => ?_) (fun h2 => ?_)
        · refine q_tswI (tgt := 54) h2 dX11_kept_18 (by decide) (by decide) rfl (by decide) ?_
          refine q_aload_n 0 dX11_kept_54 rfl rfl ?_
          refine q_getx fl_X11_58 hO sh_0 rfl fx_0_6 dX11_kept_55 ?_
          refine q_getx fl_X11_229 hO sh_10 rfl fx_10_7 dX11_kept_58 ?_
          refine q_iload_n 1 dX11_kept_61 rfl rfl ?_
          refine q_iald sh_13 (q_inA hO sh_13 (by decide)) dX11_kept_62 (fun x22 _ _ _ => ?_)
          exact q_ret dX11_kept_63 rfl
        · refine q_case (fun h3 => ?_) (fun h3 => ?_)
          · refine q_tswI (tgt := 64) h3 dX11_kept_18 (by decide) (by decide) rfl (by decide) ?_
            refine q_aload_n 0 dX11_kept_64 rfl rfl ?_
            refine q_getx fl_X11_58 hO sh_0 rfl fx_0_6 dX11_kept_65 ?_
            refine q_getx fl_X11_232 hO sh_10 rfl fx_10_8 dX11_kept_68 ?_
            refine q_iload_n 1 dX11_kept_71 rfl rfl ?_
            refine q_iald sh_14 (q_inA hO sh_14 (by decide)) dX11_kept_72 (fun x23 _ _ _ => ?_)
            exact q_ret dX11_kept_73 rfl
          · refine q_tswO (tgt := 74) (by omega) dX11_kept_18 (by decide) ?_
            refine q_iconst dX11_kept_74 ?_
            exact q_ret dX11_kept_75 rfl
    · refine q_iconst dX11_kept_15 ?_
      exact q_ret dX11_kept_16 rfl
def fX11_firstPaying_8  : Nat → Int → Int → Int → q_Mem → Option (Int × q_Mem)
  | 0, _, _, _, _ => none
  | n + 1, x1, x2, x3, M => q_let (M.2 0 11).toNat fun r21 => if q_w (M.2 r21 0) < q_w x3 then (some ((-1), M)) else (q_bd (fX5_paysAt x1 x2 x3 M) fun x21 M1 => if q_w x21 = 0 then ((fX11_firstPaying_8 n x1 x2 (x3 + 1) M1)) else (some (x3, M1)))
theorem tX11_firstPaying_8 {d : Nat} (hd : 4 ≤ d) : ∀ (n : Nat) (x1 : Int) (x2 : Int) (x3 : Int) (M : q_Mem), q_Ok M → q_EX (d + 1) yX11_firstPaying cX11_firstPaying 4 (some .int) 8 [(0, .inr (.inr 0)), (1, .inl x1), (2, .inl x2), (3, .inl x3)] [] M (fX11_firstPaying_8 n x1 x2 x3 M) := by
  intro n
  induction n with
  | zero => intro x1 x2 x3 M hO; exact q_none
  | succ n ih =>
    intro x1 x2 x3 M hO
    rw [fX11_firstPaying_8]
    refine q_iload_n 3 dX11_firstPaying_8 rfl rfl ?_
    refine q_aload_n 0 dX11_firstPaying_9 rfl rfl ?_
    refine q_gettL fl_X11_90 hO sh_0 rfl tr_0_11 dX11_firstPaying_10 (fun r21 _ hr21 => ?_)
    refine q_geti fl_X11_142 hr21 (q_inO hO hr21) rfl dX11_firstPaying_13 ?_
    refine q_icmpgt (tgt := 40) dX11_firstPaying_16 (by decide) ?_ ?_
    · refine q_iconst dX11_firstPaying_40 ?_
      exact q_ret dX11_firstPaying_41 rfl
    · refine q_aload_n 0 dX11_firstPaying_19 rfl rfl ?_
      refine q_getx fl_X11_102 hO sh_0 rfl fx_0_13 dX11_firstPaying_20 ?_
      refine q_iload_n 1 dX11_firstPaying_23 rfl rfl ?_
      refine q_iload_n 2 dX11_firstPaying_24 rfl rfl ?_
      refine q_iload_n 3 dX11_firstPaying_25 rfl rfl ?_
      refine q_callVi (As := [.inl x1, .inl x2, .inl x3]) hO mb_X5_paysAt mv_X5_paysAt ml_X11_222 sh_87 rfl dX11_firstPaying_26 (fun _ => rfl) rfl (Nat.le_of_ble_eq_true rfl) rfl (Nat.le_of_ble_eq_true rfl) (tX5_paysAt (by omega) x1 x2 x3 M hO) (fun x21 M1 _ hO1 => ?_)
      refine q_ifeq (tgt := 34) dX11_firstPaying_29 (by decide) ?_ ?_
      · refine q_iinc (ls' := [(3, .inl (x3 + 1)), (0, .inr (.inr 0)), (1, .inl x1), (2, .inl x2)]) 3 dX11_firstPaying_34 rfl (by decide) rfl ?_
        refine q_goto (tgt := 8) dX11_firstPaying_37 (by decide) ?_
        refine q_sub [1, 2, 3, 0] rfl ?_
        exact ih x1 x2 (x3 + 1) M1 hO1
      · refine q_iload_n 3 dX11_firstPaying_32 rfl rfl ?_
        exact q_ret dX11_firstPaying_33 rfl
def fX11_firstPaying (x1 : Int) (x2 : Int) (M : q_Mem) : Option (Int × q_Mem) := q_let (M.2 10 0) fun x21 => (fX11_firstPaying_8 q_FU x1 x2 x21 M)
theorem tX11_firstPaying {d : Nat} (hd : 5 ≤ d) (x1 : Int) (x2 : Int) (M : q_Mem) (hO : q_Ok M) : q_EX d yX11_firstPaying cX11_firstPaying 4 (some .int) 0 (q_args 0 [.inr (.inr 0), .inl x1, .inl x2]) [] M (fX11_firstPaying x1 x2 M) := by
  obtain ⟨d, rfl⟩ : ∃ d', d = d' + 1 := ⟨d - 1, by omega⟩
  have hd : 4 ≤ d := by omega
  show q_EX _ _ _ _ _ 0 [(0, .inr (.inr 0)), (1, .inl x1), (2, .inl x2)] [] M _
  unfold fX11_firstPaying
  refine q_aload_n 0 dX11_firstPaying_0 rfl rfl ?_
  refine q_getx fl_X11_58 hO sh_0 rfl fx_0_6 dX11_firstPaying_1 ?_
  refine q_geti fl_X11_155 sh_10 (q_inO hO sh_10) rfl dX11_firstPaying_4 ?_
  refine q_nameI (fun x21 _ => ?_)
  refine q_istore_n (ls' := [(3, .inl x21), (0, .inr (.inr 0)), (1, .inl x1), (2, .inl x2)]) dX11_firstPaying_7 rfl (by decide) rfl ?_
  refine q_sub [1, 2, 3, 0] rfl ?_
  exact tX11_firstPaying_8 hd q_FU x1 x2 x21 M hO
def fX11_lastPaying_8  : Nat → Int → Int → Int → q_Mem → Option (Int × q_Mem)
  | 0, _, _, _, _ => none
  | n + 1, x1, x2, x3, M => if q_w x3 < q_w (M.2 10 0) then (some ((-1), M)) else (q_bd (fX5_paysAt x1 x2 x3 M) fun x21 M1 => if q_w x21 = 0 then ((fX11_lastPaying_8 n x1 x2 (x3 + (-1)) M1)) else (some (x3, M1)))
theorem tX11_lastPaying_8 {d : Nat} (hd : 4 ≤ d) : ∀ (n : Nat) (x1 : Int) (x2 : Int) (x3 : Int) (M : q_Mem), q_Ok M → q_EX (d + 1) yX11_lastPaying cX11_lastPaying 4 (some .int) 8 [(0, .inr (.inr 0)), (1, .inl x1), (2, .inl x2), (3, .inl x3)] [] M (fX11_lastPaying_8 n x1 x2 x3 M) := by
  intro n
  induction n with
  | zero => intro x1 x2 x3 M hO; exact q_none
  | succ n ih =>
    intro x1 x2 x3 M hO
    rw [fX11_lastPaying_8]
    refine q_iload_n 3 dX11_lastPaying_8 rfl rfl ?_
    refine q_aload_n 0 dX11_lastPaying_9 rfl rfl ?_
    refine q_getx fl_X11_58 hO sh_0 rfl fx_0_6 dX11_lastPaying_10 ?_
    refine q_geti fl_X11_155 sh_10 (q_inO hO sh_10) rfl dX11_lastPaying_13 ?_
    refine q_icmplt (tgt := 40) dX11_lastPaying_16 (by decide) ?_ ?_
    · refine q_iconst dX11_lastPaying_40 ?_
      exact q_ret dX11_lastPaying_41 rfl
    · refine q_aload_n 0 dX11_lastPaying_19 rfl rfl ?_
      refine q_getx fl_X11_102 hO sh_0 rfl fx_0_13 dX11_lastPaying_20 ?_
      refine q_iload_n 1 dX11_lastPaying_23 rfl rfl ?_
      refine q_iload_n 2 dX11_lastPaying_24 rfl rfl ?_
      refine q_iload_n 3 dX11_lastPaying_25 rfl rfl ?_
      refine q_callVi (As := [.inl x1, .inl x2, .inl x3]) hO mb_X5_paysAt mv_X5_paysAt ml_X11_222 sh_87 rfl dX11_lastPaying_26 (fun _ => rfl) rfl (Nat.le_of_ble_eq_true rfl) rfl (Nat.le_of_ble_eq_true rfl) (tX5_paysAt (by omega) x1 x2 x3 M hO) (fun x21 M1 _ hO1 => ?_)
      refine q_ifeq (tgt := 34) dX11_lastPaying_29 (by decide) ?_ ?_
      · refine q_iinc (ls' := [(3, .inl (x3 + (-1))), (0, .inr (.inr 0)), (1, .inl x1), (2, .inl x2)]) 3 dX11_lastPaying_34 rfl (by decide) rfl ?_
        refine q_goto (tgt := 8) dX11_lastPaying_37 (by decide) ?_
        refine q_sub [1, 2, 3, 0] rfl ?_
        exact ih x1 x2 (x3 + (-1)) M1 hO1
      · refine q_iload_n 3 dX11_lastPaying_32 rfl rfl ?_
        exact q_ret dX11_lastPaying_33 rfl
def fX11_lastPaying (x1 : Int) (x2 : Int) (M : q_Mem) : Option (Int × q_Mem) := q_let (M.2 0 11).toNat fun r21 => q_let (M.2 r21 0) fun x21 => (fX11_lastPaying_8 q_FU x1 x2 x21 M)
theorem tX11_lastPaying {d : Nat} (hd : 5 ≤ d) (x1 : Int) (x2 : Int) (M : q_Mem) (hO : q_Ok M) : q_EX d yX11_lastPaying cX11_lastPaying 4 (some .int) 0 (q_args 0 [.inr (.inr 0), .inl x1, .inl x2]) [] M (fX11_lastPaying x1 x2 M) := by
  obtain ⟨d, rfl⟩ : ∃ d', d = d' + 1 := ⟨d - 1, by omega⟩
  have hd : 4 ≤ d := by omega
  show q_EX _ _ _ _ _ 0 [(0, .inr (.inr 0)), (1, .inl x1), (2, .inl x2)] [] M _
  unfold fX11_lastPaying
  refine q_aload_n 0 dX11_lastPaying_0 rfl rfl ?_
  refine q_gettL fl_X11_90 hO sh_0 rfl tr_0_11 dX11_lastPaying_1 (fun r21 _ hr21 => ?_)
  refine q_geti fl_X11_142 hr21 (q_inO hO hr21) rfl dX11_lastPaying_4 ?_
  refine q_nameI (fun x21 _ => ?_)
  refine q_istore_n (ls' := [(3, .inl x21), (0, .inr (.inr 0)), (1, .inl x1), (2, .inl x2)]) dX11_lastPaying_7 rfl (by decide) rfl ?_
  refine q_sub [1, 2, 3, 0] rfl ?_
  exact tX11_lastPaying_8 hd q_FU x1 x2 x21 M hO
def fX11_when (x1 : Int) (x2 : Int) (x3 : Int) (M : q_Mem) : Option (Int × q_Mem) := q_bd (fX11_isCoin x1 M) fun x21 M1 => if q_w x21 = 0 then (some ((-1), M1)) else (q_bd (fX11_isStall x2 M1) fun x22 M2 => if q_w x22 = 0 then (some ((-1), M2)) else (if q_w x3 = 0 then q_bd (fX11_firstPaying x1 x2 M2) fun x23 M3 => some (x23, M3) else (if q_w x3 = 1 then q_bd (fX11_lastPaying x1 x2 M2) fun x24 M4 => some (x24, M4) else (some ((-1), M2)))))
theorem tX11_when {d : Nat} (hd : 6 ≤ d) (x1 : Int) (x2 : Int) (x3 : Int) (M : q_Mem) (hO : q_Ok M) : q_EX d yX11_when cX11_when 4 (some .int) 0 (q_args 0 [.inr (.inr 0), .inl x1, .inl x2, .inl x3]) [] M (fX11_when x1 x2 x3 M) := by
  obtain ⟨d, rfl⟩ : ∃ d', d = d' + 1 := ⟨d - 1, by omega⟩
  have hd : 5 ≤ d := by omega
  show q_EX _ _ _ _ _ 0 [(0, .inr (.inr 0)), (1, .inl x1), (2, .inl x2), (3, .inl x3)] [] M _
  unfold fX11_when
  refine q_aload_n 0 dX11_when_0 rfl rfl ?_
  refine q_iload_n 1 dX11_when_1 rfl rfl ?_
  refine q_callVi (As := [.inl x1]) hO mb_X11_isCoin mv_X11_isCoin ml_X11_189 sh_0 rfl dX11_when_2 (fun _ => rfl) rfl (Nat.le_of_ble_eq_true rfl) rfl (Nat.le_of_ble_eq_true rfl) (tX11_isCoin x1 M hO) (fun x21 M1 _ hO1 => ?_)
  refine q_ifeq (tgt := 16) dX11_when_5 (by decide) ?_ ?_
  · refine q_iconst dX11_when_16 ?_
    exact q_ret dX11_when_17 rfl
  · refine q_aload_n 0 dX11_when_8 rfl rfl ?_
    refine q_iload_n 2 dX11_when_9 rfl rfl ?_
    refine q_callVi (As := [.inl x2]) hO1 mb_X11_isStall mv_X11_isStall ml_X11_179 sh_0 rfl dX11_when_10 (fun _ => rfl) rfl (Nat.le_of_ble_eq_true rfl) rfl (Nat.le_of_ble_eq_true rfl) (tX11_isStall x2 M1 hO1) (fun x22 M2 _ hO2 => ?_)
    refine q_ifne (tgt := 18) dX11_when_13 (by decide) ?_ ?_
    · refine q_iload_n 3 dX11_when_18 rfl rfl ?_
      refine q_case (fun h1 => ?_) (fun h1 => ?_)
      · refine q_lsw (tgt := 44) (off := 25) dX11_when_19 (by decide) (by first | (rw [h1]; rfl) | rw [h1]) (by decide) ?_
        refine q_aload_n 0 dX11_when_44 rfl rfl ?_
        refine q_iload_n 1 dX11_when_45 rfl rfl ?_
        refine q_iload_n 2 dX11_when_46 rfl rfl ?_
        refine q_callVi (As := [.inl x1, .inl x2]) hO2 mb_X11_firstPaying mv_X11_firstPaying ml_X11_235 sh_0 rfl dX11_when_47 (fun _ => rfl) rfl (Nat.le_of_ble_eq_true rfl) rfl (Nat.le_of_ble_eq_true rfl) (tX11_firstPaying (by omega) x1 x2 M2 hO2) (fun x23 M3 _ hO3 => ?_)
        exact q_ret dX11_when_50 rfl
      · refine q_case (fun h2 => ?_) (fun h2 => ?_)
        · refine q_lsw (tgt := 51) (off := 32) dX11_when_19 (by decide) (by first | (rw [h2]; rfl) | rw [h2]) (by decide) ?_
          refine q_aload_n 0 dX11_when_51 rfl rfl ?_
          refine q_iload_n 1 dX11_when_52 rfl rfl ?_
          refine q_iload_n 2 dX11_when_53 rfl rfl ?_
          refine q_callVi (As := [.inl x1, .inl x2]) hO2 mb_X11_lastPaying mv_X11_lastPaying ml_X11_238 sh_0 rfl dX11_when_54 (fun _ => rfl) rfl (Nat.le_of_ble_eq_true rfl) rfl (Nat.le_of_ble_eq_true rfl) (tX11_lastPaying (by omega) x1 x2 M2 hO2) (fun x24 M4 _ hO4 => ?_)
          exact q_ret dX11_when_57 rfl
        · refine q_lsw (tgt := 58) (off := 39) dX11_when_19 (by decide) (by simp only [if_neg (Ne.symm h1), if_neg (Ne.symm h2), Op.lookupswitch.offset_cons]; rfl) (by decide) ?_
          refine q_iconst dX11_when_58 ?_
          exact q_ret dX11_when_59 rfl
    · refine q_iconst dX11_when_16 ?_
      exact q_ret dX11_when_17 rfl
def fX11_round_51 (M : q_Mem) : Option (Int × q_Mem) := some ((M.2 40 8), M)
theorem tX11_round_51 {d : Nat} (hd : 12 ≤ d) (M : q_Mem) (hO : q_Ok M) : q_EX (d + 1) yX11_round cX11_round 3 (some .int) 51 [(0, .inr (.inr 0))] [] M (fX11_round_51 M) := by
  unfold fX11_round_51
  refine q_aload_n 0 dX11_round_51 rfl rfl ?_
  refine q_getx fl_X11_72 hO sh_0 rfl fx_0_8 dX11_round_52 ?_
  refine q_geti fl_X11_245 sh_40 (q_inO hO sh_40) rfl dX11_round_55 ?_
  exact q_ret dX11_round_58 rfl
def fX11_round (x1 : Int) (x2 : Int) (M : q_Mem) : Option (Int × q_Mem) := q_bd (fX11_isCoin x1 M) fun x21 M1 => if q_w x21 = 0 then (some ((-1), M1)) else (if q_w x2 < q_w (-1) then (some ((-1), M1)) else (q_let (M1.2 0 11).toNat fun r21 => q_bd (fX6_plan r21 x1 M1) fun _ M2 => if q_w (M2.2 40 8) = q_w (-1) then ((fX11_round_51 M2)) else (if q_w x2 = q_w (-1) then ((fX11_round_51 M2)) else (q_bd (fJ6_bitCount_0f7a4 (M2.2 40 6) M2) fun x22 M3 => if q_w x2 < q_w x22 then ((q_ld M3 51 6 x2).bind fun x23 => some (x23, M3)) else (some ((-1), M3))))))
theorem tX11_round {d : Nat} (hd : 13 ≤ d) (x1 : Int) (x2 : Int) (M : q_Mem) (hO : q_Ok M) : q_EX d yX11_round cX11_round 3 (some .int) 0 (q_args 0 [.inr (.inr 0), .inl x1, .inl x2]) [] M (fX11_round x1 x2 M) := by
  obtain ⟨d, rfl⟩ : ∃ d', d = d' + 1 := ⟨d - 1, by omega⟩
  have hd : 12 ≤ d := by omega
  show q_EX _ _ _ _ _ 0 [(0, .inr (.inr 0)), (1, .inl x1), (2, .inl x2)] [] M _
  unfold fX11_round
  refine q_aload_n 0 dX11_round_0 rfl rfl ?_
  refine q_iload_n 1 dX11_round_1 rfl rfl ?_
  refine q_callVi (As := [.inl x1]) hO mb_X11_isCoin mv_X11_isCoin ml_X11_189 sh_0 rfl dX11_round_2 (fun _ => rfl) rfl (Nat.le_of_ble_eq_true rfl) rfl (Nat.le_of_ble_eq_true rfl) (tX11_isCoin x1 M hO) (fun x21 M1 _ hO1 => ?_)
  refine q_ifeq (tgt := 13) dX11_round_5 (by decide) ?_ ?_
  · refine q_iconst dX11_round_13 ?_
    exact q_ret dX11_round_14 rfl
  · refine q_iload_n 2 dX11_round_8 rfl rfl ?_
    refine q_iconst dX11_round_9 ?_
    refine q_icmpge (tgt := 15) dX11_round_10 (by decide) ?_ ?_
    · refine q_aload_n 0 dX11_round_15 rfl rfl ?_
      refine q_getx fl_X11_72 hO1 sh_0 rfl fx_0_8 dX11_round_16 ?_
      refine q_aload_n 0 dX11_round_19 rfl rfl ?_
      refine q_gettL fl_X11_90 hO1 sh_0 rfl tr_0_11 dX11_round_20 (fun r21 _ hr21 => ?_)
      refine q_aload_n 0 dX11_round_23 rfl rfl ?_
      refine q_getx fl_X11_102 hO1 sh_0 rfl fx_0_13 dX11_round_24 ?_
      refine q_aload_n 0 dX11_round_27 rfl rfl ?_
      refine q_getx fl_X11_58 hO1 sh_0 rfl fx_0_6 dX11_round_28 ?_
      refine q_iload_n 1 dX11_round_31 rfl rfl ?_
      refine q_callVv (As := [.inr (.inr r21), .inr (.inr 87), .inr (.inr 10), .inl x1]) hO1 mb_X6_plan mv_X6_plan ml_X11_241 sh_40 rfl dX11_round_32 (fun _ => rfl) rfl (Nat.le_of_ble_eq_true rfl) rfl (Nat.le_of_ble_eq_true rfl) (tX6_plan (by omega) r21 x1 M1 hO1 hr21) (fun _ M2 _ hO2 => ?_)
      refine q_aload_n 0 dX11_round_35 rfl rfl ?_
      refine q_getx fl_X11_72 hO2 sh_0 rfl fx_0_8 dX11_round_36 ?_
      refine q_geti fl_X11_245 sh_40 (q_inO hO2 sh_40) rfl dX11_round_39 ?_
      refine q_iconst dX11_round_42 ?_
      refine q_icmpeq (tgt := 51) dX11_round_43 (by decide) ?_ ?_
      · refine q_sub [0] rfl ?_
        exact tX11_round_51 hd M2 hO2
      · refine q_iload_n 2 dX11_round_46 rfl rfl ?_
        refine q_iconst dX11_round_47 ?_
        refine q_icmpne (tgt := 59) dX11_round_48 (by decide) ?_ ?_
        · refine q_iload_n 2 dX11_round_59 rfl rfl ?_
          refine q_aload_n 0 dX11_round_60 rfl rfl ?_
          refine q_getx fl_X11_72 hO2 sh_0 rfl fx_0_8 dX11_round_61 ?_
          refine q_geti fl_X11_248 sh_40 (q_inO hO2 sh_40) rfl dX11_round_64 ?_
          refine q_callSi (As := [.inl (M2.2 40 6)]) hO2 mb_J6_bitCount_0f7a4 ms_J6_bitCount_0f7a4 ml_X11_164 dX11_round_67 (fun _ => rfl) rfl (Nat.le_of_ble_eq_true rfl) rfl (Nat.le_of_ble_eq_true rfl) (tJ6_bitCount_0f7a4 (M2.2 40 6) M2 hO2) (fun x22 M3 _ hO3 => ?_)
          refine q_icmpge (tgt := 85) dX11_round_70 (by decide) ?_ ?_
          · refine q_iconst dX11_round_85 ?_
            exact q_ret dX11_round_86 rfl
          · refine q_aload_n 0 dX11_round_73 rfl rfl ?_
            refine q_getx fl_X11_72 hO3 sh_0 rfl fx_0_8 dX11_round_74 ?_
            refine q_getx fl_X11_251 hO3 sh_40 rfl fx_40_7 dX11_round_77 ?_
            refine q_iload_n 2 dX11_round_80 rfl rfl ?_
            refine q_iald sh_51 (q_inA hO3 sh_51 (by decide)) dX11_round_81 (fun x23 _ _ _ => ?_)
            refine q_goto (tgt := 86) dX11_round_82 (by decide) ?_
            exact q_ret dX11_round_86 rfl
        · refine q_sub [0] rfl ?_
          exact tX11_round_51 hd M2 hO2
    · refine q_iconst dX11_round_13 ?_
      exact q_ret dX11_round_14 rfl
def fX11_blocked (x1 : Int) (M : q_Mem) : Option (Int × q_Mem) := q_bd (fX11_isCoin x1 M) fun x21 M1 => if q_w x21 = 0 then (some ((-1), M1)) else (q_let (M1.2 0 11).toNat fun r21 => q_bd (fX6_plan r21 x1 M1) fun _ M2 => q_bd (fX6_fewestLeftOut M2) fun x22 M3 => some (x22, M3))
theorem tX11_blocked {d : Nat} (hd : 13 ≤ d) (x1 : Int) (M : q_Mem) (hO : q_Ok M) : q_EX d yX11_blocked cX11_blocked 2 (some .int) 0 (q_args 0 [.inr (.inr 0), .inl x1]) [] M (fX11_blocked x1 M) := by
  obtain ⟨d, rfl⟩ : ∃ d', d = d' + 1 := ⟨d - 1, by omega⟩
  have hd : 12 ≤ d := by omega
  show q_EX _ _ _ _ _ 0 [(0, .inr (.inr 0)), (1, .inl x1)] [] M _
  unfold fX11_blocked
  refine q_aload_n 0 dX11_blocked_0 rfl rfl ?_
  refine q_iload_n 1 dX11_blocked_1 rfl rfl ?_
  refine q_callVi (As := [.inl x1]) hO mb_X11_isCoin mv_X11_isCoin ml_X11_189 sh_0 rfl dX11_blocked_2 (fun _ => rfl) rfl (Nat.le_of_ble_eq_true rfl) rfl (Nat.le_of_ble_eq_true rfl) (tX11_isCoin x1 M hO) (fun x21 M1 _ hO1 => ?_)
  refine q_ifne (tgt := 10) dX11_blocked_5 (by decide) ?_ ?_
  · refine q_aload_n 0 dX11_blocked_10 rfl rfl ?_
    refine q_getx fl_X11_72 hO1 sh_0 rfl fx_0_8 dX11_blocked_11 ?_
    refine q_aload_n 0 dX11_blocked_14 rfl rfl ?_
    refine q_gettL fl_X11_90 hO1 sh_0 rfl tr_0_11 dX11_blocked_15 (fun r21 _ hr21 => ?_)
    refine q_aload_n 0 dX11_blocked_18 rfl rfl ?_
    refine q_getx fl_X11_102 hO1 sh_0 rfl fx_0_13 dX11_blocked_19 ?_
    refine q_aload_n 0 dX11_blocked_22 rfl rfl ?_
    refine q_getx fl_X11_58 hO1 sh_0 rfl fx_0_6 dX11_blocked_23 ?_
    refine q_iload_n 1 dX11_blocked_26 rfl rfl ?_
    refine q_callVv (As := [.inr (.inr r21), .inr (.inr 87), .inr (.inr 10), .inl x1]) hO1 mb_X6_plan mv_X6_plan ml_X11_241 sh_40 rfl dX11_blocked_27 (fun _ => rfl) rfl (Nat.le_of_ble_eq_true rfl) rfl (Nat.le_of_ble_eq_true rfl) (tX6_plan (by omega) r21 x1 M1 hO1 hr21) (fun _ M2 _ hO2 => ?_)
    refine q_aload_n 0 dX11_blocked_30 rfl rfl ?_
    refine q_getx fl_X11_72 hO2 sh_0 rfl fx_0_8 dX11_blocked_31 ?_
    refine q_callVi (As := []) hO2 mb_X6_fewestLeftOut mv_X6_fewestLeftOut ml_X11_254 sh_40 rfl dX11_blocked_34 (fun _ => rfl) rfl (Nat.le_of_ble_eq_true rfl) rfl (Nat.le_of_ble_eq_true rfl) (tX6_fewestLeftOut (by omega) M2 hO2) (fun x22 M3 _ hO3 => ?_)
    exact q_ret dX11_blocked_37 rfl
  · refine q_iconst dX11_blocked_8 ?_
    exact q_ret dX11_blocked_9 rfl
def fX11_payingStalls_34 (K5 : Int → Int → Int → Int → q_Mem → Option (Int × q_Mem)) (x1 : Int) (x2 : Int) (x3 : Int) (x4 : Int) (M : q_Mem) : Option (Int × q_Mem) := (K5 x1 x2 x3 (x4 + 1) M)
theorem tX11_payingStalls_34 {d : Nat} (hd : 4 ≤ d) (K5 : Int → Int → Int → Int → q_Mem → Option (Int × q_Mem)) (hK5 : ∀ (x1 : Int) (x2 : Int) (x3 : Int) (x4 : Int) (M : q_Mem), q_Ok M → q_EX (d + 1) yX11_payingStalls cX11_payingStalls 5 (some .int) 5 [(0, .inr (.inr 0)), (1, .inl x1), (2, .inl x2), (3, .inl x3), (4, .inl x4)] [] M (K5 x1 x2 x3 x4 M)) (x1 : Int) (x2 : Int) (x3 : Int) (x4 : Int) (M : q_Mem) (hO : q_Ok M) : q_EX (d + 1) yX11_payingStalls cX11_payingStalls 5 (some .int) 34 [(0, .inr (.inr 0)), (1, .inl x1), (2, .inl x2), (3, .inl x3), (4, .inl x4)] [] M (fX11_payingStalls_34 K5 x1 x2 x3 x4 M) := by
  unfold fX11_payingStalls_34
  refine q_iinc (ls' := [(4, .inl (x4 + 1)), (0, .inr (.inr 0)), (1, .inl x1), (2, .inl x2), (3, .inl x3)]) 4 dX11_payingStalls_34 rfl (by decide) rfl ?_
  refine q_goto (tgt := 5) dX11_payingStalls_37 (by decide) ?_
  refine q_sub [1, 2, 3, 4, 0] rfl ?_
  exact hK5 x1 x2 x3 (x4 + 1) M hO
def fX11_payingStalls_5  : Nat → Int → Int → Int → Int → q_Mem → Option (Int × q_Mem)
  | 0, _, _, _, _, _ => none
  | n + 1, x1, x2, x3, x4, M => q_let (M.2 0 11).toNat fun r21 => if q_w x4 < q_w (M.2 r21 1) then (q_bd (fX5_paysAt x1 x4 x2 M) fun x21 M1 => if q_w x21 = 0 then ((fX11_payingStalls_34 (fX11_payingStalls_5 n) x1 x2 x3 x4 M1)) else ((fX11_payingStalls_34 (fX11_payingStalls_5 n) x1 x2 (x3 + 1) x4 M1))) else (some (x3, M))
theorem tX11_payingStalls_5 {d : Nat} (hd : 4 ≤ d) : ∀ (n : Nat) (x1 : Int) (x2 : Int) (x3 : Int) (x4 : Int) (M : q_Mem), q_Ok M → q_EX (d + 1) yX11_payingStalls cX11_payingStalls 5 (some .int) 5 [(0, .inr (.inr 0)), (1, .inl x1), (2, .inl x2), (3, .inl x3), (4, .inl x4)] [] M (fX11_payingStalls_5 n x1 x2 x3 x4 M) := by
  intro n
  induction n with
  | zero => intro x1 x2 x3 x4 M hO; exact q_none
  | succ n ih =>
    intro x1 x2 x3 x4 M hO
    rw [fX11_payingStalls_5]
    refine q_iload 4 dX11_payingStalls_5 rfl ?_
    refine q_aload_n 0 dX11_payingStalls_7 rfl rfl ?_
    refine q_gettL fl_X11_90 hO sh_0 rfl tr_0_11 dX11_payingStalls_8 (fun r21 _ hr21 => ?_)
    refine q_geti fl_X11_145 hr21 (q_inO hO hr21) rfl dX11_payingStalls_11 ?_
    refine q_icmpge (tgt := 40) dX11_payingStalls_14 (by decide) ?_ ?_
    · refine q_iload_n 3 dX11_payingStalls_40 rfl rfl ?_
      exact q_ret dX11_payingStalls_41 rfl
    · refine q_aload_n 0 dX11_payingStalls_17 rfl rfl ?_
      refine q_getx fl_X11_102 hO sh_0 rfl fx_0_13 dX11_payingStalls_18 ?_
      refine q_iload_n 1 dX11_payingStalls_21 rfl rfl ?_
      refine q_iload 4 dX11_payingStalls_22 rfl ?_
      refine q_iload_n 2 dX11_payingStalls_24 rfl rfl ?_
      refine q_callVi (As := [.inl x1, .inl x4, .inl x2]) hO mb_X5_paysAt mv_X5_paysAt ml_X11_222 sh_87 rfl dX11_payingStalls_25 (fun _ => rfl) rfl (Nat.le_of_ble_eq_true rfl) rfl (Nat.le_of_ble_eq_true rfl) (tX5_paysAt (by omega) x1 x4 x2 M hO) (fun x21 M1 _ hO1 => ?_)
      refine q_ifeq (tgt := 34) dX11_payingStalls_28 (by decide) ?_ ?_
      · refine q_sub [0, 1, 2, 3, 4] rfl ?_
        exact tX11_payingStalls_34 hd (fX11_payingStalls_5 n) ih x1 x2 x3 x4 M1 hO1
      · refine q_iinc (ls' := [(3, .inl (x3 + 1)), (0, .inr (.inr 0)), (1, .inl x1), (2, .inl x2), (4, .inl x4)]) 3 dX11_payingStalls_31 rfl (by decide) rfl ?_
        refine q_sub [1, 2, 3, 0, 4] rfl ?_
        exact tX11_payingStalls_34 hd (fX11_payingStalls_5 n) ih x1 x2 (x3 + 1) x4 M1 hO1
def fX11_payingStalls (x1 : Int) (x2 : Int) (M : q_Mem) : Option (Int × q_Mem) := (fX11_payingStalls_5 q_FU x1 x2 0 0 M)
theorem tX11_payingStalls {d : Nat} (hd : 5 ≤ d) (x1 : Int) (x2 : Int) (M : q_Mem) (hO : q_Ok M) : q_EX d yX11_payingStalls cX11_payingStalls 5 (some .int) 0 (q_args 0 [.inr (.inr 0), .inl x1, .inl x2]) [] M (fX11_payingStalls x1 x2 M) := by
  obtain ⟨d, rfl⟩ : ∃ d', d = d' + 1 := ⟨d - 1, by omega⟩
  have hd : 4 ≤ d := by omega
  show q_EX _ _ _ _ _ 0 [(0, .inr (.inr 0)), (1, .inl x1), (2, .inl x2)] [] M _
  unfold fX11_payingStalls
  refine q_iconst dX11_payingStalls_0 ?_
  refine q_istore_n (ls' := [(3, .inl 0), (0, .inr (.inr 0)), (1, .inl x1), (2, .inl x2)]) dX11_payingStalls_1 rfl (by decide) rfl ?_
  refine q_iconst dX11_payingStalls_2 ?_
  refine q_istore (ls' := [(4, .inl 0), (3, .inl 0), (0, .inr (.inr 0)), (1, .inl x1), (2, .inl x2)]) dX11_payingStalls_3 (by decide) rfl ?_
  refine q_sub [2, 3, 4, 1, 0] rfl ?_
  exact tX11_payingStalls_5 hd q_FU x1 x2 0 0 M hO
def fX11_strike_86 (K36 : Int → Int → Int → Int → Int → Int → q_Mem → Option (Int × q_Mem)) (x1 : Int) (x2 : Int) (x3 : Int) (x4 : Int) (x5 : Int) (x6 : Int) (M : q_Mem) : Option (Int × q_Mem) := (K36 x1 x2 x3 x4 x5 (x6 + 1) M)
theorem tX11_strike_86 {d : Nat} (hd : 5 ≤ d) (K36 : Int → Int → Int → Int → Int → Int → q_Mem → Option (Int × q_Mem)) (hK36 : ∀ (x1 : Int) (x2 : Int) (x3 : Int) (x4 : Int) (x5 : Int) (x6 : Int) (M : q_Mem), q_Ok M → q_EX (d + 1) yX11_strike cX11_strike 7 (some .int) 36 [(0, .inr (.inr 0)), (1, .inl x1), (2, .inl x2), (3, .inl x3), (4, .inl x4), (5, .inl x5), (6, .inl x6)] [] M (K36 x1 x2 x3 x4 x5 x6 M)) (x1 : Int) (x2 : Int) (x3 : Int) (x4 : Int) (x5 : Int) (x6 : Int) (M : q_Mem) (hO : q_Ok M) : q_EX (d + 1) yX11_strike cX11_strike 7 (some .int) 86 [(0, .inr (.inr 0)), (1, .inl x1), (2, .inl x2), (3, .inl x3), (4, .inl x4), (5, .inl x5), (6, .inl x6)] [] M (fX11_strike_86 K36 x1 x2 x3 x4 x5 x6 M) := by
  unfold fX11_strike_86
  refine q_iinc (ls' := [(6, .inl (x6 + 1)), (0, .inr (.inr 0)), (1, .inl x1), (2, .inl x2), (3, .inl x3), (4, .inl x4), (5, .inl x5)]) 6 dX11_strike_86 rfl (by decide) rfl ?_
  refine q_goto (tgt := 36) dX11_strike_89 (by decide) ?_
  refine q_sub [1, 2, 3, 4, 5, 6, 0] rfl ?_
  exact hK36 x1 x2 x3 x4 x5 (x6 + 1) M hO
def fX11_strike_66 (K36 : Int → Int → Int → Int → Int → Int → q_Mem → Option (Int × q_Mem)) (x1 : Int) (x2 : Int) (x3 : Int) (x4 : Int) (x6 : Int) (s0 : Int) (M : q_Mem) : Option (Int × q_Mem) := if q_w x3 < q_w s0 then (q_let ((x6 - s0) + 1) fun x21 => (fX11_strike_86 K36 x1 x2 s0 x21 s0 x6 M)) else ((fX11_strike_86 K36 x1 x2 x3 x4 s0 x6 M))
theorem tX11_strike_66 {d : Nat} (hd : 5 ≤ d) (K36 : Int → Int → Int → Int → Int → Int → q_Mem → Option (Int × q_Mem)) (hK36 : ∀ (x1 : Int) (x2 : Int) (x3 : Int) (x4 : Int) (x5 : Int) (x6 : Int) (M : q_Mem), q_Ok M → q_EX (d + 1) yX11_strike cX11_strike 7 (some .int) 36 [(0, .inr (.inr 0)), (1, .inl x1), (2, .inl x2), (3, .inl x3), (4, .inl x4), (5, .inl x5), (6, .inl x6)] [] M (K36 x1 x2 x3 x4 x5 x6 M)) (x1 : Int) (x2 : Int) (x3 : Int) (x4 : Int) (x6 : Int) (s0 : Int) (M : q_Mem) (hO : q_Ok M) : q_EX (d + 1) yX11_strike cX11_strike 7 (some .int) 66 [(0, .inr (.inr 0)), (1, .inl x1), (2, .inl x2), (3, .inl x3), (4, .inl x4), (6, .inl x6)] [.inl s0] M (fX11_strike_66 K36 x1 x2 x3 x4 x6 s0 M) := by
  unfold fX11_strike_66
  refine q_istore (ls' := [(5, .inl s0), (0, .inr (.inr 0)), (1, .inl x1), (2, .inl x2), (3, .inl x3), (4, .inl x4), (6, .inl x6)]) dX11_strike_66 (by decide) rfl ?_
  refine q_iload 0 dX11_strike_68 rfl ?_
  refine q_iload_n 4 dX11_strike_70 rfl rfl ?_
  refine q_icmple (tgt := 86) dX11_strike_71 (by decide) ?_ ?_
  · refine q_sub [1, 2, 3, 4, 5, 0, 6] rfl ?_
    exact tX11_strike_86 hd K36 hK36 x1 x2 x3 x4 s0 x6 M hO
  · refine q_iload 0 dX11_strike_74 rfl ?_
    refine q_istore_n (ls' := [(3, .inl s0), (5, .inl s0), (0, .inr (.inr 0)), (1, .inl x1), (2, .inl x2), (4, .inl x4), (6, .inl x6)]) dX11_strike_76 rfl (by decide) rfl ?_
    refine q_iload 6 dX11_strike_77 rfl ?_
    refine q_iload 1 dX11_strike_79 rfl ?_
    refine q_isub dX11_strike_81 ?_
    refine q_iconst dX11_strike_82 ?_
    refine q_iadd dX11_strike_83 ?_
    refine q_nameI (fun x21 _ => ?_)
    refine q_istore (ls' := [(4, .inl x21), (3, .inl s0), (5, .inl s0), (0, .inr (.inr 0)), (1, .inl x1), (2, .inl x2), (6, .inl x6)]) dX11_strike_84 (by decide) rfl ?_
    refine q_sub [3, 4, 5, 1, 0, 2, 6] rfl ?_
    exact tX11_strike_86 hd K36 hK36 x1 x2 s0 x21 s0 x6 M hO
def fX11_strike_36  : Nat → Int → Int → Int → Int → Int → Int → q_Mem → Option (Int × q_Mem)
  | 0, _, _, _, _, _, _, _ => none
  | n + 1, x1, x2, x3, x4, x5, x6, M => q_let (M.2 0 11).toNat fun r21 => if q_w (M.2 r21 0) < q_w x6 then (if q_w x2 = 0 then (some (x3, M)) else (some (x4, M))) else (q_bd (fX11_payingStalls x1 x6 M) fun x21 M1 => if q_w x21 = 0 then ((fX11_strike_66 (fX11_strike_36 n) x1 x2 x3 x4 x6 (x5 + 1) M1)) else ((fX11_strike_66 (fX11_strike_36 n) x1 x2 x3 x4 x6 0 M1)))
theorem tX11_strike_36 {d : Nat} (hd : 5 ≤ d) : ∀ (n : Nat) (x1 : Int) (x2 : Int) (x3 : Int) (x4 : Int) (x5 : Int) (x6 : Int) (M : q_Mem), q_Ok M → q_EX (d + 1) yX11_strike cX11_strike 7 (some .int) 36 [(0, .inr (.inr 0)), (1, .inl x1), (2, .inl x2), (3, .inl x3), (4, .inl x4), (5, .inl x5), (6, .inl x6)] [] M (fX11_strike_36 n x1 x2 x3 x4 x5 x6 M) := by
  intro n
  induction n with
  | zero => intro x1 x2 x3 x4 x5 x6 M hO; exact q_none
  | succ n ih =>
    intro x1 x2 x3 x4 x5 x6 M hO
    rw [fX11_strike_36]
    refine q_iload 6 dX11_strike_36 rfl ?_
    refine q_aload_n 0 dX11_strike_38 rfl rfl ?_
    refine q_gettL fl_X11_90 hO sh_0 rfl tr_0_11 dX11_strike_39 (fun r21 _ hr21 => ?_)
    refine q_geti fl_X11_142 hr21 (q_inO hO hr21) rfl dX11_strike_42 ?_
    refine q_icmpgt (tgt := 92) dX11_strike_45 (by decide) ?_ ?_
    · refine q_iload_n 2 dX11_strike_92 rfl rfl ?_
      refine q_ifne (tgt := 100) dX11_strike_93 (by decide) ?_ ?_
      · refine q_iload 4 dX11_strike_100 rfl ?_
        exact q_ret dX11_strike_102 rfl
      · refine q_iload_n 3 dX11_strike_96 rfl rfl ?_
        refine q_goto (tgt := 102) dX11_strike_97 (by decide) ?_
        exact q_ret dX11_strike_102 rfl
    · refine q_aload_n 0 dX11_strike_48 rfl rfl ?_
      refine q_iload_n 1 dX11_strike_49 rfl rfl ?_
      refine q_iload 6 dX11_strike_50 rfl ?_
      refine q_callVi (As := [.inl x1, .inl x6]) hO mb_X11_payingStalls mv_X11_payingStalls ml_X11_258 sh_0 rfl dX11_strike_52 (fun _ => rfl) rfl (Nat.le_of_ble_eq_true rfl) rfl (Nat.le_of_ble_eq_true rfl) (tX11_payingStalls (by omega) x1 x6 M hO) (fun x21 M1 _ hO1 => ?_)
      refine q_ifne (tgt := 65) dX11_strike_55 (by decide) ?_ ?_
      · refine q_iconst dX11_strike_65 ?_
        refine q_sub [0, 1, 2, 3, 4, 6] rfl ?_
        exact tX11_strike_66 hd (fX11_strike_36 n) ih x1 x2 x3 x4 x6 0 M1 hO1
      · refine q_iload 5 dX11_strike_58 rfl ?_
        refine q_iconst dX11_strike_60 ?_
        refine q_iadd dX11_strike_61 ?_
        refine q_goto (tgt := 66) dX11_strike_62 (by decide) ?_
        refine q_sub [0, 1, 2, 3, 4, 6] rfl ?_
        exact tX11_strike_66 hd (fX11_strike_36 n) ih x1 x2 x3 x4 x6 (x5 + 1) M1 hO1
def fX11_strike (x1 : Int) (x2 : Int) (M : q_Mem) : Option (Int × q_Mem) := q_bd (fX11_isCoin x1 M) fun x21 M1 => if q_w x21 = 0 then (some ((-1), M1)) else (if q_w x2 < 0 then (some ((-1), M1)) else (if q_w 1 < q_w x2 then (some ((-1), M1)) else (q_let (M1.2 10 0) fun x22 => (fX11_strike_36 q_FU x1 x2 0 (-1) 0 x22 M1))))
theorem tX11_strike {d : Nat} (hd : 6 ≤ d) (x1 : Int) (x2 : Int) (M : q_Mem) (hO : q_Ok M) : q_EX d yX11_strike cX11_strike 7 (some .int) 0 (q_args 0 [.inr (.inr 0), .inl x1, .inl x2]) [] M (fX11_strike x1 x2 M) := by
  obtain ⟨d, rfl⟩ : ∃ d', d = d' + 1 := ⟨d - 1, by omega⟩
  have hd : 5 ≤ d := by omega
  show q_EX _ _ _ _ _ 0 [(0, .inr (.inr 0)), (1, .inl x1), (2, .inl x2)] [] M _
  unfold fX11_strike
  refine q_aload_n 0 dX11_strike_0 rfl rfl ?_
  refine q_iload_n 1 dX11_strike_1 rfl rfl ?_
  refine q_callVi (As := [.inl x1]) hO mb_X11_isCoin mv_X11_isCoin ml_X11_189 sh_0 rfl dX11_strike_2 (fun _ => rfl) rfl (Nat.le_of_ble_eq_true rfl) rfl (Nat.le_of_ble_eq_true rfl) (tX11_isCoin x1 M hO) (fun x21 M1 _ hO1 => ?_)
  refine q_ifeq (tgt := 17) dX11_strike_5 (by decide) ?_ ?_
  · refine q_iconst dX11_strike_17 ?_
    exact q_ret dX11_strike_18 rfl
  · refine q_iload_n 2 dX11_strike_8 rfl rfl ?_
    refine q_iflt (tgt := 17) dX11_strike_9 (by decide) ?_ ?_
    · refine q_iconst dX11_strike_17 ?_
      exact q_ret dX11_strike_18 rfl
    · refine q_iload_n 2 dX11_strike_12 rfl rfl ?_
      refine q_iconst dX11_strike_13 ?_
      refine q_icmple (tgt := 19) dX11_strike_14 (by decide) ?_ ?_
      · refine q_iconst dX11_strike_19 ?_
        refine q_istore_n (ls' := [(3, .inl 0), (0, .inr (.inr 0)), (1, .inl x1), (2, .inl x2)]) dX11_strike_20 rfl (by decide) rfl ?_
        refine q_iconst dX11_strike_21 ?_
        refine q_istore (ls' := [(4, .inl (-1)), (3, .inl 0), (0, .inr (.inr 0)), (1, .inl x1), (2, .inl x2)]) dX11_strike_22 (by decide) rfl ?_
        refine q_iconst dX11_strike_24 ?_
        refine q_istore (ls' := [(5, .inl 0), (4, .inl (-1)), (3, .inl 0), (0, .inr (.inr 0)), (1, .inl x1), (2, .inl x2)]) dX11_strike_25 (by decide) rfl ?_
        refine q_aload_n 3 dX11_strike_27 rfl rfl ?_
        refine q_getx fl_X11_58 hO1 sh_0 rfl fx_0_6 dX11_strike_28 ?_
        refine q_geti fl_X11_155 sh_10 (q_inO hO1 sh_10) rfl dX11_strike_31 ?_
        refine q_nameI (fun x22 _ => ?_)
        refine q_istore (ls' := [(6, .inl x22), (5, .inl 0), (4, .inl (-1)), (3, .inl 0), (0, .inr (.inr 0)), (1, .inl x1), (2, .inl x2)]) dX11_strike_34 (by decide) rfl ?_
        refine q_sub [4, 5, 6, 3, 2, 1, 0] rfl ?_
        exact tX11_strike_36 hd q_FU x1 x2 0 (-1) 0 x22 M1 hO1
      · refine q_iconst dX11_strike_17 ?_
        exact q_ret dX11_strike_18 rfl
def fX11_handy_50 (K17 : Int → Int → Int → Int → q_Mem → Option (Int × q_Mem)) (x1 : Int) (x2 : Int) (x3 : Int) (x4 : Int) (M : q_Mem) : Option (Int × q_Mem) := (K17 x1 x2 x3 (x4 + 1) M)
theorem tX11_handy_50 {d : Nat} (hd : 5 ≤ d) (K17 : Int → Int → Int → Int → q_Mem → Option (Int × q_Mem)) (hK17 : ∀ (x1 : Int) (x2 : Int) (x3 : Int) (x4 : Int) (M : q_Mem), q_Ok M → q_EX (d + 1) yX11_handy cX11_handy 6 (some .int) 17 [(0, .inr (.inr 0)), (1, .inl x1), (2, .inl x2), (3, .inl x3), (4, .inl x4)] [] M (K17 x1 x2 x3 x4 M)) (x1 : Int) (x2 : Int) (x3 : Int) (x4 : Int) (M : q_Mem) (hO : q_Ok M) : q_EX (d + 1) yX11_handy cX11_handy 6 (some .int) 50 [(0, .inr (.inr 0)), (1, .inl x1), (2, .inl x2), (3, .inl x3), (4, .inl x4)] [] M (fX11_handy_50 K17 x1 x2 x3 x4 M) := by
  unfold fX11_handy_50
  refine q_iinc (ls' := [(4, .inl (x4 + 1)), (0, .inr (.inr 0)), (1, .inl x1), (2, .inl x2), (3, .inl x3)]) 4 dX11_handy_50 rfl (by decide) rfl ?_
  refine q_goto (tgt := 17) dX11_handy_53 (by decide) ?_
  refine q_sub [1, 2, 3, 4, 0] rfl ?_
  exact hK17 x1 x2 x3 (x4 + 1) M hO
def fX11_handy_17  : Nat → Int → Int → Int → Int → q_Mem → Option (Int × q_Mem)
  | 0, _, _, _, _, _ => none
  | n + 1, x1, x2, x3, x4, M => q_let (M.2 0 11).toNat fun r21 => if q_w x4 < q_w (M.2 r21 7) then (q_bd (fX11_payingStalls x4 x1 M) fun x21 M1 => if q_w x3 < q_w x21 then ((fX11_handy_50 (fX11_handy_17 n) x1 x4 x21 x4 M1)) else ((fX11_handy_50 (fX11_handy_17 n) x1 x2 x3 x4 M1))) else (some (x2, M))
theorem tX11_handy_17 {d : Nat} (hd : 5 ≤ d) : ∀ (n : Nat) (x1 : Int) (x2 : Int) (x3 : Int) (x4 : Int) (M : q_Mem), q_Ok M → q_EX (d + 1) yX11_handy cX11_handy 6 (some .int) 17 [(0, .inr (.inr 0)), (1, .inl x1), (2, .inl x2), (3, .inl x3), (4, .inl x4)] [] M (fX11_handy_17 n x1 x2 x3 x4 M) := by
  intro n
  induction n with
  | zero => intro x1 x2 x3 x4 M hO; exact q_none
  | succ n ih =>
    intro x1 x2 x3 x4 M hO
    rw [fX11_handy_17]
    refine q_iload 4 dX11_handy_17 rfl ?_
    refine q_aload_n 0 dX11_handy_19 rfl rfl ?_
    refine q_gettL fl_X11_90 hO sh_0 rfl tr_0_11 dX11_handy_20 (fun r21 _ hr21 => ?_)
    refine q_geti fl_X11_148 hr21 (q_inO hO hr21) rfl dX11_handy_23 ?_
    refine q_icmpge (tgt := 56) dX11_handy_26 (by decide) ?_ ?_
    · refine q_iload_n 2 dX11_handy_56 rfl rfl ?_
      exact q_ret dX11_handy_57 rfl
    · refine q_aload_n 0 dX11_handy_29 rfl rfl ?_
      refine q_iload 4 dX11_handy_30 rfl ?_
      refine q_iload_n 1 dX11_handy_32 rfl rfl ?_
      refine q_callVi (As := [.inl x4, .inl x1]) hO mb_X11_payingStalls mv_X11_payingStalls ml_X11_258 sh_0 rfl dX11_handy_33 (fun _ => rfl) rfl (Nat.le_of_ble_eq_true rfl) rfl (Nat.le_of_ble_eq_true rfl) (tX11_payingStalls (by omega) x4 x1 M hO) (fun x21 M1 _ hO1 => ?_)
      refine q_istore (ls' := [(5, .inl x21), (0, .inr (.inr 0)), (1, .inl x1), (2, .inl x2), (3, .inl x3), (4, .inl x4)]) dX11_handy_36 (by decide) rfl ?_
      refine q_iload 0 dX11_handy_38 rfl ?_
      refine q_iload_n 4 dX11_handy_40 rfl rfl ?_
      refine q_icmple (tgt := 50) dX11_handy_41 (by decide) ?_ ?_
      · refine q_sub [1, 2, 3, 4, 5] rfl ?_
        exact tX11_handy_50 hd (fX11_handy_17 n) ih x1 x2 x3 x4 M1 hO1
      · refine q_iload 0 dX11_handy_44 rfl ?_
        refine q_istore_n (ls' := [(3, .inl x21), (5, .inl x21), (0, .inr (.inr 0)), (1, .inl x1), (2, .inl x2), (4, .inl x4)]) dX11_handy_46 rfl (by decide) rfl ?_
        refine q_iload 5 dX11_handy_47 rfl ?_
        refine q_istore_n (ls' := [(2, .inl x4), (3, .inl x21), (5, .inl x21), (0, .inr (.inr 0)), (1, .inl x1), (4, .inl x4)]) dX11_handy_49 rfl (by decide) rfl ?_
        refine q_sub [3, 4, 0, 1, 5] rfl ?_
        exact tX11_handy_50 hd (fX11_handy_17 n) ih x1 x4 x21 x4 M1 hO1
def fX11_handy (x1 : Int) (M : q_Mem) : Option (Int × q_Mem) := q_bd (fX11_isMinute x1 M) fun x21 M1 => if q_w x21 = 0 then (some ((-1), M1)) else ((fX11_handy_17 q_FU x1 (-1) (-1) 0 M1))
theorem tX11_handy {d : Nat} (hd : 6 ≤ d) (x1 : Int) (M : q_Mem) (hO : q_Ok M) : q_EX d yX11_handy cX11_handy 6 (some .int) 0 (q_args 0 [.inr (.inr 0), .inl x1]) [] M (fX11_handy x1 M) := by
  obtain ⟨d, rfl⟩ : ∃ d', d = d' + 1 := ⟨d - 1, by omega⟩
  have hd : 5 ≤ d := by omega
  show q_EX _ _ _ _ _ 0 [(0, .inr (.inr 0)), (1, .inl x1)] [] M _
  unfold fX11_handy
  refine q_aload_n 0 dX11_handy_0 rfl rfl ?_
  refine q_iload_n 1 dX11_handy_1 rfl rfl ?_
  refine q_callVi (As := [.inl x1]) hO mb_X11_isMinute mv_X11_isMinute ml_X11_215 sh_0 rfl dX11_handy_2 (fun _ => rfl) rfl (Nat.le_of_ble_eq_true rfl) rfl (Nat.le_of_ble_eq_true rfl) (tX11_isMinute x1 M hO) (fun x21 M1 _ hO1 => ?_)
  refine q_ifne (tgt := 10) dX11_handy_5 (by decide) ?_ ?_
  · refine q_iconst dX11_handy_10 ?_
    refine q_istore_n (ls' := [(2, .inl (-1)), (0, .inr (.inr 0)), (1, .inl x1)]) dX11_handy_11 rfl (by decide) rfl ?_
    refine q_iconst dX11_handy_12 ?_
    refine q_istore_n (ls' := [(3, .inl (-1)), (2, .inl (-1)), (0, .inr (.inr 0)), (1, .inl x1)]) dX11_handy_13 rfl (by decide) rfl ?_
    refine q_iconst dX11_handy_14 ?_
    refine q_istore (ls' := [(4, .inl 0), (3, .inl (-1)), (2, .inl (-1)), (0, .inr (.inr 0)), (1, .inl x1)]) dX11_handy_15 (by decide) rfl ?_
    refine q_sub [3, 4, 2, 1, 0] rfl ?_
    exact tX11_handy_17 hd q_FU x1 (-1) (-1) 0 M1 hO1
  · refine q_iconst dX11_handy_8 ?_
    exact q_ret dX11_handy_9 rfl
def fX11_odd_83 (K40 : Int → Int → Int → Int → q_Mem → Option (Int × q_Mem)) (x1 : Int) (x2 : Int) (x3 : Int) (x4 : Int) (M : q_Mem) : Option (Int × q_Mem) := (K40 x1 x2 x3 (x4 + 1) M)
theorem tX11_odd_83 {d : Nat} (hd : 4 ≤ d) (K40 : Int → Int → Int → Int → q_Mem → Option (Int × q_Mem)) (hK40 : ∀ (x1 : Int) (x2 : Int) (x3 : Int) (x4 : Int) (M : q_Mem), q_Ok M → q_EX (d + 1) yX11_odd cX11_odd 5 (some .int) 40 [(0, .inr (.inr 0)), (1, .inl x1), (2, .inl x2), (3, .inl x3), (4, .inl x4)] [] M (K40 x1 x2 x3 x4 M)) (x1 : Int) (x2 : Int) (x3 : Int) (x4 : Int) (M : q_Mem) (hO : q_Ok M) : q_EX (d + 1) yX11_odd cX11_odd 5 (some .int) 83 [(0, .inr (.inr 0)), (1, .inl x1), (2, .inl x2), (3, .inl x3), (4, .inl x4)] [] M (fX11_odd_83 K40 x1 x2 x3 x4 M) := by
  unfold fX11_odd_83
  refine q_iinc (ls' := [(4, .inl (x4 + 1)), (0, .inr (.inr 0)), (1, .inl x1), (2, .inl x2), (3, .inl x3)]) 4 dX11_odd_83 rfl (by decide) rfl ?_
  refine q_goto (tgt := 40) dX11_odd_86 (by decide) ?_
  refine q_sub [1, 2, 3, 4, 0] rfl ?_
  exact hK40 x1 x2 x3 (x4 + 1) M hO
def fX11_odd_40  : Nat → Int → Int → Int → Int → q_Mem → Option (Int × q_Mem)
  | 0, _, _, _, _, _ => none
  | n + 1, x1, x2, x3, x4, M => q_let (M.2 0 11).toNat fun r21 => if q_w (M.2 r21 0) < q_w x4 then (some ((-1), M)) else (q_bd (fX5_paysAt x1 x2 x4 M) fun x21 M1 => if q_w x21 = 0 then ((fX11_odd_83 (fX11_odd_40 n) x1 x2 x3 x4 M1)) else (q_bd (fX5_paysAt x1 x3 x4 M1) fun x22 M2 => if q_w x22 = 0 then (some (x4, M2)) else ((fX11_odd_83 (fX11_odd_40 n) x1 x2 x3 x4 M2))))
theorem tX11_odd_40 {d : Nat} (hd : 4 ≤ d) : ∀ (n : Nat) (x1 : Int) (x2 : Int) (x3 : Int) (x4 : Int) (M : q_Mem), q_Ok M → q_EX (d + 1) yX11_odd cX11_odd 5 (some .int) 40 [(0, .inr (.inr 0)), (1, .inl x1), (2, .inl x2), (3, .inl x3), (4, .inl x4)] [] M (fX11_odd_40 n x1 x2 x3 x4 M) := by
  intro n
  induction n with
  | zero => intro x1 x2 x3 x4 M hO; exact q_none
  | succ n ih =>
    intro x1 x2 x3 x4 M hO
    rw [fX11_odd_40]
    refine q_iload 4 dX11_odd_40 rfl ?_
    refine q_aload_n 0 dX11_odd_42 rfl rfl ?_
    refine q_gettL fl_X11_90 hO sh_0 rfl tr_0_11 dX11_odd_43 (fun r21 _ hr21 => ?_)
    refine q_geti fl_X11_142 hr21 (q_inO hO hr21) rfl dX11_odd_46 ?_
    refine q_icmpgt (tgt := 89) dX11_odd_49 (by decide) ?_ ?_
    · refine q_iconst dX11_odd_89 ?_
      exact q_ret dX11_odd_90 rfl
    · refine q_aload_n 0 dX11_odd_52 rfl rfl ?_
      refine q_getx fl_X11_102 hO sh_0 rfl fx_0_13 dX11_odd_53 ?_
      refine q_iload_n 1 dX11_odd_56 rfl rfl ?_
      refine q_iload_n 2 dX11_odd_57 rfl rfl ?_
      refine q_iload 4 dX11_odd_58 rfl ?_
      refine q_callVi (As := [.inl x1, .inl x2, .inl x4]) hO mb_X5_paysAt mv_X5_paysAt ml_X11_222 sh_87 rfl dX11_odd_60 (fun _ => rfl) rfl (Nat.le_of_ble_eq_true rfl) rfl (Nat.le_of_ble_eq_true rfl) (tX5_paysAt (by omega) x1 x2 x4 M hO) (fun x21 M1 _ hO1 => ?_)
      refine q_ifeq (tgt := 83) dX11_odd_63 (by decide) ?_ ?_
      · refine q_sub [0, 1, 2, 3, 4] rfl ?_
        exact tX11_odd_83 hd (fX11_odd_40 n) ih x1 x2 x3 x4 M1 hO1
      · refine q_aload_n 0 dX11_odd_66 rfl rfl ?_
        refine q_getx fl_X11_102 hO1 sh_0 rfl fx_0_13 dX11_odd_67 ?_
        refine q_iload_n 1 dX11_odd_70 rfl rfl ?_
        refine q_iload_n 3 dX11_odd_71 rfl rfl ?_
        refine q_iload 4 dX11_odd_72 rfl ?_
        refine q_callVi (As := [.inl x1, .inl x3, .inl x4]) hO1 mb_X5_paysAt mv_X5_paysAt ml_X11_222 sh_87 rfl dX11_odd_74 (fun _ => rfl) rfl (Nat.le_of_ble_eq_true rfl) rfl (Nat.le_of_ble_eq_true rfl) (tX5_paysAt (by omega) x1 x3 x4 M1 hO1) (fun x22 M2 _ hO2 => ?_)
        refine q_ifne (tgt := 83) dX11_odd_77 (by decide) ?_ ?_
        · refine q_sub [0, 1, 2, 3, 4] rfl ?_
          exact tX11_odd_83 hd (fX11_odd_40 n) ih x1 x2 x3 x4 M2 hO2
        · refine q_iload 4 dX11_odd_80 rfl ?_
          exact q_ret dX11_odd_82 rfl
def fX11_odd (x1 : Int) (x2 : Int) (x3 : Int) (M : q_Mem) : Option (Int × q_Mem) := q_bd (fX11_isCoin x1 M) fun x21 M1 => if q_w x21 = 0 then (some ((-1), M1)) else (q_bd (fX11_isStall x2 M1) fun x22 M2 => if q_w x22 = 0 then (some ((-1), M2)) else (q_bd (fX11_isStall x3 M2) fun x23 M3 => if q_w x23 = 0 then (some ((-1), M3)) else (if q_w x2 = q_w x3 then (some ((-1), M3)) else (q_let (M3.2 10 0) fun x24 => (fX11_odd_40 q_FU x1 x2 x3 x24 M3)))))
theorem tX11_odd {d : Nat} (hd : 5 ≤ d) (x1 : Int) (x2 : Int) (x3 : Int) (M : q_Mem) (hO : q_Ok M) : q_EX d yX11_odd cX11_odd 5 (some .int) 0 (q_args 0 [.inr (.inr 0), .inl x1, .inl x2, .inl x3]) [] M (fX11_odd x1 x2 x3 M) := by
  obtain ⟨d, rfl⟩ : ∃ d', d = d' + 1 := ⟨d - 1, by omega⟩
  have hd : 4 ≤ d := by omega
  show q_EX _ _ _ _ _ 0 [(0, .inr (.inr 0)), (1, .inl x1), (2, .inl x2), (3, .inl x3)] [] M _
  unfold fX11_odd
  refine q_aload_n 0 dX11_odd_0 rfl rfl ?_
  refine q_iload_n 1 dX11_odd_1 rfl rfl ?_
  refine q_callVi (As := [.inl x1]) hO mb_X11_isCoin mv_X11_isCoin ml_X11_189 sh_0 rfl dX11_odd_2 (fun _ => rfl) rfl (Nat.le_of_ble_eq_true rfl) rfl (Nat.le_of_ble_eq_true rfl) (tX11_isCoin x1 M hO) (fun x21 M1 _ hO1 => ?_)
  refine q_ifeq (tgt := 29) dX11_odd_5 (by decide) ?_ ?_
  · refine q_iconst dX11_odd_29 ?_
    exact q_ret dX11_odd_30 rfl
  · refine q_aload_n 0 dX11_odd_8 rfl rfl ?_
    refine q_iload_n 2 dX11_odd_9 rfl rfl ?_
    refine q_callVi (As := [.inl x2]) hO1 mb_X11_isStall mv_X11_isStall ml_X11_179 sh_0 rfl dX11_odd_10 (fun _ => rfl) rfl (Nat.le_of_ble_eq_true rfl) rfl (Nat.le_of_ble_eq_true rfl) (tX11_isStall x2 M1 hO1) (fun x22 M2 _ hO2 => ?_)
    refine q_ifeq (tgt := 29) dX11_odd_13 (by decide) ?_ ?_
    · refine q_iconst dX11_odd_29 ?_
      exact q_ret dX11_odd_30 rfl
    · refine q_aload_n 0 dX11_odd_16 rfl rfl ?_
      refine q_iload_n 3 dX11_odd_17 rfl rfl ?_
      refine q_callVi (As := [.inl x3]) hO2 mb_X11_isStall mv_X11_isStall ml_X11_179 sh_0 rfl dX11_odd_18 (fun _ => rfl) rfl (Nat.le_of_ble_eq_true rfl) rfl (Nat.le_of_ble_eq_true rfl) (tX11_isStall x3 M2 hO2) (fun x23 M3 _ hO3 => ?_)
      refine q_ifeq (tgt := 29) dX11_odd_21 (by decide) ?_ ?_
      · refine q_iconst dX11_odd_29 ?_
        exact q_ret dX11_odd_30 rfl
      · refine q_iload_n 2 dX11_odd_24 rfl rfl ?_
        refine q_iload_n 3 dX11_odd_25 rfl rfl ?_
        refine q_icmpne (tgt := 31) dX11_odd_26 (by decide) ?_ ?_
        · refine q_aload_n 0 dX11_odd_31 rfl rfl ?_
          refine q_getx fl_X11_58 hO3 sh_0 rfl fx_0_6 dX11_odd_32 ?_
          refine q_geti fl_X11_155 sh_10 (q_inO hO3 sh_10) rfl dX11_odd_35 ?_
          refine q_nameI (fun x24 _ => ?_)
          refine q_istore (ls' := [(4, .inl x24), (0, .inr (.inr 0)), (1, .inl x1), (2, .inl x2), (3, .inl x3)]) dX11_odd_38 (by decide) rfl ?_
          refine q_sub [1, 2, 3, 4, 0] rfl ?_
          exact tX11_odd_40 hd q_FU x1 x2 x3 x24 M3 hO3
        · refine q_iconst dX11_odd_29 ?_
          exact q_ret dX11_odd_30 rfl
def fX11_lengthTogether_44 (K6 : Int → Int → Int → Int → Int → q_Mem → Option (Int × q_Mem)) (x1 : Int) (x2 : Int) (x3 : Int) (x4 : Int) (x5 : Int) (M : q_Mem) : Option (Int × q_Mem) := (K6 x1 x2 x3 x4 (x5 + 1) M)
theorem tX11_lengthTogether_44 {d : Nat} (hd : 4 ≤ d) (K6 : Int → Int → Int → Int → Int → q_Mem → Option (Int × q_Mem)) (hK6 : ∀ (x1 : Int) (x2 : Int) (x3 : Int) (x4 : Int) (x5 : Int) (M : q_Mem), q_Ok M → q_EX (d + 1) yX11_lengthTogether cX11_lengthTogether 6 (some .int) 6 [(0, .inr (.inr 0)), (1, .inl x1), (2, .inl x2), (3, .inl x3), (4, .inl x4), (5, .inl x5)] [] M (K6 x1 x2 x3 x4 x5 M)) (x1 : Int) (x2 : Int) (x3 : Int) (x4 : Int) (x5 : Int) (M : q_Mem) (hO : q_Ok M) : q_EX (d + 1) yX11_lengthTogether cX11_lengthTogether 6 (some .int) 44 [(0, .inr (.inr 0)), (1, .inl x1), (2, .inl x2), (3, .inl x3), (4, .inl x4), (5, .inl x5)] [] M (fX11_lengthTogether_44 K6 x1 x2 x3 x4 x5 M) := by
  unfold fX11_lengthTogether_44
  refine q_iinc (ls' := [(5, .inl (x5 + 1)), (0, .inr (.inr 0)), (1, .inl x1), (2, .inl x2), (3, .inl x3), (4, .inl x4)]) 5 dX11_lengthTogether_44 rfl (by decide) rfl ?_
  refine q_goto (tgt := 6) dX11_lengthTogether_47 (by decide) ?_
  refine q_sub [1, 2, 3, 4, 5, 0] rfl ?_
  exact hK6 x1 x2 x3 x4 (x5 + 1) M hO
def fX11_lengthTogether_6  : Nat → Int → Int → Int → Int → Int → q_Mem → Option (Int × q_Mem)
  | 0, _, _, _, _, _, _ => none
  | n + 1, x1, x2, x3, x4, x5, M => q_let (M.2 0 11).toNat fun r21 => if q_w x5 < q_w (M.2 r21 7) then (if q_w (q_and (q_shr x1 x5) 1) = q_w 1 then (q_bd (fX5_lengthAt x5 x2 x3 M) fun x21 M1 => q_let (x4 + x21) fun x22 => (fX11_lengthTogether_44 (fX11_lengthTogether_6 n) x1 x2 x3 x22 x5 M1)) else ((fX11_lengthTogether_44 (fX11_lengthTogether_6 n) x1 x2 x3 x4 x5 M))) else (some (x4, M))
theorem tX11_lengthTogether_6 {d : Nat} (hd : 4 ≤ d) : ∀ (n : Nat) (x1 : Int) (x2 : Int) (x3 : Int) (x4 : Int) (x5 : Int) (M : q_Mem), q_Ok M → q_EX (d + 1) yX11_lengthTogether cX11_lengthTogether 6 (some .int) 6 [(0, .inr (.inr 0)), (1, .inl x1), (2, .inl x2), (3, .inl x3), (4, .inl x4), (5, .inl x5)] [] M (fX11_lengthTogether_6 n x1 x2 x3 x4 x5 M) := by
  intro n
  induction n with
  | zero => intro x1 x2 x3 x4 x5 M hO; exact q_none
  | succ n ih =>
    intro x1 x2 x3 x4 x5 M hO
    rw [fX11_lengthTogether_6]
    refine q_iload 5 dX11_lengthTogether_6 rfl ?_
    refine q_aload_n 0 dX11_lengthTogether_8 rfl rfl ?_
    refine q_gettL fl_X11_90 hO sh_0 rfl tr_0_11 dX11_lengthTogether_9 (fun r21 _ hr21 => ?_)
    refine q_geti fl_X11_148 hr21 (q_inO hO hr21) rfl dX11_lengthTogether_12 ?_
    refine q_icmpge (tgt := 50) dX11_lengthTogether_15 (by decide) ?_ ?_
    · refine q_iload 4 dX11_lengthTogether_50 rfl ?_
      exact q_ret dX11_lengthTogether_52 rfl
    · refine q_iload_n 1 dX11_lengthTogether_18 rfl rfl ?_
      refine q_iload 5 dX11_lengthTogether_19 rfl ?_
      refine q_ishr dX11_lengthTogether_21 ?_
      refine q_iconst dX11_lengthTogether_22 ?_
      refine q_iand dX11_lengthTogether_23 ?_
      refine q_iconst dX11_lengthTogether_24 ?_
      refine q_icmpne (tgt := 44) dX11_lengthTogether_25 (by decide) ?_ ?_
      · refine q_sub [0, 1, 2, 3, 4, 5] rfl ?_
        exact tX11_lengthTogether_44 hd (fX11_lengthTogether_6 n) ih x1 x2 x3 x4 x5 M hO
      · refine q_iload 4 dX11_lengthTogether_28 rfl ?_
        refine q_aload_n 0 dX11_lengthTogether_30 rfl rfl ?_
        refine q_getx fl_X11_102 hO sh_0 rfl fx_0_13 dX11_lengthTogether_31 ?_
        refine q_iload 5 dX11_lengthTogether_34 rfl ?_
        refine q_iload_n 2 dX11_lengthTogether_36 rfl rfl ?_
        refine q_iload_n 3 dX11_lengthTogether_37 rfl rfl ?_
        refine q_callVi (As := [.inl x5, .inl x2, .inl x3]) hO mb_X5_lengthAt mv_X5_lengthAt ml_X11_218 sh_87 rfl dX11_lengthTogether_38 (fun _ => rfl) rfl (Nat.le_of_ble_eq_true rfl) rfl (Nat.le_of_ble_eq_true rfl) (tX5_lengthAt (by omega) x5 x2 x3 M hO) (fun x21 M1 _ hO1 => ?_)
        refine q_iadd dX11_lengthTogether_41 ?_
        refine q_nameI (fun x22 _ => ?_)
        refine q_istore (ls' := [(4, .inl x22), (0, .inr (.inr 0)), (1, .inl x1), (2, .inl x2), (3, .inl x3), (5, .inl x5)]) dX11_lengthTogether_42 (by decide) rfl ?_
        refine q_sub [1, 2, 3, 4, 0, 5] rfl ?_
        exact tX11_lengthTogether_44 hd (fX11_lengthTogether_6 n) ih x1 x2 x3 x22 x5 M1 hO1
def fX11_lengthTogether (x1 : Int) (x2 : Int) (x3 : Int) (M : q_Mem) : Option (Int × q_Mem) := (fX11_lengthTogether_6 q_FU x1 x2 x3 0 0 M)
theorem tX11_lengthTogether {d : Nat} (hd : 5 ≤ d) (x1 : Int) (x2 : Int) (x3 : Int) (M : q_Mem) (hO : q_Ok M) : q_EX d yX11_lengthTogether cX11_lengthTogether 6 (some .int) 0 (q_args 0 [.inr (.inr 0), .inl x1, .inl x2, .inl x3]) [] M (fX11_lengthTogether x1 x2 x3 M) := by
  obtain ⟨d, rfl⟩ : ∃ d', d = d' + 1 := ⟨d - 1, by omega⟩
  have hd : 4 ≤ d := by omega
  show q_EX _ _ _ _ _ 0 [(0, .inr (.inr 0)), (1, .inl x1), (2, .inl x2), (3, .inl x3)] [] M _
  unfold fX11_lengthTogether
  refine q_iconst dX11_lengthTogether_0 ?_
  refine q_istore (ls' := [(4, .inl 0), (0, .inr (.inr 0)), (1, .inl x1), (2, .inl x2), (3, .inl x3)]) dX11_lengthTogether_1 (by decide) rfl ?_
  refine q_iconst dX11_lengthTogether_3 ?_
  refine q_istore (ls' := [(5, .inl 0), (4, .inl 0), (0, .inr (.inr 0)), (1, .inl x1), (2, .inl x2), (3, .inl x3)]) dX11_lengthTogether_4 (by decide) rfl ?_
  refine q_sub [2, 3, 4, 5, 1, 0] rfl ?_
  exact tX11_lengthTogether_6 hd q_FU x1 x2 x3 0 0 M hO
def fX11_bridge_87 (K23 : Int → Int → Int → Int → q_Mem → Option (Int × q_Mem)) (x1 : Int) (x2 : Int) (x3 : Int) (x4 : Int) (M : q_Mem) : Option (Int × q_Mem) := (K23 x1 x2 x3 (x4 + 1) M)
theorem tX11_bridge_87 {d : Nat} (hd : 5 ≤ d) (K23 : Int → Int → Int → Int → q_Mem → Option (Int × q_Mem)) (hK23 : ∀ (x1 : Int) (x2 : Int) (x3 : Int) (x4 : Int) (M : q_Mem), q_Ok M → q_EX (d + 1) yX11_bridge cX11_bridge 6 (some .int) 23 [(0, .inr (.inr 0)), (1, .inl x1), (2, .inl x2), (3, .inl x3), (4, .inl x4)] [] M (K23 x1 x2 x3 x4 M)) (x1 : Int) (x2 : Int) (x3 : Int) (x4 : Int) (M : q_Mem) (hO : q_Ok M) : q_EX (d + 1) yX11_bridge cX11_bridge 6 (some .int) 87 [(0, .inr (.inr 0)), (1, .inl x1), (2, .inl x2), (3, .inl x3), (4, .inl x4)] [] M (fX11_bridge_87 K23 x1 x2 x3 x4 M) := by
  unfold fX11_bridge_87
  refine q_iinc (ls' := [(4, .inl (x4 + 1)), (0, .inr (.inr 0)), (1, .inl x1), (2, .inl x2), (3, .inl x3)]) 4 dX11_bridge_87 rfl (by decide) rfl ?_
  refine q_goto (tgt := 23) dX11_bridge_90 (by decide) ?_
  refine q_sub [1, 2, 3, 4, 0] rfl ?_
  exact hK23 x1 x2 x3 (x4 + 1) M hO
def fX11_bridge_59 (K23 : Int → Int → Int → Int → q_Mem → Option (Int × q_Mem)) (x1 : Int) (x2 : Int) (x3 : Int) (x4 : Int) (s0 : Int) (M : q_Mem) : Option (Int × q_Mem) := if q_w s0 = 0 then ((fX11_bridge_87 K23 x1 x2 x3 x4 M)) else (q_bd (fX11_lengthTogether x4 x1 x2 M) fun x21 M1 => q_let (M1.2 0 11).toNat fun r21 => if q_w x21 < q_w (M1.2 r21 16) then ((fX11_bridge_87 K23 x1 x2 x3 x4 M1)) else ((fX11_bridge_87 K23 x1 x2 x4 x4 M1)))
theorem tX11_bridge_59 {d : Nat} (hd : 5 ≤ d) (K23 : Int → Int → Int → Int → q_Mem → Option (Int × q_Mem)) (hK23 : ∀ (x1 : Int) (x2 : Int) (x3 : Int) (x4 : Int) (M : q_Mem), q_Ok M → q_EX (d + 1) yX11_bridge cX11_bridge 6 (some .int) 23 [(0, .inr (.inr 0)), (1, .inl x1), (2, .inl x2), (3, .inl x3), (4, .inl x4)] [] M (K23 x1 x2 x3 x4 M)) (x1 : Int) (x2 : Int) (x3 : Int) (x4 : Int) (s0 : Int) (M : q_Mem) (hO : q_Ok M) : q_EX (d + 1) yX11_bridge cX11_bridge 6 (some .int) 59 [(0, .inr (.inr 0)), (1, .inl x1), (2, .inl x2), (3, .inl x3), (4, .inl x4)] [.inl s0] M (fX11_bridge_59 K23 x1 x2 x3 x4 s0 M) := by
  unfold fX11_bridge_59
  refine q_istore (ls' := [(5, .inl s0), (0, .inr (.inr 0)), (1, .inl x1), (2, .inl x2), (3, .inl x3), (4, .inl x4)]) dX11_bridge_59 (by decide) rfl ?_
  refine q_iload 0 dX11_bridge_61 rfl ?_
  refine q_ifeq (tgt := 87) dX11_bridge_63 (by decide) ?_ ?_
  · refine q_sub [1, 2, 3, 4, 5] rfl ?_
    exact tX11_bridge_87 hd K23 hK23 x1 x2 x3 x4 M hO
  · refine q_aload_n 1 dX11_bridge_66 rfl rfl ?_
    refine q_iload 5 dX11_bridge_67 rfl ?_
    refine q_iload_n 2 dX11_bridge_69 rfl rfl ?_
    refine q_iload_n 3 dX11_bridge_70 rfl rfl ?_
    refine q_callVi (As := [.inl x4, .inl x1, .inl x2]) hO mb_X11_lengthTogether mv_X11_lengthTogether ml_X11_261 sh_0 rfl dX11_bridge_71 (fun _ => rfl) rfl (Nat.le_of_ble_eq_true rfl) rfl (Nat.le_of_ble_eq_true rfl) (tX11_lengthTogether (by omega) x4 x1 x2 M hO) (fun x21 M1 _ hO1 => ?_)
    refine q_aload_n 1 dX11_bridge_74 rfl rfl ?_
    refine q_gettL fl_X11_90 hO1 sh_0 rfl tr_0_11 dX11_bridge_75 (fun r21 _ hr21 => ?_)
    refine q_geti fl_X11_264 hr21 (q_inO hO1 hr21) rfl dX11_bridge_78 ?_
    refine q_icmplt (tgt := 87) dX11_bridge_81 (by decide) ?_ ?_
    · refine q_sub [1, 2, 3, 4, 5] rfl ?_
      exact tX11_bridge_87 hd K23 hK23 x1 x2 x3 x4 M1 hO1
    · refine q_iload 5 dX11_bridge_84 rfl ?_
      refine q_istore_n (ls' := [(3, .inl x4), (5, .inl s0), (0, .inr (.inr 0)), (1, .inl x1), (2, .inl x2), (4, .inl x4)]) dX11_bridge_86 rfl (by decide) rfl ?_
      refine q_sub [2, 3, 4, 0, 5] rfl ?_
      exact tX11_bridge_87 hd K23 hK23 x1 x2 x4 x4 M1 hO1
def fX11_bridge_54 (K23 : Int → Int → Int → Int → q_Mem → Option (Int × q_Mem)) (x1 : Int) (x2 : Int) (x3 : Int) (x4 : Int) (M : q_Mem) : Option (Int × q_Mem) := (fX11_bridge_59 K23 x1 x2 x3 x4 1 M)
theorem tX11_bridge_54 {d : Nat} (hd : 5 ≤ d) (K23 : Int → Int → Int → Int → q_Mem → Option (Int × q_Mem)) (hK23 : ∀ (x1 : Int) (x2 : Int) (x3 : Int) (x4 : Int) (M : q_Mem), q_Ok M → q_EX (d + 1) yX11_bridge cX11_bridge 6 (some .int) 23 [(0, .inr (.inr 0)), (1, .inl x1), (2, .inl x2), (3, .inl x3), (4, .inl x4)] [] M (K23 x1 x2 x3 x4 M)) (x1 : Int) (x2 : Int) (x3 : Int) (x4 : Int) (M : q_Mem) (hO : q_Ok M) : q_EX (d + 1) yX11_bridge cX11_bridge 6 (some .int) 54 [(0, .inr (.inr 0)), (1, .inl x1), (2, .inl x2), (3, .inl x3), (4, .inl x4)] [] M (fX11_bridge_54 K23 x1 x2 x3 x4 M) := by
  unfold fX11_bridge_54
  refine q_iconst dX11_bridge_54 ?_
  refine q_goto (tgt := 59) dX11_bridge_55 (by decide) ?_
  refine q_sub [0, 1, 2, 3, 4] rfl ?_
  exact tX11_bridge_59 hd K23 hK23 x1 x2 x3 x4 1 M hO
def fX11_bridge_23  : Nat → Int → Int → Int → Int → q_Mem → Option (Int × q_Mem)
  | 0, _, _, _, _, _ => none
  | n + 1, x1, x2, x3, x4, M => q_let (M.2 0 11).toNat fun r21 => if q_w x4 < q_w (q_shl 1 (M.2 r21 7)) then (if q_w x3 = q_w (-1) then ((fX11_bridge_54 (fX11_bridge_23 n) x1 x2 x3 x4 M)) else (q_bd (fJ6_bitCount_0f7a4 x4 M) fun x21 M1 => q_bd (fJ6_bitCount_0f7a4 x3 M1) fun x22 M2 => if q_w x21 < q_w x22 then ((fX11_bridge_54 (fX11_bridge_23 n) x1 x2 x3 x4 M2)) else ((fX11_bridge_59 (fX11_bridge_23 n) x1 x2 x3 x4 0 M2)))) else (some (x3, M))
theorem tX11_bridge_23 {d : Nat} (hd : 5 ≤ d) : ∀ (n : Nat) (x1 : Int) (x2 : Int) (x3 : Int) (x4 : Int) (M : q_Mem), q_Ok M → q_EX (d + 1) yX11_bridge cX11_bridge 6 (some .int) 23 [(0, .inr (.inr 0)), (1, .inl x1), (2, .inl x2), (3, .inl x3), (4, .inl x4)] [] M (fX11_bridge_23 n x1 x2 x3 x4 M) := by
  intro n
  induction n with
  | zero => intro x1 x2 x3 x4 M hO; exact q_none
  | succ n ih =>
    intro x1 x2 x3 x4 M hO
    rw [fX11_bridge_23]
    refine q_iload 4 dX11_bridge_23 rfl ?_
    refine q_iconst dX11_bridge_25 ?_
    refine q_aload_n 0 dX11_bridge_26 rfl rfl ?_
    refine q_gettL fl_X11_90 hO sh_0 rfl tr_0_11 dX11_bridge_27 (fun r21 _ hr21 => ?_)
    refine q_geti fl_X11_148 hr21 (q_inO hO hr21) rfl dX11_bridge_30 ?_
    refine q_ishl dX11_bridge_33 ?_
    refine q_icmpge (tgt := 93) dX11_bridge_34 (by decide) ?_ ?_
    · refine q_iload_n 3 dX11_bridge_93 rfl rfl ?_
      exact q_ret dX11_bridge_94 rfl
    · refine q_iload_n 3 dX11_bridge_37 rfl rfl ?_
      refine q_iconst dX11_bridge_38 ?_
      refine q_icmpeq (tgt := 54) dX11_bridge_39 (by decide) ?_ ?_
      · refine q_sub [0, 1, 2, 3, 4] rfl ?_
        exact tX11_bridge_54 hd (fX11_bridge_23 n) ih x1 x2 x3 x4 M hO
      · refine q_iload 4 dX11_bridge_42 rfl ?_
        refine q_callSi (As := [.inl x4]) hO mb_J6_bitCount_0f7a4 ms_J6_bitCount_0f7a4 ml_X11_164 dX11_bridge_44 (fun _ => rfl) rfl (Nat.le_of_ble_eq_true rfl) rfl (Nat.le_of_ble_eq_true rfl) (tJ6_bitCount_0f7a4 x4 M hO) (fun x21 M1 _ hO1 => ?_)
        refine q_iload_n 3 dX11_bridge_47 rfl rfl ?_
        refine q_callSi (As := [.inl x3]) hO1 mb_J6_bitCount_0f7a4 ms_J6_bitCount_0f7a4 ml_X11_164 dX11_bridge_48 (fun _ => rfl) rfl (Nat.le_of_ble_eq_true rfl) rfl (Nat.le_of_ble_eq_true rfl) (tJ6_bitCount_0f7a4 x3 M1 hO1) (fun x22 M2 _ hO2 => ?_)
        refine q_icmpge (tgt := 58) dX11_bridge_51 (by decide) ?_ ?_
        · refine q_iconst dX11_bridge_58 ?_
          refine q_sub [0, 1, 2, 3, 4] rfl ?_
          exact tX11_bridge_59 hd (fX11_bridge_23 n) ih x1 x2 x3 x4 0 M2 hO2
        · refine q_sub [0, 1, 2, 3, 4] rfl ?_
          exact tX11_bridge_54 hd (fX11_bridge_23 n) ih x1 x2 x3 x4 M2 hO2
def fX11_bridge (x1 : Int) (x2 : Int) (M : q_Mem) : Option (Int × q_Mem) := q_bd (fX11_isStall x1 M) fun x21 M1 => if q_w x21 = 0 then (some ((-1), M1)) else (q_bd (fX11_isMinute x2 M1) fun x22 M2 => if q_w x22 = 0 then (some ((-1), M2)) else ((fX11_bridge_23 q_FU x1 x2 (-1) 0 M2)))
theorem tX11_bridge {d : Nat} (hd : 6 ≤ d) (x1 : Int) (x2 : Int) (M : q_Mem) (hO : q_Ok M) : q_EX d yX11_bridge cX11_bridge 6 (some .int) 0 (q_args 0 [.inr (.inr 0), .inl x1, .inl x2]) [] M (fX11_bridge x1 x2 M) := by
  obtain ⟨d, rfl⟩ : ∃ d', d = d' + 1 := ⟨d - 1, by omega⟩
  have hd : 5 ≤ d := by omega
  show q_EX _ _ _ _ _ 0 [(0, .inr (.inr 0)), (1, .inl x1), (2, .inl x2)] [] M _
  unfold fX11_bridge
  refine q_aload_n 0 dX11_bridge_0 rfl rfl ?_
  refine q_iload_n 1 dX11_bridge_1 rfl rfl ?_
  refine q_callVi (As := [.inl x1]) hO mb_X11_isStall mv_X11_isStall ml_X11_179 sh_0 rfl dX11_bridge_2 (fun _ => rfl) rfl (Nat.le_of_ble_eq_true rfl) rfl (Nat.le_of_ble_eq_true rfl) (tX11_isStall x1 M hO) (fun x21 M1 _ hO1 => ?_)
  refine q_ifeq (tgt := 16) dX11_bridge_5 (by decide) ?_ ?_
  · refine q_iconst dX11_bridge_16 ?_
    exact q_ret dX11_bridge_17 rfl
  · refine q_aload_n 0 dX11_bridge_8 rfl rfl ?_
    refine q_iload_n 2 dX11_bridge_9 rfl rfl ?_
    refine q_callVi (As := [.inl x2]) hO1 mb_X11_isMinute mv_X11_isMinute ml_X11_215 sh_0 rfl dX11_bridge_10 (fun _ => rfl) rfl (Nat.le_of_ble_eq_true rfl) rfl (Nat.le_of_ble_eq_true rfl) (tX11_isMinute x2 M1 hO1) (fun x22 M2 _ hO2 => ?_)
    refine q_ifne (tgt := 18) dX11_bridge_13 (by decide) ?_ ?_
    · refine q_iconst dX11_bridge_18 ?_
      refine q_istore_n (ls' := [(3, .inl (-1)), (0, .inr (.inr 0)), (1, .inl x1), (2, .inl x2)]) dX11_bridge_19 rfl (by decide) rfl ?_
      refine q_iconst dX11_bridge_20 ?_
      refine q_istore (ls' := [(4, .inl 0), (3, .inl (-1)), (0, .inr (.inr 0)), (1, .inl x1), (2, .inl x2)]) dX11_bridge_21 (by decide) rfl ?_
      refine q_sub [2, 3, 4, 1, 0] rfl ?_
      exact tX11_bridge_23 hd q_FU x1 x2 (-1) 0 M2 hO2
    · refine q_iconst dX11_bridge_16 ?_
      exact q_ret dX11_bridge_17 rfl
def fX11_change_122 (K33 : Int → Int → Int → Int → q_Mem → Option (Int × q_Mem)) (K67 : Int → Int → Int → Int → Int → Int → q_Mem → Option (Int × q_Mem)) (x1 : Int) (x2 : Int) (x3 : Int) (x4 : Int) (x5 : Int) (x6 : Int) (M : q_Mem) : Option (Int × q_Mem) := (K67 x1 x2 x3 x4 x5 (x6 + 1) M)
theorem tX11_change_122 {d : Nat} (hd : 4 ≤ d) (K33 : Int → Int → Int → Int → q_Mem → Option (Int × q_Mem)) (hK33 : ∀ (x1 : Int) (x2 : Int) (x3 : Int) (x4 : Int) (M : q_Mem), q_Ok M → q_EX (d + 1) yX11_change cX11_change 7 (some .int) 33 [(0, .inr (.inr 0)), (1, .inl x1), (2, .inl x2), (3, .inl x3), (4, .inl x4)] [] M (K33 x1 x2 x3 x4 M)) (K67 : Int → Int → Int → Int → Int → Int → q_Mem → Option (Int × q_Mem)) (hK67 : ∀ (x1 : Int) (x2 : Int) (x3 : Int) (x4 : Int) (x5 : Int) (x6 : Int) (M : q_Mem), q_Ok M → q_EX (d + 1) yX11_change cX11_change 7 (some .int) 67 [(0, .inr (.inr 0)), (1, .inl x1), (2, .inl x2), (3, .inl x3), (4, .inl x4), (5, .inl x5), (6, .inl x6)] [] M (K67 x1 x2 x3 x4 x5 x6 M)) (x1 : Int) (x2 : Int) (x3 : Int) (x4 : Int) (x5 : Int) (x6 : Int) (M : q_Mem) (hO : q_Ok M) : q_EX (d + 1) yX11_change cX11_change 7 (some .int) 122 [(0, .inr (.inr 0)), (1, .inl x1), (2, .inl x2), (3, .inl x3), (4, .inl x4), (5, .inl x5), (6, .inl x6)] [] M (fX11_change_122 K33 K67 x1 x2 x3 x4 x5 x6 M) := by
  unfold fX11_change_122
  refine q_iinc (ls' := [(6, .inl (x6 + 1)), (0, .inr (.inr 0)), (1, .inl x1), (2, .inl x2), (3, .inl x3), (4, .inl x4), (5, .inl x5)]) 6 dX11_change_122 rfl (by decide) rfl ?_
  refine q_goto (tgt := 67) dX11_change_125 (by decide) ?_
  refine q_sub [1, 2, 3, 4, 5, 6, 0] rfl ?_
  exact hK67 x1 x2 x3 x4 x5 (x6 + 1) M hO
def fX11_change_67 (K33 : Int → Int → Int → Int → q_Mem → Option (Int × q_Mem)) : Nat → Int → Int → Int → Int → Int → Int → q_Mem → Option (Int × q_Mem)
  | 0, _, _, _, _, _, _, _ => none
  | n + 1, x1, x2, x3, x4, x5, x6, M => q_let (M.2 0 11).toNat fun r21 => if q_w x6 < q_w (M.2 r21 7) then (if q_w x4 = q_w x6 then ((fX11_change_122 K33 (fX11_change_67 K33 n) x1 x2 x3 x4 x5 x6 M)) else (q_bd (fX5_lengthAt x6 x1 (M.2 10 0) M) fun x21 M1 => if q_w (x5 - x21) = q_w x2 then (if q_w x3 = 0 then (some (x4, M1)) else (some (x6, M1))) else ((fX11_change_122 K33 (fX11_change_67 K33 n) x1 x2 x3 x4 x5 x6 M1)))) else ((K33 x1 x2 x3 (x4 + 1) M))
theorem tX11_change_67 {d : Nat} (hd : 4 ≤ d) (K33 : Int → Int → Int → Int → q_Mem → Option (Int × q_Mem)) (hK33 : ∀ (x1 : Int) (x2 : Int) (x3 : Int) (x4 : Int) (M : q_Mem), q_Ok M → q_EX (d + 1) yX11_change cX11_change 7 (some .int) 33 [(0, .inr (.inr 0)), (1, .inl x1), (2, .inl x2), (3, .inl x3), (4, .inl x4)] [] M (K33 x1 x2 x3 x4 M)) : ∀ (n : Nat) (x1 : Int) (x2 : Int) (x3 : Int) (x4 : Int) (x5 : Int) (x6 : Int) (M : q_Mem), q_Ok M → q_EX (d + 1) yX11_change cX11_change 7 (some .int) 67 [(0, .inr (.inr 0)), (1, .inl x1), (2, .inl x2), (3, .inl x3), (4, .inl x4), (5, .inl x5), (6, .inl x6)] [] M (fX11_change_67 K33 n x1 x2 x3 x4 x5 x6 M) := by
  intro n
  induction n with
  | zero => intro x1 x2 x3 x4 x5 x6 M hO; exact q_none
  | succ n ih =>
    intro x1 x2 x3 x4 x5 x6 M hO
    rw [fX11_change_67]
    refine q_iload 6 dX11_change_67 rfl ?_
    refine q_aload_n 0 dX11_change_69 rfl rfl ?_
    refine q_gettL fl_X11_90 hO sh_0 rfl tr_0_11 dX11_change_70 (fun r21 _ hr21 => ?_)
    refine q_geti fl_X11_148 hr21 (q_inO hO hr21) rfl dX11_change_73 ?_
    refine q_icmpge (tgt := 128) dX11_change_76 (by decide) ?_ ?_
    · refine q_iinc (ls' := [(4, .inl (x4 + 1)), (0, .inr (.inr 0)), (1, .inl x1), (2, .inl x2), (3, .inl x3), (5, .inl x5), (6, .inl x6)]) 4 dX11_change_128 rfl (by decide) rfl ?_
      refine q_goto (tgt := 33) dX11_change_131 (by decide) ?_
      refine q_sub [1, 2, 3, 4, 0] rfl ?_
      exact hK33 x1 x2 x3 (x4 + 1) M hO
    · refine q_iload 4 dX11_change_79 rfl ?_
      refine q_iload 6 dX11_change_81 rfl ?_
      refine q_icmpeq (tgt := 122) dX11_change_83 (by decide) ?_ ?_
      · refine q_sub [0, 1, 2, 3, 4, 5, 6] rfl ?_
        exact tX11_change_122 hd K33 hK33 (fX11_change_67 K33 n) ih x1 x2 x3 x4 x5 x6 M hO
      · refine q_iload 5 dX11_change_86 rfl ?_
        refine q_aload_n 0 dX11_change_88 rfl rfl ?_
        refine q_getx fl_X11_102 hO sh_0 rfl fx_0_13 dX11_change_89 ?_
        refine q_iload 6 dX11_change_92 rfl ?_
        refine q_iload_n 1 dX11_change_94 rfl rfl ?_
        refine q_aload_n 0 dX11_change_95 rfl rfl ?_
        refine q_getx fl_X11_58 hO sh_0 rfl fx_0_6 dX11_change_96 ?_
        refine q_geti fl_X11_155 sh_10 (q_inO hO sh_10) rfl dX11_change_99 ?_
        refine q_callVi (As := [.inl x6, .inl x1, .inl (M.2 10 0)]) hO mb_X5_lengthAt mv_X5_lengthAt ml_X11_218 sh_87 rfl dX11_change_102 (fun _ => rfl) rfl (Nat.le_of_ble_eq_true rfl) rfl (Nat.le_of_ble_eq_true rfl) (tX5_lengthAt (by omega) x6 x1 (M.2 10 0) M hO) (fun x21 M1 _ hO1 => ?_)
        refine q_isub dX11_change_105 ?_
        refine q_iload_n 2 dX11_change_106 rfl rfl ?_
        refine q_icmpne (tgt := 122) dX11_change_107 (by decide) ?_ ?_
        · refine q_sub [0, 1, 2, 3, 4, 5, 6] rfl ?_
          exact tX11_change_122 hd K33 hK33 (fX11_change_67 K33 n) ih x1 x2 x3 x4 x5 x6 M1 hO1
        · refine q_iload_n 3 dX11_change_110 rfl rfl ?_
          refine q_ifne (tgt := 119) dX11_change_111 (by decide) ?_ ?_
          · refine q_iload 6 dX11_change_119 rfl ?_
            exact q_ret dX11_change_121 rfl
          · refine q_iload 4 dX11_change_114 rfl ?_
            refine q_goto (tgt := 121) dX11_change_116 (by decide) ?_
            exact q_ret dX11_change_121 rfl
def fX11_change_33  : Nat → Int → Int → Int → Int → q_Mem → Option (Int × q_Mem)
  | 0, _, _, _, _, _ => none
  | n + 1, x1, x2, x3, x4, M => q_let (M.2 0 11).toNat fun r21 => if q_w x4 < q_w (M.2 r21 7) then (q_bd (fX5_lengthAt x4 x1 (M.2 10 0) M) fun x21 M1 => (fX11_change_67 (fX11_change_33 n) q_FU x1 x2 x3 x4 x21 0 M1)) else (some ((-1), M))
theorem tX11_change_33 {d : Nat} (hd : 4 ≤ d) : ∀ (n : Nat) (x1 : Int) (x2 : Int) (x3 : Int) (x4 : Int) (M : q_Mem), q_Ok M → q_EX (d + 1) yX11_change cX11_change 7 (some .int) 33 [(0, .inr (.inr 0)), (1, .inl x1), (2, .inl x2), (3, .inl x3), (4, .inl x4)] [] M (fX11_change_33 n x1 x2 x3 x4 M) := by
  intro n
  induction n with
  | zero => intro x1 x2 x3 x4 M hO; exact q_none
  | succ n ih =>
    intro x1 x2 x3 x4 M hO
    rw [fX11_change_33]
    refine q_iload 4 dX11_change_33 rfl ?_
    refine q_aload_n 0 dX11_change_35 rfl rfl ?_
    refine q_gettL fl_X11_90 hO sh_0 rfl tr_0_11 dX11_change_36 (fun r21 _ hr21 => ?_)
    refine q_geti fl_X11_148 hr21 (q_inO hO hr21) rfl dX11_change_39 ?_
    refine q_icmpge (tgt := 134) dX11_change_42 (by decide) ?_ ?_
    · refine q_iconst dX11_change_134 ?_
      exact q_ret dX11_change_135 rfl
    · refine q_aload_n 0 dX11_change_45 rfl rfl ?_
      refine q_getx fl_X11_102 hO sh_0 rfl fx_0_13 dX11_change_46 ?_
      refine q_iload 4 dX11_change_49 rfl ?_
      refine q_iload_n 1 dX11_change_51 rfl rfl ?_
      refine q_aload_n 0 dX11_change_52 rfl rfl ?_
      refine q_getx fl_X11_58 hO sh_0 rfl fx_0_6 dX11_change_53 ?_
      refine q_geti fl_X11_155 sh_10 (q_inO hO sh_10) rfl dX11_change_56 ?_
      refine q_callVi (As := [.inl x4, .inl x1, .inl (M.2 10 0)]) hO mb_X5_lengthAt mv_X5_lengthAt ml_X11_218 sh_87 rfl dX11_change_59 (fun _ => rfl) rfl (Nat.le_of_ble_eq_true rfl) rfl (Nat.le_of_ble_eq_true rfl) (tX5_lengthAt (by omega) x4 x1 (M.2 10 0) M hO) (fun x21 M1 _ hO1 => ?_)
      refine q_istore (ls' := [(5, .inl x21), (0, .inr (.inr 0)), (1, .inl x1), (2, .inl x2), (3, .inl x3), (4, .inl x4)]) dX11_change_62 (by decide) rfl ?_
      refine q_iconst dX11_change_64 ?_
      refine q_istore (ls' := [(6, .inl 0), (5, .inl x21), (0, .inr (.inr 0)), (1, .inl x1), (2, .inl x2), (3, .inl x3), (4, .inl x4)]) dX11_change_65 (by decide) rfl ?_
      refine q_sub [2, 3, 4, 5, 6, 1, 0] rfl ?_
      exact tX11_change_67 hd (fX11_change_33 n) ih q_FU x1 x2 x3 x4 x21 0 M1 hO1
def fX11_change (x1 : Int) (x2 : Int) (x3 : Int) (M : q_Mem) : Option (Int × q_Mem) := q_bd (fX11_isStall x1 M) fun x21 M1 => if q_w x21 = 0 then (some ((-1), M1)) else (if q_w x2 < 0 then (some ((-1), M1)) else (if q_w 999 < q_w x2 then (some ((-1), M1)) else (if q_w x3 < 0 then (some ((-1), M1)) else (if q_w 1 < q_w x3 then (some ((-1), M1)) else ((fX11_change_33 q_FU x1 x2 x3 0 M1))))))
theorem tX11_change {d : Nat} (hd : 5 ≤ d) (x1 : Int) (x2 : Int) (x3 : Int) (M : q_Mem) (hO : q_Ok M) : q_EX d yX11_change cX11_change 7 (some .int) 0 (q_args 0 [.inr (.inr 0), .inl x1, .inl x2, .inl x3]) [] M (fX11_change x1 x2 x3 M) := by
  obtain ⟨d, rfl⟩ : ∃ d', d = d' + 1 := ⟨d - 1, by omega⟩
  have hd : 4 ≤ d := by omega
  show q_EX _ _ _ _ _ 0 [(0, .inr (.inr 0)), (1, .inl x1), (2, .inl x2), (3, .inl x3)] [] M _
  unfold fX11_change
  refine q_aload_n 0 dX11_change_0 rfl rfl ?_
  refine q_iload_n 1 dX11_change_1 rfl rfl ?_
  refine q_callVi (As := [.inl x1]) hO mb_X11_isStall mv_X11_isStall ml_X11_179 sh_0 rfl dX11_change_2 (fun _ => rfl) rfl (Nat.le_of_ble_eq_true rfl) rfl (Nat.le_of_ble_eq_true rfl) (tX11_isStall x1 M hO) (fun x21 M1 _ hO1 => ?_)
  refine q_ifeq (tgt := 28) dX11_change_5 (by decide) ?_ ?_
  · refine q_iconst dX11_change_28 ?_
    exact q_ret dX11_change_29 rfl
  · refine q_iload_n 2 dX11_change_8 rfl rfl ?_
    refine q_iflt (tgt := 28) dX11_change_9 (by decide) ?_ ?_
    · refine q_iconst dX11_change_28 ?_
      exact q_ret dX11_change_29 rfl
    · refine q_iload_n 2 dX11_change_12 rfl rfl ?_
      refine q_sipush dX11_change_13 (by decide) ?_
      refine q_icmpgt (tgt := 28) dX11_change_16 (by decide) ?_ ?_
      · refine q_iconst dX11_change_28 ?_
        exact q_ret dX11_change_29 rfl
      · refine q_iload_n 3 dX11_change_19 rfl rfl ?_
        refine q_iflt (tgt := 28) dX11_change_20 (by decide) ?_ ?_
        · refine q_iconst dX11_change_28 ?_
          exact q_ret dX11_change_29 rfl
        · refine q_iload_n 3 dX11_change_23 rfl rfl ?_
          refine q_iconst dX11_change_24 ?_
          refine q_icmple (tgt := 30) dX11_change_25 (by decide) ?_ ?_
          · refine q_iconst dX11_change_30 ?_
            refine q_istore (ls' := [(4, .inl 0), (0, .inr (.inr 0)), (1, .inl x1), (2, .inl x2), (3, .inl x3)]) dX11_change_31 (by decide) rfl ?_
            refine q_sub [1, 2, 3, 4, 0] rfl ?_
            exact tX11_change_33 hd q_FU x1 x2 x3 0 M1 hO1
          · refine q_iconst dX11_change_28 ?_
            exact q_ret dX11_change_29 rfl
def fX11_chalked_99 (K36 : Int → Int → Int → Int → Int → q_Mem → Option (Int × q_Mem)) (K51 : Int → Int → Int → Int → Int → Int → q_Mem → Option (Int × q_Mem)) (x1 : Int) (x2 : Int) (x3 : Int) (x4 : Int) (x5 : Int) (x6 : Int) (M : q_Mem) : Option (Int × q_Mem) := (K51 x1 x2 x3 x4 x5 (x6 + 1) M)
theorem tX11_chalked_99 {d : Nat} (hd : 4 ≤ d) (K36 : Int → Int → Int → Int → Int → q_Mem → Option (Int × q_Mem)) (hK36 : ∀ (x1 : Int) (x2 : Int) (x3 : Int) (x4 : Int) (x5 : Int) (M : q_Mem), q_Ok M → q_EX (d + 1) yX11_chalked cX11_chalked 7 (some .int) 36 [(0, .inr (.inr 0)), (1, .inl x1), (2, .inl x2), (3, .inl x3), (4, .inl x4), (5, .inl x5)] [] M (K36 x1 x2 x3 x4 x5 M)) (K51 : Int → Int → Int → Int → Int → Int → q_Mem → Option (Int × q_Mem)) (hK51 : ∀ (x1 : Int) (x2 : Int) (x3 : Int) (x4 : Int) (x5 : Int) (x6 : Int) (M : q_Mem), q_Ok M → q_EX (d + 1) yX11_chalked cX11_chalked 7 (some .int) 51 [(0, .inr (.inr 0)), (1, .inl x1), (2, .inl x2), (3, .inl x3), (4, .inl x4), (5, .inl x5), (6, .inl x6)] [] M (K51 x1 x2 x3 x4 x5 x6 M)) (x1 : Int) (x2 : Int) (x3 : Int) (x4 : Int) (x5 : Int) (x6 : Int) (M : q_Mem) (hO : q_Ok M) : q_EX (d + 1) yX11_chalked cX11_chalked 7 (some .int) 99 [(0, .inr (.inr 0)), (1, .inl x1), (2, .inl x2), (3, .inl x3), (4, .inl x4), (5, .inl x5), (6, .inl x6)] [] M (fX11_chalked_99 K36 K51 x1 x2 x3 x4 x5 x6 M) := by
  unfold fX11_chalked_99
  refine q_iinc (ls' := [(6, .inl (x6 + 1)), (0, .inr (.inr 0)), (1, .inl x1), (2, .inl x2), (3, .inl x3), (4, .inl x4), (5, .inl x5)]) 6 dX11_chalked_99 rfl (by decide) rfl ?_
  refine q_goto (tgt := 51) dX11_chalked_102 (by decide) ?_
  refine q_sub [1, 2, 3, 4, 5, 6, 0] rfl ?_
  exact hK51 x1 x2 x3 x4 x5 (x6 + 1) M hO
def fX11_chalked_51 (K36 : Int → Int → Int → Int → Int → q_Mem → Option (Int × q_Mem)) : Nat → Int → Int → Int → Int → Int → Int → q_Mem → Option (Int × q_Mem)
  | 0, _, _, _, _, _, _, _ => none
  | n + 1, x1, x2, x3, x4, x5, x6, M => q_let (M.2 0 11).toNat fun r21 => if q_w x6 < q_w (M.2 r21 7) then (q_bd (fX5_lengthAt x6 x1 x5 M) fun x21 M1 => if q_w x21 = q_w x2 then (if q_w x3 = 0 then ((fX11_chalked_99 K36 (fX11_chalked_51 K36 n) x1 x2 x3 (x4 + 1) x5 x6 M1)) else (if q_w x3 = q_w 1 then (some (x5, M1)) else (some (x6, M1)))) else ((fX11_chalked_99 K36 (fX11_chalked_51 K36 n) x1 x2 x3 x4 x5 x6 M1))) else ((K36 x1 x2 x3 x4 (x5 + 1) M))
theorem tX11_chalked_51 {d : Nat} (hd : 4 ≤ d) (K36 : Int → Int → Int → Int → Int → q_Mem → Option (Int × q_Mem)) (hK36 : ∀ (x1 : Int) (x2 : Int) (x3 : Int) (x4 : Int) (x5 : Int) (M : q_Mem), q_Ok M → q_EX (d + 1) yX11_chalked cX11_chalked 7 (some .int) 36 [(0, .inr (.inr 0)), (1, .inl x1), (2, .inl x2), (3, .inl x3), (4, .inl x4), (5, .inl x5)] [] M (K36 x1 x2 x3 x4 x5 M)) : ∀ (n : Nat) (x1 : Int) (x2 : Int) (x3 : Int) (x4 : Int) (x5 : Int) (x6 : Int) (M : q_Mem), q_Ok M → q_EX (d + 1) yX11_chalked cX11_chalked 7 (some .int) 51 [(0, .inr (.inr 0)), (1, .inl x1), (2, .inl x2), (3, .inl x3), (4, .inl x4), (5, .inl x5), (6, .inl x6)] [] M (fX11_chalked_51 K36 n x1 x2 x3 x4 x5 x6 M) := by
  intro n
  induction n with
  | zero => intro x1 x2 x3 x4 x5 x6 M hO; exact q_none
  | succ n ih =>
    intro x1 x2 x3 x4 x5 x6 M hO
    rw [fX11_chalked_51]
    refine q_iload 6 dX11_chalked_51 rfl ?_
    refine q_aload_n 0 dX11_chalked_53 rfl rfl ?_
    refine q_gettL fl_X11_90 hO sh_0 rfl tr_0_11 dX11_chalked_54 (fun r21 _ hr21 => ?_)
    refine q_geti fl_X11_148 hr21 (q_inO hO hr21) rfl dX11_chalked_57 ?_
    refine q_icmpge (tgt := 105) dX11_chalked_60 (by decide) ?_ ?_
    · refine q_iinc (ls' := [(5, .inl (x5 + 1)), (0, .inr (.inr 0)), (1, .inl x1), (2, .inl x2), (3, .inl x3), (4, .inl x4), (6, .inl x6)]) 5 dX11_chalked_105 rfl (by decide) rfl ?_
      refine q_goto (tgt := 36) dX11_chalked_108 (by decide) ?_
      refine q_sub [1, 2, 3, 4, 5, 0] rfl ?_
      exact hK36 x1 x2 x3 x4 (x5 + 1) M hO
    · refine q_aload_n 0 dX11_chalked_63 rfl rfl ?_
      refine q_getx fl_X11_102 hO sh_0 rfl fx_0_13 dX11_chalked_64 ?_
      refine q_iload 6 dX11_chalked_67 rfl ?_
      refine q_iload_n 1 dX11_chalked_69 rfl rfl ?_
      refine q_iload 5 dX11_chalked_70 rfl ?_
      refine q_callVi (As := [.inl x6, .inl x1, .inl x5]) hO mb_X5_lengthAt mv_X5_lengthAt ml_X11_218 sh_87 rfl dX11_chalked_72 (fun _ => rfl) rfl (Nat.le_of_ble_eq_true rfl) rfl (Nat.le_of_ble_eq_true rfl) (tX5_lengthAt (by omega) x6 x1 x5 M hO) (fun x21 M1 _ hO1 => ?_)
      refine q_iload_n 2 dX11_chalked_75 rfl rfl ?_
      refine q_icmpne (tgt := 99) dX11_chalked_76 (by decide) ?_ ?_
      · refine q_sub [0, 1, 2, 3, 4, 5, 6] rfl ?_
        exact tX11_chalked_99 hd K36 hK36 (fX11_chalked_51 K36 n) ih x1 x2 x3 x4 x5 x6 M1 hO1
      · refine q_iload_n 3 dX11_chalked_79 rfl rfl ?_
        refine q_ifeq (tgt := 96) dX11_chalked_80 (by decide) ?_ ?_
        · refine q_iinc (ls' := [(4, .inl (x4 + 1)), (0, .inr (.inr 0)), (1, .inl x1), (2, .inl x2), (3, .inl x3), (5, .inl x5), (6, .inl x6)]) 4 dX11_chalked_96 rfl (by decide) rfl ?_
          refine q_sub [1, 2, 3, 4, 0, 5, 6] rfl ?_
          exact tX11_chalked_99 hd K36 hK36 (fX11_chalked_51 K36 n) ih x1 x2 x3 (x4 + 1) x5 x6 M1 hO1
        · refine q_iload_n 3 dX11_chalked_83 rfl rfl ?_
          refine q_iconst dX11_chalked_84 ?_
          refine q_icmpne (tgt := 93) dX11_chalked_85 (by decide) ?_ ?_
          · refine q_iload 6 dX11_chalked_93 rfl ?_
            exact q_ret dX11_chalked_95 rfl
          · refine q_iload 5 dX11_chalked_88 rfl ?_
            refine q_goto (tgt := 95) dX11_chalked_90 (by decide) ?_
            exact q_ret dX11_chalked_95 rfl
def fX11_chalked_36  : Nat → Int → Int → Int → Int → Int → q_Mem → Option (Int × q_Mem)
  | 0, _, _, _, _, _, _ => none
  | n + 1, x1, x2, x3, x4, x5, M => q_let (M.2 0 11).toNat fun r21 => if q_w (M.2 r21 0) < q_w x5 then (if q_w x3 = 0 then (some (x4, M)) else (some ((-1), M))) else ((fX11_chalked_51 (fX11_chalked_36 n) q_FU x1 x2 x3 x4 x5 0 M))
theorem tX11_chalked_36 {d : Nat} (hd : 4 ≤ d) : ∀ (n : Nat) (x1 : Int) (x2 : Int) (x3 : Int) (x4 : Int) (x5 : Int) (M : q_Mem), q_Ok M → q_EX (d + 1) yX11_chalked cX11_chalked 7 (some .int) 36 [(0, .inr (.inr 0)), (1, .inl x1), (2, .inl x2), (3, .inl x3), (4, .inl x4), (5, .inl x5)] [] M (fX11_chalked_36 n x1 x2 x3 x4 x5 M) := by
  intro n
  induction n with
  | zero => intro x1 x2 x3 x4 x5 M hO; exact q_none
  | succ n ih =>
    intro x1 x2 x3 x4 x5 M hO
    rw [fX11_chalked_36]
    refine q_iload 5 dX11_chalked_36 rfl ?_
    refine q_aload_n 0 dX11_chalked_38 rfl rfl ?_
    refine q_gettL fl_X11_90 hO sh_0 rfl tr_0_11 dX11_chalked_39 (fun r21 _ hr21 => ?_)
    refine q_geti fl_X11_142 hr21 (q_inO hO hr21) rfl dX11_chalked_42 ?_
    refine q_icmpgt (tgt := 111) dX11_chalked_45 (by decide) ?_ ?_
    · refine q_iload_n 3 dX11_chalked_111 rfl rfl ?_
      refine q_ifne (tgt := 120) dX11_chalked_112 (by decide) ?_ ?_
      · refine q_iconst dX11_chalked_120 ?_
        exact q_ret dX11_chalked_121 rfl
      · refine q_iload 4 dX11_chalked_115 rfl ?_
        refine q_goto (tgt := 121) dX11_chalked_117 (by decide) ?_
        exact q_ret dX11_chalked_121 rfl
    · refine q_iconst dX11_chalked_48 ?_
      refine q_istore (ls' := [(6, .inl 0), (0, .inr (.inr 0)), (1, .inl x1), (2, .inl x2), (3, .inl x3), (4, .inl x4), (5, .inl x5)]) dX11_chalked_49 (by decide) rfl ?_
      refine q_sub [1, 2, 3, 4, 5, 6, 0] rfl ?_
      exact tX11_chalked_51 hd (fX11_chalked_36 n) ih q_FU x1 x2 x3 x4 x5 0 M hO
def fX11_chalked (x1 : Int) (x2 : Int) (x3 : Int) (M : q_Mem) : Option (Int × q_Mem) := q_bd (fX11_isStall x1 M) fun x21 M1 => if q_w x21 = 0 then (some ((-1), M1)) else (if q_w x2 < 0 then (some ((-1), M1)) else (if q_w 999 < q_w x2 then (some ((-1), M1)) else (if q_w x3 < 0 then (some ((-1), M1)) else (if q_w 2 < q_w x3 then (some ((-1), M1)) else ((fX11_chalked_36 q_FU x1 x2 x3 0 0 M1))))))
theorem tX11_chalked {d : Nat} (hd : 5 ≤ d) (x1 : Int) (x2 : Int) (x3 : Int) (M : q_Mem) (hO : q_Ok M) : q_EX d yX11_chalked cX11_chalked 7 (some .int) 0 (q_args 0 [.inr (.inr 0), .inl x1, .inl x2, .inl x3]) [] M (fX11_chalked x1 x2 x3 M) := by
  obtain ⟨d, rfl⟩ : ∃ d', d = d' + 1 := ⟨d - 1, by omega⟩
  have hd : 4 ≤ d := by omega
  show q_EX _ _ _ _ _ 0 [(0, .inr (.inr 0)), (1, .inl x1), (2, .inl x2), (3, .inl x3)] [] M _
  unfold fX11_chalked
  refine q_aload_n 0 dX11_chalked_0 rfl rfl ?_
  refine q_iload_n 1 dX11_chalked_1 rfl rfl ?_
  refine q_callVi (As := [.inl x1]) hO mb_X11_isStall mv_X11_isStall ml_X11_179 sh_0 rfl dX11_chalked_2 (fun _ => rfl) rfl (Nat.le_of_ble_eq_true rfl) rfl (Nat.le_of_ble_eq_true rfl) (tX11_isStall x1 M hO) (fun x21 M1 _ hO1 => ?_)
  refine q_ifeq (tgt := 28) dX11_chalked_5 (by decide) ?_ ?_
  · refine q_iconst dX11_chalked_28 ?_
    exact q_ret dX11_chalked_29 rfl
  · refine q_iload_n 2 dX11_chalked_8 rfl rfl ?_
    refine q_iflt (tgt := 28) dX11_chalked_9 (by decide) ?_ ?_
    · refine q_iconst dX11_chalked_28 ?_
      exact q_ret dX11_chalked_29 rfl
    · refine q_iload_n 2 dX11_chalked_12 rfl rfl ?_
      refine q_sipush dX11_chalked_13 (by decide) ?_
      refine q_icmpgt (tgt := 28) dX11_chalked_16 (by decide) ?_ ?_
      · refine q_iconst dX11_chalked_28 ?_
        exact q_ret dX11_chalked_29 rfl
      · refine q_iload_n 3 dX11_chalked_19 rfl rfl ?_
        refine q_iflt (tgt := 28) dX11_chalked_20 (by decide) ?_ ?_
        · refine q_iconst dX11_chalked_28 ?_
          exact q_ret dX11_chalked_29 rfl
        · refine q_iload_n 3 dX11_chalked_23 rfl rfl ?_
          refine q_iconst dX11_chalked_24 ?_
          refine q_icmple (tgt := 30) dX11_chalked_25 (by decide) ?_ ?_
          · refine q_iconst dX11_chalked_30 ?_
            refine q_istore (ls' := [(4, .inl 0), (0, .inr (.inr 0)), (1, .inl x1), (2, .inl x2), (3, .inl x3)]) dX11_chalked_31 (by decide) rfl ?_
            refine q_iconst dX11_chalked_33 ?_
            refine q_istore (ls' := [(5, .inl 0), (4, .inl 0), (0, .inr (.inr 0)), (1, .inl x1), (2, .inl x2), (3, .inl x3)]) dX11_chalked_34 (by decide) rfl ?_
            refine q_sub [2, 3, 4, 5, 1, 0] rfl ?_
            exact tX11_chalked_36 hd q_FU x1 x2 x3 0 0 M1 hO1
          · refine q_iconst dX11_chalked_28 ?_
            exact q_ret dX11_chalked_29 rfl
def fX11_see_31 (x1 : Int) (M : q_Mem) : Option (Int × q_Mem) := q_let (q_up M 1 1 0) fun M1 => if q_w x1 = 0 then (q_bd (fX11_refuse 1 M1) fun x21 M2 => some (x21, M2)) else (some ((M1.2 36 0), M1))
theorem tX11_see_31 {d : Nat} (hd : 2 ≤ d) (x1 : Int) (M : q_Mem) (hO : q_Ok M) : q_EX (d + 1) yX11_see cX11_see 2 (some .int) 31 [(0, .inr (.inr 0)), (1, .inl x1)] [] M (fX11_see_31 x1 M) := by
  unfold fX11_see_31
  refine q_aload_n 0 dX11_see_31 rfl rfl ?_
  refine q_getx fl_X11_14 hO sh_0 rfl fx_0_0 dX11_see_32 ?_
  refine q_iconst dX11_see_35 ?_
  refine q_puti fl_X11_113 sh_1 (q_inO hO sh_1) (fun h => q_Ok_put h sh_1 rfl) rfl dX11_see_36 (fun M1 hM1 => ?_)
  have hO1 : q_Ok M1 := by rw [hM1]; exact q_Ok_put hO sh_1 rfl
  refine q_iload_n 1 dX11_see_39 rfl rfl ?_
  refine q_ifeq (tgt := 53) dX11_see_40 (by decide) ?_ ?_
  · refine q_aload_n 0 dX11_see_53 rfl rfl ?_
    refine q_iconst dX11_see_54 ?_
    refine q_callVi (As := [.inl 1]) hO1 mb_X11_refuse mv_X11_refuse ml_X11_116 sh_0 rfl dX11_see_55 (fun _ => rfl) rfl (Nat.le_of_ble_eq_true rfl) rfl (Nat.le_of_ble_eq_true rfl) (tX11_refuse 1 M1 hO1) (fun x21 M2 _ hO2 => ?_)
    exact q_ret dX11_see_58 rfl
  · refine q_aload_n 0 dX11_see_43 rfl rfl ?_
    refine q_getx fl_X11_65 hO1 sh_0 rfl fx_0_7 dX11_see_44 ?_
    refine q_geti fl_X11_133 sh_36 (q_inO hO1 sh_36) rfl dX11_see_47 ?_
    refine q_goto (tgt := 58) dX11_see_50 (by decide) ?_
    exact q_ret dX11_see_58 rfl
def fX11_see (M : q_Mem) : Option (Int × q_Mem) := q_let (M.2 0 11).toNat fun r21 => q_bd (fX9_isSuch 1 r21 M) fun x21 M1 => if q_w x21 = 0 then ((fX11_see_31 x21 M1)) else (q_bd (fX9_take 1 M1) fun _ M2 => (fX11_see_31 x21 M2))
theorem tX11_see {d : Nat} (hd : 3 ≤ d) (M : q_Mem) (hO : q_Ok M) : q_EX d yX11_see cX11_see 2 (some .int) 0 (q_args 0 [.inr (.inr 0)]) [] M (fX11_see M) := by
  obtain ⟨d, rfl⟩ : ∃ d', d = d' + 1 := ⟨d - 1, by omega⟩
  have hd : 2 ≤ d := by omega
  show q_EX _ _ _ _ _ 0 [(0, .inr (.inr 0))] [] M _
  unfold fX11_see
  refine q_aload_n 0 dX11_see_0 rfl rfl ?_
  refine q_getx fl_X11_65 hO sh_0 rfl fx_0_7 dX11_see_1 ?_
  refine q_aload_n 0 dX11_see_4 rfl rfl ?_
  refine q_getx fl_X11_14 hO sh_0 rfl fx_0_0 dX11_see_5 ?_
  refine q_aload_n 0 dX11_see_8 rfl rfl ?_
  refine q_gettL fl_X11_90 hO sh_0 rfl tr_0_11 dX11_see_9 (fun r21 _ hr21 => ?_)
  refine q_callVi (As := [.inr (.inr 1), .inr (.inr r21)]) hO mb_X9_isSuch mv_X9_isSuch ml_X11_267 sh_36 rfl dX11_see_12 (fun _ => rfl) rfl (Nat.le_of_ble_eq_true rfl) rfl (Nat.le_of_ble_eq_true rfl) (tX9_isSuch (by omega) 1 r21 M hO sh_1 hr21) (fun x21 M1 _ hO1 => ?_)
  refine q_istore_n (ls' := [(1, .inl x21), (0, .inr (.inr 0))]) dX11_see_15 rfl (by decide) rfl ?_
  refine q_iload_n 0 dX11_see_16 rfl rfl ?_
  refine q_ifeq (tgt := 31) dX11_see_17 (by decide) ?_ ?_
  · refine q_sub [1, 0] rfl ?_
    exact tX11_see_31 hd x21 M1 hO1
  · refine q_aload_n 1 dX11_see_20 rfl rfl ?_
    refine q_getx fl_X11_65 hO1 sh_0 rfl fx_0_7 dX11_see_21 ?_
    refine q_aload_n 1 dX11_see_24 rfl rfl ?_
    refine q_getx fl_X11_14 hO1 sh_0 rfl fx_0_0 dX11_see_25 ?_
    refine q_callVv (As := [.inr (.inr 1)]) hO1 mb_X9_take mv_X9_take ml_X11_271 sh_36 rfl dX11_see_28 (fun _ => rfl) rfl (Nat.le_of_ble_eq_true rfl) rfl (Nat.le_of_ble_eq_true rfl) (tX9_take (by omega) 1 M1 hO1 sh_1) (fun _ M2 _ hO2 => ?_)
    refine q_sub [1, 0] rfl ?_
    exact tX11_see_31 hd x21 M2 hO2
def fX11_minutes_78 (K31 : Int → Int → Int → Int → Int → q_Mem → Option (Int × q_Mem)) (x1 : Int) (x2 : Int) (x3 : Int) (x4 : Int) (x5 : Int) (M : q_Mem) : Option (Int × q_Mem) := (K31 x1 x2 x3 x4 (x5 + 1) M)
theorem tX11_minutes_78 {d : Nat} (hd : 5 ≤ d) (K31 : Int → Int → Int → Int → Int → q_Mem → Option (Int × q_Mem)) (hK31 : ∀ (x1 : Int) (x2 : Int) (x3 : Int) (x4 : Int) (x5 : Int) (M : q_Mem), q_Ok M → q_EX (d + 1) yX11_minutes cX11_minutes 6 (some .int) 31 [(0, .inr (.inr 0)), (1, .inl x1), (2, .inl x2), (3, .inl x3), (4, .inl x4), (5, .inl x5)] [] M (K31 x1 x2 x3 x4 x5 M)) (x1 : Int) (x2 : Int) (x3 : Int) (x4 : Int) (x5 : Int) (M : q_Mem) (hO : q_Ok M) : q_EX (d + 1) yX11_minutes cX11_minutes 6 (some .int) 78 [(0, .inr (.inr 0)), (1, .inl x1), (2, .inl x2), (3, .inl x3), (4, .inl x4), (5, .inl x5)] [] M (fX11_minutes_78 K31 x1 x2 x3 x4 x5 M) := by
  unfold fX11_minutes_78
  refine q_iinc (ls' := [(5, .inl (x5 + 1)), (0, .inr (.inr 0)), (1, .inl x1), (2, .inl x2), (3, .inl x3), (4, .inl x4)]) 5 dX11_minutes_78 rfl (by decide) rfl ?_
  refine q_goto (tgt := 31) dX11_minutes_81 (by decide) ?_
  refine q_sub [1, 2, 3, 4, 5, 0] rfl ?_
  exact hK31 x1 x2 x3 x4 (x5 + 1) M hO
def fX11_minutes_73 (K31 : Int → Int → Int → Int → Int → q_Mem → Option (Int × q_Mem)) (x1 : Int) (x2 : Int) (x5 : Int) (s0 : Int) (M : q_Mem) : Option (Int × q_Mem) := (fX11_minutes_78 K31 x1 x2 s0 x5 x5 M)
theorem tX11_minutes_73 {d : Nat} (hd : 5 ≤ d) (K31 : Int → Int → Int → Int → Int → q_Mem → Option (Int × q_Mem)) (hK31 : ∀ (x1 : Int) (x2 : Int) (x3 : Int) (x4 : Int) (x5 : Int) (M : q_Mem), q_Ok M → q_EX (d + 1) yX11_minutes cX11_minutes 6 (some .int) 31 [(0, .inr (.inr 0)), (1, .inl x1), (2, .inl x2), (3, .inl x3), (4, .inl x4), (5, .inl x5)] [] M (K31 x1 x2 x3 x4 x5 M)) (x1 : Int) (x2 : Int) (x5 : Int) (s0 : Int) (M : q_Mem) (hO : q_Ok M) : q_EX (d + 1) yX11_minutes cX11_minutes 6 (some .int) 73 [(0, .inr (.inr 0)), (1, .inl x1), (2, .inl x2), (5, .inl x5)] [.inl s0] M (fX11_minutes_73 K31 x1 x2 x5 s0 M) := by
  unfold fX11_minutes_73
  refine q_istore_n (ls' := [(3, .inl s0), (0, .inr (.inr 0)), (1, .inl x1), (2, .inl x2), (5, .inl x5)]) dX11_minutes_73 rfl (by decide) rfl ?_
  refine q_iload 4 dX11_minutes_74 rfl ?_
  refine q_istore (ls' := [(4, .inl x5), (3, .inl s0), (0, .inr (.inr 0)), (1, .inl x1), (2, .inl x2), (5, .inl x5)]) dX11_minutes_76 (by decide) rfl ?_
  refine q_sub [2, 3, 4, 1, 0, 5] rfl ?_
  exact tX11_minutes_78 hd K31 hK31 x1 x2 s0 x5 x5 M hO
def fX11_minutes_31  : Nat → Int → Int → Int → Int → Int → q_Mem → Option (Int × q_Mem)
  | 0, _, _, _, _, _, _ => none
  | n + 1, x1, x2, x3, x4, x5, M => q_let (M.2 0 11).toNat fun r21 => if q_w (M.2 r21 0) < q_w x5 then (if q_w x1 = 0 then (some (x2, M)) else (if q_w x1 = q_w 1 then (some (x3, M)) else (some (x4, M)))) else (q_bd (fX9_wrongRows x5 M) fun x21 M1 => if q_w x21 = 0 then (if q_w x3 = q_w (-1) then ((fX11_minutes_73 (fX11_minutes_31 n) x1 (x2 + 1) x5 x5 M1)) else ((fX11_minutes_73 (fX11_minutes_31 n) x1 (x2 + 1) x5 x3 M1))) else ((fX11_minutes_78 (fX11_minutes_31 n) x1 x2 x3 x4 x5 M1)))
theorem tX11_minutes_31 {d : Nat} (hd : 5 ≤ d) : ∀ (n : Nat) (x1 : Int) (x2 : Int) (x3 : Int) (x4 : Int) (x5 : Int) (M : q_Mem), q_Ok M → q_EX (d + 1) yX11_minutes cX11_minutes 6 (some .int) 31 [(0, .inr (.inr 0)), (1, .inl x1), (2, .inl x2), (3, .inl x3), (4, .inl x4), (5, .inl x5)] [] M (fX11_minutes_31 n x1 x2 x3 x4 x5 M) := by
  intro n
  induction n with
  | zero => intro x1 x2 x3 x4 x5 M hO; exact q_none
  | succ n ih =>
    intro x1 x2 x3 x4 x5 M hO
    rw [fX11_minutes_31]
    refine q_iload 5 dX11_minutes_31 rfl ?_
    refine q_aload_n 0 dX11_minutes_33 rfl rfl ?_
    refine q_gettL fl_X11_90 hO sh_0 rfl tr_0_11 dX11_minutes_34 (fun r21 _ hr21 => ?_)
    refine q_geti fl_X11_142 hr21 (q_inO hO hr21) rfl dX11_minutes_37 ?_
    refine q_icmpgt (tgt := 84) dX11_minutes_40 (by decide) ?_ ?_
    · refine q_iload_n 1 dX11_minutes_84 rfl rfl ?_
      refine q_ifne (tgt := 90) dX11_minutes_85 (by decide) ?_ ?_
      · refine q_iload_n 1 dX11_minutes_90 rfl rfl ?_
        refine q_iconst dX11_minutes_91 ?_
        refine q_icmpne (tgt := 99) dX11_minutes_92 (by decide) ?_ ?_
        · refine q_iload 4 dX11_minutes_99 rfl ?_
          exact q_ret dX11_minutes_101 rfl
        · refine q_iload_n 3 dX11_minutes_95 rfl rfl ?_
          refine q_goto (tgt := 101) dX11_minutes_96 (by decide) ?_
          exact q_ret dX11_minutes_101 rfl
      · refine q_iload_n 2 dX11_minutes_88 rfl rfl ?_
        exact q_ret dX11_minutes_89 rfl
    · refine q_aload_n 0 dX11_minutes_43 rfl rfl ?_
      refine q_getx fl_X11_65 hO sh_0 rfl fx_0_7 dX11_minutes_44 ?_
      refine q_aload_n 0 dX11_minutes_47 rfl rfl ?_
      refine q_getx fl_X11_102 hO sh_0 rfl fx_0_13 dX11_minutes_48 ?_
      refine q_iload 5 dX11_minutes_51 rfl ?_
      refine q_callVi (As := [.inr (.inr 87), .inl x5]) hO mb_X9_wrongRows mv_X9_wrongRows ml_X11_274 sh_36 rfl dX11_minutes_53 (fun _ => rfl) rfl (Nat.le_of_ble_eq_true rfl) rfl (Nat.le_of_ble_eq_true rfl) (tX9_wrongRows (by omega) x5 M hO) (fun x21 M1 _ hO1 => ?_)
      refine q_ifne (tgt := 78) dX11_minutes_56 (by decide) ?_ ?_
      · refine q_sub [0, 1, 2, 3, 4, 5] rfl ?_
        exact tX11_minutes_78 hd (fX11_minutes_31 n) ih x1 x2 x3 x4 x5 M1 hO1
      · refine q_iinc (ls' := [(2, .inl (x2 + 1)), (0, .inr (.inr 0)), (1, .inl x1), (3, .inl x3), (4, .inl x4), (5, .inl x5)]) 2 dX11_minutes_59 rfl (by decide) rfl ?_
        refine q_iload_n 3 dX11_minutes_62 rfl rfl ?_
        refine q_iconst dX11_minutes_63 ?_
        refine q_icmpne (tgt := 72) dX11_minutes_64 (by decide) ?_ ?_
        · refine q_iload_n 3 dX11_minutes_72 rfl rfl ?_
          refine q_sub [1, 2, 0, 5] rfl ?_
          exact tX11_minutes_73 hd (fX11_minutes_31 n) ih x1 (x2 + 1) x5 x3 M1 hO1
        · refine q_iload 5 dX11_minutes_67 rfl ?_
          refine q_goto (tgt := 73) dX11_minutes_69 (by decide) ?_
          refine q_sub [1, 2, 0, 5] rfl ?_
          exact tX11_minutes_73 hd (fX11_minutes_31 n) ih x1 (x2 + 1) x5 x5 M1 hO1
def fX11_minutes (x1 : Int) (M : q_Mem) : Option (Int × q_Mem) := q_let (M.2 0 11).toNat fun r21 => if q_w (M.2 r21 0) = 0 then (some ((-1), M)) else (if q_w x1 < 0 then (some ((-1), M)) else (if q_w 2 < q_w x1 then (some ((-1), M)) else ((fX11_minutes_31 q_FU x1 0 (-1) (-1) 0 M))))
theorem tX11_minutes {d : Nat} (hd : 6 ≤ d) (x1 : Int) (M : q_Mem) (hO : q_Ok M) : q_EX d yX11_minutes cX11_minutes 6 (some .int) 0 (q_args 0 [.inr (.inr 0), .inl x1]) [] M (fX11_minutes x1 M) := by
  obtain ⟨d, rfl⟩ : ∃ d', d = d' + 1 := ⟨d - 1, by omega⟩
  have hd : 5 ≤ d := by omega
  show q_EX _ _ _ _ _ 0 [(0, .inr (.inr 0)), (1, .inl x1)] [] M _
  unfold fX11_minutes
  refine q_aload_n 0 dX11_minutes_0 rfl rfl ?_
  refine q_gettL fl_X11_90 hO sh_0 rfl tr_0_11 dX11_minutes_1 (fun r21 _ hr21 => ?_)
  refine q_geti fl_X11_142 hr21 (q_inO hO hr21) rfl dX11_minutes_4 ?_
  refine q_ifeq (tgt := 19) dX11_minutes_7 (by decide) ?_ ?_
  · refine q_iconst dX11_minutes_19 ?_
    exact q_ret dX11_minutes_20 rfl
  · refine q_iload_n 1 dX11_minutes_10 rfl rfl ?_
    refine q_iflt (tgt := 19) dX11_minutes_11 (by decide) ?_ ?_
    · refine q_iconst dX11_minutes_19 ?_
      exact q_ret dX11_minutes_20 rfl
    · refine q_iload_n 1 dX11_minutes_14 rfl rfl ?_
      refine q_iconst dX11_minutes_15 ?_
      refine q_icmple (tgt := 21) dX11_minutes_16 (by decide) ?_ ?_
      · refine q_iconst dX11_minutes_21 ?_
        refine q_istore_n (ls' := [(2, .inl 0), (0, .inr (.inr 0)), (1, .inl x1)]) dX11_minutes_22 rfl (by decide) rfl ?_
        refine q_iconst dX11_minutes_23 ?_
        refine q_istore_n (ls' := [(3, .inl (-1)), (2, .inl 0), (0, .inr (.inr 0)), (1, .inl x1)]) dX11_minutes_24 rfl (by decide) rfl ?_
        refine q_iconst dX11_minutes_25 ?_
        refine q_istore (ls' := [(4, .inl (-1)), (3, .inl (-1)), (2, .inl 0), (0, .inr (.inr 0)), (1, .inl x1)]) dX11_minutes_26 (by decide) rfl ?_
        refine q_iconst dX11_minutes_28 ?_
        refine q_istore (ls' := [(5, .inl 0), (4, .inl (-1)), (3, .inl (-1)), (2, .inl 0), (0, .inr (.inr 0)), (1, .inl x1)]) dX11_minutes_29 (by decide) rfl ?_
        refine q_sub [4, 5, 3, 2, 1, 0] rfl ?_
        exact tX11_minutes_31 hd q_FU x1 0 (-1) (-1) 0 M hO
      · refine q_iconst dX11_minutes_19 ?_
        exact q_ret dX11_minutes_20 rfl
