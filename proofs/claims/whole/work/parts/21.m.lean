def fX3_readStall (r1 : Nat) (M : q_Mem) : Option (Int × q_Mem) := q_let (M.2 r1 1) fun x21 => q_bd (fX3_hasRoom x21 6 M) fun x22 M1 => if q_w x22 = 0 then (some (0, M1)) else (q_bd (fX8_step M1) fun _ M2 => q_bd (fX8_takeName r1 M2) fun x23 M3 => (q_sto M3 (q_fr r1 2) 6 x21 x23).bind fun M4 => q_bd (fX8_takeWord 2 M4) fun _ M5 => q_bd (fX8_takeNumber 0 99 M5) fun x24 M6 => (q_sto M6 (q_fr r1 3) 6 x21 x24).bind fun M7 => q_bd (fX8_takeWord 3 M7) fun _ M8 => q_bd (fX8_takeNumber 0 9 M8) fun x25 M9 => (q_sto M9 (q_fr r1 4) 6 x21 x25).bind fun M10 => q_bd (fX8_takeWord 4 M10) fun _ M11 => q_bd (fX8_takeNumber 0 999 M11) fun x26 M12 => (q_sto M12 (q_fr r1 5) 6 x21 x26).bind fun M13 => q_bd (fX8_takeWord 5 M13) fun _ M14 => q_bd (fX8_takeNumber 0 400 M14) fun x27 M15 => (q_sto M15 (q_fr r1 6) 6 x21 x27).bind fun M16 => q_let (q_up M16 r1 1 ((M16.2 r1 1) + 1)) fun M17 => some (0, M17))
theorem tX3_readStall {d : Nat} (hd : 12 ≤ d) (r1 : Nat) (M : q_Mem) (hO : q_Ok M) (hr1 : q_shp r1 = (0, 2)) : q_EX d yX3_readStall cX3_readStall 3 none 0 (q_args 0 [.inr (.inr 9), .inr (.inr r1)]) [] M (fX3_readStall r1 M) := by
  obtain ⟨d, rfl⟩ : ∃ d', d = d' + 1 := ⟨d - 1, by omega⟩
  have hd : 11 ≤ d := by omega
  show q_EX _ _ _ _ _ 0 [(0, .inr (.inr 9)), (1, .inr (.inr r1))] [] M _
  unfold fX3_readStall
  refine q_aload_n 1 dX3_readStall_0 rfl rfl ?_
  refine q_geti fl_X3_111 hr1 (q_inO hO hr1) rfl dX3_readStall_1 ?_
  refine q_nameI (fun x21 _ => ?_)
  refine q_istore_n (ls' := [(2, .inl x21), (0, .inr (.inr 9)), (1, .inr (.inr r1))]) dX3_readStall_4 rfl (by decide) rfl ?_
  refine q_aload_n 1 dX3_readStall_5 rfl rfl ?_
  refine q_iload_n 0 dX3_readStall_6 rfl rfl ?_
  refine q_bipush dX3_readStall_7 (by decide) ?_
  refine q_callVi (As := [.inl x21, .inl 6]) hO mb_X3_hasRoom mv_X3_hasRoom ml_X3_87 sh_9 rfl dX3_readStall_9 (fun _ => rfl) rfl (Nat.le_of_ble_eq_true rfl) rfl (Nat.le_of_ble_eq_true rfl) (tX3_hasRoom (by omega) x21 6 M hO) (fun x22 M1 _ hO1 => ?_)
  refine q_ifne (tgt := 16) dX3_readStall_12 (by decide) ?_ ?_
  · refine q_aload_n 1 dX3_readStall_16 rfl rfl ?_
    refine q_getx fl_X3_9 hO1 sh_9 rfl fx_9_0 dX3_readStall_17 ?_
    refine q_callVv (As := []) hO1 mb_X8_step mv_X8_step ml_X3_58 sh_5 rfl dX3_readStall_20 (fun _ => rfl) rfl (Nat.le_of_ble_eq_true rfl) rfl (Nat.le_of_ble_eq_true rfl) (tX8_step (by omega) M1 hO1) (fun _ M2 _ hO2 => ?_)
    refine q_aload_n 2 dX3_readStall_23 rfl rfl ?_
    refine q_getx fl_X3_114 hO2 hr1 rfl (fs_2_2 hr1) dX3_readStall_24 ?_
    refine q_iload_n 0 dX3_readStall_27 rfl rfl ?_
    refine q_aload_n 1 dX3_readStall_28 rfl rfl ?_
    refine q_getx fl_X3_9 hO2 sh_9 rfl fx_9_0 dX3_readStall_29 ?_
    refine q_aload_n 2 dX3_readStall_32 rfl rfl ?_
    refine q_callVi (As := [.inr (.inr r1)]) hO2 mb_X8_takeName mv_X8_takeName ml_X3_118 sh_5 rfl dX3_readStall_33 (fun _ => rfl) rfl (Nat.le_of_ble_eq_true rfl) rfl (Nat.le_of_ble_eq_true rfl) (tX8_takeName (by omega) r1 M2 hO2 hr1) (fun x23 M3 _ hO3 => ?_)
    refine q_iast (ft_2_2 hr1) (q_inA hO3 (ft_2_2 hr1) (by decide)) dX3_readStall_36 (fun M4 _ _ hM4 => ?_)
    have hO4 : q_Ok M4 := by rw [hM4]; exact q_Ok_arr (t := 0) hO3 (ft_2_2 hr1) (by decide)
    refine q_aload_n 1 dX3_readStall_37 rfl rfl ?_
    refine q_getx fl_X3_9 hO4 sh_9 rfl fx_9_0 dX3_readStall_38 ?_
    refine q_iconst dX3_readStall_41 ?_
    refine q_callVv (As := [.inl 2]) hO4 mb_X8_takeWord mv_X8_takeWord ml_X3_122 sh_5 rfl dX3_readStall_42 (fun _ => rfl) rfl (Nat.le_of_ble_eq_true rfl) rfl (Nat.le_of_ble_eq_true rfl) (tX8_takeWord (by omega) 2 M4 hO4) (fun _ M5 _ hO5 => ?_)
    refine q_aload_n 2 dX3_readStall_45 rfl rfl ?_
    refine q_getx fl_X3_125 hO5 hr1 rfl (fs_2_3 hr1) dX3_readStall_46 ?_
    refine q_iload_n 0 dX3_readStall_49 rfl rfl ?_
    refine q_aload_n 1 dX3_readStall_50 rfl rfl ?_
    refine q_getx fl_X3_9 hO5 sh_9 rfl fx_9_0 dX3_readStall_51 ?_
    refine q_iconst dX3_readStall_54 ?_
    refine q_bipush dX3_readStall_55 (by decide) ?_
    refine q_callVi (As := [.inl 0, .inl 99]) hO5 mb_X8_takeNumber mv_X8_takeNumber ml_X3_61 sh_5 rfl dX3_readStall_57 (fun _ => rfl) rfl (Nat.le_of_ble_eq_true rfl) rfl (Nat.le_of_ble_eq_true rfl) (tX8_takeNumber (by omega) 0 99 M5 hO5) (fun x24 M6 _ hO6 => ?_)
    refine q_iast (ft_2_3 hr1) (q_inA hO6 (ft_2_3 hr1) (by decide)) dX3_readStall_60 (fun M7 _ _ hM7 => ?_)
    have hO7 : q_Ok M7 := by rw [hM7]; exact q_Ok_arr (t := 0) hO6 (ft_2_3 hr1) (by decide)
    refine q_aload_n 1 dX3_readStall_61 rfl rfl ?_
    refine q_getx fl_X3_9 hO7 sh_9 rfl fx_9_0 dX3_readStall_62 ?_
    refine q_iconst dX3_readStall_65 ?_
    refine q_callVv (As := [.inl 3]) hO7 mb_X8_takeWord mv_X8_takeWord ml_X3_122 sh_5 rfl dX3_readStall_66 (fun _ => rfl) rfl (Nat.le_of_ble_eq_true rfl) rfl (Nat.le_of_ble_eq_true rfl) (tX8_takeWord (by omega) 3 M7 hO7) (fun _ M8 _ hO8 => ?_)
    refine q_aload_n 2 dX3_readStall_69 rfl rfl ?_
    refine q_getx fl_X3_128 hO8 hr1 rfl (fs_2_4 hr1) dX3_readStall_70 ?_
    refine q_iload_n 0 dX3_readStall_73 rfl rfl ?_
    refine q_aload_n 1 dX3_readStall_74 rfl rfl ?_
    refine q_getx fl_X3_9 hO8 sh_9 rfl fx_9_0 dX3_readStall_75 ?_
    refine q_iconst dX3_readStall_78 ?_
    refine q_bipush dX3_readStall_79 (by decide) ?_
    refine q_callVi (As := [.inl 0, .inl 9]) hO8 mb_X8_takeNumber mv_X8_takeNumber ml_X3_61 sh_5 rfl dX3_readStall_81 (fun _ => rfl) rfl (Nat.le_of_ble_eq_true rfl) rfl (Nat.le_of_ble_eq_true rfl) (tX8_takeNumber (by omega) 0 9 M8 hO8) (fun x25 M9 _ hO9 => ?_)
    refine q_iast (ft_2_4 hr1) (q_inA hO9 (ft_2_4 hr1) (by decide)) dX3_readStall_84 (fun M10 _ _ hM10 => ?_)
    have hO10 : q_Ok M10 := by rw [hM10]; exact q_Ok_arr (t := 0) hO9 (ft_2_4 hr1) (by decide)
    refine q_aload_n 1 dX3_readStall_85 rfl rfl ?_
    refine q_getx fl_X3_9 hO10 sh_9 rfl fx_9_0 dX3_readStall_86 ?_
    refine q_iconst dX3_readStall_89 ?_
    refine q_callVv (As := [.inl 4]) hO10 mb_X8_takeWord mv_X8_takeWord ml_X3_122 sh_5 rfl dX3_readStall_90 (fun _ => rfl) rfl (Nat.le_of_ble_eq_true rfl) rfl (Nat.le_of_ble_eq_true rfl) (tX8_takeWord (by omega) 4 M10 hO10) (fun _ M11 _ hO11 => ?_)
    refine q_aload_n 2 dX3_readStall_93 rfl rfl ?_
    refine q_getx fl_X3_131 hO11 hr1 rfl (fs_2_5 hr1) dX3_readStall_94 ?_
    refine q_iload_n 0 dX3_readStall_97 rfl rfl ?_
    refine q_aload_n 1 dX3_readStall_98 rfl rfl ?_
    refine q_getx fl_X3_9 hO11 sh_9 rfl fx_9_0 dX3_readStall_99 ?_
    refine q_iconst dX3_readStall_102 ?_
    refine q_sipush dX3_readStall_103 (by decide) ?_
    refine q_callVi (As := [.inl 0, .inl 999]) hO11 mb_X8_takeNumber mv_X8_takeNumber ml_X3_61 sh_5 rfl dX3_readStall_106 (fun _ => rfl) rfl (Nat.le_of_ble_eq_true rfl) rfl (Nat.le_of_ble_eq_true rfl) (tX8_takeNumber (by omega) 0 999 M11 hO11) (fun x26 M12 _ hO12 => ?_)
    refine q_iast (ft_2_5 hr1) (q_inA hO12 (ft_2_5 hr1) (by decide)) dX3_readStall_109 (fun M13 _ _ hM13 => ?_)
    have hO13 : q_Ok M13 := by rw [hM13]; exact q_Ok_arr (t := 0) hO12 (ft_2_5 hr1) (by decide)
    refine q_aload_n 1 dX3_readStall_110 rfl rfl ?_
    refine q_getx fl_X3_9 hO13 sh_9 rfl fx_9_0 dX3_readStall_111 ?_
    refine q_iconst dX3_readStall_114 ?_
    refine q_callVv (As := [.inl 5]) hO13 mb_X8_takeWord mv_X8_takeWord ml_X3_122 sh_5 rfl dX3_readStall_115 (fun _ => rfl) rfl (Nat.le_of_ble_eq_true rfl) rfl (Nat.le_of_ble_eq_true rfl) (tX8_takeWord (by omega) 5 M13 hO13) (fun _ M14 _ hO14 => ?_)
    refine q_aload_n 2 dX3_readStall_118 rfl rfl ?_
    refine q_getx fl_X3_134 hO14 hr1 rfl (fs_2_6 hr1) dX3_readStall_119 ?_
    refine q_iload_n 0 dX3_readStall_122 rfl rfl ?_
    refine q_aload_n 1 dX3_readStall_123 rfl rfl ?_
    refine q_getx fl_X3_9 hO14 sh_9 rfl fx_9_0 dX3_readStall_124 ?_
    refine q_iconst dX3_readStall_127 ?_
    refine q_sipush dX3_readStall_128 (by decide) ?_
    refine q_callVi (As := [.inl 0, .inl 400]) hO14 mb_X8_takeNumber mv_X8_takeNumber ml_X3_61 sh_5 rfl dX3_readStall_131 (fun _ => rfl) rfl (Nat.le_of_ble_eq_true rfl) rfl (Nat.le_of_ble_eq_true rfl) (tX8_takeNumber (by omega) 0 400 M14 hO14) (fun x27 M15 _ hO15 => ?_)
    refine q_iast (ft_2_6 hr1) (q_inA hO15 (ft_2_6 hr1) (by decide)) dX3_readStall_134 (fun M16 _ _ hM16 => ?_)
    have hO16 : q_Ok M16 := by rw [hM16]; exact q_Ok_arr (t := 0) hO15 (ft_2_6 hr1) (by decide)
    refine q_aload_n 2 dX3_readStall_135 rfl rfl ?_
    refine q_dup dX3_readStall_136 rfl ?_
    refine q_geti fl_X3_111 hr1 (q_inO hO16 hr1) rfl dX3_readStall_137 ?_
    refine q_iconst dX3_readStall_140 ?_
    refine q_iadd dX3_readStall_141 ?_
    refine q_puti fl_X3_111 hr1 (q_inO hO16 hr1) (fun h => q_Ok_put h hr1 rfl) rfl dX3_readStall_142 (fun M17 hM17 => ?_)
    have hO17 : q_Ok M17 := by rw [hM17]; exact q_Ok_put hO16 hr1 rfl
    exact q_ret dX3_readStall_145 rfl
  · exact q_ret dX3_readStall_15 rfl
def fX3_readCoin (r1 : Nat) (M : q_Mem) : Option (Int × q_Mem) := q_let (M.2 r1 7) fun x21 => q_bd (fX3_hasRoom x21 8 M) fun x22 M1 => if q_w x22 = 0 then (some (0, M1)) else (q_bd (fX8_step M1) fun _ M2 => q_bd (fX8_takeName r1 M2) fun x23 M3 => (q_sto M3 (q_fr r1 8) 8 x21 x23).bind fun M4 => q_bd (fX8_takeWord 7 M4) fun _ M5 => q_bd (fX8_takeNumber 0 99 M5) fun x24 M6 => (q_sto M6 (q_fr r1 9) 8 x21 x24).bind fun M7 => q_bd (fX8_takeWord 8 M7) fun _ M8 => q_bd (fX8_takeNumber 0 9 M8) fun x25 M9 => (q_sto M9 (q_fr r1 10) 8 x21 x25).bind fun M10 => q_let (q_up M10 r1 7 ((M10.2 r1 7) + 1)) fun M11 => some (0, M11))
theorem tX3_readCoin {d : Nat} (hd : 12 ≤ d) (r1 : Nat) (M : q_Mem) (hO : q_Ok M) (hr1 : q_shp r1 = (0, 2)) : q_EX d yX3_readCoin cX3_readCoin 3 none 0 (q_args 0 [.inr (.inr 9), .inr (.inr r1)]) [] M (fX3_readCoin r1 M) := by
  obtain ⟨d, rfl⟩ : ∃ d', d = d' + 1 := ⟨d - 1, by omega⟩
  have hd : 11 ≤ d := by omega
  show q_EX _ _ _ _ _ 0 [(0, .inr (.inr 9)), (1, .inr (.inr r1))] [] M _
  unfold fX3_readCoin
  refine q_aload_n 1 dX3_readCoin_0 rfl rfl ?_
  refine q_geti fl_X3_137 hr1 (q_inO hO hr1) rfl dX3_readCoin_1 ?_
  refine q_nameI (fun x21 _ => ?_)
  refine q_istore_n (ls' := [(2, .inl x21), (0, .inr (.inr 9)), (1, .inr (.inr r1))]) dX3_readCoin_4 rfl (by decide) rfl ?_
  refine q_aload_n 1 dX3_readCoin_5 rfl rfl ?_
  refine q_iload_n 0 dX3_readCoin_6 rfl rfl ?_
  refine q_bipush dX3_readCoin_7 (by decide) ?_
  refine q_callVi (As := [.inl x21, .inl 8]) hO mb_X3_hasRoom mv_X3_hasRoom ml_X3_87 sh_9 rfl dX3_readCoin_9 (fun _ => rfl) rfl (Nat.le_of_ble_eq_true rfl) rfl (Nat.le_of_ble_eq_true rfl) (tX3_hasRoom (by omega) x21 8 M hO) (fun x22 M1 _ hO1 => ?_)
  refine q_ifne (tgt := 16) dX3_readCoin_12 (by decide) ?_ ?_
  · refine q_aload_n 1 dX3_readCoin_16 rfl rfl ?_
    refine q_getx fl_X3_9 hO1 sh_9 rfl fx_9_0 dX3_readCoin_17 ?_
    refine q_callVv (As := []) hO1 mb_X8_step mv_X8_step ml_X3_58 sh_5 rfl dX3_readCoin_20 (fun _ => rfl) rfl (Nat.le_of_ble_eq_true rfl) rfl (Nat.le_of_ble_eq_true rfl) (tX8_step (by omega) M1 hO1) (fun _ M2 _ hO2 => ?_)
    refine q_aload_n 2 dX3_readCoin_23 rfl rfl ?_
    refine q_getx fl_X3_140 hO2 hr1 rfl (fs_2_8 hr1) dX3_readCoin_24 ?_
    refine q_iload_n 0 dX3_readCoin_27 rfl rfl ?_
    refine q_aload_n 1 dX3_readCoin_28 rfl rfl ?_
    refine q_getx fl_X3_9 hO2 sh_9 rfl fx_9_0 dX3_readCoin_29 ?_
    refine q_aload_n 2 dX3_readCoin_32 rfl rfl ?_
    refine q_callVi (As := [.inr (.inr r1)]) hO2 mb_X8_takeName mv_X8_takeName ml_X3_118 sh_5 rfl dX3_readCoin_33 (fun _ => rfl) rfl (Nat.le_of_ble_eq_true rfl) rfl (Nat.le_of_ble_eq_true rfl) (tX8_takeName (by omega) r1 M2 hO2 hr1) (fun x23 M3 _ hO3 => ?_)
    refine q_iast (ft_2_8 hr1) (q_inA hO3 (ft_2_8 hr1) (by decide)) dX3_readCoin_36 (fun M4 _ _ hM4 => ?_)
    have hO4 : q_Ok M4 := by rw [hM4]; exact q_Ok_arr (t := 0) hO3 (ft_2_8 hr1) (by decide)
    refine q_aload_n 1 dX3_readCoin_37 rfl rfl ?_
    refine q_getx fl_X3_9 hO4 sh_9 rfl fx_9_0 dX3_readCoin_38 ?_
    refine q_bipush dX3_readCoin_41 (by decide) ?_
    refine q_callVv (As := [.inl 7]) hO4 mb_X8_takeWord mv_X8_takeWord ml_X3_122 sh_5 rfl dX3_readCoin_43 (fun _ => rfl) rfl (Nat.le_of_ble_eq_true rfl) rfl (Nat.le_of_ble_eq_true rfl) (tX8_takeWord (by omega) 7 M4 hO4) (fun _ M5 _ hO5 => ?_)
    refine q_aload_n 2 dX3_readCoin_46 rfl rfl ?_
    refine q_getx fl_X3_143 hO5 hr1 rfl (fs_2_9 hr1) dX3_readCoin_47 ?_
    refine q_iload_n 0 dX3_readCoin_50 rfl rfl ?_
    refine q_aload_n 1 dX3_readCoin_51 rfl rfl ?_
    refine q_getx fl_X3_9 hO5 sh_9 rfl fx_9_0 dX3_readCoin_52 ?_
    refine q_iconst dX3_readCoin_55 ?_
    refine q_bipush dX3_readCoin_56 (by decide) ?_
    refine q_callVi (As := [.inl 0, .inl 99]) hO5 mb_X8_takeNumber mv_X8_takeNumber ml_X3_61 sh_5 rfl dX3_readCoin_58 (fun _ => rfl) rfl (Nat.le_of_ble_eq_true rfl) rfl (Nat.le_of_ble_eq_true rfl) (tX8_takeNumber (by omega) 0 99 M5 hO5) (fun x24 M6 _ hO6 => ?_)
    refine q_iast (ft_2_9 hr1) (q_inA hO6 (ft_2_9 hr1) (by decide)) dX3_readCoin_61 (fun M7 _ _ hM7 => ?_)
    have hO7 : q_Ok M7 := by rw [hM7]; exact q_Ok_arr (t := 0) hO6 (ft_2_9 hr1) (by decide)
    refine q_aload_n 1 dX3_readCoin_62 rfl rfl ?_
    refine q_getx fl_X3_9 hO7 sh_9 rfl fx_9_0 dX3_readCoin_63 ?_
    refine q_bipush dX3_readCoin_66 (by decide) ?_
    refine q_callVv (As := [.inl 8]) hO7 mb_X8_takeWord mv_X8_takeWord ml_X3_122 sh_5 rfl dX3_readCoin_68 (fun _ => rfl) rfl (Nat.le_of_ble_eq_true rfl) rfl (Nat.le_of_ble_eq_true rfl) (tX8_takeWord (by omega) 8 M7 hO7) (fun _ M8 _ hO8 => ?_)
    refine q_aload_n 2 dX3_readCoin_71 rfl rfl ?_
    refine q_getx fl_X3_146 hO8 hr1 rfl (fs_2_10 hr1) dX3_readCoin_72 ?_
    refine q_iload_n 0 dX3_readCoin_75 rfl rfl ?_
    refine q_aload_n 1 dX3_readCoin_76 rfl rfl ?_
    refine q_getx fl_X3_9 hO8 sh_9 rfl fx_9_0 dX3_readCoin_77 ?_
    refine q_iconst dX3_readCoin_80 ?_
    refine q_bipush dX3_readCoin_81 (by decide) ?_
    refine q_callVi (As := [.inl 0, .inl 9]) hO8 mb_X8_takeNumber mv_X8_takeNumber ml_X3_61 sh_5 rfl dX3_readCoin_83 (fun _ => rfl) rfl (Nat.le_of_ble_eq_true rfl) rfl (Nat.le_of_ble_eq_true rfl) (tX8_takeNumber (by omega) 0 9 M8 hO8) (fun x25 M9 _ hO9 => ?_)
    refine q_iast (ft_2_10 hr1) (q_inA hO9 (ft_2_10 hr1) (by decide)) dX3_readCoin_86 (fun M10 _ _ hM10 => ?_)
    have hO10 : q_Ok M10 := by rw [hM10]; exact q_Ok_arr (t := 0) hO9 (ft_2_10 hr1) (by decide)
    refine q_aload_n 2 dX3_readCoin_87 rfl rfl ?_
    refine q_dup dX3_readCoin_88 rfl ?_
    refine q_geti fl_X3_137 hr1 (q_inO hO10 hr1) rfl dX3_readCoin_89 ?_
    refine q_iconst dX3_readCoin_92 ?_
    refine q_iadd dX3_readCoin_93 ?_
    refine q_puti fl_X3_137 hr1 (q_inO hO10 hr1) (fun h => q_Ok_put h hr1 rfl) rfl dX3_readCoin_94 (fun M11 hM11 => ?_)
    have hO11 : q_Ok M11 := by rw [hM11]; exact q_Ok_put hO10 hr1 rfl
    exact q_ret dX3_readCoin_97 rfl
  · exact q_ret dX3_readCoin_15 rfl
def fX3_readCloud (r1 : Nat) (M : q_Mem) : Option (Int × q_Mem) := q_let (M.2 r1 11) fun x21 => q_bd (fX3_hasRoom x21 8 M) fun x22 M1 => if q_w x22 = 0 then (some (0, M1)) else (q_bd (fX8_step M1) fun _ M2 => q_bd (fX8_takeNumber 0 400 M2) fun x23 M3 => (q_sto M3 (q_fr r1 12) 8 x21 x23).bind fun M4 => q_bd (fX8_takeWord 10 M4) fun _ M5 => (q_ld M5 (q_fr r1 12) 8 x21).bind fun x24 => q_bd (fX8_takeNumber x24 400 M5) fun x25 M6 => (q_sto M6 (q_fr r1 13) 8 x21 x25).bind fun M7 => q_let (q_up M7 r1 11 ((M7.2 r1 11) + 1)) fun M8 => some (0, M8))
theorem tX3_readCloud {d : Nat} (hd : 12 ≤ d) (r1 : Nat) (M : q_Mem) (hO : q_Ok M) (hr1 : q_shp r1 = (0, 2)) : q_EX d yX3_readCloud cX3_readCloud 3 none 0 (q_args 0 [.inr (.inr 9), .inr (.inr r1)]) [] M (fX3_readCloud r1 M) := by
  obtain ⟨d, rfl⟩ : ∃ d', d = d' + 1 := ⟨d - 1, by omega⟩
  have hd : 11 ≤ d := by omega
  show q_EX _ _ _ _ _ 0 [(0, .inr (.inr 9)), (1, .inr (.inr r1))] [] M _
  unfold fX3_readCloud
  refine q_aload_n 1 dX3_readCloud_0 rfl rfl ?_
  refine q_geti fl_X3_149 hr1 (q_inO hO hr1) rfl dX3_readCloud_1 ?_
  refine q_nameI (fun x21 _ => ?_)
  refine q_istore_n (ls' := [(2, .inl x21), (0, .inr (.inr 9)), (1, .inr (.inr r1))]) dX3_readCloud_4 rfl (by decide) rfl ?_
  refine q_aload_n 1 dX3_readCloud_5 rfl rfl ?_
  refine q_iload_n 0 dX3_readCloud_6 rfl rfl ?_
  refine q_bipush dX3_readCloud_7 (by decide) ?_
  refine q_callVi (As := [.inl x21, .inl 8]) hO mb_X3_hasRoom mv_X3_hasRoom ml_X3_87 sh_9 rfl dX3_readCloud_9 (fun _ => rfl) rfl (Nat.le_of_ble_eq_true rfl) rfl (Nat.le_of_ble_eq_true rfl) (tX3_hasRoom (by omega) x21 8 M hO) (fun x22 M1 _ hO1 => ?_)
  refine q_ifne (tgt := 16) dX3_readCloud_12 (by decide) ?_ ?_
  · refine q_aload_n 1 dX3_readCloud_16 rfl rfl ?_
    refine q_getx fl_X3_9 hO1 sh_9 rfl fx_9_0 dX3_readCloud_17 ?_
    refine q_callVv (As := []) hO1 mb_X8_step mv_X8_step ml_X3_58 sh_5 rfl dX3_readCloud_20 (fun _ => rfl) rfl (Nat.le_of_ble_eq_true rfl) rfl (Nat.le_of_ble_eq_true rfl) (tX8_step (by omega) M1 hO1) (fun _ M2 _ hO2 => ?_)
    refine q_aload_n 2 dX3_readCloud_23 rfl rfl ?_
    refine q_getx fl_X3_152 hO2 hr1 rfl (fs_2_12 hr1) dX3_readCloud_24 ?_
    refine q_iload_n 0 dX3_readCloud_27 rfl rfl ?_
    refine q_aload_n 1 dX3_readCloud_28 rfl rfl ?_
    refine q_getx fl_X3_9 hO2 sh_9 rfl fx_9_0 dX3_readCloud_29 ?_
    refine q_iconst dX3_readCloud_32 ?_
    refine q_sipush dX3_readCloud_33 (by decide) ?_
    refine q_callVi (As := [.inl 0, .inl 400]) hO2 mb_X8_takeNumber mv_X8_takeNumber ml_X3_61 sh_5 rfl dX3_readCloud_36 (fun _ => rfl) rfl (Nat.le_of_ble_eq_true rfl) rfl (Nat.le_of_ble_eq_true rfl) (tX8_takeNumber (by omega) 0 400 M2 hO2) (fun x23 M3 _ hO3 => ?_)
    refine q_iast (ft_2_12 hr1) (q_inA hO3 (ft_2_12 hr1) (by decide)) dX3_readCloud_39 (fun M4 _ _ hM4 => ?_)
    have hO4 : q_Ok M4 := by rw [hM4]; exact q_Ok_arr (t := 0) hO3 (ft_2_12 hr1) (by decide)
    refine q_aload_n 1 dX3_readCloud_40 rfl rfl ?_
    refine q_getx fl_X3_9 hO4 sh_9 rfl fx_9_0 dX3_readCloud_41 ?_
    refine q_bipush dX3_readCloud_44 (by decide) ?_
    refine q_callVv (As := [.inl 10]) hO4 mb_X8_takeWord mv_X8_takeWord ml_X3_122 sh_5 rfl dX3_readCloud_46 (fun _ => rfl) rfl (Nat.le_of_ble_eq_true rfl) rfl (Nat.le_of_ble_eq_true rfl) (tX8_takeWord (by omega) 10 M4 hO4) (fun _ M5 _ hO5 => ?_)
    refine q_aload_n 2 dX3_readCloud_49 rfl rfl ?_
    refine q_getx fl_X3_155 hO5 hr1 rfl (fs_2_13 hr1) dX3_readCloud_50 ?_
    refine q_iload_n 0 dX3_readCloud_53 rfl rfl ?_
    refine q_aload_n 1 dX3_readCloud_54 rfl rfl ?_
    refine q_getx fl_X3_9 hO5 sh_9 rfl fx_9_0 dX3_readCloud_55 ?_
    refine q_aload_n 2 dX3_readCloud_58 rfl rfl ?_
    refine q_getx fl_X3_152 hO5 hr1 rfl (fs_2_12 hr1) dX3_readCloud_59 ?_
    refine q_iload_n 0 dX3_readCloud_62 rfl rfl ?_
    refine q_iald (ft_2_12 hr1) (q_inA hO5 (ft_2_12 hr1) (by decide)) dX3_readCloud_63 (fun x24 _ _ _ => ?_)
    refine q_sipush dX3_readCloud_64 (by decide) ?_
    refine q_callVi (As := [.inl x24, .inl 400]) hO5 mb_X8_takeNumber mv_X8_takeNumber ml_X3_61 sh_5 rfl dX3_readCloud_67 (fun _ => rfl) rfl (Nat.le_of_ble_eq_true rfl) rfl (Nat.le_of_ble_eq_true rfl) (tX8_takeNumber (by omega) x24 400 M5 hO5) (fun x25 M6 _ hO6 => ?_)
    refine q_iast (ft_2_13 hr1) (q_inA hO6 (ft_2_13 hr1) (by decide)) dX3_readCloud_70 (fun M7 _ _ hM7 => ?_)
    have hO7 : q_Ok M7 := by rw [hM7]; exact q_Ok_arr (t := 0) hO6 (ft_2_13 hr1) (by decide)
    refine q_aload_n 2 dX3_readCloud_71 rfl rfl ?_
    refine q_dup dX3_readCloud_72 rfl ?_
    refine q_geti fl_X3_149 hr1 (q_inO hO7 hr1) rfl dX3_readCloud_73 ?_
    refine q_iconst dX3_readCloud_76 ?_
    refine q_iadd dX3_readCloud_77 ?_
    refine q_puti fl_X3_149 hr1 (q_inO hO7 hr1) (fun h => q_Ok_put h hr1 rfl) rfl dX3_readCloud_78 (fun M8 hM8 => ?_)
    have hO8 : q_Ok M8 := by rw [hM8]; exact q_Ok_put hO7 hr1 rfl
    exact q_ret dX3_readCloud_81 rfl
  · exact q_ret dX3_readCloud_15 rfl
def fX4_begin (r1 : Nat) (x2 : Int) (M : q_Mem) : Option (Int × q_Mem) := q_let (q_up M 8 1 (r1 : Int)) fun M1 => q_let (M1.2 8 1).toNat fun r21 => q_let (q_up M1 r21 1 0) fun M2 => q_let (q_up M2 8 2 x2) fun M3 => q_let (q_up M3 8 3 0) fun M4 => some (0, M4)
theorem tX4_begin {d : Nat} (r1 : Nat) (x2 : Int) (M : q_Mem) (hO : q_Ok M) (hr1 : q_shp r1 = (0, 0)) : q_EX d yX4_begin cX4_begin 3 none 0 (q_args 0 [.inr (.inr 8), .inr (.inr r1), .inl x2]) [] M (fX4_begin r1 x2 M) := by
  show q_EX _ _ _ _ _ 0 [(0, .inr (.inr 8)), (1, .inr (.inr r1)), (2, .inl x2)] [] M _
  unfold fX4_begin
  refine q_aload_n 0 dX4_begin_0 rfl rfl ?_
  refine q_aload_n 1 dX4_begin_1 rfl rfl ?_
  refine q_putr fl_X4_22 sh_8 (q_inO hO sh_8) (fun h => q_Ok_ref h tr_8_1 hr1) (fun h6 => absurd hO.1 (by omega)) rfl dX4_begin_2 (fun M1 hM1 => ?_)
  have hO1 : q_Ok M1 := by rw [hM1]; exact q_Ok_ref hO tr_8_1 hr1
  refine q_aload_n 0 dX4_begin_5 rfl rfl ?_
  refine q_gettL fl_X4_22 hO1 sh_8 rfl tr_8_1 dX4_begin_6 (fun r21 _ hr21 => ?_)
  refine q_iconst dX4_begin_9 ?_
  refine q_puti fl_X4_26 hr21 (q_inO hO1 hr21) (fun h => q_Ok_put h hr21 rfl) rfl dX4_begin_10 (fun M2 hM2 => ?_)
  have hO2 : q_Ok M2 := by rw [hM2]; exact q_Ok_put hO1 hr21 rfl
  refine q_aload_n 0 dX4_begin_13 rfl rfl ?_
  refine q_iload_n 2 dX4_begin_14 rfl rfl ?_
  refine q_puti fl_X4_11 sh_8 (q_inO hO2 sh_8) (fun h => q_Ok_put h sh_8 rfl) rfl dX4_begin_15 (fun M3 hM3 => ?_)
  have hO3 : q_Ok M3 := by rw [hM3]; exact q_Ok_put hO2 sh_8 rfl
  refine q_aload_n 0 dX4_begin_18 rfl rfl ?_
  refine q_iconst dX4_begin_19 ?_
  refine q_puti fl_X4_15 sh_8 (q_inO hO3 sh_8) (fun h => q_Ok_put h sh_8 rfl) rfl dX4_begin_20 (fun M4 hM4 => ?_)
  have hO4 : q_Ok M4 := by rw [hM4]; exact q_Ok_put hO3 sh_8 rfl
  exact q_ret dX4_begin_23 rfl
def fX8_isSign (x1 : Int) (M : q_Mem) : Option (Int × q_Mem) := if q_w (M.2 5 3) = q_w 3 then (if q_w (M.2 5 4) = q_w x1 then (some (1, M)) else (some (0, M))) else (some (0, M))
theorem tX8_isSign {d : Nat} (x1 : Int) (M : q_Mem) (hO : q_Ok M) : q_EX d yX8_isSign cX8_isSign 2 (some .boolean) 0 (q_args 0 [.inr (.inr 5), .inl x1]) [] M (fX8_isSign x1 M) := by
  show q_EX _ _ _ _ _ 0 [(0, .inr (.inr 5)), (1, .inl x1)] [] M _
  unfold fX8_isSign
  refine q_aload_n 0 dX8_isSign_0 rfl rfl ?_
  refine q_geti fl_X8_18 sh_5 (q_inO hO sh_5) rfl dX8_isSign_1 ?_
  refine q_iconst dX8_isSign_4 ?_
  refine q_icmpne (tgt := 20) dX8_isSign_5 (by decide) ?_ ?_
  · refine q_iconst dX8_isSign_20 ?_
    exact q_ret ⟨dX8_isSign_21, by decide⟩ rfl
  · refine q_aload_n 0 dX8_isSign_8 rfl rfl ?_
    refine q_geti fl_X8_21 sh_5 (q_inO hO sh_5) rfl dX8_isSign_9 ?_
    refine q_iload_n 1 dX8_isSign_12 rfl rfl ?_
    refine q_icmpne (tgt := 20) dX8_isSign_13 (by decide) ?_ ?_
    · refine q_iconst dX8_isSign_20 ?_
      exact q_ret ⟨dX8_isSign_21, by decide⟩ rfl
    · refine q_iconst dX8_isSign_16 ?_
      refine q_goto (tgt := 21) dX8_isSign_17 (by decide) ?_
      exact q_ret ⟨dX8_isSign_21, by decide⟩ rfl
def fX4_enter_24 (M : q_Mem) : Option (Int × q_Mem) := q_let (q_up M 8 3 ((M.2 8 3) + 1)) fun M1 => q_bd (fX8_step M1) fun _ M2 => some (0, M2)
theorem tX4_enter_24 {d : Nat} (hd : 10 ≤ d) (M : q_Mem) (hO : q_Ok M) : q_EX (d + 1) yX4_enter cX4_enter 1 none 24 [(0, .inr (.inr 8))] [] M (fX4_enter_24 M) := by
  unfold fX4_enter_24
  refine q_aload_n 0 dX4_enter_24 rfl rfl ?_
  refine q_dup dX4_enter_25 rfl ?_
  refine q_geti fl_X4_15 sh_8 (q_inO hO sh_8) rfl dX4_enter_26 ?_
  refine q_iconst dX4_enter_29 ?_
  refine q_iadd dX4_enter_30 ?_
  refine q_puti fl_X4_15 sh_8 (q_inO hO sh_8) (fun h => q_Ok_put h sh_8 rfl) rfl dX4_enter_31 (fun M1 hM1 => ?_)
  have hO1 : q_Ok M1 := by rw [hM1]; exact q_Ok_put hO sh_8 rfl
  refine q_aload_n 0 dX4_enter_34 rfl rfl ?_
  refine q_getx fl_X4_18 hO1 sh_8 rfl fx_8_0 dX4_enter_35 ?_
  refine q_callVv (As := []) hO1 mb_X8_step mv_X8_step ml_X4_40 sh_5 rfl dX4_enter_38 (fun _ => rfl) rfl (Nat.le_of_ble_eq_true rfl) rfl (Nat.le_of_ble_eq_true rfl) (tX8_step (by omega) M1 hO1) (fun _ M2 _ hO2 => ?_)
  exact q_ret dX4_enter_41 rfl
def fX4_enter (M : q_Mem) : Option (Int × q_Mem) := if q_w (M.2 8 3) < q_w 6 then ((fX4_enter_24 M)) else (q_bd (fX8_fail 4 (M.2 5 1) M) fun _ M1 => (fX4_enter_24 M1))
theorem tX4_enter {d : Nat} (hd : 11 ≤ d) (M : q_Mem) (hO : q_Ok M) : q_EX d yX4_enter cX4_enter 1 none 0 (q_args 0 [.inr (.inr 8)]) [] M (fX4_enter M) := by
  obtain ⟨d, rfl⟩ : ∃ d', d = d' + 1 := ⟨d - 1, by omega⟩
  have hd : 10 ≤ d := by omega
  show q_EX _ _ _ _ _ 0 [(0, .inr (.inr 8))] [] M _
  unfold fX4_enter
  refine q_aload_n 0 dX4_enter_0 rfl rfl ?_
  refine q_geti fl_X4_15 sh_8 (q_inO hO sh_8) rfl dX4_enter_1 ?_
  refine q_bipush dX4_enter_4 (by decide) ?_
  refine q_icmplt (tgt := 24) dX4_enter_6 (by decide) ?_ ?_
  · refine q_sub [0] rfl ?_
    exact tX4_enter_24 hd M hO
  · refine q_aload_n 0 dX4_enter_9 rfl rfl ?_
    refine q_getx fl_X4_18 hO sh_8 rfl fx_8_0 dX4_enter_10 ?_
    refine q_iconst dX4_enter_13 ?_
    refine q_aload_n 0 dX4_enter_14 rfl rfl ?_
    refine q_getx fl_X4_18 hO sh_8 rfl fx_8_0 dX4_enter_15 ?_
    refine q_geti fl_X4_71 sh_5 (q_inO hO sh_5) rfl dX4_enter_18 ?_
    refine q_callVv (As := [.inl 4, .inl (M.2 5 1)]) hO mb_X8_fail mv_X8_fail ml_X4_74 sh_5 rfl dX4_enter_21 (fun _ => rfl) rfl (Nat.le_of_ble_eq_true rfl) rfl (Nat.le_of_ble_eq_true rfl) (tX8_fail 4 (M.2 5 1) M hO) (fun _ M1 _ hO1 => ?_)
    refine q_sub [0] rfl ?_
    exact tX4_enter_24 hd M1 hO1
def fX8_takeSign (x1 : Int) (M : q_Mem) : Option (Int × q_Mem) := q_bd (fX8_isSign x1 M) fun x21 M1 => if q_w x21 = 0 then (q_bd (fX8_fail 1 (M1.2 5 1) M1) fun _ M2 => some (0, M2)) else (q_bd (fX8_step M1) fun _ M3 => some (0, M3))
theorem tX8_takeSign {d : Nat} (hd : 11 ≤ d) (x1 : Int) (M : q_Mem) (hO : q_Ok M) : q_EX d yX8_takeSign cX8_takeSign 2 none 0 (q_args 0 [.inr (.inr 5), .inl x1]) [] M (fX8_takeSign x1 M) := by
  obtain ⟨d, rfl⟩ : ∃ d', d = d' + 1 := ⟨d - 1, by omega⟩
  have hd : 10 ≤ d := by omega
  show q_EX _ _ _ _ _ 0 [(0, .inr (.inr 5)), (1, .inl x1)] [] M _
  unfold fX8_takeSign
  refine q_aload_n 0 dX8_takeSign_0 rfl rfl ?_
  refine q_iload_n 1 dX8_takeSign_1 rfl rfl ?_
  refine q_callVi (As := [.inl x1]) hO mb_X8_isSign mv_X8_isSign ml_X8_77 sh_5 rfl dX8_takeSign_2 (fun _ => rfl) rfl (Nat.le_of_ble_eq_true rfl) rfl (Nat.le_of_ble_eq_true rfl) (tX8_isSign x1 M hO) (fun x21 M1 _ hO1 => ?_)
  refine q_ifeq (tgt := 15) dX8_takeSign_5 (by decide) ?_ ?_
  · refine q_aload_n 0 dX8_takeSign_15 rfl rfl ?_
    refine q_iconst dX8_takeSign_16 ?_
    refine q_aload_n 0 dX8_takeSign_17 rfl rfl ?_
    refine q_geti fl_X8_9 sh_5 (q_inO hO1 sh_5) rfl dX8_takeSign_18 ?_
    refine q_callVv (As := [.inl 1, .inl (M1.2 5 1)]) hO1 mb_X8_fail mv_X8_fail ml_X8_73 sh_5 rfl dX8_takeSign_21 (fun _ => rfl) rfl (Nat.le_of_ble_eq_true rfl) rfl (Nat.le_of_ble_eq_true rfl) (tX8_fail 1 (M1.2 5 1) M1 hO1) (fun _ M2 _ hO2 => ?_)
    exact q_ret dX8_takeSign_24 rfl
  · refine q_aload_n 0 dX8_takeSign_8 rfl rfl ?_
    refine q_callVv (As := []) hO1 mb_X8_step mv_X8_step ml_X8_34 sh_5 rfl dX8_takeSign_9 (fun _ => rfl) rfl (Nat.le_of_ble_eq_true rfl) rfl (Nat.le_of_ble_eq_true rfl) (tX8_step (by omega) M1 hO1) (fun _ M3 _ hO3 => ?_)
    refine q_goto (tgt := 24) dX8_takeSign_12 (by decide) ?_
    exact q_ret dX8_takeSign_24 rfl
def fX4_leave (M : q_Mem) : Option (Int × q_Mem) := q_let (q_up M 8 3 ((M.2 8 3) - 1)) fun M1 => some (0, M1)
theorem tX4_leave {d : Nat} (M : q_Mem) (hO : q_Ok M) : q_EX d yX4_leave cX4_leave 1 none 0 (q_args 0 [.inr (.inr 8)]) [] M (fX4_leave M) := by
  show q_EX _ _ _ _ _ 0 [(0, .inr (.inr 8))] [] M _
  unfold fX4_leave
  refine q_aload_n 0 dX4_leave_0 rfl rfl ?_
  refine q_dup dX4_leave_1 rfl ?_
  refine q_geti fl_X4_15 sh_8 (q_inO hO sh_8) rfl dX4_leave_2 ?_
  refine q_iconst dX4_leave_5 ?_
  refine q_isub dX4_leave_6 ?_
  refine q_puti fl_X4_15 sh_8 (q_inO hO sh_8) (fun h => q_Ok_put h sh_8 rfl) rfl dX4_leave_7 (fun M1 hM1 => ?_)
  have hO1 : q_Ok M1 := by rw [hM1]; exact q_Ok_put hO sh_8 rfl
  exact q_ret dX4_leave_10 rfl
def fX4_isValue (x1 : Int) (M : q_Mem) : Option (Int × q_Mem) := if q_w x1 = 3 then if q_w (M.2 8 2) = q_w 2 then (some (0, M)) else (some (1, M)) else (if q_w x1 = 4 then if q_w (M.2 8 2) = q_w 1 then (some (1, M)) else (some (0, M)) else (if q_w x1 = 5 then some (0, M) else (if q_w x1 = 6 then some (0, M) else (if q_w x1 = 7 then some (1, M) else (if q_w x1 = 8 then some (1, M) else (if q_w x1 = 9 then some (0, M) else (if q_w x1 = 10 then some (0, M) else (if q_w x1 = 11 then some (0, M) else (if q_w x1 = 12 then some (0, M) else (if q_w x1 = 13 then some (0, M) else (if q_w x1 = 14 then some (0, M) else (if q_w x1 = 15 then if q_w (M.2 8 2) = q_w 1 then (some (1, M)) else (some (0, M)) else (if q_w x1 = 16 then some (1, M) else (if q_w x1 = 17 then if q_w (M.2 8 2) = q_w 2 then (some (1, M)) else (some (0, M)) else (if q_w x1 = 18 then if q_w (M.2 8 2) = q_w 2 then (some (1, M)) else (some (0, M)) else (some (0, M)))))))))))))))))
theorem tX4_isValue {d : Nat} (x1 : Int) (M : q_Mem) (hO : q_Ok M) : q_EX d yX4_isValue cX4_isValue 2 (some .boolean) 0 (q_args 0 [.inr (.inr 8), .inl x1]) [] M (fX4_isValue x1 M) := by
  show q_EX _ _ _ _ _ 0 [(0, .inr (.inr 8)), (1, .inl x1)] [] M _
  unfold fX4_isValue
  refine q_iload_n 1 dX4_isValue_0 rfl rfl ?_
  refine q_case (fun h1 => ?_) (fun h1 => ?_)
  · refine q_tswI (tgt := 82) h1 dX4_isValue_1 (by decide) (by decide) rfl (by decide) ?_
    refine q_aload_n 0 dX4_isValue_82 rfl rfl ?_
    refine q_geti fl_X4_11 sh_8 (q_inO hO sh_8) rfl dX4_isValue_83 ?_
    refine q_iconst dX4_isValue_86 ?_
    refine q_icmpeq (tgt := 94) dX4_isValue_87 (by decide) ?_ ?_
    · refine q_iconst dX4_isValue_94 ?_
      exact q_ret ⟨dX4_isValue_95, by decide⟩ rfl
    · refine q_iconst dX4_isValue_90 ?_
      refine q_goto (tgt := 95) dX4_isValue_91 (by decide) ?_
      exact q_ret ⟨dX4_isValue_95, by decide⟩ rfl
  · refine q_case (fun h2 => ?_) (fun h2 => ?_)
    · refine q_tswI (tgt := 96) h2 dX4_isValue_1 (by decide) (by decide) rfl (by decide) ?_
      refine q_aload_n 0 dX4_isValue_96 rfl rfl ?_
      refine q_geti fl_X4_11 sh_8 (q_inO hO sh_8) rfl dX4_isValue_97 ?_
      refine q_iconst dX4_isValue_100 ?_
      refine q_icmpne (tgt := 108) dX4_isValue_101 (by decide) ?_ ?_
      · refine q_iconst dX4_isValue_108 ?_
        exact q_ret ⟨dX4_isValue_109, by decide⟩ rfl
      · refine q_iconst dX4_isValue_104 ?_
        refine q_goto (tgt := 109) dX4_isValue_105 (by decide) ?_
        exact q_ret ⟨dX4_isValue_109, by decide⟩ rfl
    · refine q_case (fun h3 => ?_) (fun h3 => ?_)
      · refine q_tswI (tgt := 124) h3 dX4_isValue_1 (by decide) (by decide) rfl (by decide) ?_
        refine q_iconst dX4_isValue_124 ?_
        exact q_ret ⟨dX4_isValue_125, by decide⟩ rfl
      · refine q_case (fun h4 => ?_) (fun h4 => ?_)
        · refine q_tswI (tgt := 124) h4 dX4_isValue_1 (by decide) (by decide) rfl (by decide) ?_
          refine q_iconst dX4_isValue_124 ?_
          exact q_ret ⟨dX4_isValue_125, by decide⟩ rfl
        · refine q_case (fun h5 => ?_) (fun h5 => ?_)
          · refine q_tswI (tgt := 80) h5 dX4_isValue_1 (by decide) (by decide) rfl (by decide) ?_
            refine q_iconst dX4_isValue_80 ?_
            exact q_ret ⟨dX4_isValue_81, by decide⟩ rfl
          · refine q_case (fun h6 => ?_) (fun h6 => ?_)
            · refine q_tswI (tgt := 80) h6 dX4_isValue_1 (by decide) (by decide) rfl (by decide) ?_
              refine q_iconst dX4_isValue_80 ?_
              exact q_ret ⟨dX4_isValue_81, by decide⟩ rfl
            · refine q_case (fun h7 => ?_) (fun h7 => ?_)
              · refine q_tswI (tgt := 124) h7 dX4_isValue_1 (by decide) (by decide) rfl (by decide) ?_
                refine q_iconst dX4_isValue_124 ?_
                exact q_ret ⟨dX4_isValue_125, by decide⟩ rfl
              · refine q_case (fun h8 => ?_) (fun h8 => ?_)
                · refine q_tswI (tgt := 124) h8 dX4_isValue_1 (by decide) (by decide) rfl (by decide) ?_
                  refine q_iconst dX4_isValue_124 ?_
                  exact q_ret ⟨dX4_isValue_125, by decide⟩ rfl
                · refine q_case (fun h9 => ?_) (fun h9 => ?_)
                  · refine q_tswI (tgt := 124) h9 dX4_isValue_1 (by decide) (by decide) rfl (by decide) ?_
                    refine q_iconst dX4_isValue_124 ?_
                    exact q_ret ⟨dX4_isValue_125, by decide⟩ rfl
                  · refine q_case (fun h10 => ?_) (fun h10 => ?_)
                    · refine q_tswI (tgt := 124) h10 dX4_isValue_1 (by decide) (by decide) rfl (by decide) ?_
                      refine q_iconst dX4_isValue_124 ?_
                      exact q_ret ⟨dX4_isValue_125, by decide⟩ rfl
                    · refine q_case (fun h11 => ?_) (fun h11 => ?_)
                      · refine q_tswI (tgt := 124) h11 dX4_isValue_1 (by decide) (by decide) rfl (by decide) ?_
                        refine q_iconst dX4_isValue_124 ?_
                        exact q_ret ⟨dX4_isValue_125, by decide⟩ rfl
                      · refine q_case (fun h12 => ?_) (fun h12 => ?_)
                        · refine q_tswI (tgt := 124) h12 dX4_isValue_1 (by decide) (by decide) rfl (by decide) ?_
                          refine q_iconst dX4_isValue_124 ?_
                          exact q_ret ⟨dX4_isValue_125, by decide⟩ rfl
                        · refine q_case (fun h13 => ?_) (fun h13 => ?_)
                          · refine q_tswI (tgt := 96) h13 dX4_isValue_1 (by decide) (by decide) rfl (by decide) ?_
                            refine q_aload_n 0 dX4_isValue_96 rfl rfl ?_
                            refine q_geti fl_X4_11 sh_8 (q_inO hO sh_8) rfl dX4_isValue_97 ?_
                            refine q_iconst dX4_isValue_100 ?_
                            refine q_icmpne (tgt := 108) dX4_isValue_101 (by decide) ?_ ?_
                            · refine q_iconst dX4_isValue_108 ?_
                              exact q_ret ⟨dX4_isValue_109, by decide⟩ rfl
                            · refine q_iconst dX4_isValue_104 ?_
                              refine q_goto (tgt := 109) dX4_isValue_105 (by decide) ?_
                              exact q_ret ⟨dX4_isValue_109, by decide⟩ rfl
                          · refine q_case (fun h14 => ?_) (fun h14 => ?_)
                            · refine q_tswI (tgt := 80) h14 dX4_isValue_1 (by decide) (by decide) rfl (by decide) ?_
                              refine q_iconst dX4_isValue_80 ?_
                              exact q_ret ⟨dX4_isValue_81, by decide⟩ rfl
                            · refine q_case (fun h15 => ?_) (fun h15 => ?_)
                              · refine q_tswI (tgt := 110) h15 dX4_isValue_1 (by decide) (by decide) rfl (by decide) ?_
                                refine q_aload_n 0 dX4_isValue_110 rfl rfl ?_
                                refine q_geti fl_X4_11 sh_8 (q_inO hO sh_8) rfl dX4_isValue_111 ?_
                                refine q_iconst dX4_isValue_114 ?_
                                refine q_icmpne (tgt := 122) dX4_isValue_115 (by decide) ?_ ?_
                                · refine q_iconst dX4_isValue_122 ?_
                                  exact q_ret ⟨dX4_isValue_123, by decide⟩ rfl
                                · refine q_iconst dX4_isValue_118 ?_
                                  refine q_goto (tgt := 123) dX4_isValue_119 (by decide) ?_
                                  exact q_ret ⟨dX4_isValue_123, by decide⟩ rfl
                              · refine q_case (fun h16 => ?_) (fun h16 => ?_)
                                · refine q_tswI (tgt := 110) h16 dX4_isValue_1 (by decide) (by decide) rfl (by decide) ?_
                                  refine q_aload_n 0 dX4_isValue_110 rfl rfl ?_
                                  refine q_geti fl_X4_11 sh_8 (q_inO hO sh_8) rfl dX4_isValue_111 ?_
                                  refine q_iconst dX4_isValue_114 ?_
                                  refine q_icmpne (tgt := 122) dX4_isValue_115 (by decide) ?_ ?_
                                  · refine q_iconst dX4_isValue_122 ?_
                                    exact q_ret ⟨dX4_isValue_123, by decide⟩ rfl
                                  · refine q_iconst dX4_isValue_118 ?_
                                    refine q_goto (tgt := 123) dX4_isValue_119 (by decide) ?_
                                    exact q_ret ⟨dX4_isValue_123, by decide⟩ rfl
                                · refine q_tswO (tgt := 124) (by omega) dX4_isValue_1 (by decide) ?_
                                  refine q_iconst dX4_isValue_124 ?_
                                  exact q_ret ⟨dX4_isValue_125, by decide⟩ rfl
def q_TG (d t : Nat) (M : q_Mem) (o : Option (Int × q_Mem)) : Prop := match t with
  | 0 => q_EX d yX4_test cX4_test 2 none 0 (q_args 0 [.inr (.inr 8)]) [] M o
  | 1 => q_EX d yX4_both cX4_both 2 none 0 (q_args 0 [.inr (.inr 8)]) [] M o
  | 2 => q_EX d yX4_fact cX4_fact 2 none 0 (q_args 0 [.inr (.inr 8)]) [] M o
  | 3 => q_EX d yX4_sum cX4_sum 3 none 0 (q_args 0 [.inr (.inr 8)]) [] M o
  | 4 => q_EX d yX4_product cX4_product 3 none 0 (q_args 0 [.inr (.inr 8)]) [] M o
  | 5 => q_EX d yX4_part cX4_part 2 none 0 (q_args 0 [.inr (.inr 8)]) [] M o
  | 6 => q_EX d yX4_twoSums cX4_twoSums 1 none 0 (q_args 0 [.inr (.inr 8)]) [] M o
  | _ => True
def fX4_test_6 (G : Nat → q_Mem → Option (Int × q_Mem)) : Nat → Int → q_Mem → Option (Int × q_Mem)
  | 0, _, _ => none
  | n + 1, x1, M => if q_w x1 < q_w 1600 then (q_bd (fX8_isWord 19 M) fun x21 M1 => if q_w x21 = 0 then (some (0, M1)) else (q_bd (fX8_step M1) fun _ M2 => q_bd (G 1 M2) fun _ M3 => q_let (M3.2 8 1).toNat fun r21 => q_bd (fX0_putOperation r21 19 M3) fun _ M4 => (fX4_test_6 G n (x1 + 1) M4))) else (some (0, M))
theorem tX4_test_6 {d : Nat} (hd : 10 ≤ d) (G : Nat → q_Mem → Option (Int × q_Mem)) (hG : ∀ (t : Nat) (M : q_Mem), q_Ok M → q_TG d t M (G t M)) : ∀ (n : Nat) (x1 : Int) (M : q_Mem), q_Ok M → q_EX (d + 1) yX4_test cX4_test 2 none 6 [(0, .inr (.inr 8)), (1, .inl x1)] [] M (fX4_test_6 G n x1 M) := by
  intro n
  induction n with
  | zero => intro x1 M hO; exact q_none
  | succ n ih =>
    intro x1 M hO
    rw [fX4_test_6]
    refine q_iload_n 1 dX4_test_6 rfl rfl ?_
    refine q_sipush dX4_test_7 (by decide) ?_
    refine q_icmpge (tgt := 51) dX4_test_10 (by decide) ?_ ?_
    · exact q_ret dX4_test_51 rfl
    · refine q_aload_n 0 dX4_test_13 rfl rfl ?_
      refine q_getx fl_X4_18 hO sh_8 rfl fx_8_0 dX4_test_14 ?_
      refine q_bipush dX4_test_17 (by decide) ?_
      refine q_callVi (As := [.inl 19]) hO mb_X8_isWord mv_X8_isWord ml_X4_34 sh_5 rfl dX4_test_19 (fun _ => rfl) rfl (Nat.le_of_ble_eq_true rfl) rfl (Nat.le_of_ble_eq_true rfl) (tX8_isWord 19 M hO) (fun x21 M1 _ hO1 => ?_)
      refine q_ifeq (tgt := 51) dX4_test_22 (by decide) ?_ ?_
      · exact q_ret dX4_test_51 rfl
      · refine q_aload_n 0 dX4_test_25 rfl rfl ?_
        refine q_getx fl_X4_18 hO1 sh_8 rfl fx_8_0 dX4_test_26 ?_
        refine q_callVv (As := []) hO1 mb_X8_step mv_X8_step ml_X4_40 sh_5 rfl dX4_test_29 (fun _ => rfl) rfl (Nat.le_of_ble_eq_true rfl) rfl (Nat.le_of_ble_eq_true rfl) (tX8_step (by omega) M1 hO1) (fun _ M2 _ hO2 => ?_)
        refine q_aload_n 0 dX4_test_32 rfl rfl ?_
        refine q_callVv (As := []) hO2 mb_X4_both mv_X4_both ml_X4_31 sh_8 rfl dX4_test_33 (fun _ => rfl) rfl (Nat.le_of_ble_eq_true rfl) rfl (Nat.le_of_ble_eq_true rfl) (hG 1 M2 hO2) (fun _ M3 _ hO3 => ?_)
        refine q_aload_n 0 dX4_test_36 rfl rfl ?_
        refine q_gettL fl_X4_22 hO3 sh_8 rfl tr_8_1 dX4_test_37 (fun r21 _ hr21 => ?_)
        refine q_bipush dX4_test_40 (by decide) ?_
        refine q_callVv (As := [.inl 19]) hO3 mb_X0_putOperation mv_X0_putOperation ml_X4_43 hr21 rfl dX4_test_42 (fun _ => rfl) rfl (Nat.le_of_ble_eq_true rfl) rfl (Nat.le_of_ble_eq_true rfl) (tX0_putOperation (by omega) r21 19 M3 hO3 hr21) (fun _ M4 _ hO4 => ?_)
        refine q_iinc (ls' := [(1, .inl (x1 + 1)), (0, .inr (.inr 8))]) 1 dX4_test_45 rfl (by decide) rfl ?_
        refine q_goto (tgt := 6) dX4_test_48 (by decide) ?_
        refine q_sub [1, 0] rfl ?_
        exact ih (x1 + 1) M4 hO4
def fX4_test (G : Nat → q_Mem → Option (Int × q_Mem)) (M : q_Mem) : Option (Int × q_Mem) := q_bd (G 1 M) fun _ M1 => (fX4_test_6 G q_FU 0 M1)
theorem tX4_test {d : Nat} (hd : 10 ≤ d) (G : Nat → q_Mem → Option (Int × q_Mem)) (hG : ∀ (t : Nat) (M : q_Mem), q_Ok M → q_TG d t M (G t M)) (M : q_Mem) (hO : q_Ok M) : q_EX (d + 1) yX4_test cX4_test 2 none 0 (q_args 0 [.inr (.inr 8)]) [] M (fX4_test G M) := by
  show q_EX _ _ _ _ _ 0 [(0, .inr (.inr 8))] [] M _
  unfold fX4_test
  refine q_aload_n 0 dX4_test_0 rfl rfl ?_
  refine q_callVv (As := []) hO mb_X4_both mv_X4_both ml_X4_31 sh_8 rfl dX4_test_1 (fun _ => rfl) rfl (Nat.le_of_ble_eq_true rfl) rfl (Nat.le_of_ble_eq_true rfl) (hG 1 M hO) (fun _ M1 _ hO1 => ?_)
  refine q_iconst dX4_test_4 ?_
  refine q_istore_n (ls' := [(1, .inl 0), (0, .inr (.inr 8))]) dX4_test_5 rfl (by decide) rfl ?_
  refine q_sub [1, 0] rfl ?_
  exact tX4_test_6 hd G hG q_FU 0 M1 hO1
def fX4_both_6 (G : Nat → q_Mem → Option (Int × q_Mem)) : Nat → Int → q_Mem → Option (Int × q_Mem)
  | 0, _, _ => none
  | n + 1, x1, M => if q_w x1 < q_w 1600 then (q_bd (fX8_isWord 20 M) fun x21 M1 => if q_w x21 = 0 then (some (0, M1)) else (q_bd (fX8_step M1) fun _ M2 => q_bd (G 2 M2) fun _ M3 => q_let (M3.2 8 1).toNat fun r21 => q_bd (fX0_putOperation r21 20 M3) fun _ M4 => (fX4_both_6 G n (x1 + 1) M4))) else (some (0, M))
theorem tX4_both_6 {d : Nat} (hd : 10 ≤ d) (G : Nat → q_Mem → Option (Int × q_Mem)) (hG : ∀ (t : Nat) (M : q_Mem), q_Ok M → q_TG d t M (G t M)) : ∀ (n : Nat) (x1 : Int) (M : q_Mem), q_Ok M → q_EX (d + 1) yX4_both cX4_both 2 none 6 [(0, .inr (.inr 8)), (1, .inl x1)] [] M (fX4_both_6 G n x1 M) := by
  intro n
  induction n with
  | zero => intro x1 M hO; exact q_none
  | succ n ih =>
    intro x1 M hO
    rw [fX4_both_6]
    refine q_iload_n 1 dX4_both_6 rfl rfl ?_
    refine q_sipush dX4_both_7 (by decide) ?_
    refine q_icmpge (tgt := 51) dX4_both_10 (by decide) ?_ ?_
    · exact q_ret dX4_both_51 rfl
    · refine q_aload_n 0 dX4_both_13 rfl rfl ?_
      refine q_getx fl_X4_18 hO sh_8 rfl fx_8_0 dX4_both_14 ?_
      refine q_bipush dX4_both_17 (by decide) ?_
      refine q_callVi (As := [.inl 20]) hO mb_X8_isWord mv_X8_isWord ml_X4_34 sh_5 rfl dX4_both_19 (fun _ => rfl) rfl (Nat.le_of_ble_eq_true rfl) rfl (Nat.le_of_ble_eq_true rfl) (tX8_isWord 20 M hO) (fun x21 M1 _ hO1 => ?_)
      refine q_ifeq (tgt := 51) dX4_both_22 (by decide) ?_ ?_
      · exact q_ret dX4_both_51 rfl
      · refine q_aload_n 0 dX4_both_25 rfl rfl ?_
        refine q_getx fl_X4_18 hO1 sh_8 rfl fx_8_0 dX4_both_26 ?_
        refine q_callVv (As := []) hO1 mb_X8_step mv_X8_step ml_X4_40 sh_5 rfl dX4_both_29 (fun _ => rfl) rfl (Nat.le_of_ble_eq_true rfl) rfl (Nat.le_of_ble_eq_true rfl) (tX8_step (by omega) M1 hO1) (fun _ M2 _ hO2 => ?_)
        refine q_aload_n 0 dX4_both_32 rfl rfl ?_
        refine q_callVv (As := []) hO2 mb_X4_fact mv_X4_fact ml_X4_47 sh_8 rfl dX4_both_33 (fun _ => rfl) rfl (Nat.le_of_ble_eq_true rfl) rfl (Nat.le_of_ble_eq_true rfl) (hG 2 M2 hO2) (fun _ M3 _ hO3 => ?_)
        refine q_aload_n 0 dX4_both_36 rfl rfl ?_
        refine q_gettL fl_X4_22 hO3 sh_8 rfl tr_8_1 dX4_both_37 (fun r21 _ hr21 => ?_)
        refine q_bipush dX4_both_40 (by decide) ?_
        refine q_callVv (As := [.inl 20]) hO3 mb_X0_putOperation mv_X0_putOperation ml_X4_43 hr21 rfl dX4_both_42 (fun _ => rfl) rfl (Nat.le_of_ble_eq_true rfl) rfl (Nat.le_of_ble_eq_true rfl) (tX0_putOperation (by omega) r21 20 M3 hO3 hr21) (fun _ M4 _ hO4 => ?_)
        refine q_iinc (ls' := [(1, .inl (x1 + 1)), (0, .inr (.inr 8))]) 1 dX4_both_45 rfl (by decide) rfl ?_
        refine q_goto (tgt := 6) dX4_both_48 (by decide) ?_
        refine q_sub [1, 0] rfl ?_
        exact ih (x1 + 1) M4 hO4
def fX4_both (G : Nat → q_Mem → Option (Int × q_Mem)) (M : q_Mem) : Option (Int × q_Mem) := q_bd (G 2 M) fun _ M1 => (fX4_both_6 G q_FU 0 M1)
theorem tX4_both {d : Nat} (hd : 10 ≤ d) (G : Nat → q_Mem → Option (Int × q_Mem)) (hG : ∀ (t : Nat) (M : q_Mem), q_Ok M → q_TG d t M (G t M)) (M : q_Mem) (hO : q_Ok M) : q_EX (d + 1) yX4_both cX4_both 2 none 0 (q_args 0 [.inr (.inr 8)]) [] M (fX4_both G M) := by
  show q_EX _ _ _ _ _ 0 [(0, .inr (.inr 8))] [] M _
  unfold fX4_both
  refine q_aload_n 0 dX4_both_0 rfl rfl ?_
  refine q_callVv (As := []) hO mb_X4_fact mv_X4_fact ml_X4_47 sh_8 rfl dX4_both_1 (fun _ => rfl) rfl (Nat.le_of_ble_eq_true rfl) rfl (Nat.le_of_ble_eq_true rfl) (hG 2 M hO) (fun _ M1 _ hO1 => ?_)
  refine q_iconst dX4_both_4 ?_
  refine q_istore_n (ls' := [(1, .inl 0), (0, .inr (.inr 8))]) dX4_both_5 rfl (by decide) rfl ?_
  refine q_sub [1, 0] rfl ?_
  exact tX4_both_6 hd G hG q_FU 0 M1 hO1
def fX4_fact_166 (G : Nat → q_Mem → Option (Int × q_Mem)) (x1 : Int) (M : q_Mem) : Option (Int × q_Mem) := q_bd (fX8_step M) fun _ M1 => q_bd (G 3 M1) fun _ M2 => q_let (M2.2 8 1).toNat fun r21 => q_bd (fX0_putOperation r21 x1 M2) fun _ M3 => some (0, M3)
theorem tX4_fact_166 {d : Nat} (hd : 11 ≤ d) (G : Nat → q_Mem → Option (Int × q_Mem)) (hG : ∀ (t : Nat) (M : q_Mem), q_Ok M → q_TG d t M (G t M)) (x1 : Int) (M : q_Mem) (hO : q_Ok M) : q_EX (d + 1) yX4_fact cX4_fact 2 none 166 [(0, .inr (.inr 8)), (1, .inl x1)] [] M (fX4_fact_166 G x1 M) := by
  unfold fX4_fact_166
  refine q_aload_n 0 dX4_fact_166 rfl rfl ?_
  refine q_getx fl_X4_18 hO sh_8 rfl fx_8_0 dX4_fact_167 ?_
  refine q_callVv (As := []) hO mb_X8_step mv_X8_step ml_X4_40 sh_5 rfl dX4_fact_170 (fun _ => rfl) rfl (Nat.le_of_ble_eq_true rfl) rfl (Nat.le_of_ble_eq_true rfl) (tX8_step (by omega) M hO) (fun _ M1 _ hO1 => ?_)
  refine q_aload_n 0 dX4_fact_173 rfl rfl ?_
  refine q_callVv (As := []) hO1 mb_X4_sum mv_X4_sum ml_X4_65 sh_8 rfl dX4_fact_174 (fun _ => rfl) rfl (Nat.le_of_ble_eq_true rfl) rfl (Nat.le_of_ble_eq_true rfl) (hG 3 M1 hO1) (fun _ M2 _ hO2 => ?_)
  refine q_aload_n 0 dX4_fact_177 rfl rfl ?_
  refine q_gettL fl_X4_22 hO2 sh_8 rfl tr_8_1 dX4_fact_178 (fun r21 _ hr21 => ?_)
  refine q_iload_n 1 dX4_fact_181 rfl rfl ?_
  refine q_callVv (As := [.inl x1]) hO2 mb_X0_putOperation mv_X0_putOperation ml_X4_43 hr21 rfl dX4_fact_182 (fun _ => rfl) rfl (Nat.le_of_ble_eq_true rfl) rfl (Nat.le_of_ble_eq_true rfl) (tX0_putOperation (by omega) r21 x1 M2 hO2 hr21) (fun _ M3 _ hO3 => ?_)
  exact q_ret dX4_fact_185 rfl
def fX4_fact (G : Nat → q_Mem → Option (Int × q_Mem)) (M : q_Mem) : Option (Int × q_Mem) := q_bd (fX8_isWord 21 M) fun x21 M1 => if q_w x21 = 0 then (q_bd (fX8_isSign 91 M1) fun x22 M2 => if q_w x22 = 0 then (q_bd (fX8_isWord 22 M2) fun x23 M3 => if q_w x23 = 0 then (q_bd (G 3 M3) fun _ M4 => q_let (M4.2 5 4) fun x24 => q_bd (fX8_isSign 60 M4) fun x25 M5 => if q_w x25 = 0 then (q_bd (fX8_isSign 62 M5) fun x26 M6 => if q_w x26 = 0 then (q_bd (fX8_isSign 61 M6) fun x27 M7 => if q_w x27 = 0 then (q_bd (fX8_fail 1 (M7.2 5 1) M7) fun _ M8 => (fX4_fact_166 G x24 M8)) else ((fX4_fact_166 G x24 M7))) else ((fX4_fact_166 G x24 M6))) else ((fX4_fact_166 G x24 M5))) else (q_bd (fX8_step M3) fun _ M9 => q_let (M9.2 8 1).toNat fun r21 => q_bd (fX0_putOperation r21 22 M9) fun _ M10 => some (0, M10))) else (q_bd (fX4_enter M2) fun _ M11 => q_bd (G 0 M11) fun _ M12 => q_bd (fX8_takeSign 93 M12) fun _ M13 => q_bd (fX4_leave M13) fun _ M14 => some (0, M14))) else (q_bd (fX4_enter M1) fun _ M15 => q_bd (G 2 M15) fun _ M16 => q_bd (fX4_leave M16) fun _ M17 => q_let (M17.2 8 1).toNat fun r22 => q_bd (fX0_putOperation r22 21 M17) fun _ M18 => some (0, M18))
theorem tX4_fact {d : Nat} (hd : 11 ≤ d) (G : Nat → q_Mem → Option (Int × q_Mem)) (hG : ∀ (t : Nat) (M : q_Mem), q_Ok M → q_TG d t M (G t M)) (M : q_Mem) (hO : q_Ok M) : q_EX (d + 1) yX4_fact cX4_fact 2 none 0 (q_args 0 [.inr (.inr 8)]) [] M (fX4_fact G M) := by
  show q_EX _ _ _ _ _ 0 [(0, .inr (.inr 8))] [] M _
  unfold fX4_fact
  refine q_aload_n 0 dX4_fact_0 rfl rfl ?_
  refine q_getx fl_X4_18 hO sh_8 rfl fx_8_0 dX4_fact_1 ?_
  refine q_bipush dX4_fact_4 (by decide) ?_
  refine q_callVi (As := [.inl 21]) hO mb_X8_isWord mv_X8_isWord ml_X4_34 sh_5 rfl dX4_fact_6 (fun _ => rfl) rfl (Nat.le_of_ble_eq_true rfl) rfl (Nat.le_of_ble_eq_true rfl) (tX8_isWord 21 M hO) (fun x21 M1 _ hO1 => ?_)
  refine q_ifeq (tgt := 36) dX4_fact_9 (by decide) ?_ ?_
  · refine q_aload_n 0 dX4_fact_36 rfl rfl ?_
    refine q_getx fl_X4_18 hO1 sh_8 rfl fx_8_0 dX4_fact_37 ?_
    refine q_bipush dX4_fact_40 (by decide) ?_
    refine q_callVi (As := [.inl 91]) hO1 mb_X8_isSign mv_X8_isSign ml_X4_56 sh_5 rfl dX4_fact_42 (fun _ => rfl) rfl (Nat.le_of_ble_eq_true rfl) rfl (Nat.le_of_ble_eq_true rfl) (tX8_isSign 91 M1 hO1) (fun x22 M2 _ hO2 => ?_)
    refine q_ifeq (tgt := 72) dX4_fact_45 (by decide) ?_ ?_
    · refine q_aload_n 0 dX4_fact_72 rfl rfl ?_
      refine q_getx fl_X4_18 hO2 sh_8 rfl fx_8_0 dX4_fact_73 ?_
      refine q_bipush dX4_fact_76 (by decide) ?_
      refine q_callVi (As := [.inl 22]) hO2 mb_X8_isWord mv_X8_isWord ml_X4_34 sh_5 rfl dX4_fact_78 (fun _ => rfl) rfl (Nat.le_of_ble_eq_true rfl) rfl (Nat.le_of_ble_eq_true rfl) (tX8_isWord 22 M2 hO2) (fun x23 M3 _ hO3 => ?_)
      refine q_ifeq (tgt := 103) dX4_fact_81 (by decide) ?_ ?_
      · refine q_aload_n 0 dX4_fact_103 rfl rfl ?_
        refine q_callVv (As := []) hO3 mb_X4_sum mv_X4_sum ml_X4_65 sh_8 rfl dX4_fact_104 (fun _ => rfl) rfl (Nat.le_of_ble_eq_true rfl) rfl (Nat.le_of_ble_eq_true rfl) (hG 3 M3 hO3) (fun _ M4 _ hO4 => ?_)
        refine q_aload_n 0 dX4_fact_107 rfl rfl ?_
        refine q_getx fl_X4_18 hO4 sh_8 rfl fx_8_0 dX4_fact_108 ?_
        refine q_geti fl_X4_68 sh_5 (q_inO hO4 sh_5) rfl dX4_fact_111 ?_
        refine q_nameI (fun x24 _ => ?_)
        refine q_istore_n (ls' := [(1, .inl x24), (0, .inr (.inr 8))]) dX4_fact_114 rfl (by decide) rfl ?_
        refine q_aload_n 1 dX4_fact_115 rfl rfl ?_
        refine q_getx fl_X4_18 hO4 sh_8 rfl fx_8_0 dX4_fact_116 ?_
        refine q_bipush dX4_fact_119 (by decide) ?_
        refine q_callVi (As := [.inl 60]) hO4 mb_X8_isSign mv_X8_isSign ml_X4_56 sh_5 rfl dX4_fact_121 (fun _ => rfl) rfl (Nat.le_of_ble_eq_true rfl) rfl (Nat.le_of_ble_eq_true rfl) (tX8_isSign 60 M4 hO4) (fun x25 M5 _ hO5 => ?_)
        refine q_ifne (tgt := 166) dX4_fact_124 (by decide) ?_ ?_
        · refine q_sub [1, 0] rfl ?_
          exact tX4_fact_166 hd G hG x24 M5 hO5
        · refine q_aload_n 1 dX4_fact_127 rfl rfl ?_
          refine q_getx fl_X4_18 hO5 sh_8 rfl fx_8_0 dX4_fact_128 ?_
          refine q_bipush dX4_fact_131 (by decide) ?_
          refine q_callVi (As := [.inl 62]) hO5 mb_X8_isSign mv_X8_isSign ml_X4_56 sh_5 rfl dX4_fact_133 (fun _ => rfl) rfl (Nat.le_of_ble_eq_true rfl) rfl (Nat.le_of_ble_eq_true rfl) (tX8_isSign 62 M5 hO5) (fun x26 M6 _ hO6 => ?_)
          refine q_ifne (tgt := 166) dX4_fact_136 (by decide) ?_ ?_
          · refine q_sub [1, 0] rfl ?_
            exact tX4_fact_166 hd G hG x24 M6 hO6
          · refine q_aload_n 1 dX4_fact_139 rfl rfl ?_
            refine q_getx fl_X4_18 hO6 sh_8 rfl fx_8_0 dX4_fact_140 ?_
            refine q_bipush dX4_fact_143 (by decide) ?_
            refine q_callVi (As := [.inl 61]) hO6 mb_X8_isSign mv_X8_isSign ml_X4_56 sh_5 rfl dX4_fact_145 (fun _ => rfl) rfl (Nat.le_of_ble_eq_true rfl) rfl (Nat.le_of_ble_eq_true rfl) (tX8_isSign 61 M6 hO6) (fun x27 M7 _ hO7 => ?_)
            refine q_ifne (tgt := 166) dX4_fact_148 (by decide) ?_ ?_
            · refine q_sub [1, 0] rfl ?_
              exact tX4_fact_166 hd G hG x24 M7 hO7
            · refine q_aload_n 1 dX4_fact_151 rfl rfl ?_
              refine q_getx fl_X4_18 hO7 sh_8 rfl fx_8_0 dX4_fact_152 ?_
              refine q_iconst dX4_fact_155 ?_
              refine q_aload_n 1 dX4_fact_156 rfl rfl ?_
              refine q_getx fl_X4_18 hO7 sh_8 rfl fx_8_0 dX4_fact_157 ?_
              refine q_geti fl_X4_71 sh_5 (q_inO hO7 sh_5) rfl dX4_fact_160 ?_
              refine q_callVv (As := [.inl 1, .inl (M7.2 5 1)]) hO7 mb_X8_fail mv_X8_fail ml_X4_74 sh_5 rfl dX4_fact_163 (fun _ => rfl) rfl (Nat.le_of_ble_eq_true rfl) rfl (Nat.le_of_ble_eq_true rfl) (tX8_fail 1 (M7.2 5 1) M7 hO7) (fun _ M8 _ hO8 => ?_)
              refine q_sub [1, 0] rfl ?_
              exact tX4_fact_166 hd G hG x24 M8 hO8
      · refine q_aload_n 0 dX4_fact_84 rfl rfl ?_
        refine q_getx fl_X4_18 hO3 sh_8 rfl fx_8_0 dX4_fact_85 ?_
        refine q_callVv (As := []) hO3 mb_X8_step mv_X8_step ml_X4_40 sh_5 rfl dX4_fact_88 (fun _ => rfl) rfl (Nat.le_of_ble_eq_true rfl) rfl (Nat.le_of_ble_eq_true rfl) (tX8_step (by omega) M3 hO3) (fun _ M9 _ hO9 => ?_)
        refine q_aload_n 0 dX4_fact_91 rfl rfl ?_
        refine q_gettL fl_X4_22 hO9 sh_8 rfl tr_8_1 dX4_fact_92 (fun r21 _ hr21 => ?_)
        refine q_bipush dX4_fact_95 (by decide) ?_
        refine q_callVv (As := [.inl 22]) hO9 mb_X0_putOperation mv_X0_putOperation ml_X4_43 hr21 rfl dX4_fact_97 (fun _ => rfl) rfl (Nat.le_of_ble_eq_true rfl) rfl (Nat.le_of_ble_eq_true rfl) (tX0_putOperation (by omega) r21 22 M9 hO9 hr21) (fun _ M10 _ hO10 => ?_)
        refine q_goto (tgt := 185) dX4_fact_100 (by decide) ?_
        exact q_ret dX4_fact_185 rfl
    · refine q_aload_n 0 dX4_fact_48 rfl rfl ?_
      refine q_callVv (As := []) hO2 mb_X4_enter mv_X4_enter ml_X4_50 sh_8 rfl dX4_fact_49 (fun _ => rfl) rfl (Nat.le_of_ble_eq_true rfl) rfl (Nat.le_of_ble_eq_true rfl) (tX4_enter (by omega) M2 hO2) (fun _ M11 _ hO11 => ?_)
      refine q_aload_n 0 dX4_fact_52 rfl rfl ?_
      refine q_callVv (As := []) hO11 mb_X4_test mv_X4_test ml_X4_59 sh_8 rfl dX4_fact_53 (fun _ => rfl) rfl (Nat.le_of_ble_eq_true rfl) rfl (Nat.le_of_ble_eq_true rfl) (hG 0 M11 hO11) (fun _ M12 _ hO12 => ?_)
      refine q_aload_n 0 dX4_fact_56 rfl rfl ?_
      refine q_getx fl_X4_18 hO12 sh_8 rfl fx_8_0 dX4_fact_57 ?_
      refine q_bipush dX4_fact_60 (by decide) ?_
      refine q_callVv (As := [.inl 93]) hO12 mb_X8_takeSign mv_X8_takeSign ml_X4_62 sh_5 rfl dX4_fact_62 (fun _ => rfl) rfl (Nat.le_of_ble_eq_true rfl) rfl (Nat.le_of_ble_eq_true rfl) (tX8_takeSign (by omega) 93 M12 hO12) (fun _ M13 _ hO13 => ?_)
      refine q_aload_n 0 dX4_fact_65 rfl rfl ?_
      refine q_callVv (As := []) hO13 mb_X4_leave mv_X4_leave ml_X4_53 sh_8 rfl dX4_fact_66 (fun _ => rfl) rfl (Nat.le_of_ble_eq_true rfl) rfl (Nat.le_of_ble_eq_true rfl) (tX4_leave M13 hO13) (fun _ M14 _ hO14 => ?_)
      refine q_goto (tgt := 185) dX4_fact_69 (by decide) ?_
      exact q_ret dX4_fact_185 rfl
  · refine q_aload_n 0 dX4_fact_12 rfl rfl ?_
    refine q_callVv (As := []) hO1 mb_X4_enter mv_X4_enter ml_X4_50 sh_8 rfl dX4_fact_13 (fun _ => rfl) rfl (Nat.le_of_ble_eq_true rfl) rfl (Nat.le_of_ble_eq_true rfl) (tX4_enter (by omega) M1 hO1) (fun _ M15 _ hO15 => ?_)
    refine q_aload_n 0 dX4_fact_16 rfl rfl ?_
    refine q_callVv (As := []) hO15 mb_X4_fact mv_X4_fact ml_X4_47 sh_8 rfl dX4_fact_17 (fun _ => rfl) rfl (Nat.le_of_ble_eq_true rfl) rfl (Nat.le_of_ble_eq_true rfl) (hG 2 M15 hO15) (fun _ M16 _ hO16 => ?_)
    refine q_aload_n 0 dX4_fact_20 rfl rfl ?_
    refine q_callVv (As := []) hO16 mb_X4_leave mv_X4_leave ml_X4_53 sh_8 rfl dX4_fact_21 (fun _ => rfl) rfl (Nat.le_of_ble_eq_true rfl) rfl (Nat.le_of_ble_eq_true rfl) (tX4_leave M16 hO16) (fun _ M17 _ hO17 => ?_)
    refine q_aload_n 0 dX4_fact_24 rfl rfl ?_
    refine q_gettL fl_X4_22 hO17 sh_8 rfl tr_8_1 dX4_fact_25 (fun r22 _ hr22 => ?_)
    refine q_bipush dX4_fact_28 (by decide) ?_
    refine q_callVv (As := [.inl 21]) hO17 mb_X0_putOperation mv_X0_putOperation ml_X4_43 hr22 rfl dX4_fact_30 (fun _ => rfl) rfl (Nat.le_of_ble_eq_true rfl) rfl (Nat.le_of_ble_eq_true rfl) (tX0_putOperation (by omega) r22 21 M17 hO17 hr22) (fun _ M18 _ hO18 => ?_)
    refine q_goto (tgt := 185) dX4_fact_33 (by decide) ?_
    exact q_ret dX4_fact_185 rfl
def fX4_sum_37 (G : Nat → q_Mem → Option (Int × q_Mem)) (K6 : Int → q_Mem → Option (Int × q_Mem)) (x1 : Int) (M : q_Mem) : Option (Int × q_Mem) := q_let (M.2 5 4) fun x21 => q_bd (fX8_step M) fun _ M1 => q_bd (G 4 M1) fun _ M2 => q_let (M2.2 8 1).toNat fun r21 => q_bd (fX0_putOperation r21 x21 M2) fun _ M3 => (K6 (x1 + 1) M3)
theorem tX4_sum_37 {d : Nat} (hd : 10 ≤ d) (G : Nat → q_Mem → Option (Int × q_Mem)) (hG : ∀ (t : Nat) (M : q_Mem), q_Ok M → q_TG d t M (G t M)) (K6 : Int → q_Mem → Option (Int × q_Mem)) (hK6 : ∀ (x1 : Int) (M : q_Mem), q_Ok M → q_EX (d + 1) yX4_sum cX4_sum 3 none 6 [(0, .inr (.inr 8)), (1, .inl x1)] [] M (K6 x1 M)) (x1 : Int) (M : q_Mem) (hO : q_Ok M) : q_EX (d + 1) yX4_sum cX4_sum 3 none 37 [(0, .inr (.inr 8)), (1, .inl x1)] [] M (fX4_sum_37 G K6 x1 M) := by
  unfold fX4_sum_37
  refine q_aload_n 0 dX4_sum_37 rfl rfl ?_
  refine q_getx fl_X4_18 hO sh_8 rfl fx_8_0 dX4_sum_38 ?_
  refine q_geti fl_X4_68 sh_5 (q_inO hO sh_5) rfl dX4_sum_41 ?_
  refine q_nameI (fun x21 _ => ?_)
  refine q_istore_n (ls' := [(2, .inl x21), (0, .inr (.inr 8)), (1, .inl x1)]) dX4_sum_44 rfl (by decide) rfl ?_
  refine q_aload_n 1 dX4_sum_45 rfl rfl ?_
  refine q_getx fl_X4_18 hO sh_8 rfl fx_8_0 dX4_sum_46 ?_
  refine q_callVv (As := []) hO mb_X8_step mv_X8_step ml_X4_40 sh_5 rfl dX4_sum_49 (fun _ => rfl) rfl (Nat.le_of_ble_eq_true rfl) rfl (Nat.le_of_ble_eq_true rfl) (tX8_step (by omega) M hO) (fun _ M1 _ hO1 => ?_)
  refine q_aload_n 1 dX4_sum_52 rfl rfl ?_
  refine q_callVv (As := []) hO1 mb_X4_product mv_X4_product ml_X4_78 sh_8 rfl dX4_sum_53 (fun _ => rfl) rfl (Nat.le_of_ble_eq_true rfl) rfl (Nat.le_of_ble_eq_true rfl) (hG 4 M1 hO1) (fun _ M2 _ hO2 => ?_)
  refine q_aload_n 1 dX4_sum_56 rfl rfl ?_
  refine q_gettL fl_X4_22 hO2 sh_8 rfl tr_8_1 dX4_sum_57 (fun r21 _ hr21 => ?_)
  refine q_iload_n 0 dX4_sum_60 rfl rfl ?_
  refine q_callVv (As := [.inl x21]) hO2 mb_X0_putOperation mv_X0_putOperation ml_X4_43 hr21 rfl dX4_sum_61 (fun _ => rfl) rfl (Nat.le_of_ble_eq_true rfl) rfl (Nat.le_of_ble_eq_true rfl) (tX0_putOperation (by omega) r21 x21 M2 hO2 hr21) (fun _ M3 _ hO3 => ?_)
  refine q_iinc (ls' := [(1, .inl (x1 + 1)), (2, .inl x21), (0, .inr (.inr 8))]) 2 dX4_sum_64 rfl (by decide) rfl ?_
  refine q_goto (tgt := 6) dX4_sum_67 (by decide) ?_
  refine q_sub [2, 0] rfl ?_
  exact hK6 (x1 + 1) M3 hO3
def fX4_sum_6 (G : Nat → q_Mem → Option (Int × q_Mem)) : Nat → Int → q_Mem → Option (Int × q_Mem)
  | 0, _, _ => none
  | n + 1, x1, M => if q_w x1 < q_w 1600 then (q_bd (fX8_isSign 43 M) fun x21 M1 => if q_w x21 = 0 then (q_bd (fX8_isSign 45 M1) fun x22 M2 => if q_w x22 = 0 then (some (0, M2)) else ((fX4_sum_37 G (fX4_sum_6 G n) x1 M2))) else ((fX4_sum_37 G (fX4_sum_6 G n) x1 M1))) else (some (0, M))
theorem tX4_sum_6 {d : Nat} (hd : 10 ≤ d) (G : Nat → q_Mem → Option (Int × q_Mem)) (hG : ∀ (t : Nat) (M : q_Mem), q_Ok M → q_TG d t M (G t M)) : ∀ (n : Nat) (x1 : Int) (M : q_Mem), q_Ok M → q_EX (d + 1) yX4_sum cX4_sum 3 none 6 [(0, .inr (.inr 8)), (1, .inl x1)] [] M (fX4_sum_6 G n x1 M) := by
  intro n
  induction n with
  | zero => intro x1 M hO; exact q_none
  | succ n ih =>
    intro x1 M hO
    rw [fX4_sum_6]
    refine q_iload_n 1 dX4_sum_6 rfl rfl ?_
    refine q_sipush dX4_sum_7 (by decide) ?_
    refine q_icmpge (tgt := 70) dX4_sum_10 (by decide) ?_ ?_
    · exact q_ret dX4_sum_70 rfl
    · refine q_aload_n 0 dX4_sum_13 rfl rfl ?_
      refine q_getx fl_X4_18 hO sh_8 rfl fx_8_0 dX4_sum_14 ?_
      refine q_bipush dX4_sum_17 (by decide) ?_
      refine q_callVi (As := [.inl 43]) hO mb_X8_isSign mv_X8_isSign ml_X4_56 sh_5 rfl dX4_sum_19 (fun _ => rfl) rfl (Nat.le_of_ble_eq_true rfl) rfl (Nat.le_of_ble_eq_true rfl) (tX8_isSign 43 M hO) (fun x21 M1 _ hO1 => ?_)
      refine q_ifne (tgt := 37) dX4_sum_22 (by decide) ?_ ?_
      · refine q_sub [0, 1] rfl ?_
        exact tX4_sum_37 hd G hG (fX4_sum_6 G n) ih x1 M1 hO1
      · refine q_aload_n 0 dX4_sum_25 rfl rfl ?_
        refine q_getx fl_X4_18 hO1 sh_8 rfl fx_8_0 dX4_sum_26 ?_
        refine q_bipush dX4_sum_29 (by decide) ?_
        refine q_callVi (As := [.inl 45]) hO1 mb_X8_isSign mv_X8_isSign ml_X4_56 sh_5 rfl dX4_sum_31 (fun _ => rfl) rfl (Nat.le_of_ble_eq_true rfl) rfl (Nat.le_of_ble_eq_true rfl) (tX8_isSign 45 M1 hO1) (fun x22 M2 _ hO2 => ?_)
        refine q_ifeq (tgt := 70) dX4_sum_34 (by decide) ?_ ?_
        · exact q_ret dX4_sum_70 rfl
        · refine q_sub [0, 1] rfl ?_
          exact tX4_sum_37 hd G hG (fX4_sum_6 G n) ih x1 M2 hO2
def fX4_sum (G : Nat → q_Mem → Option (Int × q_Mem)) (M : q_Mem) : Option (Int × q_Mem) := q_bd (G 4 M) fun _ M1 => (fX4_sum_6 G q_FU 0 M1)
theorem tX4_sum {d : Nat} (hd : 10 ≤ d) (G : Nat → q_Mem → Option (Int × q_Mem)) (hG : ∀ (t : Nat) (M : q_Mem), q_Ok M → q_TG d t M (G t M)) (M : q_Mem) (hO : q_Ok M) : q_EX (d + 1) yX4_sum cX4_sum 3 none 0 (q_args 0 [.inr (.inr 8)]) [] M (fX4_sum G M) := by
  show q_EX _ _ _ _ _ 0 [(0, .inr (.inr 8))] [] M _
  unfold fX4_sum
  refine q_aload_n 0 dX4_sum_0 rfl rfl ?_
  refine q_callVv (As := []) hO mb_X4_product mv_X4_product ml_X4_78 sh_8 rfl dX4_sum_1 (fun _ => rfl) rfl (Nat.le_of_ble_eq_true rfl) rfl (Nat.le_of_ble_eq_true rfl) (hG 4 M hO) (fun _ M1 _ hO1 => ?_)
  refine q_iconst dX4_sum_4 ?_
  refine q_istore_n (ls' := [(1, .inl 0), (0, .inr (.inr 8))]) dX4_sum_5 rfl (by decide) rfl ?_
  refine q_sub [1, 0] rfl ?_
  exact tX4_sum_6 hd G hG q_FU 0 M1 hO1
def fX4_product_37 (G : Nat → q_Mem → Option (Int × q_Mem)) (K6 : Int → q_Mem → Option (Int × q_Mem)) (x1 : Int) (M : q_Mem) : Option (Int × q_Mem) := q_let (M.2 5 4) fun x21 => q_bd (fX8_step M) fun _ M1 => q_bd (G 5 M1) fun _ M2 => q_let (M2.2 8 1).toNat fun r21 => q_bd (fX0_putOperation r21 x21 M2) fun _ M3 => (K6 (x1 + 1) M3)
theorem tX4_product_37 {d : Nat} (hd : 10 ≤ d) (G : Nat → q_Mem → Option (Int × q_Mem)) (hG : ∀ (t : Nat) (M : q_Mem), q_Ok M → q_TG d t M (G t M)) (K6 : Int → q_Mem → Option (Int × q_Mem)) (hK6 : ∀ (x1 : Int) (M : q_Mem), q_Ok M → q_EX (d + 1) yX4_product cX4_product 3 none 6 [(0, .inr (.inr 8)), (1, .inl x1)] [] M (K6 x1 M)) (x1 : Int) (M : q_Mem) (hO : q_Ok M) : q_EX (d + 1) yX4_product cX4_product 3 none 37 [(0, .inr (.inr 8)), (1, .inl x1)] [] M (fX4_product_37 G K6 x1 M) := by
  unfold fX4_product_37
  refine q_aload_n 0 dX4_product_37 rfl rfl ?_
  refine q_getx fl_X4_18 hO sh_8 rfl fx_8_0 dX4_product_38 ?_
  refine q_geti fl_X4_68 sh_5 (q_inO hO sh_5) rfl dX4_product_41 ?_
  refine q_nameI (fun x21 _ => ?_)
  refine q_istore_n (ls' := [(2, .inl x21), (0, .inr (.inr 8)), (1, .inl x1)]) dX4_product_44 rfl (by decide) rfl ?_
  refine q_aload_n 1 dX4_product_45 rfl rfl ?_
  refine q_getx fl_X4_18 hO sh_8 rfl fx_8_0 dX4_product_46 ?_
  refine q_callVv (As := []) hO mb_X8_step mv_X8_step ml_X4_40 sh_5 rfl dX4_product_49 (fun _ => rfl) rfl (Nat.le_of_ble_eq_true rfl) rfl (Nat.le_of_ble_eq_true rfl) (tX8_step (by omega) M hO) (fun _ M1 _ hO1 => ?_)
  refine q_aload_n 1 dX4_product_52 rfl rfl ?_
  refine q_callVv (As := []) hO1 mb_X4_part mv_X4_part ml_X4_81 sh_8 rfl dX4_product_53 (fun _ => rfl) rfl (Nat.le_of_ble_eq_true rfl) rfl (Nat.le_of_ble_eq_true rfl) (hG 5 M1 hO1) (fun _ M2 _ hO2 => ?_)
  refine q_aload_n 1 dX4_product_56 rfl rfl ?_
  refine q_gettL fl_X4_22 hO2 sh_8 rfl tr_8_1 dX4_product_57 (fun r21 _ hr21 => ?_)
  refine q_iload_n 0 dX4_product_60 rfl rfl ?_
  refine q_callVv (As := [.inl x21]) hO2 mb_X0_putOperation mv_X0_putOperation ml_X4_43 hr21 rfl dX4_product_61 (fun _ => rfl) rfl (Nat.le_of_ble_eq_true rfl) rfl (Nat.le_of_ble_eq_true rfl) (tX0_putOperation (by omega) r21 x21 M2 hO2 hr21) (fun _ M3 _ hO3 => ?_)
  refine q_iinc (ls' := [(1, .inl (x1 + 1)), (2, .inl x21), (0, .inr (.inr 8))]) 2 dX4_product_64 rfl (by decide) rfl ?_
  refine q_goto (tgt := 6) dX4_product_67 (by decide) ?_
  refine q_sub [2, 0] rfl ?_
  exact hK6 (x1 + 1) M3 hO3
def fX4_product_6 (G : Nat → q_Mem → Option (Int × q_Mem)) : Nat → Int → q_Mem → Option (Int × q_Mem)
  | 0, _, _ => none
  | n + 1, x1, M => if q_w x1 < q_w 1600 then (q_bd (fX8_isSign 42 M) fun x21 M1 => if q_w x21 = 0 then (q_bd (fX8_isSign 47 M1) fun x22 M2 => if q_w x22 = 0 then (some (0, M2)) else ((fX4_product_37 G (fX4_product_6 G n) x1 M2))) else ((fX4_product_37 G (fX4_product_6 G n) x1 M1))) else (some (0, M))
theorem tX4_product_6 {d : Nat} (hd : 10 ≤ d) (G : Nat → q_Mem → Option (Int × q_Mem)) (hG : ∀ (t : Nat) (M : q_Mem), q_Ok M → q_TG d t M (G t M)) : ∀ (n : Nat) (x1 : Int) (M : q_Mem), q_Ok M → q_EX (d + 1) yX4_product cX4_product 3 none 6 [(0, .inr (.inr 8)), (1, .inl x1)] [] M (fX4_product_6 G n x1 M) := by
  intro n
  induction n with
  | zero => intro x1 M hO; exact q_none
  | succ n ih =>
    intro x1 M hO
    rw [fX4_product_6]
    refine q_iload_n 1 dX4_product_6 rfl rfl ?_
    refine q_sipush dX4_product_7 (by decide) ?_
    refine q_icmpge (tgt := 70) dX4_product_10 (by decide) ?_ ?_
    · exact q_ret dX4_product_70 rfl
    · refine q_aload_n 0 dX4_product_13 rfl rfl ?_
      refine q_getx fl_X4_18 hO sh_8 rfl fx_8_0 dX4_product_14 ?_
      refine q_bipush dX4_product_17 (by decide) ?_
      refine q_callVi (As := [.inl 42]) hO mb_X8_isSign mv_X8_isSign ml_X4_56 sh_5 rfl dX4_product_19 (fun _ => rfl) rfl (Nat.le_of_ble_eq_true rfl) rfl (Nat.le_of_ble_eq_true rfl) (tX8_isSign 42 M hO) (fun x21 M1 _ hO1 => ?_)
      refine q_ifne (tgt := 37) dX4_product_22 (by decide) ?_ ?_
      · refine q_sub [0, 1] rfl ?_
        exact tX4_product_37 hd G hG (fX4_product_6 G n) ih x1 M1 hO1
      · refine q_aload_n 0 dX4_product_25 rfl rfl ?_
        refine q_getx fl_X4_18 hO1 sh_8 rfl fx_8_0 dX4_product_26 ?_
        refine q_bipush dX4_product_29 (by decide) ?_
        refine q_callVi (As := [.inl 47]) hO1 mb_X8_isSign mv_X8_isSign ml_X4_56 sh_5 rfl dX4_product_31 (fun _ => rfl) rfl (Nat.le_of_ble_eq_true rfl) rfl (Nat.le_of_ble_eq_true rfl) (tX8_isSign 47 M1 hO1) (fun x22 M2 _ hO2 => ?_)
        refine q_ifeq (tgt := 70) dX4_product_34 (by decide) ?_ ?_
        · exact q_ret dX4_product_70 rfl
        · refine q_sub [0, 1] rfl ?_
          exact tX4_product_37 hd G hG (fX4_product_6 G n) ih x1 M2 hO2
def fX4_product (G : Nat → q_Mem → Option (Int × q_Mem)) (M : q_Mem) : Option (Int × q_Mem) := q_bd (G 5 M) fun _ M1 => (fX4_product_6 G q_FU 0 M1)
theorem tX4_product {d : Nat} (hd : 10 ≤ d) (G : Nat → q_Mem → Option (Int × q_Mem)) (hG : ∀ (t : Nat) (M : q_Mem), q_Ok M → q_TG d t M (G t M)) (M : q_Mem) (hO : q_Ok M) : q_EX (d + 1) yX4_product cX4_product 3 none 0 (q_args 0 [.inr (.inr 8)]) [] M (fX4_product G M) := by
  show q_EX _ _ _ _ _ 0 [(0, .inr (.inr 8))] [] M _
  unfold fX4_product
  refine q_aload_n 0 dX4_product_0 rfl rfl ?_
  refine q_callVv (As := []) hO mb_X4_part mv_X4_part ml_X4_81 sh_8 rfl dX4_product_1 (fun _ => rfl) rfl (Nat.le_of_ble_eq_true rfl) rfl (Nat.le_of_ble_eq_true rfl) (hG 5 M hO) (fun _ M1 _ hO1 => ?_)
  refine q_iconst dX4_product_4 ?_
  refine q_istore_n (ls' := [(1, .inl 0), (0, .inr (.inr 8))]) dX4_product_5 rfl (by decide) rfl ?_
  refine q_sub [1, 0] rfl ?_
  exact tX4_product_6 hd G hG q_FU 0 M1 hO1
def fX4_part_100 (G : Nat → q_Mem → Option (Int × q_Mem)) (x1 : Int) (M : q_Mem) : Option (Int × q_Mem) := q_bd (G 6 M) fun _ M1 => q_let (M1.2 8 1).toNat fun r21 => q_bd (fX0_putOperation r21 x1 M1) fun _ M2 => some (0, M2)
theorem tX4_part_100 {d : Nat} (hd : 11 ≤ d) (G : Nat → q_Mem → Option (Int × q_Mem)) (hG : ∀ (t : Nat) (M : q_Mem), q_Ok M → q_TG d t M (G t M)) (x1 : Int) (M : q_Mem) (hO : q_Ok M) : q_EX (d + 1) yX4_part cX4_part 2 none 100 [(0, .inr (.inr 8)), (1, .inl x1)] [] M (fX4_part_100 G x1 M) := by
  unfold fX4_part_100
  refine q_aload_n 0 dX4_part_100 rfl rfl ?_
  refine q_callVv (As := []) hO mb_X4_twoSums mv_X4_twoSums ml_X4_94 sh_8 rfl dX4_part_101 (fun _ => rfl) rfl (Nat.le_of_ble_eq_true rfl) rfl (Nat.le_of_ble_eq_true rfl) (hG 6 M hO) (fun _ M1 _ hO1 => ?_)
  refine q_aload_n 0 dX4_part_104 rfl rfl ?_
  refine q_gettL fl_X4_22 hO1 sh_8 rfl tr_8_1 dX4_part_105 (fun r21 _ hr21 => ?_)
  refine q_iload_n 1 dX4_part_108 rfl rfl ?_
  refine q_callVv (As := [.inl x1]) hO1 mb_X0_putOperation mv_X0_putOperation ml_X4_43 hr21 rfl dX4_part_109 (fun _ => rfl) rfl (Nat.le_of_ble_eq_true rfl) rfl (Nat.le_of_ble_eq_true rfl) (tX0_putOperation (by omega) r21 x1 M1 hO1 hr21) (fun _ M2 _ hO2 => ?_)
  refine q_goto (tgt := 221) dX4_part_112 (by decide) ?_
  exact q_ret dX4_part_221 rfl
def fX4_part_146 (G : Nat → q_Mem → Option (Int × q_Mem)) (x1 : Int) (M : q_Mem) : Option (Int × q_Mem) := q_bd (fX4_enter M) fun _ M1 => q_bd (G 5 M1) fun _ M2 => q_bd (fX4_leave M2) fun _ M3 => q_let (M3.2 8 1).toNat fun r21 => q_bd (fX0_putOperation r21 x1 M3) fun _ M4 => some (0, M4)
theorem tX4_part_146 {d : Nat} (hd : 11 ≤ d) (G : Nat → q_Mem → Option (Int × q_Mem)) (hG : ∀ (t : Nat) (M : q_Mem), q_Ok M → q_TG d t M (G t M)) (x1 : Int) (M : q_Mem) (hO : q_Ok M) : q_EX (d + 1) yX4_part cX4_part 2 none 146 [(0, .inr (.inr 8)), (1, .inl x1)] [] M (fX4_part_146 G x1 M) := by
  unfold fX4_part_146
  refine q_aload_n 0 dX4_part_146 rfl rfl ?_
  refine q_callVv (As := []) hO mb_X4_enter mv_X4_enter ml_X4_50 sh_8 rfl dX4_part_147 (fun _ => rfl) rfl (Nat.le_of_ble_eq_true rfl) rfl (Nat.le_of_ble_eq_true rfl) (tX4_enter (by omega) M hO) (fun _ M1 _ hO1 => ?_)
  refine q_aload_n 0 dX4_part_150 rfl rfl ?_
  refine q_callVv (As := []) hO1 mb_X4_part mv_X4_part ml_X4_81 sh_8 rfl dX4_part_151 (fun _ => rfl) rfl (Nat.le_of_ble_eq_true rfl) rfl (Nat.le_of_ble_eq_true rfl) (hG 5 M1 hO1) (fun _ M2 _ hO2 => ?_)
  refine q_aload_n 0 dX4_part_154 rfl rfl ?_
  refine q_callVv (As := []) hO2 mb_X4_leave mv_X4_leave ml_X4_53 sh_8 rfl dX4_part_155 (fun _ => rfl) rfl (Nat.le_of_ble_eq_true rfl) rfl (Nat.le_of_ble_eq_true rfl) (tX4_leave M2 hO2) (fun _ M3 _ hO3 => ?_)
  refine q_aload_n 0 dX4_part_158 rfl rfl ?_
  refine q_gettL fl_X4_22 hO3 sh_8 rfl tr_8_1 dX4_part_159 (fun r21 _ hr21 => ?_)
  refine q_iload_n 1 dX4_part_162 rfl rfl ?_
  refine q_callVv (As := [.inl x1]) hO3 mb_X0_putOperation mv_X0_putOperation ml_X4_43 hr21 rfl dX4_part_163 (fun _ => rfl) rfl (Nat.le_of_ble_eq_true rfl) rfl (Nat.le_of_ble_eq_true rfl) (tX0_putOperation (by omega) r21 x1 M3 hO3 hr21) (fun _ M4 _ hO4 => ?_)
  refine q_goto (tgt := 221) dX4_part_166 (by decide) ?_
  exact q_ret dX4_part_221 rfl
def fX4_part_206 (G : Nat → q_Mem → Option (Int × q_Mem)) (M : q_Mem) : Option (Int × q_Mem) := q_bd (fX8_fail 1 (M.2 5 1) M) fun _ M1 => some (0, M1)
theorem tX4_part_206 {d : Nat} (hd : 11 ≤ d) (G : Nat → q_Mem → Option (Int × q_Mem)) (hG : ∀ (t : Nat) (M : q_Mem), q_Ok M → q_TG d t M (G t M)) (M : q_Mem) (hO : q_Ok M) : q_EX (d + 1) yX4_part cX4_part 2 none 206 [(0, .inr (.inr 8))] [] M (fX4_part_206 G M) := by
  unfold fX4_part_206
  refine q_aload_n 0 dX4_part_206 rfl rfl ?_
  refine q_getx fl_X4_18 hO sh_8 rfl fx_8_0 dX4_part_207 ?_
  refine q_iconst dX4_part_210 ?_
  refine q_aload_n 0 dX4_part_211 rfl rfl ?_
  refine q_getx fl_X4_18 hO sh_8 rfl fx_8_0 dX4_part_212 ?_
  refine q_geti fl_X4_71 sh_5 (q_inO hO sh_5) rfl dX4_part_215 ?_
  refine q_callVv (As := [.inl 1, .inl (M.2 5 1)]) hO mb_X8_fail mv_X8_fail ml_X4_74 sh_5 rfl dX4_part_218 (fun _ => rfl) rfl (Nat.le_of_ble_eq_true rfl) rfl (Nat.le_of_ble_eq_true rfl) (tX8_fail 1 (M.2 5 1) M hO) (fun _ M1 _ hO1 => ?_)
  exact q_ret dX4_part_221 rfl
def fX4_part_169 (G : Nat → q_Mem → Option (Int × q_Mem)) (x1 : Int) (M : q_Mem) : Option (Int × q_Mem) := if q_w (M.2 5 3) = q_w 1 then (q_bd (fX4_isValue x1 M) fun x21 M1 => if q_w x21 = 0 then ((fX4_part_206 G M1)) else (q_bd (fX8_step M1) fun _ M2 => q_let (M2.2 8 1).toNat fun r21 => q_bd (fX0_putOperation r21 x1 M2) fun _ M3 => some (0, M3))) else ((fX4_part_206 G M))
theorem tX4_part_169 {d : Nat} (hd : 11 ≤ d) (G : Nat → q_Mem → Option (Int × q_Mem)) (hG : ∀ (t : Nat) (M : q_Mem), q_Ok M → q_TG d t M (G t M)) (x1 : Int) (M : q_Mem) (hO : q_Ok M) : q_EX (d + 1) yX4_part cX4_part 2 none 169 [(0, .inr (.inr 8)), (1, .inl x1)] [] M (fX4_part_169 G x1 M) := by
  unfold fX4_part_169
  refine q_aload_n 0 dX4_part_169 rfl rfl ?_
  refine q_getx fl_X4_18 hO sh_8 rfl fx_8_0 dX4_part_170 ?_
  refine q_geti fl_X4_84 sh_5 (q_inO hO sh_5) rfl dX4_part_173 ?_
  refine q_iconst dX4_part_176 ?_
  refine q_icmpne (tgt := 206) dX4_part_177 (by decide) ?_ ?_
  · refine q_sub [0] rfl ?_
    exact tX4_part_206 hd G hG M hO
  · refine q_aload_n 0 dX4_part_180 rfl rfl ?_
    refine q_iload_n 1 dX4_part_181 rfl rfl ?_
    refine q_callVi (As := [.inl x1]) hO mb_X4_isValue mv_X4_isValue ml_X4_97 sh_8 rfl dX4_part_182 (fun _ => rfl) rfl (Nat.le_of_ble_eq_true rfl) rfl (Nat.le_of_ble_eq_true rfl) (tX4_isValue x1 M hO) (fun x21 M1 _ hO1 => ?_)
    refine q_ifeq (tgt := 206) dX4_part_185 (by decide) ?_ ?_
    · refine q_sub [0] rfl ?_
      exact tX4_part_206 hd G hG M1 hO1
    · refine q_aload_n 0 dX4_part_188 rfl rfl ?_
      refine q_getx fl_X4_18 hO1 sh_8 rfl fx_8_0 dX4_part_189 ?_
      refine q_callVv (As := []) hO1 mb_X8_step mv_X8_step ml_X4_40 sh_5 rfl dX4_part_192 (fun _ => rfl) rfl (Nat.le_of_ble_eq_true rfl) rfl (Nat.le_of_ble_eq_true rfl) (tX8_step (by omega) M1 hO1) (fun _ M2 _ hO2 => ?_)
      refine q_aload_n 0 dX4_part_195 rfl rfl ?_
      refine q_gettL fl_X4_22 hO2 sh_8 rfl tr_8_1 dX4_part_196 (fun r21 _ hr21 => ?_)
      refine q_iload_n 1 dX4_part_199 rfl rfl ?_
      refine q_callVv (As := [.inl x1]) hO2 mb_X0_putOperation mv_X0_putOperation ml_X4_43 hr21 rfl dX4_part_200 (fun _ => rfl) rfl (Nat.le_of_ble_eq_true rfl) rfl (Nat.le_of_ble_eq_true rfl) (tX0_putOperation (by omega) r21 x1 M2 hO2 hr21) (fun _ M3 _ hO3 => ?_)
      refine q_goto (tgt := 221) dX4_part_203 (by decide) ?_
      exact q_ret dX4_part_221 rfl
def fX4_part (G : Nat → q_Mem → Option (Int × q_Mem)) (M : q_Mem) : Option (Int × q_Mem) := q_let (M.2 5 4) fun x21 => if q_w (M.2 5 3) = q_w 2 then (q_let (M.2 8 1).toNat fun r21 => q_bd (fX8_takeNumber 0 9999 M) fun x27 M10 => q_bd (fX0_put r21 x27 M10) fun _ M11 => some (0, M11)) else (q_bd (fX8_isSign 40 M) fun x22 M1 => if q_w x22 = 0 then (q_bd (fX8_isWord 23 M1) fun x23 M2 => if q_w x23 = 0 then (q_bd (fX8_isWord 24 M2) fun x24 M3 => if q_w x24 = 0 then (if q_w (M3.2 8 2) = q_w 2 then (q_bd (fX8_isWord 11 M3) fun x25 M4 => if q_w x25 = 0 then (q_bd (fX8_isWord 2 M4) fun x26 M5 => if q_w x26 = 0 then ((fX4_part_169 G x21 M5)) else ((fX4_part_146 G x21 M5))) else ((fX4_part_146 G x21 M4))) else ((fX4_part_169 G x21 M3))) else ((fX4_part_100 G x21 M3))) else ((fX4_part_100 G x21 M2))) else (q_bd (fX4_enter M1) fun _ M6 => q_bd (G 3 M6) fun _ M7 => q_bd (fX8_takeSign 41 M7) fun _ M8 => q_bd (fX4_leave M8) fun _ M9 => some (0, M9)))
theorem tX4_part {d : Nat} (hd : 11 ≤ d) (G : Nat → q_Mem → Option (Int × q_Mem)) (hG : ∀ (t : Nat) (M : q_Mem), q_Ok M → q_TG d t M (G t M)) (M : q_Mem) (hO : q_Ok M) : q_EX (d + 1) yX4_part cX4_part 2 none 0 (q_args 0 [.inr (.inr 8)]) [] M (fX4_part G M) := by
  show q_EX _ _ _ _ _ 0 [(0, .inr (.inr 8))] [] M _
  unfold fX4_part
  refine q_aload_n 0 dX4_part_0 rfl rfl ?_
  refine q_getx fl_X4_18 hO sh_8 rfl fx_8_0 dX4_part_1 ?_
  refine q_geti fl_X4_68 sh_5 (q_inO hO sh_5) rfl dX4_part_4 ?_
  refine q_nameI (fun x21 _ => ?_)
  refine q_istore_n (ls' := [(1, .inl x21), (0, .inr (.inr 8))]) dX4_part_7 rfl (by decide) rfl ?_
  refine q_aload_n 1 dX4_part_8 rfl rfl ?_
  refine q_getx fl_X4_18 hO sh_8 rfl fx_8_0 dX4_part_9 ?_
  refine q_geti fl_X4_84 sh_5 (q_inO hO sh_5) rfl dX4_part_12 ?_
  refine q_iconst dX4_part_15 ?_
  refine q_icmpne (tgt := 40) dX4_part_16 (by decide) ?_ ?_
  · refine q_aload_n 1 dX4_part_40 rfl rfl ?_
    refine q_getx fl_X4_18 hO sh_8 rfl fx_8_0 dX4_part_41 ?_
    refine q_bipush dX4_part_44 (by decide) ?_
    refine q_callVi (As := [.inl 40]) hO mb_X8_isSign mv_X8_isSign ml_X4_56 sh_5 rfl dX4_part_46 (fun _ => rfl) rfl (Nat.le_of_ble_eq_true rfl) rfl (Nat.le_of_ble_eq_true rfl) (tX8_isSign 40 M hO) (fun x22 M1 _ hO1 => ?_)
    refine q_ifeq (tgt := 76) dX4_part_49 (by decide) ?_ ?_
    · refine q_aload_n 1 dX4_part_76 rfl rfl ?_
      refine q_getx fl_X4_18 hO1 sh_8 rfl fx_8_0 dX4_part_77 ?_
      refine q_bipush dX4_part_80 (by decide) ?_
      refine q_callVi (As := [.inl 23]) hO1 mb_X8_isWord mv_X8_isWord ml_X4_34 sh_5 rfl dX4_part_82 (fun _ => rfl) rfl (Nat.le_of_ble_eq_true rfl) rfl (Nat.le_of_ble_eq_true rfl) (tX8_isWord 23 M1 hO1) (fun x23 M2 _ hO2 => ?_)
      refine q_ifne (tgt := 100) dX4_part_85 (by decide) ?_ ?_
      · refine q_sub [1, 0] rfl ?_
        exact tX4_part_100 hd G hG x21 M2 hO2
      · refine q_aload_n 1 dX4_part_88 rfl rfl ?_
        refine q_getx fl_X4_18 hO2 sh_8 rfl fx_8_0 dX4_part_89 ?_
        refine q_bipush dX4_part_92 (by decide) ?_
        refine q_callVi (As := [.inl 24]) hO2 mb_X8_isWord mv_X8_isWord ml_X4_34 sh_5 rfl dX4_part_94 (fun _ => rfl) rfl (Nat.le_of_ble_eq_true rfl) rfl (Nat.le_of_ble_eq_true rfl) (tX8_isWord 24 M2 hO2) (fun x24 M3 _ hO3 => ?_)
        refine q_ifeq (tgt := 115) dX4_part_97 (by decide) ?_ ?_
        · refine q_aload_n 1 dX4_part_115 rfl rfl ?_
          refine q_geti fl_X4_11 sh_8 (q_inO hO3 sh_8) rfl dX4_part_116 ?_
          refine q_iconst dX4_part_119 ?_
          refine q_icmpne (tgt := 169) dX4_part_120 (by decide) ?_ ?_
          · refine q_sub [1, 0] rfl ?_
            exact tX4_part_169 hd G hG x21 M3 hO3
          · refine q_aload_n 1 dX4_part_123 rfl rfl ?_
            refine q_getx fl_X4_18 hO3 sh_8 rfl fx_8_0 dX4_part_124 ?_
            refine q_bipush dX4_part_127 (by decide) ?_
            refine q_callVi (As := [.inl 11]) hO3 mb_X8_isWord mv_X8_isWord ml_X4_34 sh_5 rfl dX4_part_129 (fun _ => rfl) rfl (Nat.le_of_ble_eq_true rfl) rfl (Nat.le_of_ble_eq_true rfl) (tX8_isWord 11 M3 hO3) (fun x25 M4 _ hO4 => ?_)
            refine q_ifne (tgt := 146) dX4_part_132 (by decide) ?_ ?_
            · refine q_sub [1, 0] rfl ?_
              exact tX4_part_146 hd G hG x21 M4 hO4
            · refine q_aload_n 1 dX4_part_135 rfl rfl ?_
              refine q_getx fl_X4_18 hO4 sh_8 rfl fx_8_0 dX4_part_136 ?_
              refine q_iconst dX4_part_139 ?_
              refine q_callVi (As := [.inl 2]) hO4 mb_X8_isWord mv_X8_isWord ml_X4_34 sh_5 rfl dX4_part_140 (fun _ => rfl) rfl (Nat.le_of_ble_eq_true rfl) rfl (Nat.le_of_ble_eq_true rfl) (tX8_isWord 2 M4 hO4) (fun x26 M5 _ hO5 => ?_)
              refine q_ifeq (tgt := 169) dX4_part_143 (by decide) ?_ ?_
              · refine q_sub [1, 0] rfl ?_
                exact tX4_part_169 hd G hG x21 M5 hO5
              · refine q_sub [1, 0] rfl ?_
                exact tX4_part_146 hd G hG x21 M5 hO5
        · refine q_sub [1, 0] rfl ?_
          exact tX4_part_100 hd G hG x21 M3 hO3
    · refine q_aload_n 1 dX4_part_52 rfl rfl ?_
      refine q_callVv (As := []) hO1 mb_X4_enter mv_X4_enter ml_X4_50 sh_8 rfl dX4_part_53 (fun _ => rfl) rfl (Nat.le_of_ble_eq_true rfl) rfl (Nat.le_of_ble_eq_true rfl) (tX4_enter (by omega) M1 hO1) (fun _ M6 _ hO6 => ?_)
      refine q_aload_n 1 dX4_part_56 rfl rfl ?_
      refine q_callVv (As := []) hO6 mb_X4_sum mv_X4_sum ml_X4_65 sh_8 rfl dX4_part_57 (fun _ => rfl) rfl (Nat.le_of_ble_eq_true rfl) rfl (Nat.le_of_ble_eq_true rfl) (hG 3 M6 hO6) (fun _ M7 _ hO7 => ?_)
      refine q_aload_n 1 dX4_part_60 rfl rfl ?_
      refine q_getx fl_X4_18 hO7 sh_8 rfl fx_8_0 dX4_part_61 ?_
      refine q_bipush dX4_part_64 (by decide) ?_
      refine q_callVv (As := [.inl 41]) hO7 mb_X8_takeSign mv_X8_takeSign ml_X4_62 sh_5 rfl dX4_part_66 (fun _ => rfl) rfl (Nat.le_of_ble_eq_true rfl) rfl (Nat.le_of_ble_eq_true rfl) (tX8_takeSign (by omega) 41 M7 hO7) (fun _ M8 _ hO8 => ?_)
      refine q_aload_n 1 dX4_part_69 rfl rfl ?_
      refine q_callVv (As := []) hO8 mb_X4_leave mv_X4_leave ml_X4_53 sh_8 rfl dX4_part_70 (fun _ => rfl) rfl (Nat.le_of_ble_eq_true rfl) rfl (Nat.le_of_ble_eq_true rfl) (tX4_leave M8 hO8) (fun _ M9 _ hO9 => ?_)
      refine q_goto (tgt := 221) dX4_part_73 (by decide) ?_
      exact q_ret dX4_part_221 rfl
  · refine q_aload_n 1 dX4_part_19 rfl rfl ?_
    refine q_gettL fl_X4_22 hO sh_8 rfl tr_8_1 dX4_part_20 (fun r21 _ hr21 => ?_)
    refine q_aload_n 1 dX4_part_23 rfl rfl ?_
    refine q_getx fl_X4_18 hO sh_8 rfl fx_8_0 dX4_part_24 ?_
    refine q_iconst dX4_part_27 ?_
    refine q_sipush dX4_part_28 (by decide) ?_
    refine q_callVi (As := [.inl 0, .inl 9999]) hO mb_X8_takeNumber mv_X8_takeNumber ml_X4_87 sh_5 rfl dX4_part_31 (fun _ => rfl) rfl (Nat.le_of_ble_eq_true rfl) rfl (Nat.le_of_ble_eq_true rfl) (tX8_takeNumber (by omega) 0 9999 M hO) (fun x27 M10 _ hO10 => ?_)
    refine q_callVv (As := [.inl x27]) hO10 mb_X0_put mv_X0_put ml_X4_91 hr21 rfl dX4_part_34 (fun _ => rfl) rfl (Nat.le_of_ble_eq_true rfl) rfl (Nat.le_of_ble_eq_true rfl) (tX0_put r21 x27 M10 hO10 hr21) (fun _ M11 _ hO11 => ?_)
    refine q_goto (tgt := 221) dX4_part_37 (by decide) ?_
    exact q_ret dX4_part_221 rfl
def fX4_twoSums (G : Nat → q_Mem → Option (Int × q_Mem)) (M : q_Mem) : Option (Int × q_Mem) := q_bd (fX8_step M) fun _ M1 => q_bd (fX8_isSign 40 M1) fun x21 M2 => if q_w x21 = 0 then (q_bd (fX8_fail 1 (M2.2 5 1) M2) fun _ M9 => some (0, M9)) else (q_bd (fX4_enter M2) fun _ M3 => q_bd (G 3 M3) fun _ M4 => q_bd (fX8_takeSign 44 M4) fun _ M5 => q_bd (G 3 M5) fun _ M6 => q_bd (fX8_takeSign 41 M6) fun _ M7 => q_bd (fX4_leave M7) fun _ M8 => some (0, M8))
theorem tX4_twoSums {d : Nat} (hd : 11 ≤ d) (G : Nat → q_Mem → Option (Int × q_Mem)) (hG : ∀ (t : Nat) (M : q_Mem), q_Ok M → q_TG d t M (G t M)) (M : q_Mem) (hO : q_Ok M) : q_EX (d + 1) yX4_twoSums cX4_twoSums 1 none 0 (q_args 0 [.inr (.inr 8)]) [] M (fX4_twoSums G M) := by
  show q_EX _ _ _ _ _ 0 [(0, .inr (.inr 8))] [] M _
  unfold fX4_twoSums
  refine q_aload_n 0 dX4_twoSums_0 rfl rfl ?_
  refine q_getx fl_X4_18 hO sh_8 rfl fx_8_0 dX4_twoSums_1 ?_
  refine q_callVv (As := []) hO mb_X8_step mv_X8_step ml_X4_40 sh_5 rfl dX4_twoSums_4 (fun _ => rfl) rfl (Nat.le_of_ble_eq_true rfl) rfl (Nat.le_of_ble_eq_true rfl) (tX8_step (by omega) M hO) (fun _ M1 _ hO1 => ?_)
  refine q_aload_n 0 dX4_twoSums_7 rfl rfl ?_
  refine q_getx fl_X4_18 hO1 sh_8 rfl fx_8_0 dX4_twoSums_8 ?_
  refine q_bipush dX4_twoSums_11 (by decide) ?_
  refine q_callVi (As := [.inl 40]) hO1 mb_X8_isSign mv_X8_isSign ml_X4_56 sh_5 rfl dX4_twoSums_13 (fun _ => rfl) rfl (Nat.le_of_ble_eq_true rfl) rfl (Nat.le_of_ble_eq_true rfl) (tX8_isSign 40 M1 hO1) (fun x21 M2 _ hO2 => ?_)
  refine q_ifne (tgt := 35) dX4_twoSums_16 (by decide) ?_ ?_
  · refine q_aload_n 0 dX4_twoSums_35 rfl rfl ?_
    refine q_callVv (As := []) hO2 mb_X4_enter mv_X4_enter ml_X4_50 sh_8 rfl dX4_twoSums_36 (fun _ => rfl) rfl (Nat.le_of_ble_eq_true rfl) rfl (Nat.le_of_ble_eq_true rfl) (tX4_enter (by omega) M2 hO2) (fun _ M3 _ hO3 => ?_)
    refine q_aload_n 0 dX4_twoSums_39 rfl rfl ?_
    refine q_callVv (As := []) hO3 mb_X4_sum mv_X4_sum ml_X4_65 sh_8 rfl dX4_twoSums_40 (fun _ => rfl) rfl (Nat.le_of_ble_eq_true rfl) rfl (Nat.le_of_ble_eq_true rfl) (hG 3 M3 hO3) (fun _ M4 _ hO4 => ?_)
    refine q_aload_n 0 dX4_twoSums_43 rfl rfl ?_
    refine q_getx fl_X4_18 hO4 sh_8 rfl fx_8_0 dX4_twoSums_44 ?_
    refine q_bipush dX4_twoSums_47 (by decide) ?_
    refine q_callVv (As := [.inl 44]) hO4 mb_X8_takeSign mv_X8_takeSign ml_X4_62 sh_5 rfl dX4_twoSums_49 (fun _ => rfl) rfl (Nat.le_of_ble_eq_true rfl) rfl (Nat.le_of_ble_eq_true rfl) (tX8_takeSign (by omega) 44 M4 hO4) (fun _ M5 _ hO5 => ?_)
    refine q_aload_n 0 dX4_twoSums_52 rfl rfl ?_
    refine q_callVv (As := []) hO5 mb_X4_sum mv_X4_sum ml_X4_65 sh_8 rfl dX4_twoSums_53 (fun _ => rfl) rfl (Nat.le_of_ble_eq_true rfl) rfl (Nat.le_of_ble_eq_true rfl) (hG 3 M5 hO5) (fun _ M6 _ hO6 => ?_)
    refine q_aload_n 0 dX4_twoSums_56 rfl rfl ?_
    refine q_getx fl_X4_18 hO6 sh_8 rfl fx_8_0 dX4_twoSums_57 ?_
    refine q_bipush dX4_twoSums_60 (by decide) ?_
    refine q_callVv (As := [.inl 41]) hO6 mb_X8_takeSign mv_X8_takeSign ml_X4_62 sh_5 rfl dX4_twoSums_62 (fun _ => rfl) rfl (Nat.le_of_ble_eq_true rfl) rfl (Nat.le_of_ble_eq_true rfl) (tX8_takeSign (by omega) 41 M6 hO6) (fun _ M7 _ hO7 => ?_)
    refine q_aload_n 0 dX4_twoSums_65 rfl rfl ?_
    refine q_callVv (As := []) hO7 mb_X4_leave mv_X4_leave ml_X4_53 sh_8 rfl dX4_twoSums_66 (fun _ => rfl) rfl (Nat.le_of_ble_eq_true rfl) rfl (Nat.le_of_ble_eq_true rfl) (tX4_leave M7 hO7) (fun _ M8 _ hO8 => ?_)
    exact q_ret dX4_twoSums_69 rfl
  · refine q_aload_n 0 dX4_twoSums_19 rfl rfl ?_
    refine q_getx fl_X4_18 hO2 sh_8 rfl fx_8_0 dX4_twoSums_20 ?_
    refine q_iconst dX4_twoSums_23 ?_
    refine q_aload_n 0 dX4_twoSums_24 rfl rfl ?_
    refine q_getx fl_X4_18 hO2 sh_8 rfl fx_8_0 dX4_twoSums_25 ?_
    refine q_geti fl_X4_71 sh_5 (q_inO hO2 sh_5) rfl dX4_twoSums_28 ?_
    refine q_callVv (As := [.inl 1, .inl (M2.2 5 1)]) hO2 mb_X8_fail mv_X8_fail ml_X4_74 sh_5 rfl dX4_twoSums_31 (fun _ => rfl) rfl (Nat.le_of_ble_eq_true rfl) rfl (Nat.le_of_ble_eq_true rfl) (tX8_fail 1 (M2.2 5 1) M2 hO2) (fun _ M9 _ hO9 => ?_)
    exact q_ret dX4_twoSums_34 rfl
def fG : Nat → Nat → q_Mem → Option (Int × q_Mem)
  | 0, _, _ => none
  | k + 1, t, M => match t with
    | 0 => fX4_test (fG k) M
    | 1 => fX4_both (fG k) M
    | 2 => fX4_fact (fG k) M
    | 3 => fX4_sum (fG k) M
    | 4 => fX4_product (fG k) M
    | 5 => fX4_part (fG k) M
    | 6 => fX4_twoSums (fG k) M
    | _ => none
def q_GD : Nat := 60
theorem tGk : ∀ (k d : Nat), k + 12 ≤ d → ∀ (t : Nat) (M : q_Mem), q_Ok M → q_TG d t M (fG k t M)
  | 0, d, _, t, M, _ => by
    match t with
    | 0 => exact q_none
    | 1 => exact q_none
    | 2 => exact q_none
    | 3 => exact q_none
    | 4 => exact q_none
    | 5 => exact q_none
    | 6 => exact q_none
    | t + 7 => exact trivial
  | k + 1, d, hd, t, M, hO => by
    obtain ⟨d, rfl⟩ : ∃ d', d = d' + 1 := ⟨d - 1, by omega⟩
    match t with
    | 0 => exact tX4_test (by omega) (fG k) (fun t M hO => tGk k d (by omega) t M hO) M hO
    | 1 => exact tX4_both (by omega) (fG k) (fun t M hO => tGk k d (by omega) t M hO) M hO
    | 2 => exact tX4_fact (by omega) (fG k) (fun t M hO => tGk k d (by omega) t M hO) M hO
    | 3 => exact tX4_sum (by omega) (fG k) (fun t M hO => tGk k d (by omega) t M hO) M hO
    | 4 => exact tX4_product (by omega) (fG k) (fun t M hO => tGk k d (by omega) t M hO) M hO
    | 5 => exact tX4_part (by omega) (fG k) (fun t M hO => tGk k d (by omega) t M hO) M hO
    | 6 => exact tX4_twoSums (by omega) (fG k) (fun t M hO => tGk k d (by omega) t M hO) M hO
    | t + 7 => exact trivial
theorem tG {d : Nat} (hd : 72 ≤ d) (t : Nat) (M : q_Mem) (hO : q_Ok M) : q_TG d t M (fG q_GD t M) := tGk q_GD d (by unfold q_GD; omega) t M hO
def fX3_readStatement_23 (r1 : Nat) (M : q_Mem) : Option (Int × q_Mem) := q_bd (fX8_fail 1 (M.2 5 1) M) fun _ M1 => some (0, M1)
theorem tX3_readStatement_23 {d : Nat} (hd : 72 ≤ d) (r1 : Nat) (hr1 : q_shp r1 = (0, 2)) (M : q_Mem) (hO : q_Ok M) : q_EX (d + 1) yX3_readStatement cX3_readStatement 3 none 23 [(0, .inr (.inr 9))] [] M (fX3_readStatement_23 r1 M) := by
  unfold fX3_readStatement_23
  refine q_aload_n 0 dX3_readStatement_23 rfl rfl ?_
  refine q_getx fl_X3_9 hO sh_9 rfl fx_9_0 dX3_readStatement_24 ?_
  refine q_iconst dX3_readStatement_27 ?_
  refine q_aload_n 0 dX3_readStatement_28 rfl rfl ?_
  refine q_getx fl_X3_9 hO sh_9 rfl fx_9_0 dX3_readStatement_29 ?_
  refine q_geti fl_X3_44 sh_5 (q_inO hO sh_5) rfl dX3_readStatement_32 ?_
  refine q_callVv (As := [.inl 1, .inl (M.2 5 1)]) hO mb_X8_fail mv_X8_fail ml_X3_47 sh_5 rfl dX3_readStatement_35 (fun _ => rfl) rfl (Nat.le_of_ble_eq_true rfl) rfl (Nat.le_of_ble_eq_true rfl) (tX8_fail 1 (M.2 5 1) M hO) (fun _ M1 _ hO1 => ?_)
  exact q_ret dX3_readStatement_38 rfl
def fX3_readStatement (r1 : Nat) (x2 : Int) (M : q_Mem) : Option (Int × q_Mem) := if q_w (M.2 5 3) = q_w 1 then (q_bd (fX8_isWord 0 M) fun x21 M1 => if q_w x2 = q_w x21 then (q_let (M1.2 5 4) fun x22 => if q_w x22 = 0 then q_bd (fX8_step M1) fun _ M2 => q_bd (fX8_takeNumber 10 400 M2) fun x23 M3 => q_let (q_up M3 r1 0 x23) fun M4 => some (0, M4) else (if q_w x22 = 1 then q_bd (fX3_readStall r1 M1) fun _ M5 => some (0, M5) else (if q_w x22 = 2 then q_bd (fX8_fail 1 (M1.2 5 1) M1) fun _ M6 => some (0, M6) else (if q_w x22 = 3 then q_bd (fX8_fail 1 (M1.2 5 1) M1) fun _ M7 => some (0, M7) else (if q_w x22 = 4 then q_bd (fX8_fail 1 (M1.2 5 1) M1) fun _ M8 => some (0, M8) else (if q_w x22 = 5 then q_bd (fX8_fail 1 (M1.2 5 1) M1) fun _ M9 => some (0, M9) else (if q_w x22 = 6 then q_bd (fX3_readCoin r1 M1) fun _ M10 => some (0, M10) else (if q_w x22 = 7 then q_bd (fX8_fail 1 (M1.2 5 1) M1) fun _ M11 => some (0, M11) else (if q_w x22 = 8 then q_bd (fX8_fail 1 (M1.2 5 1) M1) fun _ M12 => some (0, M12) else (if q_w x22 = 9 then q_bd (fX3_readCloud r1 M1) fun _ M13 => some (0, M13) else (if q_w x22 = 10 then q_bd (fX8_fail 1 (M1.2 5 1) M1) fun _ M14 => some (0, M14) else (if q_w x22 = 11 then q_bd (fX3_hasRoom (M1.2 (q_fr r1 14) 1) 1 M1) fun x24 M15 => if q_w x24 = 0 then (some (0, M15)) else (q_bd (fX8_step M15) fun _ M16 => q_bd (fX4_begin (q_fr r1 14) 0 M16) fun _ M17 => q_bd (fG q_GD 3 M17) fun _ M18 => some (0, M18)) else (if q_w x22 = 12 then q_bd (fX3_hasRoom (M1.2 (q_fr r1 15) 1) 1 M1) fun x25 M19 => if q_w x25 = 0 then (some (0, M19)) else (q_bd (fX8_step M19) fun _ M20 => q_bd (fX4_begin (q_fr r1 15) 1 M20) fun _ M21 => q_bd (fG q_GD 0 M21) fun _ M22 => some (0, M22)) else (if q_w x22 = 13 then q_bd (fX8_step M1) fun _ M23 => q_bd (fX8_takeNumber 0 9999 M23) fun x26 M24 => q_let (q_up M24 r1 16 x26) fun M25 => some (0, M25) else (if q_w x22 = 14 then q_bd (fX8_step M1) fun _ M26 => q_bd (fX8_takeNumber 0 100 M26) fun x27 M27 => q_let (q_up M27 r1 17 x27) fun M28 => some (0, M28) else (q_bd (fX8_fail 1 (M1.2 5 1) M1) fun _ M29 => some (0, M29))))))))))))))))) else ((fX3_readStatement_23 r1 M1))) else ((fX3_readStatement_23 r1 M))
theorem tX3_readStatement {d : Nat} (hd : 73 ≤ d) (r1 : Nat) (x2 : Int) (M : q_Mem) (hO : q_Ok M) (hr1 : q_shp r1 = (0, 2)) : q_EX d yX3_readStatement cX3_readStatement 3 none 0 (q_args 0 [.inr (.inr 9), .inr (.inr r1), .inl x2]) [] M (fX3_readStatement r1 x2 M) := by
  obtain ⟨d, rfl⟩ : ∃ d', d = d' + 1 := ⟨d - 1, by omega⟩
  have hd : 72 ≤ d := by omega
  show q_EX _ _ _ _ _ 0 [(0, .inr (.inr 9)), (1, .inr (.inr r1)), (2, .inl x2)] [] M _
  unfold fX3_readStatement
  refine q_aload_n 0 dX3_readStatement_0 rfl rfl ?_
  refine q_getx fl_X3_9 hO sh_9 rfl fx_9_0 dX3_readStatement_1 ?_
  refine q_geti fl_X3_33 sh_5 (q_inO hO sh_5) rfl dX3_readStatement_4 ?_
  refine q_iconst dX3_readStatement_7 ?_
  refine q_icmpne (tgt := 23) dX3_readStatement_8 (by decide) ?_ ?_
  · refine q_sub [0] rfl ?_
    exact tX3_readStatement_23 hd r1 hr1 M hO
  · refine q_iload_n 2 dX3_readStatement_11 rfl rfl ?_
    refine q_aload_n 0 dX3_readStatement_12 rfl rfl ?_
    refine q_getx fl_X3_9 hO sh_9 rfl fx_9_0 dX3_readStatement_13 ?_
    refine q_iconst dX3_readStatement_16 ?_
    refine q_callVi (As := [.inl 0]) hO mb_X8_isWord mv_X8_isWord ml_X3_51 sh_5 rfl dX3_readStatement_17 (fun _ => rfl) rfl (Nat.le_of_ble_eq_true rfl) rfl (Nat.le_of_ble_eq_true rfl) (tX8_isWord 0 M hO) (fun x21 M1 _ hO1 => ?_)
    refine q_icmpeq (tgt := 39) dX3_readStatement_20 (by decide) ?_ ?_
    · refine q_aload_n 0 dX3_readStatement_39 rfl rfl ?_
      refine q_getx fl_X3_9 hO1 sh_9 rfl fx_9_0 dX3_readStatement_40 ?_
      refine q_geti fl_X3_55 sh_5 (q_inO hO1 sh_5) rfl dX3_readStatement_43 ?_
      refine q_nameI (fun x22 _ => ?_)
      refine q_case (fun h1 => ?_) (fun h1 => ?_)
      · refine q_tswI (tgt := 120) h1 dX3_readStatement_46 (by decide) (by decide) rfl (by decide) ?_
        refine q_aload_n 0 dX3_readStatement_120 rfl rfl ?_
        refine q_getx fl_X3_9 hO1 sh_9 rfl fx_9_0 dX3_readStatement_121 ?_
        refine q_callVv (As := []) hO1 mb_X8_step mv_X8_step ml_X3_58 sh_5 rfl dX3_readStatement_124 (fun _ => rfl) rfl (Nat.le_of_ble_eq_true rfl) rfl (Nat.le_of_ble_eq_true rfl) (tX8_step (by omega) M1 hO1) (fun _ M2 _ hO2 => ?_)
        refine q_aload_n 1 dX3_readStatement_127 rfl rfl ?_
        refine q_aload_n 0 dX3_readStatement_128 rfl rfl ?_
        refine q_getx fl_X3_9 hO2 sh_9 rfl fx_9_0 dX3_readStatement_129 ?_
        refine q_bipush dX3_readStatement_132 (by decide) ?_
        refine q_sipush dX3_readStatement_134 (by decide) ?_
        refine q_callVi (As := [.inl 10, .inl 400]) hO2 mb_X8_takeNumber mv_X8_takeNumber ml_X3_61 sh_5 rfl dX3_readStatement_137 (fun _ => rfl) rfl (Nat.le_of_ble_eq_true rfl) rfl (Nat.le_of_ble_eq_true rfl) (tX8_takeNumber (by omega) 10 400 M2 hO2) (fun x23 M3 _ hO3 => ?_)
        refine q_puti fl_X3_65 hr1 (q_inO hO3 hr1) (fun h => q_Ok_put h hr1 rfl) rfl dX3_readStatement_140 (fun M4 hM4 => ?_)
        have hO4 : q_Ok M4 := by rw [hM4]; exact q_Ok_put hO3 hr1 rfl
        refine q_goto (tgt := 322) dX3_readStatement_143 (by decide) ?_
        exact q_ret dX3_readStatement_322 rfl
      · refine q_case (fun h2 => ?_) (fun h2 => ?_)
        · refine q_tswI (tgt := 146) h2 dX3_readStatement_46 (by decide) (by decide) rfl (by decide) ?_
          refine q_aload_n 0 dX3_readStatement_146 rfl rfl ?_
          refine q_aload_n 1 dX3_readStatement_147 rfl rfl ?_
          refine q_callVv (As := [.inr (.inr r1)]) hO1 mb_X3_readStall mv_X3_readStall ml_X3_68 sh_9 rfl dX3_readStatement_148 (fun _ => rfl) rfl (Nat.le_of_ble_eq_true rfl) rfl (Nat.le_of_ble_eq_true rfl) (tX3_readStall (by omega) r1 M1 hO1 hr1) (fun _ M5 _ hO5 => ?_)
          refine q_goto (tgt := 322) dX3_readStatement_151 (by decide) ?_
          exact q_ret dX3_readStatement_322 rfl
        · refine q_case (fun h3 => ?_) (fun h3 => ?_)
          · refine q_tswI (tgt := 307) h3 dX3_readStatement_46 (by decide) (by decide) rfl (by decide) ?_
            refine q_aload_n 0 dX3_readStatement_307 rfl rfl ?_
            refine q_getx fl_X3_9 hO1 sh_9 rfl fx_9_0 dX3_readStatement_308 ?_
            refine q_iconst dX3_readStatement_311 ?_
            refine q_aload_n 0 dX3_readStatement_312 rfl rfl ?_
            refine q_getx fl_X3_9 hO1 sh_9 rfl fx_9_0 dX3_readStatement_313 ?_
            refine q_geti fl_X3_44 sh_5 (q_inO hO1 sh_5) rfl dX3_readStatement_316 ?_
            refine q_callVv (As := [.inl 1, .inl (M1.2 5 1)]) hO1 mb_X8_fail mv_X8_fail ml_X3_47 sh_5 rfl dX3_readStatement_319 (fun _ => rfl) rfl (Nat.le_of_ble_eq_true rfl) rfl (Nat.le_of_ble_eq_true rfl) (tX8_fail 1 (M1.2 5 1) M1 hO1) (fun _ M6 _ hO6 => ?_)
            exact q_ret dX3_readStatement_322 rfl
          · refine q_case (fun h4 => ?_) (fun h4 => ?_)
            · refine q_tswI (tgt := 307) h4 dX3_readStatement_46 (by decide) (by decide) rfl (by decide) ?_
              refine q_aload_n 0 dX3_readStatement_307 rfl rfl ?_
              refine q_getx fl_X3_9 hO1 sh_9 rfl fx_9_0 dX3_readStatement_308 ?_
              refine q_iconst dX3_readStatement_311 ?_
              refine q_aload_n 0 dX3_readStatement_312 rfl rfl ?_
              refine q_getx fl_X3_9 hO1 sh_9 rfl fx_9_0 dX3_readStatement_313 ?_
              refine q_geti fl_X3_44 sh_5 (q_inO hO1 sh_5) rfl dX3_readStatement_316 ?_
              refine q_callVv (As := [.inl 1, .inl (M1.2 5 1)]) hO1 mb_X8_fail mv_X8_fail ml_X3_47 sh_5 rfl dX3_readStatement_319 (fun _ => rfl) rfl (Nat.le_of_ble_eq_true rfl) rfl (Nat.le_of_ble_eq_true rfl) (tX8_fail 1 (M1.2 5 1) M1 hO1) (fun _ M7 _ hO7 => ?_)
              exact q_ret dX3_readStatement_322 rfl
            · refine q_case (fun h5 => ?_) (fun h5 => ?_)
              · refine q_tswI (tgt := 307) h5 dX3_readStatement_46 (by decide) (by decide) rfl (by decide) ?_
                refine q_aload_n 0 dX3_readStatement_307 rfl rfl ?_
                refine q_getx fl_X3_9 hO1 sh_9 rfl fx_9_0 dX3_readStatement_308 ?_
                refine q_iconst dX3_readStatement_311 ?_
                refine q_aload_n 0 dX3_readStatement_312 rfl rfl ?_
                refine q_getx fl_X3_9 hO1 sh_9 rfl fx_9_0 dX3_readStatement_313 ?_
                refine q_geti fl_X3_44 sh_5 (q_inO hO1 sh_5) rfl dX3_readStatement_316 ?_
                refine q_callVv (As := [.inl 1, .inl (M1.2 5 1)]) hO1 mb_X8_fail mv_X8_fail ml_X3_47 sh_5 rfl dX3_readStatement_319 (fun _ => rfl) rfl (Nat.le_of_ble_eq_true rfl) rfl (Nat.le_of_ble_eq_true rfl) (tX8_fail 1 (M1.2 5 1) M1 hO1) (fun _ M8 _ hO8 => ?_)
                exact q_ret dX3_readStatement_322 rfl
              · refine q_case (fun h6 => ?_) (fun h6 => ?_)
                · refine q_tswI (tgt := 307) h6 dX3_readStatement_46 (by decide) (by decide) rfl (by decide) ?_
                  refine q_aload_n 0 dX3_readStatement_307 rfl rfl ?_
                  refine q_getx fl_X3_9 hO1 sh_9 rfl fx_9_0 dX3_readStatement_308 ?_
                  refine q_iconst dX3_readStatement_311 ?_
                  refine q_aload_n 0 dX3_readStatement_312 rfl rfl ?_
                  refine q_getx fl_X3_9 hO1 sh_9 rfl fx_9_0 dX3_readStatement_313 ?_
                  refine q_geti fl_X3_44 sh_5 (q_inO hO1 sh_5) rfl dX3_readStatement_316 ?_
                  refine q_callVv (As := [.inl 1, .inl (M1.2 5 1)]) hO1 mb_X8_fail mv_X8_fail ml_X3_47 sh_5 rfl dX3_readStatement_319 (fun _ => rfl) rfl (Nat.le_of_ble_eq_true rfl) rfl (Nat.le_of_ble_eq_true rfl) (tX8_fail 1 (M1.2 5 1) M1 hO1) (fun _ M9 _ hO9 => ?_)
                  exact q_ret dX3_readStatement_322 rfl
                · refine q_case (fun h7 => ?_) (fun h7 => ?_)
                  · refine q_tswI (tgt := 154) h7 dX3_readStatement_46 (by decide) (by decide) rfl (by decide) ?_
                    refine q_aload_n 0 dX3_readStatement_154 rfl rfl ?_
                    refine q_aload_n 1 dX3_readStatement_155 rfl rfl ?_
                    refine q_callVv (As := [.inr (.inr r1)]) hO1 mb_X3_readCoin mv_X3_readCoin ml_X3_72 sh_9 rfl dX3_readStatement_156 (fun _ => rfl) rfl (Nat.le_of_ble_eq_true rfl) rfl (Nat.le_of_ble_eq_true rfl) (tX3_readCoin (by omega) r1 M1 hO1 hr1) (fun _ M10 _ hO10 => ?_)
                    refine q_goto (tgt := 322) dX3_readStatement_159 (by decide) ?_
                    exact q_ret dX3_readStatement_322 rfl
                  · refine q_case (fun h8 => ?_) (fun h8 => ?_)
                    · refine q_tswI (tgt := 307) h8 dX3_readStatement_46 (by decide) (by decide) rfl (by decide) ?_
                      refine q_aload_n 0 dX3_readStatement_307 rfl rfl ?_
                      refine q_getx fl_X3_9 hO1 sh_9 rfl fx_9_0 dX3_readStatement_308 ?_
                      refine q_iconst dX3_readStatement_311 ?_
                      refine q_aload_n 0 dX3_readStatement_312 rfl rfl ?_
                      refine q_getx fl_X3_9 hO1 sh_9 rfl fx_9_0 dX3_readStatement_313 ?_
                      refine q_geti fl_X3_44 sh_5 (q_inO hO1 sh_5) rfl dX3_readStatement_316 ?_
                      refine q_callVv (As := [.inl 1, .inl (M1.2 5 1)]) hO1 mb_X8_fail mv_X8_fail ml_X3_47 sh_5 rfl dX3_readStatement_319 (fun _ => rfl) rfl (Nat.le_of_ble_eq_true rfl) rfl (Nat.le_of_ble_eq_true rfl) (tX8_fail 1 (M1.2 5 1) M1 hO1) (fun _ M11 _ hO11 => ?_)
                      exact q_ret dX3_readStatement_322 rfl
                    · refine q_case (fun h9 => ?_) (fun h9 => ?_)
                      · refine q_tswI (tgt := 307) h9 dX3_readStatement_46 (by decide) (by decide) rfl (by decide) ?_
                        refine q_aload_n 0 dX3_readStatement_307 rfl rfl ?_
                        refine q_getx fl_X3_9 hO1 sh_9 rfl fx_9_0 dX3_readStatement_308 ?_
                        refine q_iconst dX3_readStatement_311 ?_
                        refine q_aload_n 0 dX3_readStatement_312 rfl rfl ?_
                        refine q_getx fl_X3_9 hO1 sh_9 rfl fx_9_0 dX3_readStatement_313 ?_
                        refine q_geti fl_X3_44 sh_5 (q_inO hO1 sh_5) rfl dX3_readStatement_316 ?_
                        refine q_callVv (As := [.inl 1, .inl (M1.2 5 1)]) hO1 mb_X8_fail mv_X8_fail ml_X3_47 sh_5 rfl dX3_readStatement_319 (fun _ => rfl) rfl (Nat.le_of_ble_eq_true rfl) rfl (Nat.le_of_ble_eq_true rfl) (tX8_fail 1 (M1.2 5 1) M1 hO1) (fun _ M12 _ hO12 => ?_)
                        exact q_ret dX3_readStatement_322 rfl
                      · refine q_case (fun h10 => ?_) (fun h10 => ?_)
                        · refine q_tswI (tgt := 162) h10 dX3_readStatement_46 (by decide) (by decide) rfl (by decide) ?_
                          refine q_aload_n 0 dX3_readStatement_162 rfl rfl ?_
                          refine q_aload_n 1 dX3_readStatement_163 rfl rfl ?_
                          refine q_callVv (As := [.inr (.inr r1)]) hO1 mb_X3_readCloud mv_X3_readCloud ml_X3_75 sh_9 rfl dX3_readStatement_164 (fun _ => rfl) rfl (Nat.le_of_ble_eq_true rfl) rfl (Nat.le_of_ble_eq_true rfl) (tX3_readCloud (by omega) r1 M1 hO1 hr1) (fun _ M13 _ hO13 => ?_)
                          refine q_goto (tgt := 322) dX3_readStatement_167 (by decide) ?_
                          exact q_ret dX3_readStatement_322 rfl
                        · refine q_case (fun h11 => ?_) (fun h11 => ?_)
                          · refine q_tswI (tgt := 307) h11 dX3_readStatement_46 (by decide) (by decide) rfl (by decide) ?_
                            refine q_aload_n 0 dX3_readStatement_307 rfl rfl ?_
                            refine q_getx fl_X3_9 hO1 sh_9 rfl fx_9_0 dX3_readStatement_308 ?_
                            refine q_iconst dX3_readStatement_311 ?_
                            refine q_aload_n 0 dX3_readStatement_312 rfl rfl ?_
                            refine q_getx fl_X3_9 hO1 sh_9 rfl fx_9_0 dX3_readStatement_313 ?_
                            refine q_geti fl_X3_44 sh_5 (q_inO hO1 sh_5) rfl dX3_readStatement_316 ?_
                            refine q_callVv (As := [.inl 1, .inl (M1.2 5 1)]) hO1 mb_X8_fail mv_X8_fail ml_X3_47 sh_5 rfl dX3_readStatement_319 (fun _ => rfl) rfl (Nat.le_of_ble_eq_true rfl) rfl (Nat.le_of_ble_eq_true rfl) (tX8_fail 1 (M1.2 5 1) M1 hO1) (fun _ M14 _ hO14 => ?_)
                            exact q_ret dX3_readStatement_322 rfl
                          · refine q_case (fun h12 => ?_) (fun h12 => ?_)
                            · refine q_tswI (tgt := 170) h12 dX3_readStatement_46 (by decide) (by decide) rfl (by decide) ?_
                              refine q_aload_n 0 dX3_readStatement_170 rfl rfl ?_
                              refine q_aload_n 1 dX3_readStatement_171 rfl rfl ?_
                              refine q_getx fl_X3_78 hO1 hr1 rfl (fs_2_14 hr1) dX3_readStatement_172 ?_
                              refine q_geti fl_X3_82 (ft_2_14 hr1) (q_inO hO1 (ft_2_14 hr1)) rfl dX3_readStatement_175 ?_
                              refine q_iconst dX3_readStatement_178 ?_
                              refine q_callVi (As := [.inl (M1.2 (q_fr r1 14) 1), .inl 1]) hO1 mb_X3_hasRoom mv_X3_hasRoom ml_X3_87 sh_9 rfl dX3_readStatement_179 (fun _ => rfl) rfl (Nat.le_of_ble_eq_true rfl) rfl (Nat.le_of_ble_eq_true rfl) (tX3_hasRoom (by omega) (M1.2 (q_fr r1 14) 1) 1 M1 hO1) (fun x24 M15 _ hO15 => ?_)
                              refine q_ifeq (tgt := 322) dX3_readStatement_182 (by decide) ?_ ?_
                              · exact q_ret dX3_readStatement_322 rfl
                              · refine q_aload_n 0 dX3_readStatement_185 rfl rfl ?_
                                refine q_getx fl_X3_9 hO15 sh_9 rfl fx_9_0 dX3_readStatement_186 ?_
                                refine q_callVv (As := []) hO15 mb_X8_step mv_X8_step ml_X3_58 sh_5 rfl dX3_readStatement_189 (fun _ => rfl) rfl (Nat.le_of_ble_eq_true rfl) rfl (Nat.le_of_ble_eq_true rfl) (tX8_step (by omega) M15 hO15) (fun _ M16 _ hO16 => ?_)
                                refine q_aload_n 0 dX3_readStatement_192 rfl rfl ?_
                                refine q_getx fl_X3_15 hO16 sh_9 rfl fx_9_1 dX3_readStatement_193 ?_
                                refine q_aload_n 1 dX3_readStatement_196 rfl rfl ?_
                                refine q_getx fl_X3_78 hO16 hr1 rfl (fs_2_14 hr1) dX3_readStatement_197 ?_
                                refine q_iconst dX3_readStatement_200 ?_
                                refine q_callVv (As := [.inr (.inr (q_fr r1 14)), .inl 0]) hO16 mb_X4_begin mv_X4_begin ml_X3_93 sh_8 rfl dX3_readStatement_201 (fun _ => rfl) rfl (Nat.le_of_ble_eq_true rfl) rfl (Nat.le_of_ble_eq_true rfl) (tX4_begin (q_fr r1 14) 0 M16 hO16 (ft_2_14 hr1)) (fun _ M17 _ hO17 => ?_)
                                refine q_aload_n 0 dX3_readStatement_204 rfl rfl ?_
                                refine q_getx fl_X3_15 hO17 sh_9 rfl fx_9_1 dX3_readStatement_205 ?_
                                refine q_callNv (As := []) hO17 mb_X4_sum mv_X4_sum mn_X3_96 sh_8 rfl dX3_readStatement_208 (fun _ => rfl) rfl (Nat.le_of_ble_eq_true rfl) rfl (Nat.le_of_ble_eq_true rfl) (tG (by omega) 3 M17 hO17) (fun _ M18 _ hO18 => ?_)
                                refine q_goto (tgt := 322) dX3_readStatement_211 (by decide) ?_
                                exact q_ret dX3_readStatement_322 rfl
                            · refine q_case (fun h13 => ?_) (fun h13 => ?_)
                              · refine q_tswI (tgt := 214) h13 dX3_readStatement_46 (by decide) (by decide) rfl (by decide) ?_
                                refine q_aload_n 0 dX3_readStatement_214 rfl rfl ?_
                                refine q_aload_n 1 dX3_readStatement_215 rfl rfl ?_
                                refine q_getx fl_X3_99 hO1 hr1 rfl (fs_2_15 hr1) dX3_readStatement_216 ?_
                                refine q_geti fl_X3_82 (ft_2_15 hr1) (q_inO hO1 (ft_2_15 hr1)) rfl dX3_readStatement_219 ?_
                                refine q_iconst dX3_readStatement_222 ?_
                                refine q_callVi (As := [.inl (M1.2 (q_fr r1 15) 1), .inl 1]) hO1 mb_X3_hasRoom mv_X3_hasRoom ml_X3_87 sh_9 rfl dX3_readStatement_223 (fun _ => rfl) rfl (Nat.le_of_ble_eq_true rfl) rfl (Nat.le_of_ble_eq_true rfl) (tX3_hasRoom (by omega) (M1.2 (q_fr r1 15) 1) 1 M1 hO1) (fun x25 M19 _ hO19 => ?_)
                                refine q_ifeq (tgt := 322) dX3_readStatement_226 (by decide) ?_ ?_
                                · exact q_ret dX3_readStatement_322 rfl
                                · refine q_aload_n 0 dX3_readStatement_229 rfl rfl ?_
                                  refine q_getx fl_X3_9 hO19 sh_9 rfl fx_9_0 dX3_readStatement_230 ?_
                                  refine q_callVv (As := []) hO19 mb_X8_step mv_X8_step ml_X3_58 sh_5 rfl dX3_readStatement_233 (fun _ => rfl) rfl (Nat.le_of_ble_eq_true rfl) rfl (Nat.le_of_ble_eq_true rfl) (tX8_step (by omega) M19 hO19) (fun _ M20 _ hO20 => ?_)
                                  refine q_aload_n 0 dX3_readStatement_236 rfl rfl ?_
                                  refine q_getx fl_X3_15 hO20 sh_9 rfl fx_9_1 dX3_readStatement_237 ?_
                                  refine q_aload_n 1 dX3_readStatement_240 rfl rfl ?_
                                  refine q_getx fl_X3_99 hO20 hr1 rfl (fs_2_15 hr1) dX3_readStatement_241 ?_
                                  refine q_iconst dX3_readStatement_244 ?_
                                  refine q_callVv (As := [.inr (.inr (q_fr r1 15)), .inl 1]) hO20 mb_X4_begin mv_X4_begin ml_X3_93 sh_8 rfl dX3_readStatement_245 (fun _ => rfl) rfl (Nat.le_of_ble_eq_true rfl) rfl (Nat.le_of_ble_eq_true rfl) (tX4_begin (q_fr r1 15) 1 M20 hO20 (ft_2_15 hr1)) (fun _ M21 _ hO21 => ?_)
                                  refine q_aload_n 0 dX3_readStatement_248 rfl rfl ?_
                                  refine q_getx fl_X3_15 hO21 sh_9 rfl fx_9_1 dX3_readStatement_249 ?_
                                  refine q_callNv (As := []) hO21 mb_X4_test mv_X4_test mn_X3_102 sh_8 rfl dX3_readStatement_252 (fun _ => rfl) rfl (Nat.le_of_ble_eq_true rfl) rfl (Nat.le_of_ble_eq_true rfl) (tG (by omega) 0 M21 hO21) (fun _ M22 _ hO22 => ?_)
                                  refine q_goto (tgt := 322) dX3_readStatement_255 (by decide) ?_
                                  exact q_ret dX3_readStatement_322 rfl
                              · refine q_case (fun h14 => ?_) (fun h14 => ?_)
                                · refine q_tswI (tgt := 258) h14 dX3_readStatement_46 (by decide) (by decide) rfl (by decide) ?_
                                  refine q_aload_n 0 dX3_readStatement_258 rfl rfl ?_
                                  refine q_getx fl_X3_9 hO1 sh_9 rfl fx_9_0 dX3_readStatement_259 ?_
                                  refine q_callVv (As := []) hO1 mb_X8_step mv_X8_step ml_X3_58 sh_5 rfl dX3_readStatement_262 (fun _ => rfl) rfl (Nat.le_of_ble_eq_true rfl) rfl (Nat.le_of_ble_eq_true rfl) (tX8_step (by omega) M1 hO1) (fun _ M23 _ hO23 => ?_)
                                  refine q_aload_n 1 dX3_readStatement_265 rfl rfl ?_
                                  refine q_aload_n 0 dX3_readStatement_266 rfl rfl ?_
                                  refine q_getx fl_X3_9 hO23 sh_9 rfl fx_9_0 dX3_readStatement_267 ?_
                                  refine q_iconst dX3_readStatement_270 ?_
                                  refine q_sipush dX3_readStatement_271 (by decide) ?_
                                  refine q_callVi (As := [.inl 0, .inl 9999]) hO23 mb_X8_takeNumber mv_X8_takeNumber ml_X3_61 sh_5 rfl dX3_readStatement_274 (fun _ => rfl) rfl (Nat.le_of_ble_eq_true rfl) rfl (Nat.le_of_ble_eq_true rfl) (tX8_takeNumber (by omega) 0 9999 M23 hO23) (fun x26 M24 _ hO24 => ?_)
                                  refine q_puti fl_X3_105 hr1 (q_inO hO24 hr1) (fun h => q_Ok_put h hr1 rfl) rfl dX3_readStatement_277 (fun M25 hM25 => ?_)
                                  have hO25 : q_Ok M25 := by rw [hM25]; exact q_Ok_put hO24 hr1 rfl
                                  refine q_goto (tgt := 322) dX3_readStatement_280 (by decide) ?_
                                  exact q_ret dX3_readStatement_322 rfl
                                · refine q_case (fun h15 => ?_) (fun h15 => ?_)
                                  · refine q_tswI (tgt := 283) h15 dX3_readStatement_46 (by decide) (by decide) rfl (by decide) ?_
                                    refine q_aload_n 0 dX3_readStatement_283 rfl rfl ?_
                                    refine q_getx fl_X3_9 hO1 sh_9 rfl fx_9_0 dX3_readStatement_284 ?_
                                    refine q_callVv (As := []) hO1 mb_X8_step mv_X8_step ml_X3_58 sh_5 rfl dX3_readStatement_287 (fun _ => rfl) rfl (Nat.le_of_ble_eq_true rfl) rfl (Nat.le_of_ble_eq_true rfl) (tX8_step (by omega) M1 hO1) (fun _ M26 _ hO26 => ?_)
                                    refine q_aload_n 1 dX3_readStatement_290 rfl rfl ?_
                                    refine q_aload_n 0 dX3_readStatement_291 rfl rfl ?_
                                    refine q_getx fl_X3_9 hO26 sh_9 rfl fx_9_0 dX3_readStatement_292 ?_
                                    refine q_iconst dX3_readStatement_295 ?_
                                    refine q_bipush dX3_readStatement_296 (by decide) ?_
                                    refine q_callVi (As := [.inl 0, .inl 100]) hO26 mb_X8_takeNumber mv_X8_takeNumber ml_X3_61 sh_5 rfl dX3_readStatement_298 (fun _ => rfl) rfl (Nat.le_of_ble_eq_true rfl) rfl (Nat.le_of_ble_eq_true rfl) (tX8_takeNumber (by omega) 0 100 M26 hO26) (fun x27 M27 _ hO27 => ?_)
                                    refine q_puti fl_X3_108 hr1 (q_inO hO27 hr1) (fun h => q_Ok_put h hr1 rfl) rfl dX3_readStatement_301 (fun M28 hM28 => ?_)
                                    have hO28 : q_Ok M28 := by rw [hM28]; exact q_Ok_put hO27 hr1 rfl
                                    refine q_goto (tgt := 322) dX3_readStatement_304 (by decide) ?_
                                    exact q_ret dX3_readStatement_322 rfl
                                  · refine q_tswO (tgt := 307) (by omega) dX3_readStatement_46 (by decide) ?_
                                    refine q_aload_n 0 dX3_readStatement_307 rfl rfl ?_
                                    refine q_getx fl_X3_9 hO1 sh_9 rfl fx_9_0 dX3_readStatement_308 ?_
                                    refine q_iconst dX3_readStatement_311 ?_
                                    refine q_aload_n 0 dX3_readStatement_312 rfl rfl ?_
                                    refine q_getx fl_X3_9 hO1 sh_9 rfl fx_9_0 dX3_readStatement_313 ?_
                                    refine q_geti fl_X3_44 sh_5 (q_inO hO1 sh_5) rfl dX3_readStatement_316 ?_
                                    refine q_callVv (As := [.inl 1, .inl (M1.2 5 1)]) hO1 mb_X8_fail mv_X8_fail ml_X3_47 sh_5 rfl dX3_readStatement_319 (fun _ => rfl) rfl (Nat.le_of_ble_eq_true rfl) rfl (Nat.le_of_ble_eq_true rfl) (tX8_fail 1 (M1.2 5 1) M1 hO1) (fun _ M29 _ hO29 => ?_)
                                    exact q_ret dX3_readStatement_322 rfl
    · refine q_sub [0] rfl ?_
      exact tX3_readStatement_23 hd r1 hr1 M1 hO1
def fX3_read_50 (r1 : Nat) (K13 : Int → q_Mem → Option (Int × q_Mem)) (x2 : Int) (s0 : Int) (M : q_Mem) : Option (Int × q_Mem) := q_bd (fX3_readStatement r1 s0 M) fun _ M1 => q_bd (fX8_takeSign 59 M1) fun _ M2 => (K13 (x2 + 1) M2)
theorem tX3_read_50 {d : Nat} (hd : 73 ≤ d) (r1 : Nat) (hr1 : q_shp r1 = (0, 2)) (K13 : Int → q_Mem → Option (Int × q_Mem)) (hK13 : ∀ (x2 : Int) (M : q_Mem), q_Ok M → q_EX (d + 1) yX3_read cX3_read 3 (some .int) 13 [(0, .inr (.inr 9)), (1, .inr (.inr r1)), (2, .inl x2)] [] M (K13 x2 M)) (x2 : Int) (s0 : Int) (M : q_Mem) (hO : q_Ok M) : q_EX (d + 1) yX3_read cX3_read 3 (some .int) 50 [(0, .inr (.inr 9)), (1, .inr (.inr r1)), (2, .inl x2)] [.inl s0, .inr (.inr r1), .inr (.inr 9)] M (fX3_read_50 r1 K13 x2 s0 M) := by
  unfold fX3_read_50
  refine q_callVv (As := [.inr (.inr r1), .inl s0]) hO mb_X3_readStatement mv_X3_readStatement ml_X3_36 sh_9 rfl dX3_read_50 (fun _ => rfl) rfl (Nat.le_of_ble_eq_true rfl) rfl (Nat.le_of_ble_eq_true rfl) (tX3_readStatement (by omega) r1 s0 M hO hr1) (fun _ M1 _ hO1 => ?_)
  refine q_aload_n 0 dX3_read_53 rfl rfl ?_
  refine q_getx fl_X3_9 hO1 sh_9 rfl fx_9_0 dX3_read_54 ?_
  refine q_bipush dX3_read_57 (by decide) ?_
  refine q_callVv (As := [.inl 59]) hO1 mb_X8_takeSign mv_X8_takeSign ml_X3_40 sh_5 rfl dX3_read_59 (fun _ => rfl) rfl (Nat.le_of_ble_eq_true rfl) rfl (Nat.le_of_ble_eq_true rfl) (tX8_takeSign (by omega) 59 M1 hO1) (fun _ M2 _ hO2 => ?_)
  refine q_iinc (ls' := [(2, .inl (x2 + 1)), (0, .inr (.inr 9)), (1, .inr (.inr r1))]) 2 dX3_read_62 rfl (by decide) rfl ?_
  refine q_goto (tgt := 13) dX3_read_65 (by decide) ?_
  refine q_sub [1, 2, 0] rfl ?_
  exact hK13 (x2 + 1) M2 hO2
def fX3_read_68 (r1 : Nat) (x2 : Int) (M : q_Mem) : Option (Int × q_Mem) := if q_w x2 = 0 then (q_bd (fX8_fail 1 (M.2 5 1) M) fun _ M2 => some (x2, M2)) else (if q_w (M.2 5 3) = 0 then (some (x2, M)) else (q_bd (fX8_fail 5 (M.2 5 1) M) fun _ M1 => some (x2, M1)))
theorem tX3_read_68 {d : Nat} (hd : 73 ≤ d) (r1 : Nat) (hr1 : q_shp r1 = (0, 2)) (x2 : Int) (M : q_Mem) (hO : q_Ok M) : q_EX (d + 1) yX3_read cX3_read 3 (some .int) 68 [(0, .inr (.inr 9)), (2, .inl x2)] [] M (fX3_read_68 r1 x2 M) := by
  unfold fX3_read_68
  refine q_iload_n 1 dX3_read_68 rfl rfl ?_
  refine q_ifne (tgt := 90) dX3_read_69 (by decide) ?_ ?_
  · refine q_aload_n 0 dX3_read_90 rfl rfl ?_
    refine q_getx fl_X3_9 hO sh_9 rfl fx_9_0 dX3_read_91 ?_
    refine q_geti fl_X3_33 sh_5 (q_inO hO sh_5) rfl dX3_read_94 ?_
    refine q_ifeq (tgt := 115) dX3_read_97 (by decide) ?_ ?_
    · refine q_iload_n 1 dX3_read_115 rfl rfl ?_
      exact q_ret dX3_read_116 rfl
    · refine q_aload_n 0 dX3_read_100 rfl rfl ?_
      refine q_getx fl_X3_9 hO sh_9 rfl fx_9_0 dX3_read_101 ?_
      refine q_iconst dX3_read_104 ?_
      refine q_aload_n 0 dX3_read_105 rfl rfl ?_
      refine q_getx fl_X3_9 hO sh_9 rfl fx_9_0 dX3_read_106 ?_
      refine q_geti fl_X3_44 sh_5 (q_inO hO sh_5) rfl dX3_read_109 ?_
      refine q_callVv (As := [.inl 5, .inl (M.2 5 1)]) hO mb_X8_fail mv_X8_fail ml_X3_47 sh_5 rfl dX3_read_112 (fun _ => rfl) rfl (Nat.le_of_ble_eq_true rfl) rfl (Nat.le_of_ble_eq_true rfl) (tX8_fail 5 (M.2 5 1) M hO) (fun _ M1 _ hO1 => ?_)
      refine q_iload_n 1 dX3_read_115 rfl rfl ?_
      exact q_ret dX3_read_116 rfl
  · refine q_aload_n 0 dX3_read_72 rfl rfl ?_
    refine q_getx fl_X3_9 hO sh_9 rfl fx_9_0 dX3_read_73 ?_
    refine q_iconst dX3_read_76 ?_
    refine q_aload_n 0 dX3_read_77 rfl rfl ?_
    refine q_getx fl_X3_9 hO sh_9 rfl fx_9_0 dX3_read_78 ?_
    refine q_geti fl_X3_44 sh_5 (q_inO hO sh_5) rfl dX3_read_81 ?_
    refine q_callVv (As := [.inl 1, .inl (M.2 5 1)]) hO mb_X8_fail mv_X8_fail ml_X3_47 sh_5 rfl dX3_read_84 (fun _ => rfl) rfl (Nat.le_of_ble_eq_true rfl) rfl (Nat.le_of_ble_eq_true rfl) (tX8_fail 1 (M.2 5 1) M hO) (fun _ M2 _ hO2 => ?_)
    refine q_goto (tgt := 115) dX3_read_87 (by decide) ?_
    refine q_iload_n 1 dX3_read_115 rfl rfl ?_
    exact q_ret dX3_read_116 rfl
def fX3_read_13 (r1 : Nat) : Nat → Int → q_Mem → Option (Int × q_Mem)
  | 0, _, _ => none
  | n + 1, x2, M => if q_w x2 < q_w 80 then (if q_w (M.2 5 5) = 0 then (if q_w (M.2 5 3) = 0 then ((fX3_read_68 r1 x2 M)) else (if q_w x2 = 0 then ((fX3_read_50 r1 (fX3_read_13 r1 n) x2 1 M)) else ((fX3_read_50 r1 (fX3_read_13 r1 n) x2 0 M)))) else ((fX3_read_68 r1 x2 M))) else ((fX3_read_68 r1 x2 M))
theorem tX3_read_13 {d : Nat} (hd : 73 ≤ d) (r1 : Nat) (hr1 : q_shp r1 = (0, 2)) : ∀ (n : Nat) (x2 : Int) (M : q_Mem), q_Ok M → q_EX (d + 1) yX3_read cX3_read 3 (some .int) 13 [(0, .inr (.inr 9)), (1, .inr (.inr r1)), (2, .inl x2)] [] M (fX3_read_13 r1 n x2 M) := by
  intro n
  induction n with
  | zero => intro x2 M hO; exact q_none
  | succ n ih =>
    intro x2 M hO
    rw [fX3_read_13]
    refine q_iload_n 2 dX3_read_13 rfl rfl ?_
    refine q_bipush dX3_read_14 (by decide) ?_
    refine q_icmpge (tgt := 68) dX3_read_16 (by decide) ?_ ?_
    · refine q_sub [0, 2] rfl ?_
      exact tX3_read_68 hd r1 hr1 x2 M hO
    · refine q_aload_n 0 dX3_read_19 rfl rfl ?_
      refine q_getx fl_X3_9 hO sh_9 rfl fx_9_0 dX3_read_20 ?_
      refine q_geti fl_X3_29 sh_5 (q_inO hO sh_5) rfl dX3_read_23 ?_
      refine q_ifne (tgt := 68) dX3_read_26 (by decide) ?_ ?_
      · refine q_sub [0, 2] rfl ?_
        exact tX3_read_68 hd r1 hr1 x2 M hO
      · refine q_aload_n 0 dX3_read_29 rfl rfl ?_
        refine q_getx fl_X3_9 hO sh_9 rfl fx_9_0 dX3_read_30 ?_
        refine q_geti fl_X3_33 sh_5 (q_inO hO sh_5) rfl dX3_read_33 ?_
        refine q_ifeq (tgt := 68) dX3_read_36 (by decide) ?_ ?_
        · refine q_sub [0, 2] rfl ?_
          exact tX3_read_68 hd r1 hr1 x2 M hO
        · refine q_aload_n 0 dX3_read_39 rfl rfl ?_
          refine q_aload_n 1 dX3_read_40 rfl rfl ?_
          refine q_iload_n 2 dX3_read_41 rfl rfl ?_
          refine q_ifne (tgt := 49) dX3_read_42 (by decide) ?_ ?_
          · refine q_iconst dX3_read_49 ?_
            refine q_sub [0, 1, 2] rfl ?_
            exact tX3_read_50 hd r1 hr1 (fX3_read_13 r1 n) ih x2 0 M hO
          · refine q_iconst dX3_read_45 ?_
            refine q_goto (tgt := 50) dX3_read_46 (by decide) ?_
            refine q_sub [0, 1, 2] rfl ?_
            exact tX3_read_50 hd r1 hr1 (fX3_read_13 r1 n) ih x2 1 M hO
def fX3_read (r1 : Nat) (M : q_Mem) : Option (Int × q_Mem) := q_bd (fX2_clear r1 M) fun _ M1 => q_bd (fX8_begin M1) fun _ M2 => (fX3_read_13 r1 q_FU 0 M2)
theorem tX3_read {d : Nat} (hd : 74 ≤ d) (r1 : Nat) (M : q_Mem) (hO : q_Ok M) (hr1 : q_shp r1 = (0, 2)) : q_EX d yX3_read cX3_read 3 (some .int) 0 (q_args 0 [.inr (.inr 9), .inr (.inr r1)]) [] M (fX3_read r1 M) := by
  obtain ⟨d, rfl⟩ : ∃ d', d = d' + 1 := ⟨d - 1, by omega⟩
  have hd : 73 ≤ d := by omega
  show q_EX _ _ _ _ _ 0 [(0, .inr (.inr 9)), (1, .inr (.inr r1))] [] M _
  unfold fX3_read
  refine q_aload_n 1 dX3_read_0 rfl rfl ?_
  refine q_callVv (As := []) hO mb_X2_clear mv_X2_clear ml_X3_19 hr1 rfl dX3_read_1 (fun _ => rfl) rfl (Nat.le_of_ble_eq_true rfl) rfl (Nat.le_of_ble_eq_true rfl) (tX2_clear r1 M hO hr1) (fun _ M1 _ hO1 => ?_)
  refine q_aload_n 0 dX3_read_4 rfl rfl ?_
  refine q_getx fl_X3_9 hO1 sh_9 rfl fx_9_0 dX3_read_5 ?_
  refine q_callVv (As := []) hO1 mb_X8_begin mv_X8_begin ml_X3_24 sh_5 rfl dX3_read_8 (fun _ => rfl) rfl (Nat.le_of_ble_eq_true rfl) rfl (Nat.le_of_ble_eq_true rfl) (tX8_begin (by omega) M1 hO1) (fun _ M2 _ hO2 => ?_)
  refine q_iconst dX3_read_11 ?_
  refine q_istore_n (ls' := [(2, .inl 0), (0, .inr (.inr 9)), (1, .inr (.inr r1))]) dX3_read_12 rfl (by decide) rfl ?_
  refine q_sub [1, 2, 0] rfl ?_
  exact tX3_read_13 hd r1 hr1 q_FU 0 M2 hO2
def fJ7_fill_53178_5 (r0 n0 : Nat) : Nat → Int → Int → Int → q_Mem → Option (Int × q_Mem)
  | 0, _, _, _, _ => none
  | n + 1, x1, x2, x3, M => if q_w x2 < q_w x3 then ((q_sto M r0 n0 x2 x1).bind fun M1 => (fJ7_fill_53178_5 r0 n0 n x1 (x2 + 1) x3 M1)) else (some (0, M))
theorem tJ7_fill_53178_5 {d : Nat} (r0 n0 : Nat) (hr0 : q_shp r0 = (1, n0)) : ∀ (n : Nat) (x1 : Int) (x2 : Int) (x3 : Int) (M : q_Mem), q_Ok M → q_EX d yJ7_fill_53178 cJ7_fill_53178 4 none 5 [(0, .inr (.inr r0)), (1, .inl x1), (2, .inl x2), (3, .inl x3)] [] M (fJ7_fill_53178_5 r0 n0 n x1 x2 x3 M) := by
  intro n
  induction n with
  | zero => intro x1 x2 x3 M hO; exact q_none
  | succ n ih =>
    intro x1 x2 x3 M hO
    rw [fJ7_fill_53178_5]
    refine q_iload_n 2 dJ7_fill_53178_5 rfl rfl ?_
    refine q_iload_n 3 dJ7_fill_53178_6 rfl rfl ?_
    refine q_icmpge (tgt := 20) dJ7_fill_53178_7 (by decide) ?_ ?_
    · exact q_ret dJ7_fill_53178_20 rfl
    · refine q_aload_n 0 dJ7_fill_53178_10 rfl rfl ?_
      refine q_iload_n 2 dJ7_fill_53178_11 rfl rfl ?_
      refine q_iload_n 1 dJ7_fill_53178_12 rfl rfl ?_
      refine q_iast hr0 (q_inA hO hr0 (by decide)) dJ7_fill_53178_13 (fun M1 _ _ hM1 => ?_)
      have hO1 : q_Ok M1 := by rw [hM1]; exact q_Ok_arr (t := 0) hO hr0 (by decide)
      refine q_iinc (ls' := [(2, .inl (x2 + 1)), (0, .inr (.inr r0)), (1, .inl x1), (3, .inl x3)]) 2 dJ7_fill_53178_14 rfl (by decide) rfl ?_
      refine q_goto (tgt := 5) dJ7_fill_53178_17 (by decide) ?_
      refine q_sub [1, 2, 0, 3] rfl ?_
      exact ih x1 (x2 + 1) x3 M1 hO1
def fJ7_fill_53178 (r0 : Nat) (n0 : Nat) (x1 : Int) (M : q_Mem) : Option (Int × q_Mem) := q_let ((n0 : Nat) : Int) fun x21 => (fJ7_fill_53178_5 r0 n0 q_FU x1 0 x21 M)
theorem tJ7_fill_53178 {d : Nat} (r0 : Nat) (n0 : Nat) (x1 : Int) (M : q_Mem) (hO : q_Ok M) (hr0 : q_shp r0 = (1, n0)) : q_EX d yJ7_fill_53178 cJ7_fill_53178 4 none 0 (q_args 0 [.inr (.inr r0), .inl x1]) [] M (fJ7_fill_53178 r0 n0 x1 M) := by
  show q_EX _ _ _ _ _ 0 [(0, .inr (.inr r0)), (1, .inl x1)] [] M _
  unfold fJ7_fill_53178
  refine q_iconst dJ7_fill_53178_0 ?_
  refine q_istore_n (ls' := [(2, .inl 0), (0, .inr (.inr r0)), (1, .inl x1)]) dJ7_fill_53178_1 rfl (by decide) rfl ?_
  refine q_aload_n 1 dJ7_fill_53178_2 rfl rfl ?_
  refine q_alen (t := 0) hr0 (by decide) (q_inA hO hr0 (by decide)) dJ7_fill_53178_3 ?_
  refine q_nameI (fun x21 _ => ?_)
  refine q_istore_n (ls' := [(3, .inl x21), (2, .inl 0), (0, .inr (.inr r0)), (1, .inl x1)]) dJ7_fill_53178_4 rfl (by decide) rfl ?_
  refine q_sub [2, 3, 1, 0] rfl ?_
  exact tJ7_fill_53178_5 r0 n0 hr0 q_FU x1 0 x21 M hO
def fX5_begin (r1 : Nat) (M : q_Mem) : Option (Int × q_Mem) := q_let (q_up M 87 0 (r1 : Int)) fun M1 => q_bd (fJ7_fill_53178 88 19248 (-1) M1) fun _ M2 => some (0, M2)
theorem tX5_begin {d : Nat} (hd : 1 ≤ d) (r1 : Nat) (M : q_Mem) (hO : q_Ok M) (hr1 : q_shp r1 = (0, 2)) : q_EX d yX5_begin cX5_begin 2 none 0 (q_args 0 [.inr (.inr 87), .inr (.inr r1)]) [] M (fX5_begin r1 M) := by
  obtain ⟨d, rfl⟩ : ∃ d', d = d' + 1 := ⟨d - 1, by omega⟩
  have hd : 0 ≤ d := by omega
  show q_EX _ _ _ _ _ 0 [(0, .inr (.inr 87)), (1, .inr (.inr r1))] [] M _
  unfold fX5_begin
  refine q_aload_n 0 dX5_begin_0 rfl rfl ?_
  refine q_aload_n 1 dX5_begin_1 rfl rfl ?_
  refine q_putr fl_X5_25 sh_87 (q_inO hO sh_87) (fun h => q_Ok_ref h tr_87_0 hr1) (fun h6 => absurd hO.1 (by omega)) rfl dX5_begin_2 (fun M1 hM1 => ?_)
  have hO1 : q_Ok M1 := by rw [hM1]; exact q_Ok_ref hO tr_87_0 hr1
  refine q_aload_n 0 dX5_begin_5 rfl rfl ?_
  refine q_getx fl_X5_9 hO1 sh_87 rfl fx_87_1 dX5_begin_6 ?_
  refine q_iconst dX5_begin_9 ?_
  refine q_callSv (As := [.inr (.inr 88), .inl (-1)]) hO1 mb_J7_fill_53178 ms_J7_fill_53178 ml_X5_29 dX5_begin_10 (fun _ => rfl) rfl (Nat.le_of_ble_eq_true rfl) rfl (Nat.le_of_ble_eq_true rfl) (tJ7_fill_53178 88 19248 (-1) M1 hO1 sh_88) (fun _ M2 _ hO2 => ?_)
  exact q_ret dX5_begin_13 rfl
def fX5_markClouds_31 (K10 : Int → q_Mem → Option (Int × q_Mem)) : Nat → Int → Int → q_Mem → Option (Int × q_Mem)
  | 0, _, _, _ => none
  | n + 1, x2, x3, M => q_let (M.2 87 0).toNat fun r21 => (q_ld M (q_fr r21 13) 8 x2).bind fun x21 => if q_w x21 < q_w x3 then ((K10 (x2 + 1) M)) else ((q_sto M 89 401 x3 1).bind fun M1 => (fX5_markClouds_31 K10 n x2 (x3 + 1) M1))
theorem tX5_markClouds_31 {d : Nat} (hd : 0 ≤ d) (K10 : Int → q_Mem → Option (Int × q_Mem)) (hK10 : ∀ (x2 : Int) (M : q_Mem), q_Ok M → q_EX (d + 1) yX5_markClouds cX5_markClouds 4 none 10 [(0, .inr (.inr 87)), (1, .inr (.inr 10)), (2, .inl x2)] [] M (K10 x2 M)) : ∀ (n : Nat) (x2 : Int) (x3 : Int) (M : q_Mem), q_Ok M → q_EX (d + 1) yX5_markClouds cX5_markClouds 4 none 31 [(0, .inr (.inr 87)), (1, .inr (.inr 10)), (2, .inl x2), (3, .inl x3)] [] M (fX5_markClouds_31 K10 n x2 x3 M) := by
  intro n
  induction n with
  | zero => intro x2 x3 M hO; exact q_none
  | succ n ih =>
    intro x2 x3 M hO
    rw [fX5_markClouds_31]
    refine q_iload_n 3 dX5_markClouds_31 rfl rfl ?_
    refine q_aload_n 0 dX5_markClouds_32 rfl rfl ?_
    refine q_gettL fl_X5_25 hO sh_87 rfl tr_87_0 dX5_markClouds_33 (fun r21 _ hr21 => ?_)
    refine q_getx fl_X5_44 hO hr21 rfl (fs_2_13 hr21) dX5_markClouds_36 ?_
    refine q_iload_n 2 dX5_markClouds_39 rfl rfl ?_
    refine q_iald (ft_2_13 hr21) (q_inA hO (ft_2_13 hr21) (by decide)) dX5_markClouds_40 (fun x21 _ _ _ => ?_)
    refine q_icmpgt (tgt := 57) dX5_markClouds_41 (by decide) ?_ ?_
    · refine q_iinc (ls' := [(2, .inl (x2 + 1)), (0, .inr (.inr 87)), (1, .inr (.inr 10)), (3, .inl x3)]) 2 dX5_markClouds_57 rfl (by decide) rfl ?_
      refine q_goto (tgt := 10) dX5_markClouds_60 (by decide) ?_
      refine q_sub [1, 2, 0] rfl ?_
      exact hK10 (x2 + 1) M hO
    · refine q_aload_n 0 dX5_markClouds_44 rfl rfl ?_
      refine q_getx fl_X5_15 hO sh_87 rfl fx_87_2 dX5_markClouds_45 ?_
      refine q_iload_n 3 dX5_markClouds_48 rfl rfl ?_
      refine q_iconst dX5_markClouds_49 ?_
      refine q_iast sh_89 (q_inA hO sh_89 (by decide)) dX5_markClouds_50 (fun M1 _ _ hM1 => ?_)
      have hO1 : q_Ok M1 := by rw [hM1]; exact q_Ok_arr (t := 0) hO sh_89 (by decide)
      refine q_iinc (ls' := [(3, .inl (x3 + 1)), (0, .inr (.inr 87)), (1, .inr (.inr 10)), (2, .inl x2)]) 3 dX5_markClouds_51 rfl (by decide) rfl ?_
      refine q_goto (tgt := 31) dX5_markClouds_54 (by decide) ?_
      refine q_sub [1, 2, 3, 0] rfl ?_
      exact ih x2 (x3 + 1) M1 hO1
def fX5_markClouds_65  : Nat → Int → q_Mem → Option (Int × q_Mem)
  | 0, _, _ => none
  | n + 1, x2, M => if q_w x2 < q_w (M.2 10 3) then ((q_ld M 11 16 x2).bind fun x21 => (q_sto M 89 401 x21 1).bind fun M1 => (fX5_markClouds_65 n (x2 + 1) M1)) else (some (0, M))
theorem tX5_markClouds_65 {d : Nat} (hd : 0 ≤ d) : ∀ (n : Nat) (x2 : Int) (M : q_Mem), q_Ok M → q_EX (d + 1) yX5_markClouds cX5_markClouds 4 none 65 [(0, .inr (.inr 87)), (1, .inr (.inr 10)), (2, .inl x2)] [] M (fX5_markClouds_65 n x2 M) := by
  intro n
  induction n with
  | zero => intro x2 M hO; exact q_none
  | succ n ih =>
    intro x2 M hO
    rw [fX5_markClouds_65]
    refine q_iload_n 2 dX5_markClouds_65 rfl rfl ?_
    refine q_aload_n 1 dX5_markClouds_66 rfl rfl ?_
    refine q_geti fl_X5_47 sh_10 (q_inO hO sh_10) rfl dX5_markClouds_67 ?_
    refine q_icmpge (tgt := 91) dX5_markClouds_70 (by decide) ?_ ?_
    · exact q_ret dX5_markClouds_91 rfl
    · refine q_aload_n 0 dX5_markClouds_73 rfl rfl ?_
      refine q_getx fl_X5_15 hO sh_87 rfl fx_87_2 dX5_markClouds_74 ?_
      refine q_aload_n 1 dX5_markClouds_77 rfl rfl ?_
      refine q_getx fl_X5_50 hO sh_10 rfl fx_10_4 dX5_markClouds_78 ?_
      refine q_iload_n 2 dX5_markClouds_81 rfl rfl ?_
      refine q_iald sh_11 (q_inA hO sh_11 (by decide)) dX5_markClouds_82 (fun x21 _ _ _ => ?_)
      refine q_iconst dX5_markClouds_83 ?_
      refine q_iast sh_89 (q_inA hO sh_89 (by decide)) dX5_markClouds_84 (fun M1 _ _ hM1 => ?_)
      have hO1 : q_Ok M1 := by rw [hM1]; exact q_Ok_arr (t := 0) hO sh_89 (by decide)
      refine q_iinc (ls' := [(2, .inl (x2 + 1)), (0, .inr (.inr 87)), (1, .inr (.inr 10))]) 2 dX5_markClouds_85 rfl (by decide) rfl ?_
      refine q_goto (tgt := 65) dX5_markClouds_88 (by decide) ?_
      refine q_sub [1, 2, 0] rfl ?_
      exact ih (x2 + 1) M1 hO1
def fX5_markClouds_10  : Nat → Int → q_Mem → Option (Int × q_Mem)
  | 0, _, _ => none
  | n + 1, x2, M => q_let (M.2 87 0).toNat fun r21 => if q_w x2 < q_w (M.2 r21 11) then (q_let (M.2 87 0).toNat fun r22 => (q_ld M (q_fr r22 12) 8 x2).bind fun x21 => (fX5_markClouds_31 (fX5_markClouds_10 n) q_FU x2 x21 M)) else ((fX5_markClouds_65 q_FU 0 M))
theorem tX5_markClouds_10 {d : Nat} (hd : 0 ≤ d) : ∀ (n : Nat) (x2 : Int) (M : q_Mem), q_Ok M → q_EX (d + 1) yX5_markClouds cX5_markClouds 4 none 10 [(0, .inr (.inr 87)), (1, .inr (.inr 10)), (2, .inl x2)] [] M (fX5_markClouds_10 n x2 M) := by
  intro n
  induction n with
  | zero => intro x2 M hO; exact q_none
  | succ n ih =>
    intro x2 M hO
    rw [fX5_markClouds_10]
    refine q_iload_n 2 dX5_markClouds_10 rfl rfl ?_
    refine q_aload_n 0 dX5_markClouds_11 rfl rfl ?_
    refine q_gettL fl_X5_25 hO sh_87 rfl tr_87_0 dX5_markClouds_12 (fun r21 _ hr21 => ?_)
    refine q_geti fl_X5_35 hr21 (q_inO hO hr21) rfl dX5_markClouds_15 ?_
    refine q_icmpge (tgt := 63) dX5_markClouds_18 (by decide) ?_ ?_
    · refine q_iconst dX5_markClouds_63 ?_
      refine q_istore_n (ls' := [(2, .inl 0), (0, .inr (.inr 87)), (1, .inr (.inr 10))]) dX5_markClouds_64 rfl (by decide) rfl ?_
      refine q_sub [1, 2, 0] rfl ?_
      exact tX5_markClouds_65 hd q_FU 0 M hO
    · refine q_aload_n 0 dX5_markClouds_21 rfl rfl ?_
      refine q_gettL fl_X5_25 hO sh_87 rfl tr_87_0 dX5_markClouds_22 (fun r22 _ hr22 => ?_)
      refine q_getx fl_X5_41 hO hr22 rfl (fs_2_12 hr22) dX5_markClouds_25 ?_
      refine q_iload_n 2 dX5_markClouds_28 rfl rfl ?_
      refine q_iald (ft_2_12 hr22) (q_inA hO (ft_2_12 hr22) (by decide)) dX5_markClouds_29 (fun x21 _ _ _ => ?_)
      refine q_istore_n (ls' := [(3, .inl x21), (0, .inr (.inr 87)), (1, .inr (.inr 10)), (2, .inl x2)]) dX5_markClouds_30 rfl (by decide) rfl ?_
      refine q_sub [1, 2, 3, 0] rfl ?_
      exact tX5_markClouds_31 hd (fX5_markClouds_10 n) ih q_FU x2 x21 M hO
def fX5_markClouds (M : q_Mem) : Option (Int × q_Mem) := q_bd (fJ7_fill_53178 89 401 0 M) fun _ M1 => (fX5_markClouds_10 q_FU 0 M1)
theorem tX5_markClouds {d : Nat} (hd : 1 ≤ d) (M : q_Mem) (hO : q_Ok M) : q_EX d yX5_markClouds cX5_markClouds 4 none 0 (q_args 0 [.inr (.inr 87), .inr (.inr 10)]) [] M (fX5_markClouds M) := by
  obtain ⟨d, rfl⟩ : ∃ d', d = d' + 1 := ⟨d - 1, by omega⟩
  have hd : 0 ≤ d := by omega
  show q_EX _ _ _ _ _ 0 [(0, .inr (.inr 87)), (1, .inr (.inr 10))] [] M _
  unfold fX5_markClouds
  refine q_aload_n 0 dX5_markClouds_0 rfl rfl ?_
  refine q_getx fl_X5_15 hO sh_87 rfl fx_87_2 dX5_markClouds_1 ?_
  refine q_iconst dX5_markClouds_4 ?_
  refine q_callSv (As := [.inr (.inr 89), .inl 0]) hO mb_J7_fill_53178 ms_J7_fill_53178 ml_X5_29 dX5_markClouds_5 (fun _ => rfl) rfl (Nat.le_of_ble_eq_true rfl) rfl (Nat.le_of_ble_eq_true rfl) (tJ7_fill_53178 89 401 0 M hO sh_89) (fun _ M1 _ hO1 => ?_)
  refine q_iconst dX5_markClouds_8 ?_
  refine q_istore_n (ls' := [(2, .inl 0), (0, .inr (.inr 87)), (1, .inr (.inr 10))]) dX5_markClouds_9 rfl (by decide) rfl ?_
  refine q_sub [1, 2, 0] rfl ?_
  exact tX5_markClouds_10 hd q_FU 0 M1 hO1
def fX5_isCloudy (x1 : Int) (M : q_Mem) : Option (Int × q_Mem) := if q_w x1 < 0 then (some (0, M)) else (if q_w 400 < q_w x1 then (some (0, M)) else ((q_ld M 89 401 x1).bind fun x21 => if q_w x21 = q_w 1 then (some (1, M)) else (some (0, M))))
theorem tX5_isCloudy {d : Nat} (x1 : Int) (M : q_Mem) (hO : q_Ok M) : q_EX d yX5_isCloudy cX5_isCloudy 2 (some .boolean) 0 (q_args 0 [.inr (.inr 87), .inl x1]) [] M (fX5_isCloudy x1 M) := by
  show q_EX _ _ _ _ _ 0 [(0, .inr (.inr 87)), (1, .inl x1)] [] M _
  unfold fX5_isCloudy
  refine q_iload_n 1 dX5_isCloudy_0 rfl rfl ?_
  refine q_iflt (tgt := 25) dX5_isCloudy_1 (by decide) ?_ ?_
  · refine q_iconst dX5_isCloudy_25 ?_
    exact q_ret ⟨dX5_isCloudy_26, by decide⟩ rfl
  · refine q_iload_n 1 dX5_isCloudy_4 rfl rfl ?_
    refine q_sipush dX5_isCloudy_5 (by decide) ?_
    refine q_icmpgt (tgt := 25) dX5_isCloudy_8 (by decide) ?_ ?_
    · refine q_iconst dX5_isCloudy_25 ?_
      exact q_ret ⟨dX5_isCloudy_26, by decide⟩ rfl
    · refine q_aload_n 0 dX5_isCloudy_11 rfl rfl ?_
      refine q_getx fl_X5_15 hO sh_87 rfl fx_87_2 dX5_isCloudy_12 ?_
      refine q_iload_n 1 dX5_isCloudy_15 rfl rfl ?_
      refine q_iald sh_89 (q_inA hO sh_89 (by decide)) dX5_isCloudy_16 (fun x21 _ _ _ => ?_)
      refine q_iconst dX5_isCloudy_17 ?_
      refine q_icmpne (tgt := 25) dX5_isCloudy_18 (by decide) ?_ ?_
      · refine q_iconst dX5_isCloudy_25 ?_
        exact q_ret ⟨dX5_isCloudy_26, by decide⟩ rfl
      · refine q_iconst dX5_isCloudy_21 ?_
        refine q_goto (tgt := 26) dX5_isCloudy_22 (by decide) ?_
        exact q_ret ⟨dX5_isCloudy_26, by decide⟩ rfl
def fX7_push (r0 : Nat) (x1 : Int) (M : q_Mem) : Option (Int × q_Mem) := if q_w (M.2 r0 1) < q_w ((64 : Nat) : Int) then ((q_sto M (q_fr r0 0) 64 (M.2 r0 1) x1).bind fun M1 => q_let (q_up M1 r0 1 ((M1.2 r0 1) + 1)) fun M2 => some (0, M2)) else (some (0, M))
theorem tX7_push {d : Nat} (r0 : Nat) (x1 : Int) (M : q_Mem) (hO : q_Ok M) (hr0 : q_shp r0 = (0, 7)) : q_EX d yX7_push cX7_push 2 none 0 (q_args 0 [.inr (.inr r0), .inl x1]) [] M (fX7_push r0 x1 M) := by
  show q_EX _ _ _ _ _ 0 [(0, .inr (.inr r0)), (1, .inl x1)] [] M _
  unfold fX7_push
  refine q_aload_n 0 dX7_push_0 rfl rfl ?_
  refine q_geti fl_X7_15 hr0 (q_inO hO hr0) rfl dX7_push_1 ?_
  refine q_aload_n 0 dX7_push_4 rfl rfl ?_
  refine q_getx fl_X7_9 hO hr0 rfl (fs_7_0 hr0) dX7_push_5 ?_
  refine q_alen (t := 0) (ft_7_0 hr0) (by decide) (q_inA hO (ft_7_0 hr0) (by decide)) dX7_push_8 ?_
  refine q_icmpge (tgt := 32) dX7_push_9 (by decide) ?_ ?_
  · exact q_ret dX7_push_32 rfl
  · refine q_aload_n 0 dX7_push_12 rfl rfl ?_
    refine q_getx fl_X7_9 hO hr0 rfl (fs_7_0 hr0) dX7_push_13 ?_
    refine q_aload_n 0 dX7_push_16 rfl rfl ?_
    refine q_geti fl_X7_15 hr0 (q_inO hO hr0) rfl dX7_push_17 ?_
    refine q_iload_n 1 dX7_push_20 rfl rfl ?_
    refine q_iast (ft_7_0 hr0) (q_inA hO (ft_7_0 hr0) (by decide)) dX7_push_21 (fun M1 _ _ hM1 => ?_)
    have hO1 : q_Ok M1 := by rw [hM1]; exact q_Ok_arr (t := 0) hO (ft_7_0 hr0) (by decide)
    refine q_aload_n 0 dX7_push_22 rfl rfl ?_
    refine q_dup dX7_push_23 rfl ?_
    refine q_geti fl_X7_15 hr0 (q_inO hO1 hr0) rfl dX7_push_24 ?_
    refine q_iconst dX7_push_27 ?_
    refine q_iadd dX7_push_28 ?_
    refine q_puti fl_X7_15 hr0 (q_inO hO1 hr0) (fun h => q_Ok_put h hr0 rfl) rfl dX7_push_29 (fun M2 hM2 => ?_)
    have hO2 : q_Ok M2 := by rw [hM2]; exact q_Ok_put hO1 hr0 rfl
    exact q_ret dX7_push_32 rfl
def fX7_isOfTwo_30 (M : q_Mem) : Option (Int × q_Mem) := some (1, M)
theorem tX7_isOfTwo_30 {d : Nat} (M : q_Mem) (hO : q_Ok M) : q_EX d yX7_isOfTwo cX7_isOfTwo 1 (some .boolean) 30 [] [] M (fX7_isOfTwo_30 M) := by
  unfold fX7_isOfTwo_30
  refine q_iconst dX7_isOfTwo_30 ?_
  refine q_goto (tgt := 35) dX7_isOfTwo_31 (by decide) ?_
  exact q_ret ⟨dX7_isOfTwo_35, by decide⟩ rfl
def fX7_isOfTwo (x0 : Int) (M : q_Mem) : Option (Int × q_Mem) := if q_w x0 < q_w 31 then (if q_w x0 = q_w 19 then ((fX7_isOfTwo_30 M)) else (if q_w x0 = q_w 20 then ((fX7_isOfTwo_30 M)) else (if q_w x0 = q_w 23 then ((fX7_isOfTwo_30 M)) else (if q_w x0 = q_w 24 then ((fX7_isOfTwo_30 M)) else (some (0, M)))))) else ((fX7_isOfTwo_30 M))
theorem tX7_isOfTwo {d : Nat} (x0 : Int) (M : q_Mem) (hO : q_Ok M) : q_EX d yX7_isOfTwo cX7_isOfTwo 1 (some .boolean) 0 (q_args 0 [.inl x0]) [] M (fX7_isOfTwo x0 M) := by
  show q_EX _ _ _ _ _ 0 [(0, .inl x0)] [] M _
  unfold fX7_isOfTwo
  refine q_iload_n 0 dX7_isOfTwo_0 rfl rfl ?_
  refine q_bipush dX7_isOfTwo_1 (by decide) ?_
  refine q_icmpge (tgt := 30) dX7_isOfTwo_3 (by decide) ?_ ?_
  · refine q_sub [] rfl ?_
    exact tX7_isOfTwo_30 M hO
  · refine q_iload_n 0 dX7_isOfTwo_6 rfl rfl ?_
    refine q_bipush dX7_isOfTwo_7 (by decide) ?_
    refine q_icmpeq (tgt := 30) dX7_isOfTwo_9 (by decide) ?_ ?_
    · refine q_sub [] rfl ?_
      exact tX7_isOfTwo_30 M hO
    · refine q_iload_n 0 dX7_isOfTwo_12 rfl rfl ?_
      refine q_bipush dX7_isOfTwo_13 (by decide) ?_
      refine q_icmpeq (tgt := 30) dX7_isOfTwo_15 (by decide) ?_ ?_
      · refine q_sub [] rfl ?_
        exact tX7_isOfTwo_30 M hO
      · refine q_iload_n 0 dX7_isOfTwo_18 rfl rfl ?_
        refine q_bipush dX7_isOfTwo_19 (by decide) ?_
        refine q_icmpeq (tgt := 30) dX7_isOfTwo_21 (by decide) ?_ ?_
        · refine q_sub [] rfl ?_
          exact tX7_isOfTwo_30 M hO
        · refine q_iload_n 0 dX7_isOfTwo_24 rfl rfl ?_
          refine q_bipush dX7_isOfTwo_25 (by decide) ?_
          refine q_icmpne (tgt := 34) dX7_isOfTwo_27 (by decide) ?_ ?_
          · refine q_iconst dX7_isOfTwo_34 ?_
            exact q_ret ⟨dX7_isOfTwo_35, by decide⟩ rfl
          · refine q_sub [] rfl ?_
            exact tX7_isOfTwo_30 M hO
