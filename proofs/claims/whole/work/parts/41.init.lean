def gb0_X12_init_94 (M : q_Mem) : q_Mem := q_let (q_aln 95 M) fun M1 => q_let (q_up M1 94 0 (95 : Int)) fun M2 => q_let (q_up M2 94 8 (-1)) fun M3 => q_let (q_aln 96 M3) fun M4 => q_let (q_up M4 94 9 (96 : Int)) fun M5 => q_let (q_aln 97 M5) fun M6 => q_let (q_up M6 97 0 102) fun M7 => q_let (q_up M7 97 1 97) fun M8 => q_let (q_up M8 97 2 105) fun M9 => q_let (q_up M9 97 3 114) fun M10 => q_let (q_up M10 94 10 (97 : Int)) fun M11 => q_let (q_aln 98 M11) fun M12 => q_let (q_up M12 98 0 115) fun M13 => q_let (q_up M13 98 1 116) fun M14 => q_let (q_up M14 98 2 97) fun M15 => q_let (q_up M15 98 3 108) fun M16 => q_let (q_up M16 98 4 108) fun M17 => q_let (q_up M17 94 11 (98 : Int)) fun M18 => q_let (q_aln 99 M18) fun M19 => q_let (q_up M19 99 0 97) fun M20 => q_let (q_up M20 99 1 116) fun M21 => q_let (q_up M21 94 12 (99 : Int)) fun M22 => q_let (q_aln 100 M22) fun M23 => q_let (q_up M23 100 0 116) fun M24 => q_let (q_up M24 100 1 117) fun M25 => q_let (q_up M25 100 2 114) fun M26 => q_let (q_up M26 100 3 110) fun M27 => q_let (q_up M27 94 13 (100 : Int)) fun M28 => q_let (q_aln 101 M28) fun M29 => q_let (q_up M29 101 0 112) fun M30 => M30
def fb0_X12_init_94 (M : q_Mem) (f : q_Mem → Option (Int × q_Mem)) : Option (Int × q_Mem) := q_let (q_aln 95 M) fun M1 => q_let (q_up M1 94 0 (95 : Int)) fun M2 => q_let (q_up M2 94 8 (-1)) fun M3 => q_let (q_aln 96 M3) fun M4 => q_let (q_up M4 94 9 (96 : Int)) fun M5 => q_let (q_aln 97 M5) fun M6 => q_let (q_up M6 97 0 102) fun M7 => q_let (q_up M7 97 1 97) fun M8 => q_let (q_up M8 97 2 105) fun M9 => q_let (q_up M9 97 3 114) fun M10 => q_let (q_up M10 94 10 (97 : Int)) fun M11 => q_let (q_aln 98 M11) fun M12 => q_let (q_up M12 98 0 115) fun M13 => q_let (q_up M13 98 1 116) fun M14 => q_let (q_up M14 98 2 97) fun M15 => q_let (q_up M15 98 3 108) fun M16 => q_let (q_up M16 98 4 108) fun M17 => q_let (q_up M17 94 11 (98 : Int)) fun M18 => q_let (q_aln 99 M18) fun M19 => q_let (q_up M19 99 0 97) fun M20 => q_let (q_up M20 99 1 116) fun M21 => q_let (q_up M21 94 12 (99 : Int)) fun M22 => q_let (q_aln 100 M22) fun M23 => q_let (q_up M23 100 0 116) fun M24 => q_let (q_up M24 100 1 117) fun M25 => q_let (q_up M25 100 2 114) fun M26 => q_let (q_up M26 100 3 110) fun M27 => q_let (q_up M27 94 13 (100 : Int)) fun M28 => q_let (q_aln 101 M28) fun M29 => q_let (q_up M29 101 0 112) fun M30 => f M30
theorem tb0_X12_init_94 {d : Nat} (M : q_Mem) (hM : M.1 = 95) (hV : q_RV M) (f : q_Mem → Option (Int × q_Mem)) (kk : ∀ M2, M2 = gb0_X12_init_94 M → M2.1 = 102 → q_RV M2 → q_EX (d + 1) yX12_init cX12_init 1 none 138 [(0, .inr (.inr 94))] [.inr (.inr 101), .inr (.inr 94)] M2 (f M2)) : q_EX (d + 1) yX12_init cX12_init 1 none 0 [(0, .inr (.inr 94))] [] M (f (gb0_X12_init_94 M)) := by
  show q_EX _ _ _ _ _ _ _ _ M (fb0_X12_init_94 M f)
  unfold fb0_X12_init_94
  refine q_aload_n 0 dX12_init_0 rfl rfl ?_
  refine q_objI oi_X12_1 oi_2 oi_3 (Nat.le_of_ble_eq_true rfl) dX12_init_1 ?_
  refine q_aload_n 0 dX12_init_4 rfl rfl ?_
  refine q_sipush dX12_init_5 (by decide) ?_
  refine q_newaI (n := 95) (N := 1600) q_XM_T hV hM (by decide) sh_95 rfl rfl (by decide) (by decide) (by decide) ak_int dX12_init_8 (fun M1 hM1 hnM1 hVM1 => ?_)
  refine q_putF fl_X12_7 rfl rfl sh_94 (by omega) (by omega) (fun h => q_Ok_fx (by decide +kernel) h) rfl dX12_init_10 (fun M2 hM2 => ?_)
  have hnM2 : M2.1 = 96 := by rw [hM2]; exact hnM1
  have hVM2 : q_RV M2 := by rw [hM2]; exact q_RV_r hVM1 (by omega)
  refine q_aload_n 0 dX12_init_13 rfl rfl ?_
  refine q_iconst dX12_init_14 ?_
  refine q_puti fl_X12_13 sh_94 (by omega) (fun h => q_Ok_put h sh_94 rfl) rfl dX12_init_15 (fun M3 hM3 => ?_)
  have hnM3 : M3.1 = 96 := by rw [hM3]; exact hnM2
  have hVM3 : q_RV M3 := by rw [hM3]; exact q_RV_i hVM2 sh_94 rfl
  refine q_aload_n 0 dX12_init_18 rfl rfl ?_
  refine q_bipush dX12_init_19 (by decide) ?_
  refine q_newaI (n := 96) (N := 6) q_XM_T hVM3 hnM3 (by decide) sh_96 rfl rfl (by decide) (by decide) (by decide) ak_int dX12_init_21 (fun M4 hM4 hnM4 hVM4 => ?_)
  refine q_putF fl_X12_17 rfl rfl sh_94 (by omega) (by omega) (fun h => q_Ok_fx (by decide +kernel) h) rfl dX12_init_23 (fun M5 hM5 => ?_)
  have hnM5 : M5.1 = 97 := by rw [hM5]; exact hnM4
  have hVM5 : q_RV M5 := by rw [hM5]; exact q_RV_r hVM4 (by omega)
  refine q_aload_n 0 dX12_init_26 rfl rfl ?_
  refine q_iconst dX12_init_27 ?_
  refine q_newaC (n := 97) (N := 4) q_XM_T hVM5 hnM5 (by decide) sh_97 rfl rfl (by decide) (by decide) (by decide) ak_char dX12_init_28 (fun M6 hM6 hnM6 hVM6 => ?_)
  refine q_dup dX12_init_30 rfl ?_
  refine q_iconst dX12_init_31 ?_
  refine q_bipush dX12_init_32 (by decide) ?_
  refine q_castK (k := 0) sh_97 (by omega) (by decide) (by decide) rfl dX12_init_34 (fun M7 hM7 => ?_)
  have hnM7 : M7.1 = 98 := by rw [hM7]; exact hnM6
  have hVM7 : q_RV M7 := by rw [hM7]; exact q_RV_a (t := 1) hVM6 sh_97 (by decide)
  refine q_dup dX12_init_35 rfl ?_
  refine q_iconst dX12_init_36 ?_
  refine q_bipush dX12_init_37 (by decide) ?_
  refine q_castK (k := 1) sh_97 (by omega) (by decide) (by decide) rfl dX12_init_39 (fun M8 hM8 => ?_)
  have hnM8 : M8.1 = 98 := by rw [hM8]; exact hnM7
  have hVM8 : q_RV M8 := by rw [hM8]; exact q_RV_a (t := 1) hVM7 sh_97 (by decide)
  refine q_dup dX12_init_40 rfl ?_
  refine q_iconst dX12_init_41 ?_
  refine q_bipush dX12_init_42 (by decide) ?_
  refine q_castK (k := 2) sh_97 (by omega) (by decide) (by decide) rfl dX12_init_44 (fun M9 hM9 => ?_)
  have hnM9 : M9.1 = 98 := by rw [hM9]; exact hnM8
  have hVM9 : q_RV M9 := by rw [hM9]; exact q_RV_a (t := 1) hVM8 sh_97 (by decide)
  refine q_dup dX12_init_45 rfl ?_
  refine q_iconst dX12_init_46 ?_
  refine q_bipush dX12_init_47 (by decide) ?_
  refine q_castK (k := 3) sh_97 (by omega) (by decide) (by decide) rfl dX12_init_49 (fun M10 hM10 => ?_)
  have hnM10 : M10.1 = 98 := by rw [hM10]; exact hnM9
  have hVM10 : q_RV M10 := by rw [hM10]; exact q_RV_a (t := 1) hVM9 sh_97 (by decide)
  refine q_putF fl_X12_20 rfl rfl sh_94 (by omega) (by omega) (fun h => q_Ok_fx (by decide +kernel) h) rfl dX12_init_50 (fun M11 hM11 => ?_)
  have hnM11 : M11.1 = 98 := by rw [hM11]; exact hnM10
  have hVM11 : q_RV M11 := by rw [hM11]; exact q_RV_r hVM10 (by omega)
  refine q_aload_n 0 dX12_init_53 rfl rfl ?_
  refine q_iconst dX12_init_54 ?_
  refine q_newaC (n := 98) (N := 5) q_XM_T hVM11 hnM11 (by decide) sh_98 rfl rfl (by decide) (by decide) (by decide) ak_char dX12_init_55 (fun M12 hM12 hnM12 hVM12 => ?_)
  refine q_dup dX12_init_57 rfl ?_
  refine q_iconst dX12_init_58 ?_
  refine q_bipush dX12_init_59 (by decide) ?_
  refine q_castK (k := 0) sh_98 (by omega) (by decide) (by decide) rfl dX12_init_61 (fun M13 hM13 => ?_)
  have hnM13 : M13.1 = 99 := by rw [hM13]; exact hnM12
  have hVM13 : q_RV M13 := by rw [hM13]; exact q_RV_a (t := 1) hVM12 sh_98 (by decide)
  refine q_dup dX12_init_62 rfl ?_
  refine q_iconst dX12_init_63 ?_
  refine q_bipush dX12_init_64 (by decide) ?_
  refine q_castK (k := 1) sh_98 (by omega) (by decide) (by decide) rfl dX12_init_66 (fun M14 hM14 => ?_)
  have hnM14 : M14.1 = 99 := by rw [hM14]; exact hnM13
  have hVM14 : q_RV M14 := by rw [hM14]; exact q_RV_a (t := 1) hVM13 sh_98 (by decide)
  refine q_dup dX12_init_67 rfl ?_
  refine q_iconst dX12_init_68 ?_
  refine q_bipush dX12_init_69 (by decide) ?_
  refine q_castK (k := 2) sh_98 (by omega) (by decide) (by decide) rfl dX12_init_71 (fun M15 hM15 => ?_)
  have hnM15 : M15.1 = 99 := by rw [hM15]; exact hnM14
  have hVM15 : q_RV M15 := by rw [hM15]; exact q_RV_a (t := 1) hVM14 sh_98 (by decide)
  refine q_dup dX12_init_72 rfl ?_
  refine q_iconst dX12_init_73 ?_
  refine q_bipush dX12_init_74 (by decide) ?_
  refine q_castK (k := 3) sh_98 (by omega) (by decide) (by decide) rfl dX12_init_76 (fun M16 hM16 => ?_)
  have hnM16 : M16.1 = 99 := by rw [hM16]; exact hnM15
  have hVM16 : q_RV M16 := by rw [hM16]; exact q_RV_a (t := 1) hVM15 sh_98 (by decide)
  refine q_dup dX12_init_77 rfl ?_
  refine q_iconst dX12_init_78 ?_
  refine q_bipush dX12_init_79 (by decide) ?_
  refine q_castK (k := 4) sh_98 (by omega) (by decide) (by decide) rfl dX12_init_81 (fun M17 hM17 => ?_)
  have hnM17 : M17.1 = 99 := by rw [hM17]; exact hnM16
  have hVM17 : q_RV M17 := by rw [hM17]; exact q_RV_a (t := 1) hVM16 sh_98 (by decide)
  refine q_putF fl_X12_24 rfl rfl sh_94 (by omega) (by omega) (fun h => q_Ok_fx (by decide +kernel) h) rfl dX12_init_82 (fun M18 hM18 => ?_)
  have hnM18 : M18.1 = 99 := by rw [hM18]; exact hnM17
  have hVM18 : q_RV M18 := by rw [hM18]; exact q_RV_r hVM17 (by omega)
  refine q_aload_n 0 dX12_init_85 rfl rfl ?_
  refine q_iconst dX12_init_86 ?_
  refine q_newaC (n := 99) (N := 2) q_XM_T hVM18 hnM18 (by decide) sh_99 rfl rfl (by decide) (by decide) (by decide) ak_char dX12_init_87 (fun M19 hM19 hnM19 hVM19 => ?_)
  refine q_dup dX12_init_89 rfl ?_
  refine q_iconst dX12_init_90 ?_
  refine q_bipush dX12_init_91 (by decide) ?_
  refine q_castK (k := 0) sh_99 (by omega) (by decide) (by decide) rfl dX12_init_93 (fun M20 hM20 => ?_)
  have hnM20 : M20.1 = 100 := by rw [hM20]; exact hnM19
  have hVM20 : q_RV M20 := by rw [hM20]; exact q_RV_a (t := 1) hVM19 sh_99 (by decide)
  refine q_dup dX12_init_94 rfl ?_
  refine q_iconst dX12_init_95 ?_
  refine q_bipush dX12_init_96 (by decide) ?_
  refine q_castK (k := 1) sh_99 (by omega) (by decide) (by decide) rfl dX12_init_98 (fun M21 hM21 => ?_)
  have hnM21 : M21.1 = 100 := by rw [hM21]; exact hnM20
  have hVM21 : q_RV M21 := by rw [hM21]; exact q_RV_a (t := 1) hVM20 sh_99 (by decide)
  refine q_putF fl_X12_27 rfl rfl sh_94 (by omega) (by omega) (fun h => q_Ok_fx (by decide +kernel) h) rfl dX12_init_99 (fun M22 hM22 => ?_)
  have hnM22 : M22.1 = 100 := by rw [hM22]; exact hnM21
  have hVM22 : q_RV M22 := by rw [hM22]; exact q_RV_r hVM21 (by omega)
  refine q_aload_n 0 dX12_init_102 rfl rfl ?_
  refine q_iconst dX12_init_103 ?_
  refine q_newaC (n := 100) (N := 4) q_XM_T hVM22 hnM22 (by decide) sh_100 rfl rfl (by decide) (by decide) (by decide) ak_char dX12_init_104 (fun M23 hM23 hnM23 hVM23 => ?_)
  refine q_dup dX12_init_106 rfl ?_
  refine q_iconst dX12_init_107 ?_
  refine q_bipush dX12_init_108 (by decide) ?_
  refine q_castK (k := 0) sh_100 (by omega) (by decide) (by decide) rfl dX12_init_110 (fun M24 hM24 => ?_)
  have hnM24 : M24.1 = 101 := by rw [hM24]; exact hnM23
  have hVM24 : q_RV M24 := by rw [hM24]; exact q_RV_a (t := 1) hVM23 sh_100 (by decide)
  refine q_dup dX12_init_111 rfl ?_
  refine q_iconst dX12_init_112 ?_
  refine q_bipush dX12_init_113 (by decide) ?_
  refine q_castK (k := 1) sh_100 (by omega) (by decide) (by decide) rfl dX12_init_115 (fun M25 hM25 => ?_)
  have hnM25 : M25.1 = 101 := by rw [hM25]; exact hnM24
  have hVM25 : q_RV M25 := by rw [hM25]; exact q_RV_a (t := 1) hVM24 sh_100 (by decide)
  refine q_dup dX12_init_116 rfl ?_
  refine q_iconst dX12_init_117 ?_
  refine q_bipush dX12_init_118 (by decide) ?_
  refine q_castK (k := 2) sh_100 (by omega) (by decide) (by decide) rfl dX12_init_120 (fun M26 hM26 => ?_)
  have hnM26 : M26.1 = 101 := by rw [hM26]; exact hnM25
  have hVM26 : q_RV M26 := by rw [hM26]; exact q_RV_a (t := 1) hVM25 sh_100 (by decide)
  refine q_dup dX12_init_121 rfl ?_
  refine q_iconst dX12_init_122 ?_
  refine q_bipush dX12_init_123 (by decide) ?_
  refine q_castK (k := 3) sh_100 (by omega) (by decide) (by decide) rfl dX12_init_125 (fun M27 hM27 => ?_)
  have hnM27 : M27.1 = 101 := by rw [hM27]; exact hnM26
  have hVM27 : q_RV M27 := by rw [hM27]; exact q_RV_a (t := 1) hVM26 sh_100 (by decide)
  refine q_putF fl_X12_30 rfl rfl sh_94 (by omega) (by omega) (fun h => q_Ok_fx (by decide +kernel) h) rfl dX12_init_126 (fun M28 hM28 => ?_)
  have hnM28 : M28.1 = 101 := by rw [hM28]; exact hnM27
  have hVM28 : q_RV M28 := by rw [hM28]; exact q_RV_r hVM27 (by omega)
  refine q_aload_n 0 dX12_init_129 rfl rfl ?_
  refine q_iconst dX12_init_130 ?_
  refine q_newaC (n := 101) (N := 5) q_XM_T hVM28 hnM28 (by decide) sh_101 rfl rfl (by decide) (by decide) (by decide) ak_char dX12_init_131 (fun M29 hM29 hnM29 hVM29 => ?_)
  refine q_dup dX12_init_133 rfl ?_
  refine q_iconst dX12_init_134 ?_
  refine q_bipush dX12_init_135 (by decide) ?_
  refine q_castK (k := 0) sh_101 (by omega) (by decide) (by decide) rfl dX12_init_137 (fun M30 hM30 => ?_)
  have hnM30 : M30.1 = 102 := by rw [hM30]; exact hnM29
  have hVM30 : q_RV M30 := by rw [hM30]; exact q_RV_a (t := 1) hVM29 sh_101 (by decide)
  exact kk M30 (by rw [hM30, hM29, hM28, hM27, hM26, hM25, hM24, hM23, hM22, hM21, hM20, hM19, hM18, hM17, hM16, hM15, hM14, hM13, hM12, hM11, hM10, hM9, hM8, hM7, hM6, hM5, hM4, hM3, hM2, hM1]; rfl) hnM30 hVM30
def gb1_X12_init_94 (M : q_Mem) : q_Mem := q_let (q_up M 101 1 114) fun M1 => q_let (q_up M1 101 2 105) fun M2 => q_let (q_up M2 101 3 99) fun M3 => q_let (q_up M3 101 4 101) fun M4 => q_let (q_up M4 94 14 (101 : Int)) fun M5 => q_let (q_aln 102 M5) fun M6 => q_let (q_up M6 102 0 115) fun M7 => q_let (q_up M7 102 1 104) fun M8 => q_let (q_up M8 102 2 117) fun M9 => q_let (q_up M9 102 3 116) fun M10 => q_let (q_up M10 94 15 (102 : Int)) fun M11 => q_let (q_aln 103 M11) fun M12 => q_let (q_up M12 103 0 99) fun M13 => q_let (q_up M13 103 1 111) fun M14 => q_let (q_up M14 103 2 105) fun M15 => q_let (q_up M15 103 3 110) fun M16 => q_let (q_up M16 94 16 (103 : Int)) fun M17 => q_let (q_aln 104 M17) fun M18 => q_let (q_up M18 104 0 119) fun M19 => q_let (q_up M19 104 1 105) fun M20 => q_let (q_up M20 104 2 100) fun M21 => q_let (q_up M21 104 3 116) fun M22 => q_let (q_up M22 104 4 104) fun M23 => q_let (q_up M23 94 17 (104 : Int)) fun M24 => q_let (q_aln 105 M24) fun M25 => q_let (q_up M25 105 0 104) fun M26 => q_let (q_up M26 105 1 111) fun M27 => q_let (q_up M27 105 2 108) fun M28 => q_let (q_up M28 105 3 101) fun M29 => q_let (q_up M29 94 18 (105 : Int)) fun M30 => M30
def fb1_X12_init_94 (M : q_Mem) (f : q_Mem → Option (Int × q_Mem)) : Option (Int × q_Mem) := q_let (q_up M 101 1 114) fun M1 => q_let (q_up M1 101 2 105) fun M2 => q_let (q_up M2 101 3 99) fun M3 => q_let (q_up M3 101 4 101) fun M4 => q_let (q_up M4 94 14 (101 : Int)) fun M5 => q_let (q_aln 102 M5) fun M6 => q_let (q_up M6 102 0 115) fun M7 => q_let (q_up M7 102 1 104) fun M8 => q_let (q_up M8 102 2 117) fun M9 => q_let (q_up M9 102 3 116) fun M10 => q_let (q_up M10 94 15 (102 : Int)) fun M11 => q_let (q_aln 103 M11) fun M12 => q_let (q_up M12 103 0 99) fun M13 => q_let (q_up M13 103 1 111) fun M14 => q_let (q_up M14 103 2 105) fun M15 => q_let (q_up M15 103 3 110) fun M16 => q_let (q_up M16 94 16 (103 : Int)) fun M17 => q_let (q_aln 104 M17) fun M18 => q_let (q_up M18 104 0 119) fun M19 => q_let (q_up M19 104 1 105) fun M20 => q_let (q_up M20 104 2 100) fun M21 => q_let (q_up M21 104 3 116) fun M22 => q_let (q_up M22 104 4 104) fun M23 => q_let (q_up M23 94 17 (104 : Int)) fun M24 => q_let (q_aln 105 M24) fun M25 => q_let (q_up M25 105 0 104) fun M26 => q_let (q_up M26 105 1 111) fun M27 => q_let (q_up M27 105 2 108) fun M28 => q_let (q_up M28 105 3 101) fun M29 => q_let (q_up M29 94 18 (105 : Int)) fun M30 => f M30
theorem tb1_X12_init_94 {d : Nat} (M : q_Mem) (hM : M.1 = 102) (hV : q_RV M) (f : q_Mem → Option (Int × q_Mem)) (kk : ∀ M2, M2 = gb1_X12_init_94 M → M2.1 = 106 → q_RV M2 → q_EX (d + 1) yX12_init cX12_init 1 none 274 [(0, .inr (.inr 94))] [] M2 (f M2)) : q_EX (d + 1) yX12_init cX12_init 1 none 138 [(0, .inr (.inr 94))] [.inr (.inr 101), .inr (.inr 94)] M (f (gb1_X12_init_94 M)) := by
  show q_EX _ _ _ _ _ _ _ _ M (fb1_X12_init_94 M f)
  unfold fb1_X12_init_94
  refine q_dup dX12_init_138 rfl ?_
  refine q_iconst dX12_init_139 ?_
  refine q_bipush dX12_init_140 (by decide) ?_
  refine q_castK (k := 1) sh_101 (by omega) (by decide) (by decide) rfl dX12_init_142 (fun M1 hM1 => ?_)
  have hnM1 : M1.1 = 102 := by rw [hM1]; exact hM
  have hVM1 : q_RV M1 := by rw [hM1]; exact q_RV_a (t := 1) hV sh_101 (by decide)
  refine q_dup dX12_init_143 rfl ?_
  refine q_iconst dX12_init_144 ?_
  refine q_bipush dX12_init_145 (by decide) ?_
  refine q_castK (k := 2) sh_101 (by omega) (by decide) (by decide) rfl dX12_init_147 (fun M2 hM2 => ?_)
  have hnM2 : M2.1 = 102 := by rw [hM2]; exact hnM1
  have hVM2 : q_RV M2 := by rw [hM2]; exact q_RV_a (t := 1) hVM1 sh_101 (by decide)
  refine q_dup dX12_init_148 rfl ?_
  refine q_iconst dX12_init_149 ?_
  refine q_bipush dX12_init_150 (by decide) ?_
  refine q_castK (k := 3) sh_101 (by omega) (by decide) (by decide) rfl dX12_init_152 (fun M3 hM3 => ?_)
  have hnM3 : M3.1 = 102 := by rw [hM3]; exact hnM2
  have hVM3 : q_RV M3 := by rw [hM3]; exact q_RV_a (t := 1) hVM2 sh_101 (by decide)
  refine q_dup dX12_init_153 rfl ?_
  refine q_iconst dX12_init_154 ?_
  refine q_bipush dX12_init_155 (by decide) ?_
  refine q_castK (k := 4) sh_101 (by omega) (by decide) (by decide) rfl dX12_init_157 (fun M4 hM4 => ?_)
  have hnM4 : M4.1 = 102 := by rw [hM4]; exact hnM3
  have hVM4 : q_RV M4 := by rw [hM4]; exact q_RV_a (t := 1) hVM3 sh_101 (by decide)
  refine q_putF fl_X12_33 rfl rfl sh_94 (by omega) (by omega) (fun h => q_Ok_fx (by decide +kernel) h) rfl dX12_init_158 (fun M5 hM5 => ?_)
  have hnM5 : M5.1 = 102 := by rw [hM5]; exact hnM4
  have hVM5 : q_RV M5 := by rw [hM5]; exact q_RV_r hVM4 (by omega)
  refine q_aload_n 0 dX12_init_161 rfl rfl ?_
  refine q_iconst dX12_init_162 ?_
  refine q_newaC (n := 102) (N := 4) q_XM_T hVM5 hnM5 (by decide) sh_102 rfl rfl (by decide) (by decide) (by decide) ak_char dX12_init_163 (fun M6 hM6 hnM6 hVM6 => ?_)
  refine q_dup dX12_init_165 rfl ?_
  refine q_iconst dX12_init_166 ?_
  refine q_bipush dX12_init_167 (by decide) ?_
  refine q_castK (k := 0) sh_102 (by omega) (by decide) (by decide) rfl dX12_init_169 (fun M7 hM7 => ?_)
  have hnM7 : M7.1 = 103 := by rw [hM7]; exact hnM6
  have hVM7 : q_RV M7 := by rw [hM7]; exact q_RV_a (t := 1) hVM6 sh_102 (by decide)
  refine q_dup dX12_init_170 rfl ?_
  refine q_iconst dX12_init_171 ?_
  refine q_bipush dX12_init_172 (by decide) ?_
  refine q_castK (k := 1) sh_102 (by omega) (by decide) (by decide) rfl dX12_init_174 (fun M8 hM8 => ?_)
  have hnM8 : M8.1 = 103 := by rw [hM8]; exact hnM7
  have hVM8 : q_RV M8 := by rw [hM8]; exact q_RV_a (t := 1) hVM7 sh_102 (by decide)
  refine q_dup dX12_init_175 rfl ?_
  refine q_iconst dX12_init_176 ?_
  refine q_bipush dX12_init_177 (by decide) ?_
  refine q_castK (k := 2) sh_102 (by omega) (by decide) (by decide) rfl dX12_init_179 (fun M9 hM9 => ?_)
  have hnM9 : M9.1 = 103 := by rw [hM9]; exact hnM8
  have hVM9 : q_RV M9 := by rw [hM9]; exact q_RV_a (t := 1) hVM8 sh_102 (by decide)
  refine q_dup dX12_init_180 rfl ?_
  refine q_iconst dX12_init_181 ?_
  refine q_bipush dX12_init_182 (by decide) ?_
  refine q_castK (k := 3) sh_102 (by omega) (by decide) (by decide) rfl dX12_init_184 (fun M10 hM10 => ?_)
  have hnM10 : M10.1 = 103 := by rw [hM10]; exact hnM9
  have hVM10 : q_RV M10 := by rw [hM10]; exact q_RV_a (t := 1) hVM9 sh_102 (by decide)
  refine q_putF fl_X12_36 rfl rfl sh_94 (by omega) (by omega) (fun h => q_Ok_fx (by decide +kernel) h) rfl dX12_init_185 (fun M11 hM11 => ?_)
  have hnM11 : M11.1 = 103 := by rw [hM11]; exact hnM10
  have hVM11 : q_RV M11 := by rw [hM11]; exact q_RV_r hVM10 (by omega)
  refine q_aload_n 0 dX12_init_188 rfl rfl ?_
  refine q_iconst dX12_init_189 ?_
  refine q_newaC (n := 103) (N := 4) q_XM_T hVM11 hnM11 (by decide) sh_103 rfl rfl (by decide) (by decide) (by decide) ak_char dX12_init_190 (fun M12 hM12 hnM12 hVM12 => ?_)
  refine q_dup dX12_init_192 rfl ?_
  refine q_iconst dX12_init_193 ?_
  refine q_bipush dX12_init_194 (by decide) ?_
  refine q_castK (k := 0) sh_103 (by omega) (by decide) (by decide) rfl dX12_init_196 (fun M13 hM13 => ?_)
  have hnM13 : M13.1 = 104 := by rw [hM13]; exact hnM12
  have hVM13 : q_RV M13 := by rw [hM13]; exact q_RV_a (t := 1) hVM12 sh_103 (by decide)
  refine q_dup dX12_init_197 rfl ?_
  refine q_iconst dX12_init_198 ?_
  refine q_bipush dX12_init_199 (by decide) ?_
  refine q_castK (k := 1) sh_103 (by omega) (by decide) (by decide) rfl dX12_init_201 (fun M14 hM14 => ?_)
  have hnM14 : M14.1 = 104 := by rw [hM14]; exact hnM13
  have hVM14 : q_RV M14 := by rw [hM14]; exact q_RV_a (t := 1) hVM13 sh_103 (by decide)
  refine q_dup dX12_init_202 rfl ?_
  refine q_iconst dX12_init_203 ?_
  refine q_bipush dX12_init_204 (by decide) ?_
  refine q_castK (k := 2) sh_103 (by omega) (by decide) (by decide) rfl dX12_init_206 (fun M15 hM15 => ?_)
  have hnM15 : M15.1 = 104 := by rw [hM15]; exact hnM14
  have hVM15 : q_RV M15 := by rw [hM15]; exact q_RV_a (t := 1) hVM14 sh_103 (by decide)
  refine q_dup dX12_init_207 rfl ?_
  refine q_iconst dX12_init_208 ?_
  refine q_bipush dX12_init_209 (by decide) ?_
  refine q_castK (k := 3) sh_103 (by omega) (by decide) (by decide) rfl dX12_init_211 (fun M16 hM16 => ?_)
  have hnM16 : M16.1 = 104 := by rw [hM16]; exact hnM15
  have hVM16 : q_RV M16 := by rw [hM16]; exact q_RV_a (t := 1) hVM15 sh_103 (by decide)
  refine q_putF fl_X12_39 rfl rfl sh_94 (by omega) (by omega) (fun h => q_Ok_fx (by decide +kernel) h) rfl dX12_init_212 (fun M17 hM17 => ?_)
  have hnM17 : M17.1 = 104 := by rw [hM17]; exact hnM16
  have hVM17 : q_RV M17 := by rw [hM17]; exact q_RV_r hVM16 (by omega)
  refine q_aload_n 0 dX12_init_215 rfl rfl ?_
  refine q_iconst dX12_init_216 ?_
  refine q_newaC (n := 104) (N := 5) q_XM_T hVM17 hnM17 (by decide) sh_104 rfl rfl (by decide) (by decide) (by decide) ak_char dX12_init_217 (fun M18 hM18 hnM18 hVM18 => ?_)
  refine q_dup dX12_init_219 rfl ?_
  refine q_iconst dX12_init_220 ?_
  refine q_bipush dX12_init_221 (by decide) ?_
  refine q_castK (k := 0) sh_104 (by omega) (by decide) (by decide) rfl dX12_init_223 (fun M19 hM19 => ?_)
  have hnM19 : M19.1 = 105 := by rw [hM19]; exact hnM18
  have hVM19 : q_RV M19 := by rw [hM19]; exact q_RV_a (t := 1) hVM18 sh_104 (by decide)
  refine q_dup dX12_init_224 rfl ?_
  refine q_iconst dX12_init_225 ?_
  refine q_bipush dX12_init_226 (by decide) ?_
  refine q_castK (k := 1) sh_104 (by omega) (by decide) (by decide) rfl dX12_init_228 (fun M20 hM20 => ?_)
  have hnM20 : M20.1 = 105 := by rw [hM20]; exact hnM19
  have hVM20 : q_RV M20 := by rw [hM20]; exact q_RV_a (t := 1) hVM19 sh_104 (by decide)
  refine q_dup dX12_init_229 rfl ?_
  refine q_iconst dX12_init_230 ?_
  refine q_bipush dX12_init_231 (by decide) ?_
  refine q_castK (k := 2) sh_104 (by omega) (by decide) (by decide) rfl dX12_init_233 (fun M21 hM21 => ?_)
  have hnM21 : M21.1 = 105 := by rw [hM21]; exact hnM20
  have hVM21 : q_RV M21 := by rw [hM21]; exact q_RV_a (t := 1) hVM20 sh_104 (by decide)
  refine q_dup dX12_init_234 rfl ?_
  refine q_iconst dX12_init_235 ?_
  refine q_bipush dX12_init_236 (by decide) ?_
  refine q_castK (k := 3) sh_104 (by omega) (by decide) (by decide) rfl dX12_init_238 (fun M22 hM22 => ?_)
  have hnM22 : M22.1 = 105 := by rw [hM22]; exact hnM21
  have hVM22 : q_RV M22 := by rw [hM22]; exact q_RV_a (t := 1) hVM21 sh_104 (by decide)
  refine q_dup dX12_init_239 rfl ?_
  refine q_iconst dX12_init_240 ?_
  refine q_bipush dX12_init_241 (by decide) ?_
  refine q_castK (k := 4) sh_104 (by omega) (by decide) (by decide) rfl dX12_init_243 (fun M23 hM23 => ?_)
  have hnM23 : M23.1 = 105 := by rw [hM23]; exact hnM22
  have hVM23 : q_RV M23 := by rw [hM23]; exact q_RV_a (t := 1) hVM22 sh_104 (by decide)
  refine q_putF fl_X12_42 rfl rfl sh_94 (by omega) (by omega) (fun h => q_Ok_fx (by decide +kernel) h) rfl dX12_init_244 (fun M24 hM24 => ?_)
  have hnM24 : M24.1 = 105 := by rw [hM24]; exact hnM23
  have hVM24 : q_RV M24 := by rw [hM24]; exact q_RV_r hVM23 (by omega)
  refine q_aload_n 0 dX12_init_247 rfl rfl ?_
  refine q_iconst dX12_init_248 ?_
  refine q_newaC (n := 105) (N := 4) q_XM_T hVM24 hnM24 (by decide) sh_105 rfl rfl (by decide) (by decide) (by decide) ak_char dX12_init_249 (fun M25 hM25 hnM25 hVM25 => ?_)
  refine q_dup dX12_init_251 rfl ?_
  refine q_iconst dX12_init_252 ?_
  refine q_bipush dX12_init_253 (by decide) ?_
  refine q_castK (k := 0) sh_105 (by omega) (by decide) (by decide) rfl dX12_init_255 (fun M26 hM26 => ?_)
  have hnM26 : M26.1 = 106 := by rw [hM26]; exact hnM25
  have hVM26 : q_RV M26 := by rw [hM26]; exact q_RV_a (t := 1) hVM25 sh_105 (by decide)
  refine q_dup dX12_init_256 rfl ?_
  refine q_iconst dX12_init_257 ?_
  refine q_bipush dX12_init_258 (by decide) ?_
  refine q_castK (k := 1) sh_105 (by omega) (by decide) (by decide) rfl dX12_init_260 (fun M27 hM27 => ?_)
  have hnM27 : M27.1 = 106 := by rw [hM27]; exact hnM26
  have hVM27 : q_RV M27 := by rw [hM27]; exact q_RV_a (t := 1) hVM26 sh_105 (by decide)
  refine q_dup dX12_init_261 rfl ?_
  refine q_iconst dX12_init_262 ?_
  refine q_bipush dX12_init_263 (by decide) ?_
  refine q_castK (k := 2) sh_105 (by omega) (by decide) (by decide) rfl dX12_init_265 (fun M28 hM28 => ?_)
  have hnM28 : M28.1 = 106 := by rw [hM28]; exact hnM27
  have hVM28 : q_RV M28 := by rw [hM28]; exact q_RV_a (t := 1) hVM27 sh_105 (by decide)
  refine q_dup dX12_init_266 rfl ?_
  refine q_iconst dX12_init_267 ?_
  refine q_bipush dX12_init_268 (by decide) ?_
  refine q_castK (k := 3) sh_105 (by omega) (by decide) (by decide) rfl dX12_init_270 (fun M29 hM29 => ?_)
  have hnM29 : M29.1 = 106 := by rw [hM29]; exact hnM28
  have hVM29 : q_RV M29 := by rw [hM29]; exact q_RV_a (t := 1) hVM28 sh_105 (by decide)
  refine q_putF fl_X12_45 rfl rfl sh_94 (by omega) (by omega) (fun h => q_Ok_fx (by decide +kernel) h) rfl dX12_init_271 (fun M30 hM30 => ?_)
  have hnM30 : M30.1 = 106 := by rw [hM30]; exact hnM29
  have hVM30 : q_RV M30 := by rw [hM30]; exact q_RV_r hVM29 (by omega)
  exact kk M30 (by rw [hM30, hM29, hM28, hM27, hM26, hM25, hM24, hM23, hM22, hM21, hM20, hM19, hM18, hM17, hM16, hM15, hM14, hM13, hM12, hM11, hM10, hM9, hM8, hM7, hM6, hM5, hM4, hM3, hM2, hM1]; rfl) hnM30 hVM30
def gb2_X12_init_94 (M : q_Mem) : q_Mem := q_let (q_aln 106 M) fun M1 => q_let (q_up M1 106 0 99) fun M2 => q_let (q_up M2 106 1 108) fun M3 => q_let (q_up M3 106 2 111) fun M4 => q_let (q_up M4 106 3 117) fun M5 => q_let (q_up M5 106 4 100) fun M6 => q_let (q_up M6 94 19 (106 : Int)) fun M7 => q_let (q_aln 107 M7) fun M8 => q_let (q_up M8 107 0 116) fun M9 => q_let (q_up M9 107 1 111) fun M10 => q_let (q_up M10 94 20 (107 : Int)) fun M11 => q_let (q_aln 108 M11) fun M12 => q_let (q_up M12 108 0 115) fun M13 => q_let (q_up M13 108 1 104) fun M14 => q_let (q_up M14 108 2 97) fun M15 => q_let (q_up M15 108 3 100) fun M16 => q_let (q_up M16 108 4 101) fun M17 => q_let (q_up M17 94 21 (108 : Int)) fun M18 => q_let (q_aln 109 M18) fun M19 => q_let (q_up M19 109 0 114) fun M20 => q_let (q_up M20 109 1 101) fun M21 => q_let (q_up M21 109 2 102) fun M22 => q_let (q_up M22 109 3 117) fun M23 => q_let (q_up M23 109 4 115) fun M24 => q_let (q_up M24 109 5 101) fun M25 => q_let (q_up M25 94 22 (109 : Int)) fun M26 => q_let (q_aln 110 M26) fun M27 => q_let (q_up M27 110 0 98) fun M28 => q_let (q_up M28 110 1 114) fun M29 => q_let (q_up M29 110 2 105) fun M30 => M30
def fb2_X12_init_94 (M : q_Mem) (f : q_Mem → Option (Int × q_Mem)) : Option (Int × q_Mem) := q_let (q_aln 106 M) fun M1 => q_let (q_up M1 106 0 99) fun M2 => q_let (q_up M2 106 1 108) fun M3 => q_let (q_up M3 106 2 111) fun M4 => q_let (q_up M4 106 3 117) fun M5 => q_let (q_up M5 106 4 100) fun M6 => q_let (q_up M6 94 19 (106 : Int)) fun M7 => q_let (q_aln 107 M7) fun M8 => q_let (q_up M8 107 0 116) fun M9 => q_let (q_up M9 107 1 111) fun M10 => q_let (q_up M10 94 20 (107 : Int)) fun M11 => q_let (q_aln 108 M11) fun M12 => q_let (q_up M12 108 0 115) fun M13 => q_let (q_up M13 108 1 104) fun M14 => q_let (q_up M14 108 2 97) fun M15 => q_let (q_up M15 108 3 100) fun M16 => q_let (q_up M16 108 4 101) fun M17 => q_let (q_up M17 94 21 (108 : Int)) fun M18 => q_let (q_aln 109 M18) fun M19 => q_let (q_up M19 109 0 114) fun M20 => q_let (q_up M20 109 1 101) fun M21 => q_let (q_up M21 109 2 102) fun M22 => q_let (q_up M22 109 3 117) fun M23 => q_let (q_up M23 109 4 115) fun M24 => q_let (q_up M24 109 5 101) fun M25 => q_let (q_up M25 94 22 (109 : Int)) fun M26 => q_let (q_aln 110 M26) fun M27 => q_let (q_up M27 110 0 98) fun M28 => q_let (q_up M28 110 1 114) fun M29 => q_let (q_up M29 110 2 105) fun M30 => f M30
theorem tb2_X12_init_94 {d : Nat} (M : q_Mem) (hM : M.1 = 106) (hV : q_RV M) (f : q_Mem → Option (Int × q_Mem)) (kk : ∀ M2, M2 = gb2_X12_init_94 M → M2.1 = 111 → q_RV M2 → q_EX (d + 1) yX12_init cX12_init 1 none 413 [(0, .inr (.inr 94))] [.inr (.inr 110), .inr (.inr 94)] M2 (f M2)) : q_EX (d + 1) yX12_init cX12_init 1 none 274 [(0, .inr (.inr 94))] [] M (f (gb2_X12_init_94 M)) := by
  show q_EX _ _ _ _ _ _ _ _ M (fb2_X12_init_94 M f)
  unfold fb2_X12_init_94
  refine q_aload_n 0 dX12_init_274 rfl rfl ?_
  refine q_iconst dX12_init_275 ?_
  refine q_newaC (n := 106) (N := 5) q_XM_T hV hM (by decide) sh_106 rfl rfl (by decide) (by decide) (by decide) ak_char dX12_init_276 (fun M1 hM1 hnM1 hVM1 => ?_)
  refine q_dup dX12_init_278 rfl ?_
  refine q_iconst dX12_init_279 ?_
  refine q_bipush dX12_init_280 (by decide) ?_
  refine q_castK (k := 0) sh_106 (by omega) (by decide) (by decide) rfl dX12_init_282 (fun M2 hM2 => ?_)
  have hnM2 : M2.1 = 107 := by rw [hM2]; exact hnM1
  have hVM2 : q_RV M2 := by rw [hM2]; exact q_RV_a (t := 1) hVM1 sh_106 (by decide)
  refine q_dup dX12_init_283 rfl ?_
  refine q_iconst dX12_init_284 ?_
  refine q_bipush dX12_init_285 (by decide) ?_
  refine q_castK (k := 1) sh_106 (by omega) (by decide) (by decide) rfl dX12_init_287 (fun M3 hM3 => ?_)
  have hnM3 : M3.1 = 107 := by rw [hM3]; exact hnM2
  have hVM3 : q_RV M3 := by rw [hM3]; exact q_RV_a (t := 1) hVM2 sh_106 (by decide)
  refine q_dup dX12_init_288 rfl ?_
  refine q_iconst dX12_init_289 ?_
  refine q_bipush dX12_init_290 (by decide) ?_
  refine q_castK (k := 2) sh_106 (by omega) (by decide) (by decide) rfl dX12_init_292 (fun M4 hM4 => ?_)
  have hnM4 : M4.1 = 107 := by rw [hM4]; exact hnM3
  have hVM4 : q_RV M4 := by rw [hM4]; exact q_RV_a (t := 1) hVM3 sh_106 (by decide)
  refine q_dup dX12_init_293 rfl ?_
  refine q_iconst dX12_init_294 ?_
  refine q_bipush dX12_init_295 (by decide) ?_
  refine q_castK (k := 3) sh_106 (by omega) (by decide) (by decide) rfl dX12_init_297 (fun M5 hM5 => ?_)
  have hnM5 : M5.1 = 107 := by rw [hM5]; exact hnM4
  have hVM5 : q_RV M5 := by rw [hM5]; exact q_RV_a (t := 1) hVM4 sh_106 (by decide)
  refine q_dup dX12_init_298 rfl ?_
  refine q_iconst dX12_init_299 ?_
  refine q_bipush dX12_init_300 (by decide) ?_
  refine q_castK (k := 4) sh_106 (by omega) (by decide) (by decide) rfl dX12_init_302 (fun M6 hM6 => ?_)
  have hnM6 : M6.1 = 107 := by rw [hM6]; exact hnM5
  have hVM6 : q_RV M6 := by rw [hM6]; exact q_RV_a (t := 1) hVM5 sh_106 (by decide)
  refine q_putF fl_X12_48 rfl rfl sh_94 (by omega) (by omega) (fun h => q_Ok_fx (by decide +kernel) h) rfl dX12_init_303 (fun M7 hM7 => ?_)
  have hnM7 : M7.1 = 107 := by rw [hM7]; exact hnM6
  have hVM7 : q_RV M7 := by rw [hM7]; exact q_RV_r hVM6 (by omega)
  refine q_aload_n 0 dX12_init_306 rfl rfl ?_
  refine q_iconst dX12_init_307 ?_
  refine q_newaC (n := 107) (N := 2) q_XM_T hVM7 hnM7 (by decide) sh_107 rfl rfl (by decide) (by decide) (by decide) ak_char dX12_init_308 (fun M8 hM8 hnM8 hVM8 => ?_)
  refine q_dup dX12_init_310 rfl ?_
  refine q_iconst dX12_init_311 ?_
  refine q_bipush dX12_init_312 (by decide) ?_
  refine q_castK (k := 0) sh_107 (by omega) (by decide) (by decide) rfl dX12_init_314 (fun M9 hM9 => ?_)
  have hnM9 : M9.1 = 108 := by rw [hM9]; exact hnM8
  have hVM9 : q_RV M9 := by rw [hM9]; exact q_RV_a (t := 1) hVM8 sh_107 (by decide)
  refine q_dup dX12_init_315 rfl ?_
  refine q_iconst dX12_init_316 ?_
  refine q_bipush dX12_init_317 (by decide) ?_
  refine q_castK (k := 1) sh_107 (by omega) (by decide) (by decide) rfl dX12_init_319 (fun M10 hM10 => ?_)
  have hnM10 : M10.1 = 108 := by rw [hM10]; exact hnM9
  have hVM10 : q_RV M10 := by rw [hM10]; exact q_RV_a (t := 1) hVM9 sh_107 (by decide)
  refine q_putF fl_X12_51 rfl rfl sh_94 (by omega) (by omega) (fun h => q_Ok_fx (by decide +kernel) h) rfl dX12_init_320 (fun M11 hM11 => ?_)
  have hnM11 : M11.1 = 108 := by rw [hM11]; exact hnM10
  have hVM11 : q_RV M11 := by rw [hM11]; exact q_RV_r hVM10 (by omega)
  refine q_aload_n 0 dX12_init_323 rfl rfl ?_
  refine q_iconst dX12_init_324 ?_
  refine q_newaC (n := 108) (N := 5) q_XM_T hVM11 hnM11 (by decide) sh_108 rfl rfl (by decide) (by decide) (by decide) ak_char dX12_init_325 (fun M12 hM12 hnM12 hVM12 => ?_)
  refine q_dup dX12_init_327 rfl ?_
  refine q_iconst dX12_init_328 ?_
  refine q_bipush dX12_init_329 (by decide) ?_
  refine q_castK (k := 0) sh_108 (by omega) (by decide) (by decide) rfl dX12_init_331 (fun M13 hM13 => ?_)
  have hnM13 : M13.1 = 109 := by rw [hM13]; exact hnM12
  have hVM13 : q_RV M13 := by rw [hM13]; exact q_RV_a (t := 1) hVM12 sh_108 (by decide)
  refine q_dup dX12_init_332 rfl ?_
  refine q_iconst dX12_init_333 ?_
  refine q_bipush dX12_init_334 (by decide) ?_
  refine q_castK (k := 1) sh_108 (by omega) (by decide) (by decide) rfl dX12_init_336 (fun M14 hM14 => ?_)
  have hnM14 : M14.1 = 109 := by rw [hM14]; exact hnM13
  have hVM14 : q_RV M14 := by rw [hM14]; exact q_RV_a (t := 1) hVM13 sh_108 (by decide)
  refine q_dup dX12_init_337 rfl ?_
  refine q_iconst dX12_init_338 ?_
  refine q_bipush dX12_init_339 (by decide) ?_
  refine q_castK (k := 2) sh_108 (by omega) (by decide) (by decide) rfl dX12_init_341 (fun M15 hM15 => ?_)
  have hnM15 : M15.1 = 109 := by rw [hM15]; exact hnM14
  have hVM15 : q_RV M15 := by rw [hM15]; exact q_RV_a (t := 1) hVM14 sh_108 (by decide)
  refine q_dup dX12_init_342 rfl ?_
  refine q_iconst dX12_init_343 ?_
  refine q_bipush dX12_init_344 (by decide) ?_
  refine q_castK (k := 3) sh_108 (by omega) (by decide) (by decide) rfl dX12_init_346 (fun M16 hM16 => ?_)
  have hnM16 : M16.1 = 109 := by rw [hM16]; exact hnM15
  have hVM16 : q_RV M16 := by rw [hM16]; exact q_RV_a (t := 1) hVM15 sh_108 (by decide)
  refine q_dup dX12_init_347 rfl ?_
  refine q_iconst dX12_init_348 ?_
  refine q_bipush dX12_init_349 (by decide) ?_
  refine q_castK (k := 4) sh_108 (by omega) (by decide) (by decide) rfl dX12_init_351 (fun M17 hM17 => ?_)
  have hnM17 : M17.1 = 109 := by rw [hM17]; exact hnM16
  have hVM17 : q_RV M17 := by rw [hM17]; exact q_RV_a (t := 1) hVM16 sh_108 (by decide)
  refine q_putF fl_X12_54 rfl rfl sh_94 (by omega) (by omega) (fun h => q_Ok_fx (by decide +kernel) h) rfl dX12_init_352 (fun M18 hM18 => ?_)
  have hnM18 : M18.1 = 109 := by rw [hM18]; exact hnM17
  have hVM18 : q_RV M18 := by rw [hM18]; exact q_RV_r hVM17 (by omega)
  refine q_aload_n 0 dX12_init_355 rfl rfl ?_
  refine q_bipush dX12_init_356 (by decide) ?_
  refine q_newaC (n := 109) (N := 6) q_XM_T hVM18 hnM18 (by decide) sh_109 rfl rfl (by decide) (by decide) (by decide) ak_char dX12_init_358 (fun M19 hM19 hnM19 hVM19 => ?_)
  refine q_dup dX12_init_360 rfl ?_
  refine q_iconst dX12_init_361 ?_
  refine q_bipush dX12_init_362 (by decide) ?_
  refine q_castK (k := 0) sh_109 (by omega) (by decide) (by decide) rfl dX12_init_364 (fun M20 hM20 => ?_)
  have hnM20 : M20.1 = 110 := by rw [hM20]; exact hnM19
  have hVM20 : q_RV M20 := by rw [hM20]; exact q_RV_a (t := 1) hVM19 sh_109 (by decide)
  refine q_dup dX12_init_365 rfl ?_
  refine q_iconst dX12_init_366 ?_
  refine q_bipush dX12_init_367 (by decide) ?_
  refine q_castK (k := 1) sh_109 (by omega) (by decide) (by decide) rfl dX12_init_369 (fun M21 hM21 => ?_)
  have hnM21 : M21.1 = 110 := by rw [hM21]; exact hnM20
  have hVM21 : q_RV M21 := by rw [hM21]; exact q_RV_a (t := 1) hVM20 sh_109 (by decide)
  refine q_dup dX12_init_370 rfl ?_
  refine q_iconst dX12_init_371 ?_
  refine q_bipush dX12_init_372 (by decide) ?_
  refine q_castK (k := 2) sh_109 (by omega) (by decide) (by decide) rfl dX12_init_374 (fun M22 hM22 => ?_)
  have hnM22 : M22.1 = 110 := by rw [hM22]; exact hnM21
  have hVM22 : q_RV M22 := by rw [hM22]; exact q_RV_a (t := 1) hVM21 sh_109 (by decide)
  refine q_dup dX12_init_375 rfl ?_
  refine q_iconst dX12_init_376 ?_
  refine q_bipush dX12_init_377 (by decide) ?_
  refine q_castK (k := 3) sh_109 (by omega) (by decide) (by decide) rfl dX12_init_379 (fun M23 hM23 => ?_)
  have hnM23 : M23.1 = 110 := by rw [hM23]; exact hnM22
  have hVM23 : q_RV M23 := by rw [hM23]; exact q_RV_a (t := 1) hVM22 sh_109 (by decide)
  refine q_dup dX12_init_380 rfl ?_
  refine q_iconst dX12_init_381 ?_
  refine q_bipush dX12_init_382 (by decide) ?_
  refine q_castK (k := 4) sh_109 (by omega) (by decide) (by decide) rfl dX12_init_384 (fun M24 hM24 => ?_)
  have hnM24 : M24.1 = 110 := by rw [hM24]; exact hnM23
  have hVM24 : q_RV M24 := by rw [hM24]; exact q_RV_a (t := 1) hVM23 sh_109 (by decide)
  refine q_dup dX12_init_385 rfl ?_
  refine q_iconst dX12_init_386 ?_
  refine q_bipush dX12_init_387 (by decide) ?_
  refine q_castK (k := 5) sh_109 (by omega) (by decide) (by decide) rfl dX12_init_389 (fun M25 hM25 => ?_)
  have hnM25 : M25.1 = 110 := by rw [hM25]; exact hnM24
  have hVM25 : q_RV M25 := by rw [hM25]; exact q_RV_a (t := 1) hVM24 sh_109 (by decide)
  refine q_putF fl_X12_57 rfl rfl sh_94 (by omega) (by omega) (fun h => q_Ok_fx (by decide +kernel) h) rfl dX12_init_390 (fun M26 hM26 => ?_)
  have hnM26 : M26.1 = 110 := by rw [hM26]; exact hnM25
  have hVM26 : q_RV M26 := by rw [hM26]; exact q_RV_r hVM25 (by omega)
  refine q_aload_n 0 dX12_init_393 rfl rfl ?_
  refine q_bipush dX12_init_394 (by decide) ?_
  refine q_newaC (n := 110) (N := 6) q_XM_T hVM26 hnM26 (by decide) sh_110 rfl rfl (by decide) (by decide) (by decide) ak_char dX12_init_396 (fun M27 hM27 hnM27 hVM27 => ?_)
  refine q_dup dX12_init_398 rfl ?_
  refine q_iconst dX12_init_399 ?_
  refine q_bipush dX12_init_400 (by decide) ?_
  refine q_castK (k := 0) sh_110 (by omega) (by decide) (by decide) rfl dX12_init_402 (fun M28 hM28 => ?_)
  have hnM28 : M28.1 = 111 := by rw [hM28]; exact hnM27
  have hVM28 : q_RV M28 := by rw [hM28]; exact q_RV_a (t := 1) hVM27 sh_110 (by decide)
  refine q_dup dX12_init_403 rfl ?_
  refine q_iconst dX12_init_404 ?_
  refine q_bipush dX12_init_405 (by decide) ?_
  refine q_castK (k := 1) sh_110 (by omega) (by decide) (by decide) rfl dX12_init_407 (fun M29 hM29 => ?_)
  have hnM29 : M29.1 = 111 := by rw [hM29]; exact hnM28
  have hVM29 : q_RV M29 := by rw [hM29]; exact q_RV_a (t := 1) hVM28 sh_110 (by decide)
  refine q_dup dX12_init_408 rfl ?_
  refine q_iconst dX12_init_409 ?_
  refine q_bipush dX12_init_410 (by decide) ?_
  refine q_castK (k := 2) sh_110 (by omega) (by decide) (by decide) rfl dX12_init_412 (fun M30 hM30 => ?_)
  have hnM30 : M30.1 = 111 := by rw [hM30]; exact hnM29
  have hVM30 : q_RV M30 := by rw [hM30]; exact q_RV_a (t := 1) hVM29 sh_110 (by decide)
  exact kk M30 (by rw [hM30, hM29, hM28, hM27, hM26, hM25, hM24, hM23, hM22, hM21, hM20, hM19, hM18, hM17, hM16, hM15, hM14, hM13, hM12, hM11, hM10, hM9, hM8, hM7, hM6, hM5, hM4, hM3, hM2, hM1]; rfl) hnM30 hVM30
def gb3_X12_init_94 (M : q_Mem) : q_Mem := q_let (q_up M 110 3 100) fun M1 => q_let (q_up M1 110 4 103) fun M2 => q_let (q_up M2 110 5 101) fun M3 => q_let (q_up M3 94 23 (110 : Int)) fun M4 => q_let (q_aln 111 M4) fun M5 => q_let (q_up M5 111 0 103) fun M6 => q_let (q_up M6 111 1 117) fun M7 => q_let (q_up M7 111 2 115) fun M8 => q_let (q_up M8 111 3 116) fun M9 => q_let (q_up M9 94 24 (111 : Int)) fun M10 => q_let (q_aln 112 M10) fun M11 => q_let (q_up M11 112 0 108) fun M12 => q_let (q_up M12 112 1 111) fun M13 => q_let (q_up M13 112 2 110) fun M14 => q_let (q_up M14 112 3 103) fun M15 => q_let (q_up M15 94 25 (112 : Int)) fun M16 => q_let (q_aln 113 M16) fun M17 => q_let (q_up M17 113 0 109) fun M18 => q_let (q_up M18 113 1 105) fun M19 => q_let (q_up M19 113 2 110) fun M20 => q_let (q_up M20 113 3 117) fun M21 => q_let (q_up M21 113 4 116) fun M22 => q_let (q_up M22 113 5 101) fun M23 => q_let (q_up M23 94 26 (113 : Int)) fun M24 => q_let (q_aln 114 M24) fun M25 => q_let (q_up M25 114 0 110) fun M26 => q_let (q_up M26 114 1 117) fun M27 => q_let (q_up M27 114 2 109) fun M28 => q_let (q_up M28 114 3 98) fun M29 => q_let (q_up M29 114 4 101) fun M30 => M30
def fb3_X12_init_94 (M : q_Mem) (f : q_Mem → Option (Int × q_Mem)) : Option (Int × q_Mem) := q_let (q_up M 110 3 100) fun M1 => q_let (q_up M1 110 4 103) fun M2 => q_let (q_up M2 110 5 101) fun M3 => q_let (q_up M3 94 23 (110 : Int)) fun M4 => q_let (q_aln 111 M4) fun M5 => q_let (q_up M5 111 0 103) fun M6 => q_let (q_up M6 111 1 117) fun M7 => q_let (q_up M7 111 2 115) fun M8 => q_let (q_up M8 111 3 116) fun M9 => q_let (q_up M9 94 24 (111 : Int)) fun M10 => q_let (q_aln 112 M10) fun M11 => q_let (q_up M11 112 0 108) fun M12 => q_let (q_up M12 112 1 111) fun M13 => q_let (q_up M13 112 2 110) fun M14 => q_let (q_up M14 112 3 103) fun M15 => q_let (q_up M15 94 25 (112 : Int)) fun M16 => q_let (q_aln 113 M16) fun M17 => q_let (q_up M17 113 0 109) fun M18 => q_let (q_up M18 113 1 105) fun M19 => q_let (q_up M19 113 2 110) fun M20 => q_let (q_up M20 113 3 117) fun M21 => q_let (q_up M21 113 4 116) fun M22 => q_let (q_up M22 113 5 101) fun M23 => q_let (q_up M23 94 26 (113 : Int)) fun M24 => q_let (q_aln 114 M24) fun M25 => q_let (q_up M25 114 0 110) fun M26 => q_let (q_up M26 114 1 117) fun M27 => q_let (q_up M27 114 2 109) fun M28 => q_let (q_up M28 114 3 98) fun M29 => q_let (q_up M29 114 4 101) fun M30 => f M30
theorem tb3_X12_init_94 {d : Nat} (M : q_Mem) (hM : M.1 = 111) (hV : q_RV M) (f : q_Mem → Option (Int × q_Mem)) (kk : ∀ M2, M2 = gb3_X12_init_94 M → M2.1 = 115 → q_RV M2 → q_EX (d + 1) yX12_init cX12_init 1 none 553 [(0, .inr (.inr 94))] [.inr (.inr 114), .inr (.inr 94)] M2 (f M2)) : q_EX (d + 1) yX12_init cX12_init 1 none 413 [(0, .inr (.inr 94))] [.inr (.inr 110), .inr (.inr 94)] M (f (gb3_X12_init_94 M)) := by
  show q_EX _ _ _ _ _ _ _ _ M (fb3_X12_init_94 M f)
  unfold fb3_X12_init_94
  refine q_dup dX12_init_413 rfl ?_
  refine q_iconst dX12_init_414 ?_
  refine q_bipush dX12_init_415 (by decide) ?_
  refine q_castK (k := 3) sh_110 (by omega) (by decide) (by decide) rfl dX12_init_417 (fun M1 hM1 => ?_)
  have hnM1 : M1.1 = 111 := by rw [hM1]; exact hM
  have hVM1 : q_RV M1 := by rw [hM1]; exact q_RV_a (t := 1) hV sh_110 (by decide)
  refine q_dup dX12_init_418 rfl ?_
  refine q_iconst dX12_init_419 ?_
  refine q_bipush dX12_init_420 (by decide) ?_
  refine q_castK (k := 4) sh_110 (by omega) (by decide) (by decide) rfl dX12_init_422 (fun M2 hM2 => ?_)
  have hnM2 : M2.1 = 111 := by rw [hM2]; exact hnM1
  have hVM2 : q_RV M2 := by rw [hM2]; exact q_RV_a (t := 1) hVM1 sh_110 (by decide)
  refine q_dup dX12_init_423 rfl ?_
  refine q_iconst dX12_init_424 ?_
  refine q_bipush dX12_init_425 (by decide) ?_
  refine q_castK (k := 5) sh_110 (by omega) (by decide) (by decide) rfl dX12_init_427 (fun M3 hM3 => ?_)
  have hnM3 : M3.1 = 111 := by rw [hM3]; exact hnM2
  have hVM3 : q_RV M3 := by rw [hM3]; exact q_RV_a (t := 1) hVM2 sh_110 (by decide)
  refine q_putF fl_X12_60 rfl rfl sh_94 (by omega) (by omega) (fun h => q_Ok_fx (by decide +kernel) h) rfl dX12_init_428 (fun M4 hM4 => ?_)
  have hnM4 : M4.1 = 111 := by rw [hM4]; exact hnM3
  have hVM4 : q_RV M4 := by rw [hM4]; exact q_RV_r hVM3 (by omega)
  refine q_aload_n 0 dX12_init_431 rfl rfl ?_
  refine q_iconst dX12_init_432 ?_
  refine q_newaC (n := 111) (N := 4) q_XM_T hVM4 hnM4 (by decide) sh_111 rfl rfl (by decide) (by decide) (by decide) ak_char dX12_init_433 (fun M5 hM5 hnM5 hVM5 => ?_)
  refine q_dup dX12_init_435 rfl ?_
  refine q_iconst dX12_init_436 ?_
  refine q_bipush dX12_init_437 (by decide) ?_
  refine q_castK (k := 0) sh_111 (by omega) (by decide) (by decide) rfl dX12_init_439 (fun M6 hM6 => ?_)
  have hnM6 : M6.1 = 112 := by rw [hM6]; exact hnM5
  have hVM6 : q_RV M6 := by rw [hM6]; exact q_RV_a (t := 1) hVM5 sh_111 (by decide)
  refine q_dup dX12_init_440 rfl ?_
  refine q_iconst dX12_init_441 ?_
  refine q_bipush dX12_init_442 (by decide) ?_
  refine q_castK (k := 1) sh_111 (by omega) (by decide) (by decide) rfl dX12_init_444 (fun M7 hM7 => ?_)
  have hnM7 : M7.1 = 112 := by rw [hM7]; exact hnM6
  have hVM7 : q_RV M7 := by rw [hM7]; exact q_RV_a (t := 1) hVM6 sh_111 (by decide)
  refine q_dup dX12_init_445 rfl ?_
  refine q_iconst dX12_init_446 ?_
  refine q_bipush dX12_init_447 (by decide) ?_
  refine q_castK (k := 2) sh_111 (by omega) (by decide) (by decide) rfl dX12_init_449 (fun M8 hM8 => ?_)
  have hnM8 : M8.1 = 112 := by rw [hM8]; exact hnM7
  have hVM8 : q_RV M8 := by rw [hM8]; exact q_RV_a (t := 1) hVM7 sh_111 (by decide)
  refine q_dup dX12_init_450 rfl ?_
  refine q_iconst dX12_init_451 ?_
  refine q_bipush dX12_init_452 (by decide) ?_
  refine q_castK (k := 3) sh_111 (by omega) (by decide) (by decide) rfl dX12_init_454 (fun M9 hM9 => ?_)
  have hnM9 : M9.1 = 112 := by rw [hM9]; exact hnM8
  have hVM9 : q_RV M9 := by rw [hM9]; exact q_RV_a (t := 1) hVM8 sh_111 (by decide)
  refine q_putF fl_X12_63 rfl rfl sh_94 (by omega) (by omega) (fun h => q_Ok_fx (by decide +kernel) h) rfl dX12_init_455 (fun M10 hM10 => ?_)
  have hnM10 : M10.1 = 112 := by rw [hM10]; exact hnM9
  have hVM10 : q_RV M10 := by rw [hM10]; exact q_RV_r hVM9 (by omega)
  refine q_aload_n 0 dX12_init_458 rfl rfl ?_
  refine q_iconst dX12_init_459 ?_
  refine q_newaC (n := 112) (N := 4) q_XM_T hVM10 hnM10 (by decide) sh_112 rfl rfl (by decide) (by decide) (by decide) ak_char dX12_init_460 (fun M11 hM11 hnM11 hVM11 => ?_)
  refine q_dup dX12_init_462 rfl ?_
  refine q_iconst dX12_init_463 ?_
  refine q_bipush dX12_init_464 (by decide) ?_
  refine q_castK (k := 0) sh_112 (by omega) (by decide) (by decide) rfl dX12_init_466 (fun M12 hM12 => ?_)
  have hnM12 : M12.1 = 113 := by rw [hM12]; exact hnM11
  have hVM12 : q_RV M12 := by rw [hM12]; exact q_RV_a (t := 1) hVM11 sh_112 (by decide)
  refine q_dup dX12_init_467 rfl ?_
  refine q_iconst dX12_init_468 ?_
  refine q_bipush dX12_init_469 (by decide) ?_
  refine q_castK (k := 1) sh_112 (by omega) (by decide) (by decide) rfl dX12_init_471 (fun M13 hM13 => ?_)
  have hnM13 : M13.1 = 113 := by rw [hM13]; exact hnM12
  have hVM13 : q_RV M13 := by rw [hM13]; exact q_RV_a (t := 1) hVM12 sh_112 (by decide)
  refine q_dup dX12_init_472 rfl ?_
  refine q_iconst dX12_init_473 ?_
  refine q_bipush dX12_init_474 (by decide) ?_
  refine q_castK (k := 2) sh_112 (by omega) (by decide) (by decide) rfl dX12_init_476 (fun M14 hM14 => ?_)
  have hnM14 : M14.1 = 113 := by rw [hM14]; exact hnM13
  have hVM14 : q_RV M14 := by rw [hM14]; exact q_RV_a (t := 1) hVM13 sh_112 (by decide)
  refine q_dup dX12_init_477 rfl ?_
  refine q_iconst dX12_init_478 ?_
  refine q_bipush dX12_init_479 (by decide) ?_
  refine q_castK (k := 3) sh_112 (by omega) (by decide) (by decide) rfl dX12_init_481 (fun M15 hM15 => ?_)
  have hnM15 : M15.1 = 113 := by rw [hM15]; exact hnM14
  have hVM15 : q_RV M15 := by rw [hM15]; exact q_RV_a (t := 1) hVM14 sh_112 (by decide)
  refine q_putF fl_X12_66 rfl rfl sh_94 (by omega) (by omega) (fun h => q_Ok_fx (by decide +kernel) h) rfl dX12_init_482 (fun M16 hM16 => ?_)
  have hnM16 : M16.1 = 113 := by rw [hM16]; exact hnM15
  have hVM16 : q_RV M16 := by rw [hM16]; exact q_RV_r hVM15 (by omega)
  refine q_aload_n 0 dX12_init_485 rfl rfl ?_
  refine q_bipush dX12_init_486 (by decide) ?_
  refine q_newaC (n := 113) (N := 6) q_XM_T hVM16 hnM16 (by decide) sh_113 rfl rfl (by decide) (by decide) (by decide) ak_char dX12_init_488 (fun M17 hM17 hnM17 hVM17 => ?_)
  refine q_dup dX12_init_490 rfl ?_
  refine q_iconst dX12_init_491 ?_
  refine q_bipush dX12_init_492 (by decide) ?_
  refine q_castK (k := 0) sh_113 (by omega) (by decide) (by decide) rfl dX12_init_494 (fun M18 hM18 => ?_)
  have hnM18 : M18.1 = 114 := by rw [hM18]; exact hnM17
  have hVM18 : q_RV M18 := by rw [hM18]; exact q_RV_a (t := 1) hVM17 sh_113 (by decide)
  refine q_dup dX12_init_495 rfl ?_
  refine q_iconst dX12_init_496 ?_
  refine q_bipush dX12_init_497 (by decide) ?_
  refine q_castK (k := 1) sh_113 (by omega) (by decide) (by decide) rfl dX12_init_499 (fun M19 hM19 => ?_)
  have hnM19 : M19.1 = 114 := by rw [hM19]; exact hnM18
  have hVM19 : q_RV M19 := by rw [hM19]; exact q_RV_a (t := 1) hVM18 sh_113 (by decide)
  refine q_dup dX12_init_500 rfl ?_
  refine q_iconst dX12_init_501 ?_
  refine q_bipush dX12_init_502 (by decide) ?_
  refine q_castK (k := 2) sh_113 (by omega) (by decide) (by decide) rfl dX12_init_504 (fun M20 hM20 => ?_)
  have hnM20 : M20.1 = 114 := by rw [hM20]; exact hnM19
  have hVM20 : q_RV M20 := by rw [hM20]; exact q_RV_a (t := 1) hVM19 sh_113 (by decide)
  refine q_dup dX12_init_505 rfl ?_
  refine q_iconst dX12_init_506 ?_
  refine q_bipush dX12_init_507 (by decide) ?_
  refine q_castK (k := 3) sh_113 (by omega) (by decide) (by decide) rfl dX12_init_509 (fun M21 hM21 => ?_)
  have hnM21 : M21.1 = 114 := by rw [hM21]; exact hnM20
  have hVM21 : q_RV M21 := by rw [hM21]; exact q_RV_a (t := 1) hVM20 sh_113 (by decide)
  refine q_dup dX12_init_510 rfl ?_
  refine q_iconst dX12_init_511 ?_
  refine q_bipush dX12_init_512 (by decide) ?_
  refine q_castK (k := 4) sh_113 (by omega) (by decide) (by decide) rfl dX12_init_514 (fun M22 hM22 => ?_)
  have hnM22 : M22.1 = 114 := by rw [hM22]; exact hnM21
  have hVM22 : q_RV M22 := by rw [hM22]; exact q_RV_a (t := 1) hVM21 sh_113 (by decide)
  refine q_dup dX12_init_515 rfl ?_
  refine q_iconst dX12_init_516 ?_
  refine q_bipush dX12_init_517 (by decide) ?_
  refine q_castK (k := 5) sh_113 (by omega) (by decide) (by decide) rfl dX12_init_519 (fun M23 hM23 => ?_)
  have hnM23 : M23.1 = 114 := by rw [hM23]; exact hnM22
  have hVM23 : q_RV M23 := by rw [hM23]; exact q_RV_a (t := 1) hVM22 sh_113 (by decide)
  refine q_putF fl_X12_69 rfl rfl sh_94 (by omega) (by omega) (fun h => q_Ok_fx (by decide +kernel) h) rfl dX12_init_520 (fun M24 hM24 => ?_)
  have hnM24 : M24.1 = 114 := by rw [hM24]; exact hnM23
  have hVM24 : q_RV M24 := by rw [hM24]; exact q_RV_r hVM23 (by omega)
  refine q_aload_n 0 dX12_init_523 rfl rfl ?_
  refine q_bipush dX12_init_524 (by decide) ?_
  refine q_newaC (n := 114) (N := 6) q_XM_T hVM24 hnM24 (by decide) sh_114 rfl rfl (by decide) (by decide) (by decide) ak_char dX12_init_526 (fun M25 hM25 hnM25 hVM25 => ?_)
  refine q_dup dX12_init_528 rfl ?_
  refine q_iconst dX12_init_529 ?_
  refine q_bipush dX12_init_530 (by decide) ?_
  refine q_castK (k := 0) sh_114 (by omega) (by decide) (by decide) rfl dX12_init_532 (fun M26 hM26 => ?_)
  have hnM26 : M26.1 = 115 := by rw [hM26]; exact hnM25
  have hVM26 : q_RV M26 := by rw [hM26]; exact q_RV_a (t := 1) hVM25 sh_114 (by decide)
  refine q_dup dX12_init_533 rfl ?_
  refine q_iconst dX12_init_534 ?_
  refine q_bipush dX12_init_535 (by decide) ?_
  refine q_castK (k := 1) sh_114 (by omega) (by decide) (by decide) rfl dX12_init_537 (fun M27 hM27 => ?_)
  have hnM27 : M27.1 = 115 := by rw [hM27]; exact hnM26
  have hVM27 : q_RV M27 := by rw [hM27]; exact q_RV_a (t := 1) hVM26 sh_114 (by decide)
  refine q_dup dX12_init_538 rfl ?_
  refine q_iconst dX12_init_539 ?_
  refine q_bipush dX12_init_540 (by decide) ?_
  refine q_castK (k := 2) sh_114 (by omega) (by decide) (by decide) rfl dX12_init_542 (fun M28 hM28 => ?_)
  have hnM28 : M28.1 = 115 := by rw [hM28]; exact hnM27
  have hVM28 : q_RV M28 := by rw [hM28]; exact q_RV_a (t := 1) hVM27 sh_114 (by decide)
  refine q_dup dX12_init_543 rfl ?_
  refine q_iconst dX12_init_544 ?_
  refine q_bipush dX12_init_545 (by decide) ?_
  refine q_castK (k := 3) sh_114 (by omega) (by decide) (by decide) rfl dX12_init_547 (fun M29 hM29 => ?_)
  have hnM29 : M29.1 = 115 := by rw [hM29]; exact hnM28
  have hVM29 : q_RV M29 := by rw [hM29]; exact q_RV_a (t := 1) hVM28 sh_114 (by decide)
  refine q_dup dX12_init_548 rfl ?_
  refine q_iconst dX12_init_549 ?_
  refine q_bipush dX12_init_550 (by decide) ?_
  refine q_castK (k := 4) sh_114 (by omega) (by decide) (by decide) rfl dX12_init_552 (fun M30 hM30 => ?_)
  have hnM30 : M30.1 = 115 := by rw [hM30]; exact hnM29
  have hVM30 : q_RV M30 := by rw [hM30]; exact q_RV_a (t := 1) hVM29 sh_114 (by decide)
  exact kk M30 (by rw [hM30, hM29, hM28, hM27, hM26, hM25, hM24, hM23, hM22, hM21, hM20, hM19, hM18, hM17, hM16, hM15, hM14, hM13, hM12, hM11, hM10, hM9, hM8, hM7, hM6, hM5, hM4, hM3, hM2, hM1]; rfl) hnM30 hVM30
def gb4_X12_init_94 (M : q_Mem) : q_Mem := q_let (q_up M 114 5 114) fun M1 => q_let (q_up M1 94 27 (114 : Int)) fun M2 => q_let (q_aln 115 M2) fun M3 => q_let (q_up M3 115 0 104) fun M4 => q_let (q_up M4 115 1 101) fun M5 => q_let (q_up M5 115 2 114) fun M6 => q_let (q_up M6 115 3 101) fun M7 => q_let (q_up M7 94 28 (115 : Int)) fun M8 => q_let (q_aln 116 M8) fun M9 => q_let (q_up M9 116 0 111) fun M10 => q_let (q_up M10 116 1 114) fun M11 => q_let (q_up M11 94 29 (116 : Int)) fun M12 => q_let (q_aln 117 M12) fun M13 => q_let (q_up M13 117 0 97) fun M14 => q_let (q_up M14 117 1 110) fun M15 => q_let (q_up M15 117 2 100) fun M16 => q_let (q_up M16 94 30 (117 : Int)) fun M17 => q_let (q_aln 118 M17) fun M18 => q_let (q_up M18 118 0 110) fun M19 => q_let (q_up M19 118 1 111) fun M20 => q_let (q_up M20 118 2 116) fun M21 => q_let (q_up M21 94 31 (118 : Int)) fun M22 => q_let (q_aln 119 M22) fun M23 => q_let (q_up M23 119 0 97) fun M24 => q_let (q_up M24 119 1 108) fun M25 => q_let (q_up M25 119 2 108) fun M26 => q_let (q_up M26 94 32 (119 : Int)) fun M27 => q_let (q_aln 120 M27) fun M28 => q_let (q_up M28 120 0 109) fun M29 => q_let (q_up M29 120 1 105) fun M30 => M30
def fb4_X12_init_94 (M : q_Mem) (f : q_Mem → Option (Int × q_Mem)) : Option (Int × q_Mem) := q_let (q_up M 114 5 114) fun M1 => q_let (q_up M1 94 27 (114 : Int)) fun M2 => q_let (q_aln 115 M2) fun M3 => q_let (q_up M3 115 0 104) fun M4 => q_let (q_up M4 115 1 101) fun M5 => q_let (q_up M5 115 2 114) fun M6 => q_let (q_up M6 115 3 101) fun M7 => q_let (q_up M7 94 28 (115 : Int)) fun M8 => q_let (q_aln 116 M8) fun M9 => q_let (q_up M9 116 0 111) fun M10 => q_let (q_up M10 116 1 114) fun M11 => q_let (q_up M11 94 29 (116 : Int)) fun M12 => q_let (q_aln 117 M12) fun M13 => q_let (q_up M13 117 0 97) fun M14 => q_let (q_up M14 117 1 110) fun M15 => q_let (q_up M15 117 2 100) fun M16 => q_let (q_up M16 94 30 (117 : Int)) fun M17 => q_let (q_aln 118 M17) fun M18 => q_let (q_up M18 118 0 110) fun M19 => q_let (q_up M19 118 1 111) fun M20 => q_let (q_up M20 118 2 116) fun M21 => q_let (q_up M21 94 31 (118 : Int)) fun M22 => q_let (q_aln 119 M22) fun M23 => q_let (q_up M23 119 0 97) fun M24 => q_let (q_up M24 119 1 108) fun M25 => q_let (q_up M25 119 2 108) fun M26 => q_let (q_up M26 94 32 (119 : Int)) fun M27 => q_let (q_aln 120 M27) fun M28 => q_let (q_up M28 120 0 109) fun M29 => q_let (q_up M29 120 1 105) fun M30 => f M30
theorem tb4_X12_init_94 {d : Nat} (M : q_Mem) (hM : M.1 = 115) (hV : q_RV M) (f : q_Mem → Option (Int × q_Mem)) (kk : ∀ M2, M2 = gb4_X12_init_94 M → M2.1 = 121 → q_RV M2 → q_EX (d + 1) yX12_init cX12_init 1 none 685 [(0, .inr (.inr 94))] [.inr (.inr 120), .inr (.inr 94)] M2 (f M2)) : q_EX (d + 1) yX12_init cX12_init 1 none 553 [(0, .inr (.inr 94))] [.inr (.inr 114), .inr (.inr 94)] M (f (gb4_X12_init_94 M)) := by
  show q_EX _ _ _ _ _ _ _ _ M (fb4_X12_init_94 M f)
  unfold fb4_X12_init_94
  refine q_dup dX12_init_553 rfl ?_
  refine q_iconst dX12_init_554 ?_
  refine q_bipush dX12_init_555 (by decide) ?_
  refine q_castK (k := 5) sh_114 (by omega) (by decide) (by decide) rfl dX12_init_557 (fun M1 hM1 => ?_)
  have hnM1 : M1.1 = 115 := by rw [hM1]; exact hM
  have hVM1 : q_RV M1 := by rw [hM1]; exact q_RV_a (t := 1) hV sh_114 (by decide)
  refine q_putF fl_X12_72 rfl rfl sh_94 (by omega) (by omega) (fun h => q_Ok_fx (by decide +kernel) h) rfl dX12_init_558 (fun M2 hM2 => ?_)
  have hnM2 : M2.1 = 115 := by rw [hM2]; exact hnM1
  have hVM2 : q_RV M2 := by rw [hM2]; exact q_RV_r hVM1 (by omega)
  refine q_aload_n 0 dX12_init_561 rfl rfl ?_
  refine q_iconst dX12_init_562 ?_
  refine q_newaC (n := 115) (N := 4) q_XM_T hVM2 hnM2 (by decide) sh_115 rfl rfl (by decide) (by decide) (by decide) ak_char dX12_init_563 (fun M3 hM3 hnM3 hVM3 => ?_)
  refine q_dup dX12_init_565 rfl ?_
  refine q_iconst dX12_init_566 ?_
  refine q_bipush dX12_init_567 (by decide) ?_
  refine q_castK (k := 0) sh_115 (by omega) (by decide) (by decide) rfl dX12_init_569 (fun M4 hM4 => ?_)
  have hnM4 : M4.1 = 116 := by rw [hM4]; exact hnM3
  have hVM4 : q_RV M4 := by rw [hM4]; exact q_RV_a (t := 1) hVM3 sh_115 (by decide)
  refine q_dup dX12_init_570 rfl ?_
  refine q_iconst dX12_init_571 ?_
  refine q_bipush dX12_init_572 (by decide) ?_
  refine q_castK (k := 1) sh_115 (by omega) (by decide) (by decide) rfl dX12_init_574 (fun M5 hM5 => ?_)
  have hnM5 : M5.1 = 116 := by rw [hM5]; exact hnM4
  have hVM5 : q_RV M5 := by rw [hM5]; exact q_RV_a (t := 1) hVM4 sh_115 (by decide)
  refine q_dup dX12_init_575 rfl ?_
  refine q_iconst dX12_init_576 ?_
  refine q_bipush dX12_init_577 (by decide) ?_
  refine q_castK (k := 2) sh_115 (by omega) (by decide) (by decide) rfl dX12_init_579 (fun M6 hM6 => ?_)
  have hnM6 : M6.1 = 116 := by rw [hM6]; exact hnM5
  have hVM6 : q_RV M6 := by rw [hM6]; exact q_RV_a (t := 1) hVM5 sh_115 (by decide)
  refine q_dup dX12_init_580 rfl ?_
  refine q_iconst dX12_init_581 ?_
  refine q_bipush dX12_init_582 (by decide) ?_
  refine q_castK (k := 3) sh_115 (by omega) (by decide) (by decide) rfl dX12_init_584 (fun M7 hM7 => ?_)
  have hnM7 : M7.1 = 116 := by rw [hM7]; exact hnM6
  have hVM7 : q_RV M7 := by rw [hM7]; exact q_RV_a (t := 1) hVM6 sh_115 (by decide)
  refine q_putF fl_X12_75 rfl rfl sh_94 (by omega) (by omega) (fun h => q_Ok_fx (by decide +kernel) h) rfl dX12_init_585 (fun M8 hM8 => ?_)
  have hnM8 : M8.1 = 116 := by rw [hM8]; exact hnM7
  have hVM8 : q_RV M8 := by rw [hM8]; exact q_RV_r hVM7 (by omega)
  refine q_aload_n 0 dX12_init_588 rfl rfl ?_
  refine q_iconst dX12_init_589 ?_
  refine q_newaC (n := 116) (N := 2) q_XM_T hVM8 hnM8 (by decide) sh_116 rfl rfl (by decide) (by decide) (by decide) ak_char dX12_init_590 (fun M9 hM9 hnM9 hVM9 => ?_)
  refine q_dup dX12_init_592 rfl ?_
  refine q_iconst dX12_init_593 ?_
  refine q_bipush dX12_init_594 (by decide) ?_
  refine q_castK (k := 0) sh_116 (by omega) (by decide) (by decide) rfl dX12_init_596 (fun M10 hM10 => ?_)
  have hnM10 : M10.1 = 117 := by rw [hM10]; exact hnM9
  have hVM10 : q_RV M10 := by rw [hM10]; exact q_RV_a (t := 1) hVM9 sh_116 (by decide)
  refine q_dup dX12_init_597 rfl ?_
  refine q_iconst dX12_init_598 ?_
  refine q_bipush dX12_init_599 (by decide) ?_
  refine q_castK (k := 1) sh_116 (by omega) (by decide) (by decide) rfl dX12_init_601 (fun M11 hM11 => ?_)
  have hnM11 : M11.1 = 117 := by rw [hM11]; exact hnM10
  have hVM11 : q_RV M11 := by rw [hM11]; exact q_RV_a (t := 1) hVM10 sh_116 (by decide)
  refine q_putF fl_X12_78 rfl rfl sh_94 (by omega) (by omega) (fun h => q_Ok_fx (by decide +kernel) h) rfl dX12_init_602 (fun M12 hM12 => ?_)
  have hnM12 : M12.1 = 117 := by rw [hM12]; exact hnM11
  have hVM12 : q_RV M12 := by rw [hM12]; exact q_RV_r hVM11 (by omega)
  refine q_aload_n 0 dX12_init_605 rfl rfl ?_
  refine q_iconst dX12_init_606 ?_
  refine q_newaC (n := 117) (N := 3) q_XM_T hVM12 hnM12 (by decide) sh_117 rfl rfl (by decide) (by decide) (by decide) ak_char dX12_init_607 (fun M13 hM13 hnM13 hVM13 => ?_)
  refine q_dup dX12_init_609 rfl ?_
  refine q_iconst dX12_init_610 ?_
  refine q_bipush dX12_init_611 (by decide) ?_
  refine q_castK (k := 0) sh_117 (by omega) (by decide) (by decide) rfl dX12_init_613 (fun M14 hM14 => ?_)
  have hnM14 : M14.1 = 118 := by rw [hM14]; exact hnM13
  have hVM14 : q_RV M14 := by rw [hM14]; exact q_RV_a (t := 1) hVM13 sh_117 (by decide)
  refine q_dup dX12_init_614 rfl ?_
  refine q_iconst dX12_init_615 ?_
  refine q_bipush dX12_init_616 (by decide) ?_
  refine q_castK (k := 1) sh_117 (by omega) (by decide) (by decide) rfl dX12_init_618 (fun M15 hM15 => ?_)
  have hnM15 : M15.1 = 118 := by rw [hM15]; exact hnM14
  have hVM15 : q_RV M15 := by rw [hM15]; exact q_RV_a (t := 1) hVM14 sh_117 (by decide)
  refine q_dup dX12_init_619 rfl ?_
  refine q_iconst dX12_init_620 ?_
  refine q_bipush dX12_init_621 (by decide) ?_
  refine q_castK (k := 2) sh_117 (by omega) (by decide) (by decide) rfl dX12_init_623 (fun M16 hM16 => ?_)
  have hnM16 : M16.1 = 118 := by rw [hM16]; exact hnM15
  have hVM16 : q_RV M16 := by rw [hM16]; exact q_RV_a (t := 1) hVM15 sh_117 (by decide)
  refine q_putF fl_X12_81 rfl rfl sh_94 (by omega) (by omega) (fun h => q_Ok_fx (by decide +kernel) h) rfl dX12_init_624 (fun M17 hM17 => ?_)
  have hnM17 : M17.1 = 118 := by rw [hM17]; exact hnM16
  have hVM17 : q_RV M17 := by rw [hM17]; exact q_RV_r hVM16 (by omega)
  refine q_aload_n 0 dX12_init_627 rfl rfl ?_
  refine q_iconst dX12_init_628 ?_
  refine q_newaC (n := 118) (N := 3) q_XM_T hVM17 hnM17 (by decide) sh_118 rfl rfl (by decide) (by decide) (by decide) ak_char dX12_init_629 (fun M18 hM18 hnM18 hVM18 => ?_)
  refine q_dup dX12_init_631 rfl ?_
  refine q_iconst dX12_init_632 ?_
  refine q_bipush dX12_init_633 (by decide) ?_
  refine q_castK (k := 0) sh_118 (by omega) (by decide) (by decide) rfl dX12_init_635 (fun M19 hM19 => ?_)
  have hnM19 : M19.1 = 119 := by rw [hM19]; exact hnM18
  have hVM19 : q_RV M19 := by rw [hM19]; exact q_RV_a (t := 1) hVM18 sh_118 (by decide)
  refine q_dup dX12_init_636 rfl ?_
  refine q_iconst dX12_init_637 ?_
  refine q_bipush dX12_init_638 (by decide) ?_
  refine q_castK (k := 1) sh_118 (by omega) (by decide) (by decide) rfl dX12_init_640 (fun M20 hM20 => ?_)
  have hnM20 : M20.1 = 119 := by rw [hM20]; exact hnM19
  have hVM20 : q_RV M20 := by rw [hM20]; exact q_RV_a (t := 1) hVM19 sh_118 (by decide)
  refine q_dup dX12_init_641 rfl ?_
  refine q_iconst dX12_init_642 ?_
  refine q_bipush dX12_init_643 (by decide) ?_
  refine q_castK (k := 2) sh_118 (by omega) (by decide) (by decide) rfl dX12_init_645 (fun M21 hM21 => ?_)
  have hnM21 : M21.1 = 119 := by rw [hM21]; exact hnM20
  have hVM21 : q_RV M21 := by rw [hM21]; exact q_RV_a (t := 1) hVM20 sh_118 (by decide)
  refine q_putF fl_X12_84 rfl rfl sh_94 (by omega) (by omega) (fun h => q_Ok_fx (by decide +kernel) h) rfl dX12_init_646 (fun M22 hM22 => ?_)
  have hnM22 : M22.1 = 119 := by rw [hM22]; exact hnM21
  have hVM22 : q_RV M22 := by rw [hM22]; exact q_RV_r hVM21 (by omega)
  refine q_aload_n 0 dX12_init_649 rfl rfl ?_
  refine q_iconst dX12_init_650 ?_
  refine q_newaC (n := 119) (N := 3) q_XM_T hVM22 hnM22 (by decide) sh_119 rfl rfl (by decide) (by decide) (by decide) ak_char dX12_init_651 (fun M23 hM23 hnM23 hVM23 => ?_)
  refine q_dup dX12_init_653 rfl ?_
  refine q_iconst dX12_init_654 ?_
  refine q_bipush dX12_init_655 (by decide) ?_
  refine q_castK (k := 0) sh_119 (by omega) (by decide) (by decide) rfl dX12_init_657 (fun M24 hM24 => ?_)
  have hnM24 : M24.1 = 120 := by rw [hM24]; exact hnM23
  have hVM24 : q_RV M24 := by rw [hM24]; exact q_RV_a (t := 1) hVM23 sh_119 (by decide)
  refine q_dup dX12_init_658 rfl ?_
  refine q_iconst dX12_init_659 ?_
  refine q_bipush dX12_init_660 (by decide) ?_
  refine q_castK (k := 1) sh_119 (by omega) (by decide) (by decide) rfl dX12_init_662 (fun M25 hM25 => ?_)
  have hnM25 : M25.1 = 120 := by rw [hM25]; exact hnM24
  have hVM25 : q_RV M25 := by rw [hM25]; exact q_RV_a (t := 1) hVM24 sh_119 (by decide)
  refine q_dup dX12_init_663 rfl ?_
  refine q_iconst dX12_init_664 ?_
  refine q_bipush dX12_init_665 (by decide) ?_
  refine q_castK (k := 2) sh_119 (by omega) (by decide) (by decide) rfl dX12_init_667 (fun M26 hM26 => ?_)
  have hnM26 : M26.1 = 120 := by rw [hM26]; exact hnM25
  have hVM26 : q_RV M26 := by rw [hM26]; exact q_RV_a (t := 1) hVM25 sh_119 (by decide)
  refine q_putF fl_X12_87 rfl rfl sh_94 (by omega) (by omega) (fun h => q_Ok_fx (by decide +kernel) h) rfl dX12_init_668 (fun M27 hM27 => ?_)
  have hnM27 : M27.1 = 120 := by rw [hM27]; exact hnM26
  have hVM27 : q_RV M27 := by rw [hM27]; exact q_RV_r hVM26 (by omega)
  refine q_aload_n 0 dX12_init_671 rfl rfl ?_
  refine q_iconst dX12_init_672 ?_
  refine q_newaC (n := 120) (N := 3) q_XM_T hVM27 hnM27 (by decide) sh_120 rfl rfl (by decide) (by decide) (by decide) ak_char dX12_init_673 (fun M28 hM28 hnM28 hVM28 => ?_)
  refine q_dup dX12_init_675 rfl ?_
  refine q_iconst dX12_init_676 ?_
  refine q_bipush dX12_init_677 (by decide) ?_
  refine q_castK (k := 0) sh_120 (by omega) (by decide) (by decide) rfl dX12_init_679 (fun M29 hM29 => ?_)
  have hnM29 : M29.1 = 121 := by rw [hM29]; exact hnM28
  have hVM29 : q_RV M29 := by rw [hM29]; exact q_RV_a (t := 1) hVM28 sh_120 (by decide)
  refine q_dup dX12_init_680 rfl ?_
  refine q_iconst dX12_init_681 ?_
  refine q_bipush dX12_init_682 (by decide) ?_
  refine q_castK (k := 1) sh_120 (by omega) (by decide) (by decide) rfl dX12_init_684 (fun M30 hM30 => ?_)
  have hnM30 : M30.1 = 121 := by rw [hM30]; exact hnM29
  have hVM30 : q_RV M30 := by rw [hM30]; exact q_RV_a (t := 1) hVM29 sh_120 (by decide)
  exact kk M30 (by rw [hM30, hM29, hM28, hM27, hM26, hM25, hM24, hM23, hM22, hM21, hM20, hM19, hM18, hM17, hM16, hM15, hM14, hM13, hM12, hM11, hM10, hM9, hM8, hM7, hM6, hM5, hM4, hM3, hM2, hM1]; rfl) hnM30 hVM30
def gb5_X12_init_94 (M : q_Mem) : q_Mem := q_let (q_up M 120 2 110) fun M1 => q_let (q_up M1 94 33 (120 : Int)) fun M2 => q_let (q_aln 121 M2) fun M3 => q_let (q_up M3 121 0 109) fun M4 => q_let (q_up M4 121 1 97) fun M5 => q_let (q_up M5 121 2 120) fun M6 => q_let (q_up M6 94 34 (121 : Int)) fun M7 => q_let (q_aln 122 M7) fun M8 => q_let (q_up M8 94 36 (122 : Int)) fun M9 => q_let (q_aln 123 M9) fun M10 => q_let (q_up M10 94 37 (123 : Int)) fun M11 => q_let (q_aln 124 M11) fun M12 => q_let (q_up M12 94 38 (124 : Int)) fun M13 => q_let (q_aln 125 M13) fun M14 => q_let (q_up M14 94 39 (125 : Int)) fun M15 => q_let (q_aln 126 M15) fun M16 => q_let (q_up M16 94 40 (126 : Int)) fun M17 => q_let (q_aln 127 M17) fun M18 => q_let (q_up M18 94 41 (127 : Int)) fun M19 => q_let (q_aln 128 M19) fun M20 => q_let (q_up M20 128 0 (-1)) fun M21 => q_let (q_up M21 128 1 (-1)) fun M22 => q_let (q_up M22 128 2 (-1)) fun M23 => q_let (q_up M23 128 3 (-1)) fun M24 => q_let (q_up M24 94 42 (128 : Int)) fun M25 => q_let (q_aln 129 M25) fun M26 => q_let (q_up M26 94 43 (129 : Int)) fun M27 => q_let (q_aln 130 M27) fun M28 => q_let (q_up M28 94 44 (130 : Int)) fun M29 => q_let (q_aln 131 M29) fun M30 => M30
def fb5_X12_init_94 (M : q_Mem) (f : q_Mem → Option (Int × q_Mem)) : Option (Int × q_Mem) := q_let (q_up M 120 2 110) fun M1 => q_let (q_up M1 94 33 (120 : Int)) fun M2 => q_let (q_aln 121 M2) fun M3 => q_let (q_up M3 121 0 109) fun M4 => q_let (q_up M4 121 1 97) fun M5 => q_let (q_up M5 121 2 120) fun M6 => q_let (q_up M6 94 34 (121 : Int)) fun M7 => q_let (q_aln 122 M7) fun M8 => q_let (q_up M8 94 36 (122 : Int)) fun M9 => q_let (q_aln 123 M9) fun M10 => q_let (q_up M10 94 37 (123 : Int)) fun M11 => q_let (q_aln 124 M11) fun M12 => q_let (q_up M12 94 38 (124 : Int)) fun M13 => q_let (q_aln 125 M13) fun M14 => q_let (q_up M14 94 39 (125 : Int)) fun M15 => q_let (q_aln 126 M15) fun M16 => q_let (q_up M16 94 40 (126 : Int)) fun M17 => q_let (q_aln 127 M17) fun M18 => q_let (q_up M18 94 41 (127 : Int)) fun M19 => q_let (q_aln 128 M19) fun M20 => q_let (q_up M20 128 0 (-1)) fun M21 => q_let (q_up M21 128 1 (-1)) fun M22 => q_let (q_up M22 128 2 (-1)) fun M23 => q_let (q_up M23 128 3 (-1)) fun M24 => q_let (q_up M24 94 42 (128 : Int)) fun M25 => q_let (q_aln 129 M25) fun M26 => q_let (q_up M26 94 43 (129 : Int)) fun M27 => q_let (q_aln 130 M27) fun M28 => q_let (q_up M28 94 44 (130 : Int)) fun M29 => q_let (q_aln 131 M29) fun M30 => f M30
theorem tb5_X12_init_94 {d : Nat} (M : q_Mem) (hM : M.1 = 121) (hV : q_RV M) (f : q_Mem → Option (Int × q_Mem)) (kk : ∀ M2, M2 = gb5_X12_init_94 M → M2.1 = 132 → q_RV M2 → q_EX (d + 1) yX12_init cX12_init 1 none 808 [(0, .inr (.inr 94))] [.inr (.inr 131), .inr (.inr 94)] M2 (f M2)) : q_EX (d + 1) yX12_init cX12_init 1 none 685 [(0, .inr (.inr 94))] [.inr (.inr 120), .inr (.inr 94)] M (f (gb5_X12_init_94 M)) := by
  show q_EX _ _ _ _ _ _ _ _ M (fb5_X12_init_94 M f)
  unfold fb5_X12_init_94
  refine q_dup dX12_init_685 rfl ?_
  refine q_iconst dX12_init_686 ?_
  refine q_bipush dX12_init_687 (by decide) ?_
  refine q_castK (k := 2) sh_120 (by omega) (by decide) (by decide) rfl dX12_init_689 (fun M1 hM1 => ?_)
  have hnM1 : M1.1 = 121 := by rw [hM1]; exact hM
  have hVM1 : q_RV M1 := by rw [hM1]; exact q_RV_a (t := 1) hV sh_120 (by decide)
  refine q_putF fl_X12_90 rfl rfl sh_94 (by omega) (by omega) (fun h => q_Ok_fx (by decide +kernel) h) rfl dX12_init_690 (fun M2 hM2 => ?_)
  have hnM2 : M2.1 = 121 := by rw [hM2]; exact hnM1
  have hVM2 : q_RV M2 := by rw [hM2]; exact q_RV_r hVM1 (by omega)
  refine q_aload_n 0 dX12_init_693 rfl rfl ?_
  refine q_iconst dX12_init_694 ?_
  refine q_newaC (n := 121) (N := 3) q_XM_T hVM2 hnM2 (by decide) sh_121 rfl rfl (by decide) (by decide) (by decide) ak_char dX12_init_695 (fun M3 hM3 hnM3 hVM3 => ?_)
  refine q_dup dX12_init_697 rfl ?_
  refine q_iconst dX12_init_698 ?_
  refine q_bipush dX12_init_699 (by decide) ?_
  refine q_castK (k := 0) sh_121 (by omega) (by decide) (by decide) rfl dX12_init_701 (fun M4 hM4 => ?_)
  have hnM4 : M4.1 = 122 := by rw [hM4]; exact hnM3
  have hVM4 : q_RV M4 := by rw [hM4]; exact q_RV_a (t := 1) hVM3 sh_121 (by decide)
  refine q_dup dX12_init_702 rfl ?_
  refine q_iconst dX12_init_703 ?_
  refine q_bipush dX12_init_704 (by decide) ?_
  refine q_castK (k := 1) sh_121 (by omega) (by decide) (by decide) rfl dX12_init_706 (fun M5 hM5 => ?_)
  have hnM5 : M5.1 = 122 := by rw [hM5]; exact hnM4
  have hVM5 : q_RV M5 := by rw [hM5]; exact q_RV_a (t := 1) hVM4 sh_121 (by decide)
  refine q_dup dX12_init_707 rfl ?_
  refine q_iconst dX12_init_708 ?_
  refine q_bipush dX12_init_709 (by decide) ?_
  refine q_castK (k := 2) sh_121 (by omega) (by decide) (by decide) rfl dX12_init_711 (fun M6 hM6 => ?_)
  have hnM6 : M6.1 = 122 := by rw [hM6]; exact hnM5
  have hVM6 : q_RV M6 := by rw [hM6]; exact q_RV_a (t := 1) hVM5 sh_121 (by decide)
  refine q_putF fl_X12_93 rfl rfl sh_94 (by omega) (by omega) (fun h => q_Ok_fx (by decide +kernel) h) rfl dX12_init_712 (fun M7 hM7 => ?_)
  have hnM7 : M7.1 = 122 := by rw [hM7]; exact hnM6
  have hVM7 : q_RV M7 := by rw [hM7]; exact q_RV_r hVM6 (by omega)
  refine q_aload_n 0 dX12_init_715 rfl rfl ?_
  refine q_bipush dX12_init_716 (by decide) ?_
  refine q_newaI (n := 122) (N := 6) q_XM_T hVM7 hnM7 (by decide) sh_122 rfl rfl (by decide) (by decide) (by decide) ak_int dX12_init_718 (fun M8 hM8 hnM8 hVM8 => ?_)
  refine q_putF fl_X12_96 rfl rfl sh_94 (by omega) (by omega) (fun h => q_Ok_fx (by decide +kernel) h) rfl dX12_init_720 (fun M9 hM9 => ?_)
  have hnM9 : M9.1 = 123 := by rw [hM9]; exact hnM8
  have hVM9 : q_RV M9 := by rw [hM9]; exact q_RV_r hVM8 (by omega)
  refine q_aload_n 0 dX12_init_723 rfl rfl ?_
  refine q_bipush dX12_init_724 (by decide) ?_
  refine q_newaI (n := 123) (N := 6) q_XM_T hVM9 hnM9 (by decide) sh_123 rfl rfl (by decide) (by decide) (by decide) ak_int dX12_init_726 (fun M10 hM10 hnM10 hVM10 => ?_)
  refine q_putF fl_X12_99 rfl rfl sh_94 (by omega) (by omega) (fun h => q_Ok_fx (by decide +kernel) h) rfl dX12_init_728 (fun M11 hM11 => ?_)
  have hnM11 : M11.1 = 124 := by rw [hM11]; exact hnM10
  have hVM11 : q_RV M11 := by rw [hM11]; exact q_RV_r hVM10 (by omega)
  refine q_aload_n 0 dX12_init_731 rfl rfl ?_
  refine q_bipush dX12_init_732 (by decide) ?_
  refine q_newaJ (n := 124) (N := 32) q_XM_T hVM11 hnM11 (by decide) sh_124 rfl rfl (by decide) (by decide) (by decide) ak_long dX12_init_734 (fun M12 hM12 hnM12 hVM12 => ?_)
  refine q_putF fl_X12_102 rfl rfl sh_94 (by omega) (by omega) (fun h => q_Ok_fx (by decide +kernel) h) rfl dX12_init_736 (fun M13 hM13 => ?_)
  have hnM13 : M13.1 = 125 := by rw [hM13]; exact hnM12
  have hVM13 : q_RV M13 := by rw [hM13]; exact q_RV_r hVM12 (by omega)
  refine q_aload_n 0 dX12_init_739 rfl rfl ?_
  refine q_bipush dX12_init_740 (by decide) ?_
  refine q_newaI (n := 125) (N := 48) q_XM_T hVM13 hnM13 (by decide) sh_125 rfl rfl (by decide) (by decide) (by decide) ak_int dX12_init_742 (fun M14 hM14 hnM14 hVM14 => ?_)
  refine q_putF fl_X12_106 rfl rfl sh_94 (by omega) (by omega) (fun h => q_Ok_fx (by decide +kernel) h) rfl dX12_init_744 (fun M15 hM15 => ?_)
  have hnM15 : M15.1 = 126 := by rw [hM15]; exact hnM14
  have hVM15 : q_RV M15 := by rw [hM15]; exact q_RV_r hVM14 (by omega)
  refine q_aload_n 0 dX12_init_747 rfl rfl ?_
  refine q_bipush dX12_init_748 (by decide) ?_
  refine q_newaI (n := 126) (N := 32) q_XM_T hVM15 hnM15 (by decide) sh_126 rfl rfl (by decide) (by decide) (by decide) ak_int dX12_init_750 (fun M16 hM16 hnM16 hVM16 => ?_)
  refine q_putF fl_X12_109 rfl rfl sh_94 (by omega) (by omega) (fun h => q_Ok_fx (by decide +kernel) h) rfl dX12_init_752 (fun M17 hM17 => ?_)
  have hnM17 : M17.1 = 127 := by rw [hM17]; exact hnM16
  have hVM17 : q_RV M17 := by rw [hM17]; exact q_RV_r hVM16 (by omega)
  refine q_aload_n 0 dX12_init_755 rfl rfl ?_
  refine q_bipush dX12_init_756 (by decide) ?_
  refine q_newaI (n := 127) (N := 32) q_XM_T hVM17 hnM17 (by decide) sh_127 rfl rfl (by decide) (by decide) (by decide) ak_int dX12_init_758 (fun M18 hM18 hnM18 hVM18 => ?_)
  refine q_putF fl_X12_112 rfl rfl sh_94 (by omega) (by omega) (fun h => q_Ok_fx (by decide +kernel) h) rfl dX12_init_760 (fun M19 hM19 => ?_)
  have hnM19 : M19.1 = 128 := by rw [hM19]; exact hnM18
  have hVM19 : q_RV M19 := by rw [hM19]; exact q_RV_r hVM18 (by omega)
  refine q_aload_n 0 dX12_init_763 rfl rfl ?_
  refine q_iconst dX12_init_764 ?_
  refine q_newaI (n := 128) (N := 4) q_XM_T hVM19 hnM19 (by decide) sh_128 rfl rfl (by decide) (by decide) (by decide) ak_int dX12_init_765 (fun M20 hM20 hnM20 hVM20 => ?_)
  refine q_dup dX12_init_767 rfl ?_
  refine q_iconst dX12_init_768 ?_
  refine q_iconst dX12_init_769 ?_
  refine q_iastK (k := 0) sh_128 (by omega) (by decide) (by decide) dX12_init_770 (fun M21 hM21 => ?_)
  have hnM21 : M21.1 = 129 := by rw [hM21]; exact hnM20
  have hVM21 : q_RV M21 := by rw [hM21]; exact q_RV_a (t := 0) hVM20 sh_128 (by decide)
  refine q_dup dX12_init_771 rfl ?_
  refine q_iconst dX12_init_772 ?_
  refine q_iconst dX12_init_773 ?_
  refine q_iastK (k := 1) sh_128 (by omega) (by decide) (by decide) dX12_init_774 (fun M22 hM22 => ?_)
  have hnM22 : M22.1 = 129 := by rw [hM22]; exact hnM21
  have hVM22 : q_RV M22 := by rw [hM22]; exact q_RV_a (t := 0) hVM21 sh_128 (by decide)
  refine q_dup dX12_init_775 rfl ?_
  refine q_iconst dX12_init_776 ?_
  refine q_iconst dX12_init_777 ?_
  refine q_iastK (k := 2) sh_128 (by omega) (by decide) (by decide) dX12_init_778 (fun M23 hM23 => ?_)
  have hnM23 : M23.1 = 129 := by rw [hM23]; exact hnM22
  have hVM23 : q_RV M23 := by rw [hM23]; exact q_RV_a (t := 0) hVM22 sh_128 (by decide)
  refine q_dup dX12_init_779 rfl ?_
  refine q_iconst dX12_init_780 ?_
  refine q_iconst dX12_init_781 ?_
  refine q_iastK (k := 3) sh_128 (by omega) (by decide) (by decide) dX12_init_782 (fun M24 hM24 => ?_)
  have hnM24 : M24.1 = 129 := by rw [hM24]; exact hnM23
  have hVM24 : q_RV M24 := by rw [hM24]; exact q_RV_a (t := 0) hVM23 sh_128 (by decide)
  refine q_putF fl_X12_115 rfl rfl sh_94 (by omega) (by omega) (fun h => q_Ok_fx (by decide +kernel) h) rfl dX12_init_783 (fun M25 hM25 => ?_)
  have hnM25 : M25.1 = 129 := by rw [hM25]; exact hnM24
  have hVM25 : q_RV M25 := by rw [hM25]; exact q_RV_r hVM24 (by omega)
  refine q_aload_n 0 dX12_init_786 rfl rfl ?_
  refine q_iconst dX12_init_787 ?_
  refine q_newaI (n := 129) (N := 4) q_XM_T hVM25 hnM25 (by decide) sh_129 rfl rfl (by decide) (by decide) (by decide) ak_int dX12_init_788 (fun M26 hM26 hnM26 hVM26 => ?_)
  refine q_putF fl_X12_118 rfl rfl sh_94 (by omega) (by omega) (fun h => q_Ok_fx (by decide +kernel) h) rfl dX12_init_790 (fun M27 hM27 => ?_)
  have hnM27 : M27.1 = 130 := by rw [hM27]; exact hnM26
  have hVM27 : q_RV M27 := by rw [hM27]; exact q_RV_r hVM26 (by omega)
  refine q_aload_n 0 dX12_init_793 rfl rfl ?_
  refine q_sipush dX12_init_794 (by decide) ?_
  refine q_newaI (n := 130) (N := 3200) q_XM_T hVM27 hnM27 (by decide) sh_130 rfl rfl (by decide) (by decide) (by decide) ak_int dX12_init_797 (fun M28 hM28 hnM28 hVM28 => ?_)
  refine q_putF fl_X12_121 rfl rfl sh_94 (by omega) (by omega) (fun h => q_Ok_fx (by decide +kernel) h) rfl dX12_init_799 (fun M29 hM29 => ?_)
  have hnM29 : M29.1 = 131 := by rw [hM29]; exact hnM28
  have hVM29 : q_RV M29 := by rw [hM29]; exact q_RV_r hVM28 (by omega)
  refine q_aload_n 0 dX12_init_802 rfl rfl ?_
  refine q_sipush dX12_init_803 (by decide) ?_
  refine q_newaI (n := 131) (N := 141) q_XM_T hVM29 hnM29 (by decide) sh_131 rfl rfl (by decide) (by decide) (by decide) ak_int dX12_init_806 (fun M30 hM30 hnM30 hVM30 => ?_)
  exact kk M30 (by rw [hM30, hM29, hM28, hM27, hM26, hM25, hM24, hM23, hM22, hM21, hM20, hM19, hM18, hM17, hM16, hM15, hM14, hM13, hM12, hM11, hM10, hM9, hM8, hM7, hM6, hM5, hM4, hM3, hM2, hM1]; rfl) hnM30 hVM30
def gb6_X12_init_94 (M : q_Mem) : q_Mem := q_let (q_up M 94 49 (131 : Int)) fun M1 => q_let (q_aln 132 M1) fun M2 => q_let (q_up M2 94 54 (132 : Int)) fun M3 => q_let (q_aln 133 M3) fun M4 => q_let (q_up M4 94 55 (133 : Int)) fun M5 => q_let (q_aln 134 M5) fun M6 => q_let (q_up M6 94 56 (134 : Int)) fun M7 => q_let (q_aln 135 M7) fun M8 => q_let (q_up M8 94 57 (135 : Int)) fun M9 => q_let (q_aln 136 M9) fun M10 => q_let (q_up M10 94 58 (136 : Int)) fun M11 => q_let (q_aln 137 M11) fun M12 => q_let (q_up M12 94 61 (137 : Int)) fun M13 => q_let (q_aln 138 M13) fun M14 => q_let (q_up M14 94 63 (138 : Int)) fun M15 => q_let (q_aln 139 M15) fun M16 => q_let (q_up M16 94 64 (139 : Int)) fun M17 => q_let (q_up M17 94 67 1) fun M18 => q_let (q_aln 140 M18) fun M19 => q_let (q_up M19 140 0 102) fun M20 => q_let (q_up M20 140 1 105) fun M21 => q_let (q_up M21 140 2 114) fun M22 => q_let (q_up M22 140 3 115) fun M23 => q_let (q_up M23 140 4 116) fun M24 => q_let (q_up M24 94 68 (140 : Int)) fun M25 => q_let (q_aln 141 M25) fun M26 => q_let (q_up M26 141 0 108) fun M27 => q_let (q_up M27 141 1 97) fun M28 => q_let (q_up M28 141 2 115) fun M29 => q_let (q_up M29 141 3 116) fun M30 => M30
def fb6_X12_init_94 (M : q_Mem) (f : q_Mem → Option (Int × q_Mem)) : Option (Int × q_Mem) := q_let (q_up M 94 49 (131 : Int)) fun M1 => q_let (q_aln 132 M1) fun M2 => q_let (q_up M2 94 54 (132 : Int)) fun M3 => q_let (q_aln 133 M3) fun M4 => q_let (q_up M4 94 55 (133 : Int)) fun M5 => q_let (q_aln 134 M5) fun M6 => q_let (q_up M6 94 56 (134 : Int)) fun M7 => q_let (q_aln 135 M7) fun M8 => q_let (q_up M8 94 57 (135 : Int)) fun M9 => q_let (q_aln 136 M9) fun M10 => q_let (q_up M10 94 58 (136 : Int)) fun M11 => q_let (q_aln 137 M11) fun M12 => q_let (q_up M12 94 61 (137 : Int)) fun M13 => q_let (q_aln 138 M13) fun M14 => q_let (q_up M14 94 63 (138 : Int)) fun M15 => q_let (q_aln 139 M15) fun M16 => q_let (q_up M16 94 64 (139 : Int)) fun M17 => q_let (q_up M17 94 67 1) fun M18 => q_let (q_aln 140 M18) fun M19 => q_let (q_up M19 140 0 102) fun M20 => q_let (q_up M20 140 1 105) fun M21 => q_let (q_up M21 140 2 114) fun M22 => q_let (q_up M22 140 3 115) fun M23 => q_let (q_up M23 140 4 116) fun M24 => q_let (q_up M24 94 68 (140 : Int)) fun M25 => q_let (q_aln 141 M25) fun M26 => q_let (q_up M26 141 0 108) fun M27 => q_let (q_up M27 141 1 97) fun M28 => q_let (q_up M28 141 2 115) fun M29 => q_let (q_up M29 141 3 116) fun M30 => f M30
theorem tb6_X12_init_94 {d : Nat} (M : q_Mem) (hM : M.1 = 132) (hV : q_RV M) (f : q_Mem → Option (Int × q_Mem)) (kk : ∀ M2, M2 = gb6_X12_init_94 M → M2.1 = 142 → q_RV M2 → q_EX (d + 1) yX12_init cX12_init 1 none 938 [(0, .inr (.inr 94))] [.inr (.inr 141), .inr (.inr 94)] M2 (f M2)) : q_EX (d + 1) yX12_init cX12_init 1 none 808 [(0, .inr (.inr 94))] [.inr (.inr 131), .inr (.inr 94)] M (f (gb6_X12_init_94 M)) := by
  show q_EX _ _ _ _ _ _ _ _ M (fb6_X12_init_94 M f)
  unfold fb6_X12_init_94
  refine q_putF fl_X12_124 rfl rfl sh_94 (by omega) (by omega) (fun h => q_Ok_fx (by decide +kernel) h) rfl dX12_init_808 (fun M1 hM1 => ?_)
  have hnM1 : M1.1 = 132 := by rw [hM1]; exact hM
  have hVM1 : q_RV M1 := by rw [hM1]; exact q_RV_r hV (by omega)
  refine q_aload_n 0 dX12_init_811 rfl rfl ?_
  refine q_bipush dX12_init_812 (by decide) ?_
  refine q_newaI (n := 132) (N := 48) q_XM_T hVM1 hnM1 (by decide) sh_132 rfl rfl (by decide) (by decide) (by decide) ak_int dX12_init_814 (fun M2 hM2 hnM2 hVM2 => ?_)
  refine q_putF fl_X12_127 rfl rfl sh_94 (by omega) (by omega) (fun h => q_Ok_fx (by decide +kernel) h) rfl dX12_init_816 (fun M3 hM3 => ?_)
  have hnM3 : M3.1 = 133 := by rw [hM3]; exact hnM2
  have hVM3 : q_RV M3 := by rw [hM3]; exact q_RV_r hVM2 (by omega)
  refine q_aload_n 0 dX12_init_819 rfl rfl ?_
  refine q_bipush dX12_init_820 (by decide) ?_
  refine q_newaZ (n := 133) (N := 48) q_XM_T hVM3 hnM3 (by decide) sh_133 rfl rfl (by decide) (by decide) (by decide) ak_boolean dX12_init_822 (fun M4 hM4 hnM4 hVM4 => ?_)
  refine q_putF fl_X12_130 rfl rfl sh_94 (by omega) (by omega) (fun h => q_Ok_fx (by decide +kernel) h) rfl dX12_init_824 (fun M5 hM5 => ?_)
  have hnM5 : M5.1 = 134 := by rw [hM5]; exact hnM4
  have hVM5 : q_RV M5 := by rw [hM5]; exact q_RV_r hVM4 (by omega)
  refine q_aload_n 0 dX12_init_827 rfl rfl ?_
  refine q_sipush dX12_init_828 (by decide) ?_
  refine q_newaI (n := 134) (N := 2412) q_XM_T hVM5 hnM5 (by decide) sh_134 rfl rfl (by decide) (by decide) (by decide) ak_int dX12_init_831 (fun M6 hM6 hnM6 hVM6 => ?_)
  refine q_putF fl_X12_134 rfl rfl sh_94 (by omega) (by omega) (fun h => q_Ok_fx (by decide +kernel) h) rfl dX12_init_833 (fun M7 hM7 => ?_)
  have hnM7 : M7.1 = 135 := by rw [hM7]; exact hnM6
  have hVM7 : q_RV M7 := by rw [hM7]; exact q_RV_r hVM6 (by omega)
  refine q_aload_n 0 dX12_init_836 rfl rfl ?_
  refine q_bipush dX12_init_837 (by decide) ?_
  refine q_newaI (n := 135) (N := 6) q_XM_T hVM7 hnM7 (by decide) sh_135 rfl rfl (by decide) (by decide) (by decide) ak_int dX12_init_839 (fun M8 hM8 hnM8 hVM8 => ?_)
  refine q_putF fl_X12_137 rfl rfl sh_94 (by omega) (by omega) (fun h => q_Ok_fx (by decide +kernel) h) rfl dX12_init_841 (fun M9 hM9 => ?_)
  have hnM9 : M9.1 = 136 := by rw [hM9]; exact hnM8
  have hVM9 : q_RV M9 := by rw [hM9]; exact q_RV_r hVM8 (by omega)
  refine q_aload_n 0 dX12_init_844 rfl rfl ?_
  refine q_bipush dX12_init_845 (by decide) ?_
  refine q_newaI (n := 136) (N := 6) q_XM_T hVM9 hnM9 (by decide) sh_136 rfl rfl (by decide) (by decide) (by decide) ak_int dX12_init_847 (fun M10 hM10 hnM10 hVM10 => ?_)
  refine q_putF fl_X12_140 rfl rfl sh_94 (by omega) (by omega) (fun h => q_Ok_fx (by decide +kernel) h) rfl dX12_init_849 (fun M11 hM11 => ?_)
  have hnM11 : M11.1 = 137 := by rw [hM11]; exact hnM10
  have hVM11 : q_RV M11 := by rw [hM11]; exact q_RV_r hVM10 (by omega)
  refine q_aload_n 0 dX12_init_852 rfl rfl ?_
  refine q_bipush dX12_init_853 (by decide) ?_
  refine q_newaI (n := 137) (N := 8) q_XM_T hVM11 hnM11 (by decide) sh_137 rfl rfl (by decide) (by decide) (by decide) ak_int dX12_init_855 (fun M12 hM12 hnM12 hVM12 => ?_)
  refine q_putF fl_X12_143 rfl rfl sh_94 (by omega) (by omega) (fun h => q_Ok_fx (by decide +kernel) h) rfl dX12_init_857 (fun M13 hM13 => ?_)
  have hnM13 : M13.1 = 138 := by rw [hM13]; exact hnM12
  have hVM13 : q_RV M13 := by rw [hM13]; exact q_RV_r hVM12 (by omega)
  refine q_aload_n 0 dX12_init_860 rfl rfl ?_
  refine q_bipush dX12_init_861 (by decide) ?_
  refine q_newaI (n := 138) (N := 48) q_XM_T hVM13 hnM13 (by decide) sh_138 rfl rfl (by decide) (by decide) (by decide) ak_int dX12_init_863 (fun M14 hM14 hnM14 hVM14 => ?_)
  refine q_putF fl_X12_146 rfl rfl sh_94 (by omega) (by omega) (fun h => q_Ok_fx (by decide +kernel) h) rfl dX12_init_865 (fun M15 hM15 => ?_)
  have hnM15 : M15.1 = 139 := by rw [hM15]; exact hnM14
  have hVM15 : q_RV M15 := by rw [hM15]; exact q_RV_r hVM14 (by omega)
  refine q_aload_n 0 dX12_init_868 rfl rfl ?_
  refine q_sipush dX12_init_869 (by decide) ?_
  refine q_newaI (n := 139) (N := 2820) q_XM_T hVM15 hnM15 (by decide) sh_139 rfl rfl (by decide) (by decide) (by decide) ak_int dX12_init_872 (fun M16 hM16 hnM16 hVM16 => ?_)
  refine q_putF fl_X12_149 rfl rfl sh_94 (by omega) (by omega) (fun h => q_Ok_fx (by decide +kernel) h) rfl dX12_init_874 (fun M17 hM17 => ?_)
  have hnM17 : M17.1 = 140 := by rw [hM17]; exact hnM16
  have hVM17 : q_RV M17 := by rw [hM17]; exact q_RV_r hVM16 (by omega)
  refine q_aload_n 0 dX12_init_877 rfl rfl ?_
  refine q_lconst (v := 1) dX12_init_878 (by decide) ?_
  refine q_putl fl_X12_152 sh_94 (by omega) (fun h => q_Ok_put h sh_94 rfl) rfl dX12_init_879 (fun M18 hM18 => ?_)
  have hnM18 : M18.1 = 140 := by rw [hM18]; exact hnM17
  have hVM18 : q_RV M18 := by rw [hM18]; exact q_RV_i hVM17 sh_94 rfl
  refine q_aload_n 0 dX12_init_882 rfl rfl ?_
  refine q_iconst dX12_init_883 ?_
  refine q_newaC (n := 140) (N := 5) q_XM_T hVM18 hnM18 (by decide) sh_140 rfl rfl (by decide) (by decide) (by decide) ak_char dX12_init_884 (fun M19 hM19 hnM19 hVM19 => ?_)
  refine q_dup dX12_init_886 rfl ?_
  refine q_iconst dX12_init_887 ?_
  refine q_bipush dX12_init_888 (by decide) ?_
  refine q_castK (k := 0) sh_140 (by omega) (by decide) (by decide) rfl dX12_init_890 (fun M20 hM20 => ?_)
  have hnM20 : M20.1 = 141 := by rw [hM20]; exact hnM19
  have hVM20 : q_RV M20 := by rw [hM20]; exact q_RV_a (t := 1) hVM19 sh_140 (by decide)
  refine q_dup dX12_init_891 rfl ?_
  refine q_iconst dX12_init_892 ?_
  refine q_bipush dX12_init_893 (by decide) ?_
  refine q_castK (k := 1) sh_140 (by omega) (by decide) (by decide) rfl dX12_init_895 (fun M21 hM21 => ?_)
  have hnM21 : M21.1 = 141 := by rw [hM21]; exact hnM20
  have hVM21 : q_RV M21 := by rw [hM21]; exact q_RV_a (t := 1) hVM20 sh_140 (by decide)
  refine q_dup dX12_init_896 rfl ?_
  refine q_iconst dX12_init_897 ?_
  refine q_bipush dX12_init_898 (by decide) ?_
  refine q_castK (k := 2) sh_140 (by omega) (by decide) (by decide) rfl dX12_init_900 (fun M22 hM22 => ?_)
  have hnM22 : M22.1 = 141 := by rw [hM22]; exact hnM21
  have hVM22 : q_RV M22 := by rw [hM22]; exact q_RV_a (t := 1) hVM21 sh_140 (by decide)
  refine q_dup dX12_init_901 rfl ?_
  refine q_iconst dX12_init_902 ?_
  refine q_bipush dX12_init_903 (by decide) ?_
  refine q_castK (k := 3) sh_140 (by omega) (by decide) (by decide) rfl dX12_init_905 (fun M23 hM23 => ?_)
  have hnM23 : M23.1 = 141 := by rw [hM23]; exact hnM22
  have hVM23 : q_RV M23 := by rw [hM23]; exact q_RV_a (t := 1) hVM22 sh_140 (by decide)
  refine q_dup dX12_init_906 rfl ?_
  refine q_iconst dX12_init_907 ?_
  refine q_bipush dX12_init_908 (by decide) ?_
  refine q_castK (k := 4) sh_140 (by omega) (by decide) (by decide) rfl dX12_init_910 (fun M24 hM24 => ?_)
  have hnM24 : M24.1 = 141 := by rw [hM24]; exact hnM23
  have hVM24 : q_RV M24 := by rw [hM24]; exact q_RV_a (t := 1) hVM23 sh_140 (by decide)
  refine q_putF fl_X12_156 rfl rfl sh_94 (by omega) (by omega) (fun h => q_Ok_fx (by decide +kernel) h) rfl dX12_init_911 (fun M25 hM25 => ?_)
  have hnM25 : M25.1 = 141 := by rw [hM25]; exact hnM24
  have hVM25 : q_RV M25 := by rw [hM25]; exact q_RV_r hVM24 (by omega)
  refine q_aload_n 0 dX12_init_914 rfl rfl ?_
  refine q_iconst dX12_init_915 ?_
  refine q_newaC (n := 141) (N := 4) q_XM_T hVM25 hnM25 (by decide) sh_141 rfl rfl (by decide) (by decide) (by decide) ak_char dX12_init_916 (fun M26 hM26 hnM26 hVM26 => ?_)
  refine q_dup dX12_init_918 rfl ?_
  refine q_iconst dX12_init_919 ?_
  refine q_bipush dX12_init_920 (by decide) ?_
  refine q_castK (k := 0) sh_141 (by omega) (by decide) (by decide) rfl dX12_init_922 (fun M27 hM27 => ?_)
  have hnM27 : M27.1 = 142 := by rw [hM27]; exact hnM26
  have hVM27 : q_RV M27 := by rw [hM27]; exact q_RV_a (t := 1) hVM26 sh_141 (by decide)
  refine q_dup dX12_init_923 rfl ?_
  refine q_iconst dX12_init_924 ?_
  refine q_bipush dX12_init_925 (by decide) ?_
  refine q_castK (k := 1) sh_141 (by omega) (by decide) (by decide) rfl dX12_init_927 (fun M28 hM28 => ?_)
  have hnM28 : M28.1 = 142 := by rw [hM28]; exact hnM27
  have hVM28 : q_RV M28 := by rw [hM28]; exact q_RV_a (t := 1) hVM27 sh_141 (by decide)
  refine q_dup dX12_init_928 rfl ?_
  refine q_iconst dX12_init_929 ?_
  refine q_bipush dX12_init_930 (by decide) ?_
  refine q_castK (k := 2) sh_141 (by omega) (by decide) (by decide) rfl dX12_init_932 (fun M29 hM29 => ?_)
  have hnM29 : M29.1 = 142 := by rw [hM29]; exact hnM28
  have hVM29 : q_RV M29 := by rw [hM29]; exact q_RV_a (t := 1) hVM28 sh_141 (by decide)
  refine q_dup dX12_init_933 rfl ?_
  refine q_iconst dX12_init_934 ?_
  refine q_bipush dX12_init_935 (by decide) ?_
  refine q_castK (k := 3) sh_141 (by omega) (by decide) (by decide) rfl dX12_init_937 (fun M30 hM30 => ?_)
  have hnM30 : M30.1 = 142 := by rw [hM30]; exact hnM29
  have hVM30 : q_RV M30 := by rw [hM30]; exact q_RV_a (t := 1) hVM29 sh_141 (by decide)
  exact kk M30 (by rw [hM30, hM29, hM28, hM27, hM26, hM25, hM24, hM23, hM22, hM21, hM20, hM19, hM18, hM17, hM16, hM15, hM14, hM13, hM12, hM11, hM10, hM9, hM8, hM7, hM6, hM5, hM4, hM3, hM2, hM1]; rfl) hnM30 hVM30
def gb7_X12_init_94 (M : q_Mem) : q_Mem := q_let (q_up M 94 69 (141 : Int)) fun M1 => q_let (q_aln 142 M1) fun M2 => q_let (q_up M2 142 0 111) fun M3 => q_let (q_up M3 142 1 102) fun M4 => q_let (q_up M4 142 2 116) fun M5 => q_let (q_up M5 142 3 101) fun M6 => q_let (q_up M6 142 4 110) fun M7 => q_let (q_up M7 94 70 (142 : Int)) fun M8 => q_let (q_aln 143 M8) fun M9 => q_let (q_up M9 143 0 116) fun M10 => q_let (q_up M10 143 1 111) fun M11 => q_let (q_up M11 143 2 116) fun M12 => q_let (q_up M12 143 3 97) fun M13 => q_let (q_up M13 143 4 108) fun M14 => q_let (q_up M14 94 71 (143 : Int)) fun M15 => q_let (q_aln 144 M15) fun M16 => q_let (q_up M16 144 0 109) fun M17 => q_let (q_up M17 144 1 111) fun M18 => q_let (q_up M18 144 2 115) fun M19 => q_let (q_up M19 144 3 116) fun M20 => q_let (q_up M20 94 72 (144 : Int)) fun M21 => q_let (q_aln 145 M21) fun M22 => q_let (q_up M22 145 0 108) fun M23 => q_let (q_up M23 145 1 101) fun M24 => q_let (q_up M24 145 2 97) fun M25 => q_let (q_up M25 145 3 115) fun M26 => q_let (q_up M26 145 4 116) fun M27 => q_let (q_up M27 94 73 (145 : Int)) fun M28 => q_let (q_aln 146 M28) fun M29 => q_let (q_up M29 146 0 110) fun M30 => M30
def fb7_X12_init_94 (M : q_Mem) (f : q_Mem → Option (Int × q_Mem)) : Option (Int × q_Mem) := q_let (q_up M 94 69 (141 : Int)) fun M1 => q_let (q_aln 142 M1) fun M2 => q_let (q_up M2 142 0 111) fun M3 => q_let (q_up M3 142 1 102) fun M4 => q_let (q_up M4 142 2 116) fun M5 => q_let (q_up M5 142 3 101) fun M6 => q_let (q_up M6 142 4 110) fun M7 => q_let (q_up M7 94 70 (142 : Int)) fun M8 => q_let (q_aln 143 M8) fun M9 => q_let (q_up M9 143 0 116) fun M10 => q_let (q_up M10 143 1 111) fun M11 => q_let (q_up M11 143 2 116) fun M12 => q_let (q_up M12 143 3 97) fun M13 => q_let (q_up M13 143 4 108) fun M14 => q_let (q_up M14 94 71 (143 : Int)) fun M15 => q_let (q_aln 144 M15) fun M16 => q_let (q_up M16 144 0 109) fun M17 => q_let (q_up M17 144 1 111) fun M18 => q_let (q_up M18 144 2 115) fun M19 => q_let (q_up M19 144 3 116) fun M20 => q_let (q_up M20 94 72 (144 : Int)) fun M21 => q_let (q_aln 145 M21) fun M22 => q_let (q_up M22 145 0 108) fun M23 => q_let (q_up M23 145 1 101) fun M24 => q_let (q_up M24 145 2 97) fun M25 => q_let (q_up M25 145 3 115) fun M26 => q_let (q_up M26 145 4 116) fun M27 => q_let (q_up M27 94 73 (145 : Int)) fun M28 => q_let (q_aln 146 M28) fun M29 => q_let (q_up M29 146 0 110) fun M30 => f M30
theorem tb7_X12_init_94 {d : Nat} (M : q_Mem) (hM : M.1 = 142) (hV : q_RV M) (f : q_Mem → Option (Int × q_Mem)) (kk : ∀ M2, M2 = gb7_X12_init_94 M → M2.1 = 147 → q_RV M2 → q_EX (d + 1) yX12_init cX12_init 1 none 1073 [(0, .inr (.inr 94))] [.inr (.inr 146), .inr (.inr 94)] M2 (f M2)) : q_EX (d + 1) yX12_init cX12_init 1 none 938 [(0, .inr (.inr 94))] [.inr (.inr 141), .inr (.inr 94)] M (f (gb7_X12_init_94 M)) := by
  show q_EX _ _ _ _ _ _ _ _ M (fb7_X12_init_94 M f)
  unfold fb7_X12_init_94
  refine q_putF fl_X12_159 rfl rfl sh_94 (by omega) (by omega) (fun h => q_Ok_fx (by decide +kernel) h) rfl dX12_init_938 (fun M1 hM1 => ?_)
  have hnM1 : M1.1 = 142 := by rw [hM1]; exact hM
  have hVM1 : q_RV M1 := by rw [hM1]; exact q_RV_r hV (by omega)
  refine q_aload_n 0 dX12_init_941 rfl rfl ?_
  refine q_iconst dX12_init_942 ?_
  refine q_newaC (n := 142) (N := 5) q_XM_T hVM1 hnM1 (by decide) sh_142 rfl rfl (by decide) (by decide) (by decide) ak_char dX12_init_943 (fun M2 hM2 hnM2 hVM2 => ?_)
  refine q_dup dX12_init_945 rfl ?_
  refine q_iconst dX12_init_946 ?_
  refine q_bipush dX12_init_947 (by decide) ?_
  refine q_castK (k := 0) sh_142 (by omega) (by decide) (by decide) rfl dX12_init_949 (fun M3 hM3 => ?_)
  have hnM3 : M3.1 = 143 := by rw [hM3]; exact hnM2
  have hVM3 : q_RV M3 := by rw [hM3]; exact q_RV_a (t := 1) hVM2 sh_142 (by decide)
  refine q_dup dX12_init_950 rfl ?_
  refine q_iconst dX12_init_951 ?_
  refine q_bipush dX12_init_952 (by decide) ?_
  refine q_castK (k := 1) sh_142 (by omega) (by decide) (by decide) rfl dX12_init_954 (fun M4 hM4 => ?_)
  have hnM4 : M4.1 = 143 := by rw [hM4]; exact hnM3
  have hVM4 : q_RV M4 := by rw [hM4]; exact q_RV_a (t := 1) hVM3 sh_142 (by decide)
  refine q_dup dX12_init_955 rfl ?_
  refine q_iconst dX12_init_956 ?_
  refine q_bipush dX12_init_957 (by decide) ?_
  refine q_castK (k := 2) sh_142 (by omega) (by decide) (by decide) rfl dX12_init_959 (fun M5 hM5 => ?_)
  have hnM5 : M5.1 = 143 := by rw [hM5]; exact hnM4
  have hVM5 : q_RV M5 := by rw [hM5]; exact q_RV_a (t := 1) hVM4 sh_142 (by decide)
  refine q_dup dX12_init_960 rfl ?_
  refine q_iconst dX12_init_961 ?_
  refine q_bipush dX12_init_962 (by decide) ?_
  refine q_castK (k := 3) sh_142 (by omega) (by decide) (by decide) rfl dX12_init_964 (fun M6 hM6 => ?_)
  have hnM6 : M6.1 = 143 := by rw [hM6]; exact hnM5
  have hVM6 : q_RV M6 := by rw [hM6]; exact q_RV_a (t := 1) hVM5 sh_142 (by decide)
  refine q_dup dX12_init_965 rfl ?_
  refine q_iconst dX12_init_966 ?_
  refine q_bipush dX12_init_967 (by decide) ?_
  refine q_castK (k := 4) sh_142 (by omega) (by decide) (by decide) rfl dX12_init_969 (fun M7 hM7 => ?_)
  have hnM7 : M7.1 = 143 := by rw [hM7]; exact hnM6
  have hVM7 : q_RV M7 := by rw [hM7]; exact q_RV_a (t := 1) hVM6 sh_142 (by decide)
  refine q_putF fl_X12_162 rfl rfl sh_94 (by omega) (by omega) (fun h => q_Ok_fx (by decide +kernel) h) rfl dX12_init_970 (fun M8 hM8 => ?_)
  have hnM8 : M8.1 = 143 := by rw [hM8]; exact hnM7
  have hVM8 : q_RV M8 := by rw [hM8]; exact q_RV_r hVM7 (by omega)
  refine q_aload_n 0 dX12_init_973 rfl rfl ?_
  refine q_iconst dX12_init_974 ?_
  refine q_newaC (n := 143) (N := 5) q_XM_T hVM8 hnM8 (by decide) sh_143 rfl rfl (by decide) (by decide) (by decide) ak_char dX12_init_975 (fun M9 hM9 hnM9 hVM9 => ?_)
  refine q_dup dX12_init_977 rfl ?_
  refine q_iconst dX12_init_978 ?_
  refine q_bipush dX12_init_979 (by decide) ?_
  refine q_castK (k := 0) sh_143 (by omega) (by decide) (by decide) rfl dX12_init_981 (fun M10 hM10 => ?_)
  have hnM10 : M10.1 = 144 := by rw [hM10]; exact hnM9
  have hVM10 : q_RV M10 := by rw [hM10]; exact q_RV_a (t := 1) hVM9 sh_143 (by decide)
  refine q_dup dX12_init_982 rfl ?_
  refine q_iconst dX12_init_983 ?_
  refine q_bipush dX12_init_984 (by decide) ?_
  refine q_castK (k := 1) sh_143 (by omega) (by decide) (by decide) rfl dX12_init_986 (fun M11 hM11 => ?_)
  have hnM11 : M11.1 = 144 := by rw [hM11]; exact hnM10
  have hVM11 : q_RV M11 := by rw [hM11]; exact q_RV_a (t := 1) hVM10 sh_143 (by decide)
  refine q_dup dX12_init_987 rfl ?_
  refine q_iconst dX12_init_988 ?_
  refine q_bipush dX12_init_989 (by decide) ?_
  refine q_castK (k := 2) sh_143 (by omega) (by decide) (by decide) rfl dX12_init_991 (fun M12 hM12 => ?_)
  have hnM12 : M12.1 = 144 := by rw [hM12]; exact hnM11
  have hVM12 : q_RV M12 := by rw [hM12]; exact q_RV_a (t := 1) hVM11 sh_143 (by decide)
  refine q_dup dX12_init_992 rfl ?_
  refine q_iconst dX12_init_993 ?_
  refine q_bipush dX12_init_994 (by decide) ?_
  refine q_castK (k := 3) sh_143 (by omega) (by decide) (by decide) rfl dX12_init_996 (fun M13 hM13 => ?_)
  have hnM13 : M13.1 = 144 := by rw [hM13]; exact hnM12
  have hVM13 : q_RV M13 := by rw [hM13]; exact q_RV_a (t := 1) hVM12 sh_143 (by decide)
  refine q_dup dX12_init_997 rfl ?_
  refine q_iconst dX12_init_998 ?_
  refine q_bipush dX12_init_999 (by decide) ?_
  refine q_castK (k := 4) sh_143 (by omega) (by decide) (by decide) rfl dX12_init_1001 (fun M14 hM14 => ?_)
  have hnM14 : M14.1 = 144 := by rw [hM14]; exact hnM13
  have hVM14 : q_RV M14 := by rw [hM14]; exact q_RV_a (t := 1) hVM13 sh_143 (by decide)
  refine q_putF fl_X12_165 rfl rfl sh_94 (by omega) (by omega) (fun h => q_Ok_fx (by decide +kernel) h) rfl dX12_init_1002 (fun M15 hM15 => ?_)
  have hnM15 : M15.1 = 144 := by rw [hM15]; exact hnM14
  have hVM15 : q_RV M15 := by rw [hM15]; exact q_RV_r hVM14 (by omega)
  refine q_aload_n 0 dX12_init_1005 rfl rfl ?_
  refine q_iconst dX12_init_1006 ?_
  refine q_newaC (n := 144) (N := 4) q_XM_T hVM15 hnM15 (by decide) sh_144 rfl rfl (by decide) (by decide) (by decide) ak_char dX12_init_1007 (fun M16 hM16 hnM16 hVM16 => ?_)
  refine q_dup dX12_init_1009 rfl ?_
  refine q_iconst dX12_init_1010 ?_
  refine q_bipush dX12_init_1011 (by decide) ?_
  refine q_castK (k := 0) sh_144 (by omega) (by decide) (by decide) rfl dX12_init_1013 (fun M17 hM17 => ?_)
  have hnM17 : M17.1 = 145 := by rw [hM17]; exact hnM16
  have hVM17 : q_RV M17 := by rw [hM17]; exact q_RV_a (t := 1) hVM16 sh_144 (by decide)
  refine q_dup dX12_init_1014 rfl ?_
  refine q_iconst dX12_init_1015 ?_
  refine q_bipush dX12_init_1016 (by decide) ?_
  refine q_castK (k := 1) sh_144 (by omega) (by decide) (by decide) rfl dX12_init_1018 (fun M18 hM18 => ?_)
  have hnM18 : M18.1 = 145 := by rw [hM18]; exact hnM17
  have hVM18 : q_RV M18 := by rw [hM18]; exact q_RV_a (t := 1) hVM17 sh_144 (by decide)
  refine q_dup dX12_init_1019 rfl ?_
  refine q_iconst dX12_init_1020 ?_
  refine q_bipush dX12_init_1021 (by decide) ?_
  refine q_castK (k := 2) sh_144 (by omega) (by decide) (by decide) rfl dX12_init_1023 (fun M19 hM19 => ?_)
  have hnM19 : M19.1 = 145 := by rw [hM19]; exact hnM18
  have hVM19 : q_RV M19 := by rw [hM19]; exact q_RV_a (t := 1) hVM18 sh_144 (by decide)
  refine q_dup dX12_init_1024 rfl ?_
  refine q_iconst dX12_init_1025 ?_
  refine q_bipush dX12_init_1026 (by decide) ?_
  refine q_castK (k := 3) sh_144 (by omega) (by decide) (by decide) rfl dX12_init_1028 (fun M20 hM20 => ?_)
  have hnM20 : M20.1 = 145 := by rw [hM20]; exact hnM19
  have hVM20 : q_RV M20 := by rw [hM20]; exact q_RV_a (t := 1) hVM19 sh_144 (by decide)
  refine q_putF fl_X12_168 rfl rfl sh_94 (by omega) (by omega) (fun h => q_Ok_fx (by decide +kernel) h) rfl dX12_init_1029 (fun M21 hM21 => ?_)
  have hnM21 : M21.1 = 145 := by rw [hM21]; exact hnM20
  have hVM21 : q_RV M21 := by rw [hM21]; exact q_RV_r hVM20 (by omega)
  refine q_aload_n 0 dX12_init_1032 rfl rfl ?_
  refine q_iconst dX12_init_1033 ?_
  refine q_newaC (n := 145) (N := 5) q_XM_T hVM21 hnM21 (by decide) sh_145 rfl rfl (by decide) (by decide) (by decide) ak_char dX12_init_1034 (fun M22 hM22 hnM22 hVM22 => ?_)
  refine q_dup dX12_init_1036 rfl ?_
  refine q_iconst dX12_init_1037 ?_
  refine q_bipush dX12_init_1038 (by decide) ?_
  refine q_castK (k := 0) sh_145 (by omega) (by decide) (by decide) rfl dX12_init_1040 (fun M23 hM23 => ?_)
  have hnM23 : M23.1 = 146 := by rw [hM23]; exact hnM22
  have hVM23 : q_RV M23 := by rw [hM23]; exact q_RV_a (t := 1) hVM22 sh_145 (by decide)
  refine q_dup dX12_init_1041 rfl ?_
  refine q_iconst dX12_init_1042 ?_
  refine q_bipush dX12_init_1043 (by decide) ?_
  refine q_castK (k := 1) sh_145 (by omega) (by decide) (by decide) rfl dX12_init_1045 (fun M24 hM24 => ?_)
  have hnM24 : M24.1 = 146 := by rw [hM24]; exact hnM23
  have hVM24 : q_RV M24 := by rw [hM24]; exact q_RV_a (t := 1) hVM23 sh_145 (by decide)
  refine q_dup dX12_init_1046 rfl ?_
  refine q_iconst dX12_init_1047 ?_
  refine q_bipush dX12_init_1048 (by decide) ?_
  refine q_castK (k := 2) sh_145 (by omega) (by decide) (by decide) rfl dX12_init_1050 (fun M25 hM25 => ?_)
  have hnM25 : M25.1 = 146 := by rw [hM25]; exact hnM24
  have hVM25 : q_RV M25 := by rw [hM25]; exact q_RV_a (t := 1) hVM24 sh_145 (by decide)
  refine q_dup dX12_init_1051 rfl ?_
  refine q_iconst dX12_init_1052 ?_
  refine q_bipush dX12_init_1053 (by decide) ?_
  refine q_castK (k := 3) sh_145 (by omega) (by decide) (by decide) rfl dX12_init_1055 (fun M26 hM26 => ?_)
  have hnM26 : M26.1 = 146 := by rw [hM26]; exact hnM25
  have hVM26 : q_RV M26 := by rw [hM26]; exact q_RV_a (t := 1) hVM25 sh_145 (by decide)
  refine q_dup dX12_init_1056 rfl ?_
  refine q_iconst dX12_init_1057 ?_
  refine q_bipush dX12_init_1058 (by decide) ?_
  refine q_castK (k := 4) sh_145 (by omega) (by decide) (by decide) rfl dX12_init_1060 (fun M27 hM27 => ?_)
  have hnM27 : M27.1 = 146 := by rw [hM27]; exact hnM26
  have hVM27 : q_RV M27 := by rw [hM27]; exact q_RV_a (t := 1) hVM26 sh_145 (by decide)
  refine q_putF fl_X12_171 rfl rfl sh_94 (by omega) (by omega) (fun h => q_Ok_fx (by decide +kernel) h) rfl dX12_init_1061 (fun M28 hM28 => ?_)
  have hnM28 : M28.1 = 146 := by rw [hM28]; exact hnM27
  have hVM28 : q_RV M28 := by rw [hM28]; exact q_RV_r hVM27 (by omega)
  refine q_aload_n 0 dX12_init_1064 rfl rfl ?_
  refine q_iconst dX12_init_1065 ?_
  refine q_newaC (n := 146) (N := 3) q_XM_T hVM28 hnM28 (by decide) sh_146 rfl rfl (by decide) (by decide) (by decide) ak_char dX12_init_1066 (fun M29 hM29 hnM29 hVM29 => ?_)
  refine q_dup dX12_init_1068 rfl ?_
  refine q_iconst dX12_init_1069 ?_
  refine q_bipush dX12_init_1070 (by decide) ?_
  refine q_castK (k := 0) sh_146 (by omega) (by decide) (by decide) rfl dX12_init_1072 (fun M30 hM30 => ?_)
  have hnM30 : M30.1 = 147 := by rw [hM30]; exact hnM29
  have hVM30 : q_RV M30 := by rw [hM30]; exact q_RV_a (t := 1) hVM29 sh_146 (by decide)
  exact kk M30 (by rw [hM30, hM29, hM28, hM27, hM26, hM25, hM24, hM23, hM22, hM21, hM20, hM19, hM18, hM17, hM16, hM15, hM14, hM13, hM12, hM11, hM10, hM9, hM8, hM7, hM6, hM5, hM4, hM3, hM2, hM1]; rfl) hnM30 hVM30
def gb8_X12_init_94 (M : q_Mem) : q_Mem := q_let (q_up M 146 1 111) fun M1 => q_let (q_up M1 146 2 116) fun M2 => q_let (q_up M2 94 74 (146 : Int)) fun M3 => q_let (q_aln 147 M3) fun M4 => q_let (q_up M4 147 0 97) fun M5 => q_let (q_up M5 147 1 110) fun M6 => q_let (q_up M6 147 2 100) fun M7 => q_let (q_up M7 94 75 (147 : Int)) fun M8 => q_let (q_aln 148 M8) fun M9 => q_let (q_up M9 148 0 111) fun M10 => q_let (q_up M10 148 1 114) fun M11 => q_let (q_up M11 94 76 (148 : Int)) fun M12 => q_let (q_aln 149 M12) fun M13 => q_let (q_up M13 149 0 97) fun M14 => q_let (q_up M14 149 1 108) fun M15 => q_let (q_up M15 149 2 108) fun M16 => q_let (q_up M16 94 77 (149 : Int)) fun M17 => q_let (q_aln 150 M17) fun M18 => q_let (q_up M18 150 0 109) fun M19 => q_let (q_up M19 150 1 105) fun M20 => q_let (q_up M20 150 2 110) fun M21 => q_let (q_up M21 94 78 (150 : Int)) fun M22 => q_let (q_aln 151 M22) fun M23 => q_let (q_up M23 151 0 109) fun M24 => q_let (q_up M24 151 1 97) fun M25 => q_let (q_up M25 151 2 120) fun M26 => q_let (q_up M26 94 79 (151 : Int)) fun M27 => q_let (q_aln 152 M27) fun M28 => q_let (q_up M28 152 0 119) fun M29 => q_let (q_up M29 152 1 105) fun M30 => M30
def fb8_X12_init_94 (M : q_Mem) (f : q_Mem → Option (Int × q_Mem)) : Option (Int × q_Mem) := q_let (q_up M 146 1 111) fun M1 => q_let (q_up M1 146 2 116) fun M2 => q_let (q_up M2 94 74 (146 : Int)) fun M3 => q_let (q_aln 147 M3) fun M4 => q_let (q_up M4 147 0 97) fun M5 => q_let (q_up M5 147 1 110) fun M6 => q_let (q_up M6 147 2 100) fun M7 => q_let (q_up M7 94 75 (147 : Int)) fun M8 => q_let (q_aln 148 M8) fun M9 => q_let (q_up M9 148 0 111) fun M10 => q_let (q_up M10 148 1 114) fun M11 => q_let (q_up M11 94 76 (148 : Int)) fun M12 => q_let (q_aln 149 M12) fun M13 => q_let (q_up M13 149 0 97) fun M14 => q_let (q_up M14 149 1 108) fun M15 => q_let (q_up M15 149 2 108) fun M16 => q_let (q_up M16 94 77 (149 : Int)) fun M17 => q_let (q_aln 150 M17) fun M18 => q_let (q_up M18 150 0 109) fun M19 => q_let (q_up M19 150 1 105) fun M20 => q_let (q_up M20 150 2 110) fun M21 => q_let (q_up M21 94 78 (150 : Int)) fun M22 => q_let (q_aln 151 M22) fun M23 => q_let (q_up M23 151 0 109) fun M24 => q_let (q_up M24 151 1 97) fun M25 => q_let (q_up M25 151 2 120) fun M26 => q_let (q_up M26 94 79 (151 : Int)) fun M27 => q_let (q_aln 152 M27) fun M28 => q_let (q_up M28 152 0 119) fun M29 => q_let (q_up M29 152 1 105) fun M30 => f M30
theorem tb8_X12_init_94 {d : Nat} (M : q_Mem) (hM : M.1 = 147) (hV : q_RV M) (f : q_Mem → Option (Int × q_Mem)) (kk : ∀ M2, M2 = gb8_X12_init_94 M → M2.1 = 153 → q_RV M2 → q_EX (d + 1) yX12_init cX12_init 1 none 1205 [(0, .inr (.inr 94))] [.inr (.inr 152), .inr (.inr 94)] M2 (f M2)) : q_EX (d + 1) yX12_init cX12_init 1 none 1073 [(0, .inr (.inr 94))] [.inr (.inr 146), .inr (.inr 94)] M (f (gb8_X12_init_94 M)) := by
  show q_EX _ _ _ _ _ _ _ _ M (fb8_X12_init_94 M f)
  unfold fb8_X12_init_94
  refine q_dup dX12_init_1073 rfl ?_
  refine q_iconst dX12_init_1074 ?_
  refine q_bipush dX12_init_1075 (by decide) ?_
  refine q_castK (k := 1) sh_146 (by omega) (by decide) (by decide) rfl dX12_init_1077 (fun M1 hM1 => ?_)
  have hnM1 : M1.1 = 147 := by rw [hM1]; exact hM
  have hVM1 : q_RV M1 := by rw [hM1]; exact q_RV_a (t := 1) hV sh_146 (by decide)
  refine q_dup dX12_init_1078 rfl ?_
  refine q_iconst dX12_init_1079 ?_
  refine q_bipush dX12_init_1080 (by decide) ?_
  refine q_castK (k := 2) sh_146 (by omega) (by decide) (by decide) rfl dX12_init_1082 (fun M2 hM2 => ?_)
  have hnM2 : M2.1 = 147 := by rw [hM2]; exact hnM1
  have hVM2 : q_RV M2 := by rw [hM2]; exact q_RV_a (t := 1) hVM1 sh_146 (by decide)
  refine q_putF fl_X12_174 rfl rfl sh_94 (by omega) (by omega) (fun h => q_Ok_fx (by decide +kernel) h) rfl dX12_init_1083 (fun M3 hM3 => ?_)
  have hnM3 : M3.1 = 147 := by rw [hM3]; exact hnM2
  have hVM3 : q_RV M3 := by rw [hM3]; exact q_RV_r hVM2 (by omega)
  refine q_aload_n 0 dX12_init_1086 rfl rfl ?_
  refine q_iconst dX12_init_1087 ?_
  refine q_newaC (n := 147) (N := 3) q_XM_T hVM3 hnM3 (by decide) sh_147 rfl rfl (by decide) (by decide) (by decide) ak_char dX12_init_1088 (fun M4 hM4 hnM4 hVM4 => ?_)
  refine q_dup dX12_init_1090 rfl ?_
  refine q_iconst dX12_init_1091 ?_
  refine q_bipush dX12_init_1092 (by decide) ?_
  refine q_castK (k := 0) sh_147 (by omega) (by decide) (by decide) rfl dX12_init_1094 (fun M5 hM5 => ?_)
  have hnM5 : M5.1 = 148 := by rw [hM5]; exact hnM4
  have hVM5 : q_RV M5 := by rw [hM5]; exact q_RV_a (t := 1) hVM4 sh_147 (by decide)
  refine q_dup dX12_init_1095 rfl ?_
  refine q_iconst dX12_init_1096 ?_
  refine q_bipush dX12_init_1097 (by decide) ?_
  refine q_castK (k := 1) sh_147 (by omega) (by decide) (by decide) rfl dX12_init_1099 (fun M6 hM6 => ?_)
  have hnM6 : M6.1 = 148 := by rw [hM6]; exact hnM5
  have hVM6 : q_RV M6 := by rw [hM6]; exact q_RV_a (t := 1) hVM5 sh_147 (by decide)
  refine q_dup dX12_init_1100 rfl ?_
  refine q_iconst dX12_init_1101 ?_
  refine q_bipush dX12_init_1102 (by decide) ?_
  refine q_castK (k := 2) sh_147 (by omega) (by decide) (by decide) rfl dX12_init_1104 (fun M7 hM7 => ?_)
  have hnM7 : M7.1 = 148 := by rw [hM7]; exact hnM6
  have hVM7 : q_RV M7 := by rw [hM7]; exact q_RV_a (t := 1) hVM6 sh_147 (by decide)
  refine q_putF fl_X12_177 rfl rfl sh_94 (by omega) (by omega) (fun h => q_Ok_fx (by decide +kernel) h) rfl dX12_init_1105 (fun M8 hM8 => ?_)
  have hnM8 : M8.1 = 148 := by rw [hM8]; exact hnM7
  have hVM8 : q_RV M8 := by rw [hM8]; exact q_RV_r hVM7 (by omega)
  refine q_aload_n 0 dX12_init_1108 rfl rfl ?_
  refine q_iconst dX12_init_1109 ?_
  refine q_newaC (n := 148) (N := 2) q_XM_T hVM8 hnM8 (by decide) sh_148 rfl rfl (by decide) (by decide) (by decide) ak_char dX12_init_1110 (fun M9 hM9 hnM9 hVM9 => ?_)
  refine q_dup dX12_init_1112 rfl ?_
  refine q_iconst dX12_init_1113 ?_
  refine q_bipush dX12_init_1114 (by decide) ?_
  refine q_castK (k := 0) sh_148 (by omega) (by decide) (by decide) rfl dX12_init_1116 (fun M10 hM10 => ?_)
  have hnM10 : M10.1 = 149 := by rw [hM10]; exact hnM9
  have hVM10 : q_RV M10 := by rw [hM10]; exact q_RV_a (t := 1) hVM9 sh_148 (by decide)
  refine q_dup dX12_init_1117 rfl ?_
  refine q_iconst dX12_init_1118 ?_
  refine q_bipush dX12_init_1119 (by decide) ?_
  refine q_castK (k := 1) sh_148 (by omega) (by decide) (by decide) rfl dX12_init_1121 (fun M11 hM11 => ?_)
  have hnM11 : M11.1 = 149 := by rw [hM11]; exact hnM10
  have hVM11 : q_RV M11 := by rw [hM11]; exact q_RV_a (t := 1) hVM10 sh_148 (by decide)
  refine q_putF fl_X12_180 rfl rfl sh_94 (by omega) (by omega) (fun h => q_Ok_fx (by decide +kernel) h) rfl dX12_init_1122 (fun M12 hM12 => ?_)
  have hnM12 : M12.1 = 149 := by rw [hM12]; exact hnM11
  have hVM12 : q_RV M12 := by rw [hM12]; exact q_RV_r hVM11 (by omega)
  refine q_aload_n 0 dX12_init_1125 rfl rfl ?_
  refine q_iconst dX12_init_1126 ?_
  refine q_newaC (n := 149) (N := 3) q_XM_T hVM12 hnM12 (by decide) sh_149 rfl rfl (by decide) (by decide) (by decide) ak_char dX12_init_1127 (fun M13 hM13 hnM13 hVM13 => ?_)
  refine q_dup dX12_init_1129 rfl ?_
  refine q_iconst dX12_init_1130 ?_
  refine q_bipush dX12_init_1131 (by decide) ?_
  refine q_castK (k := 0) sh_149 (by omega) (by decide) (by decide) rfl dX12_init_1133 (fun M14 hM14 => ?_)
  have hnM14 : M14.1 = 150 := by rw [hM14]; exact hnM13
  have hVM14 : q_RV M14 := by rw [hM14]; exact q_RV_a (t := 1) hVM13 sh_149 (by decide)
  refine q_dup dX12_init_1134 rfl ?_
  refine q_iconst dX12_init_1135 ?_
  refine q_bipush dX12_init_1136 (by decide) ?_
  refine q_castK (k := 1) sh_149 (by omega) (by decide) (by decide) rfl dX12_init_1138 (fun M15 hM15 => ?_)
  have hnM15 : M15.1 = 150 := by rw [hM15]; exact hnM14
  have hVM15 : q_RV M15 := by rw [hM15]; exact q_RV_a (t := 1) hVM14 sh_149 (by decide)
  refine q_dup dX12_init_1139 rfl ?_
  refine q_iconst dX12_init_1140 ?_
  refine q_bipush dX12_init_1141 (by decide) ?_
  refine q_castK (k := 2) sh_149 (by omega) (by decide) (by decide) rfl dX12_init_1143 (fun M16 hM16 => ?_)
  have hnM16 : M16.1 = 150 := by rw [hM16]; exact hnM15
  have hVM16 : q_RV M16 := by rw [hM16]; exact q_RV_a (t := 1) hVM15 sh_149 (by decide)
  refine q_putF fl_X12_183 rfl rfl sh_94 (by omega) (by omega) (fun h => q_Ok_fx (by decide +kernel) h) rfl dX12_init_1144 (fun M17 hM17 => ?_)
  have hnM17 : M17.1 = 150 := by rw [hM17]; exact hnM16
  have hVM17 : q_RV M17 := by rw [hM17]; exact q_RV_r hVM16 (by omega)
  refine q_aload_n 0 dX12_init_1147 rfl rfl ?_
  refine q_iconst dX12_init_1148 ?_
  refine q_newaC (n := 150) (N := 3) q_XM_T hVM17 hnM17 (by decide) sh_150 rfl rfl (by decide) (by decide) (by decide) ak_char dX12_init_1149 (fun M18 hM18 hnM18 hVM18 => ?_)
  refine q_dup dX12_init_1151 rfl ?_
  refine q_iconst dX12_init_1152 ?_
  refine q_bipush dX12_init_1153 (by decide) ?_
  refine q_castK (k := 0) sh_150 (by omega) (by decide) (by decide) rfl dX12_init_1155 (fun M19 hM19 => ?_)
  have hnM19 : M19.1 = 151 := by rw [hM19]; exact hnM18
  have hVM19 : q_RV M19 := by rw [hM19]; exact q_RV_a (t := 1) hVM18 sh_150 (by decide)
  refine q_dup dX12_init_1156 rfl ?_
  refine q_iconst dX12_init_1157 ?_
  refine q_bipush dX12_init_1158 (by decide) ?_
  refine q_castK (k := 1) sh_150 (by omega) (by decide) (by decide) rfl dX12_init_1160 (fun M20 hM20 => ?_)
  have hnM20 : M20.1 = 151 := by rw [hM20]; exact hnM19
  have hVM20 : q_RV M20 := by rw [hM20]; exact q_RV_a (t := 1) hVM19 sh_150 (by decide)
  refine q_dup dX12_init_1161 rfl ?_
  refine q_iconst dX12_init_1162 ?_
  refine q_bipush dX12_init_1163 (by decide) ?_
  refine q_castK (k := 2) sh_150 (by omega) (by decide) (by decide) rfl dX12_init_1165 (fun M21 hM21 => ?_)
  have hnM21 : M21.1 = 151 := by rw [hM21]; exact hnM20
  have hVM21 : q_RV M21 := by rw [hM21]; exact q_RV_a (t := 1) hVM20 sh_150 (by decide)
  refine q_putF fl_X12_186 rfl rfl sh_94 (by omega) (by omega) (fun h => q_Ok_fx (by decide +kernel) h) rfl dX12_init_1166 (fun M22 hM22 => ?_)
  have hnM22 : M22.1 = 151 := by rw [hM22]; exact hnM21
  have hVM22 : q_RV M22 := by rw [hM22]; exact q_RV_r hVM21 (by omega)
  refine q_aload_n 0 dX12_init_1169 rfl rfl ?_
  refine q_iconst dX12_init_1170 ?_
  refine q_newaC (n := 151) (N := 3) q_XM_T hVM22 hnM22 (by decide) sh_151 rfl rfl (by decide) (by decide) (by decide) ak_char dX12_init_1171 (fun M23 hM23 hnM23 hVM23 => ?_)
  refine q_dup dX12_init_1173 rfl ?_
  refine q_iconst dX12_init_1174 ?_
  refine q_bipush dX12_init_1175 (by decide) ?_
  refine q_castK (k := 0) sh_151 (by omega) (by decide) (by decide) rfl dX12_init_1177 (fun M24 hM24 => ?_)
  have hnM24 : M24.1 = 152 := by rw [hM24]; exact hnM23
  have hVM24 : q_RV M24 := by rw [hM24]; exact q_RV_a (t := 1) hVM23 sh_151 (by decide)
  refine q_dup dX12_init_1178 rfl ?_
  refine q_iconst dX12_init_1179 ?_
  refine q_bipush dX12_init_1180 (by decide) ?_
  refine q_castK (k := 1) sh_151 (by omega) (by decide) (by decide) rfl dX12_init_1182 (fun M25 hM25 => ?_)
  have hnM25 : M25.1 = 152 := by rw [hM25]; exact hnM24
  have hVM25 : q_RV M25 := by rw [hM25]; exact q_RV_a (t := 1) hVM24 sh_151 (by decide)
  refine q_dup dX12_init_1183 rfl ?_
  refine q_iconst dX12_init_1184 ?_
  refine q_bipush dX12_init_1185 (by decide) ?_
  refine q_castK (k := 2) sh_151 (by omega) (by decide) (by decide) rfl dX12_init_1187 (fun M26 hM26 => ?_)
  have hnM26 : M26.1 = 152 := by rw [hM26]; exact hnM25
  have hVM26 : q_RV M26 := by rw [hM26]; exact q_RV_a (t := 1) hVM25 sh_151 (by decide)
  refine q_putF fl_X12_189 rfl rfl sh_94 (by omega) (by omega) (fun h => q_Ok_fx (by decide +kernel) h) rfl dX12_init_1188 (fun M27 hM27 => ?_)
  have hnM27 : M27.1 = 152 := by rw [hM27]; exact hnM26
  have hVM27 : q_RV M27 := by rw [hM27]; exact q_RV_r hVM26 (by omega)
  refine q_aload_n 0 dX12_init_1191 rfl rfl ?_
  refine q_iconst dX12_init_1192 ?_
  refine q_newaC (n := 152) (N := 5) q_XM_T hVM27 hnM27 (by decide) sh_152 rfl rfl (by decide) (by decide) (by decide) ak_char dX12_init_1193 (fun M28 hM28 hnM28 hVM28 => ?_)
  refine q_dup dX12_init_1195 rfl ?_
  refine q_iconst dX12_init_1196 ?_
  refine q_bipush dX12_init_1197 (by decide) ?_
  refine q_castK (k := 0) sh_152 (by omega) (by decide) (by decide) rfl dX12_init_1199 (fun M29 hM29 => ?_)
  have hnM29 : M29.1 = 153 := by rw [hM29]; exact hnM28
  have hVM29 : q_RV M29 := by rw [hM29]; exact q_RV_a (t := 1) hVM28 sh_152 (by decide)
  refine q_dup dX12_init_1200 rfl ?_
  refine q_iconst dX12_init_1201 ?_
  refine q_bipush dX12_init_1202 (by decide) ?_
  refine q_castK (k := 1) sh_152 (by omega) (by decide) (by decide) rfl dX12_init_1204 (fun M30 hM30 => ?_)
  have hnM30 : M30.1 = 153 := by rw [hM30]; exact hnM29
  have hVM30 : q_RV M30 := by rw [hM30]; exact q_RV_a (t := 1) hVM29 sh_152 (by decide)
  exact kk M30 (by rw [hM30, hM29, hM28, hM27, hM26, hM25, hM24, hM23, hM22, hM21, hM20, hM19, hM18, hM17, hM16, hM15, hM14, hM13, hM12, hM11, hM10, hM9, hM8, hM7, hM6, hM5, hM4, hM3, hM2, hM1]; rfl) hnM30 hVM30
def gb9_X12_init_94 (M : q_Mem) : q_Mem := q_let (q_up M 152 2 100) fun M1 => q_let (q_up M1 152 3 116) fun M2 => q_let (q_up M2 152 4 104) fun M3 => q_let (q_up M3 94 80 (152 : Int)) fun M4 => q_let (q_aln 153 M4) fun M5 => q_let (q_up M5 153 0 104) fun M6 => q_let (q_up M6 153 1 111) fun M7 => q_let (q_up M7 153 2 108) fun M8 => q_let (q_up M8 153 3 101) fun M9 => q_let (q_up M9 94 81 (153 : Int)) fun M10 => q_let (q_aln 154 M10) fun M11 => q_let (q_up M11 154 0 116) fun M12 => q_let (q_up M12 154 1 117) fun M13 => q_let (q_up M13 154 2 114) fun M14 => q_let (q_up M14 154 3 110) fun M15 => q_let (q_up M15 94 82 (154 : Int)) fun M16 => q_let (q_aln 155 M16) fun M17 => q_let (q_up M17 155 0 109) fun M18 => q_let (q_up M18 155 1 105) fun M19 => q_let (q_up M19 155 2 110) fun M20 => q_let (q_up M20 155 3 117) fun M21 => q_let (q_up M21 155 4 116) fun M22 => q_let (q_up M22 155 5 101) fun M23 => q_let (q_up M23 94 83 (155 : Int)) fun M24 => q_let (q_aln 156 M24) fun M25 => q_let (q_up M25 156 0 108) fun M26 => q_let (q_up M26 156 1 111) fun M27 => q_let (q_up M27 156 2 110) fun M28 => q_let (q_up M28 156 3 103) fun M29 => q_let (q_up M29 94 84 (156 : Int)) fun M30 => M30
def fb9_X12_init_94 (M : q_Mem) (f : q_Mem → Option (Int × q_Mem)) : Option (Int × q_Mem) := q_let (q_up M 152 2 100) fun M1 => q_let (q_up M1 152 3 116) fun M2 => q_let (q_up M2 152 4 104) fun M3 => q_let (q_up M3 94 80 (152 : Int)) fun M4 => q_let (q_aln 153 M4) fun M5 => q_let (q_up M5 153 0 104) fun M6 => q_let (q_up M6 153 1 111) fun M7 => q_let (q_up M7 153 2 108) fun M8 => q_let (q_up M8 153 3 101) fun M9 => q_let (q_up M9 94 81 (153 : Int)) fun M10 => q_let (q_aln 154 M10) fun M11 => q_let (q_up M11 154 0 116) fun M12 => q_let (q_up M12 154 1 117) fun M13 => q_let (q_up M13 154 2 114) fun M14 => q_let (q_up M14 154 3 110) fun M15 => q_let (q_up M15 94 82 (154 : Int)) fun M16 => q_let (q_aln 155 M16) fun M17 => q_let (q_up M17 155 0 109) fun M18 => q_let (q_up M18 155 1 105) fun M19 => q_let (q_up M19 155 2 110) fun M20 => q_let (q_up M20 155 3 117) fun M21 => q_let (q_up M21 155 4 116) fun M22 => q_let (q_up M22 155 5 101) fun M23 => q_let (q_up M23 94 83 (155 : Int)) fun M24 => q_let (q_aln 156 M24) fun M25 => q_let (q_up M25 156 0 108) fun M26 => q_let (q_up M26 156 1 111) fun M27 => q_let (q_up M27 156 2 110) fun M28 => q_let (q_up M28 156 3 103) fun M29 => q_let (q_up M29 94 84 (156 : Int)) fun M30 => f M30
theorem tb9_X12_init_94 {d : Nat} (M : q_Mem) (hM : M.1 = 153) (hV : q_RV M) (f : q_Mem → Option (Int × q_Mem)) (kk : ∀ M2, M2 = gb9_X12_init_94 M → M2.1 = 157 → q_RV M2 → q_EX (d + 1) yX12_init cX12_init 1 none 1342 [(0, .inr (.inr 94))] [] M2 (f M2)) : q_EX (d + 1) yX12_init cX12_init 1 none 1205 [(0, .inr (.inr 94))] [.inr (.inr 152), .inr (.inr 94)] M (f (gb9_X12_init_94 M)) := by
  show q_EX _ _ _ _ _ _ _ _ M (fb9_X12_init_94 M f)
  unfold fb9_X12_init_94
  refine q_dup dX12_init_1205 rfl ?_
  refine q_iconst dX12_init_1206 ?_
  refine q_bipush dX12_init_1207 (by decide) ?_
  refine q_castK (k := 2) sh_152 (by omega) (by decide) (by decide) rfl dX12_init_1209 (fun M1 hM1 => ?_)
  have hnM1 : M1.1 = 153 := by rw [hM1]; exact hM
  have hVM1 : q_RV M1 := by rw [hM1]; exact q_RV_a (t := 1) hV sh_152 (by decide)
  refine q_dup dX12_init_1210 rfl ?_
  refine q_iconst dX12_init_1211 ?_
  refine q_bipush dX12_init_1212 (by decide) ?_
  refine q_castK (k := 3) sh_152 (by omega) (by decide) (by decide) rfl dX12_init_1214 (fun M2 hM2 => ?_)
  have hnM2 : M2.1 = 153 := by rw [hM2]; exact hnM1
  have hVM2 : q_RV M2 := by rw [hM2]; exact q_RV_a (t := 1) hVM1 sh_152 (by decide)
  refine q_dup dX12_init_1215 rfl ?_
  refine q_iconst dX12_init_1216 ?_
  refine q_bipush dX12_init_1217 (by decide) ?_
  refine q_castK (k := 4) sh_152 (by omega) (by decide) (by decide) rfl dX12_init_1219 (fun M3 hM3 => ?_)
  have hnM3 : M3.1 = 153 := by rw [hM3]; exact hnM2
  have hVM3 : q_RV M3 := by rw [hM3]; exact q_RV_a (t := 1) hVM2 sh_152 (by decide)
  refine q_putF fl_X12_192 rfl rfl sh_94 (by omega) (by omega) (fun h => q_Ok_fx (by decide +kernel) h) rfl dX12_init_1220 (fun M4 hM4 => ?_)
  have hnM4 : M4.1 = 153 := by rw [hM4]; exact hnM3
  have hVM4 : q_RV M4 := by rw [hM4]; exact q_RV_r hVM3 (by omega)
  refine q_aload_n 0 dX12_init_1223 rfl rfl ?_
  refine q_iconst dX12_init_1224 ?_
  refine q_newaC (n := 153) (N := 4) q_XM_T hVM4 hnM4 (by decide) sh_153 rfl rfl (by decide) (by decide) (by decide) ak_char dX12_init_1225 (fun M5 hM5 hnM5 hVM5 => ?_)
  refine q_dup dX12_init_1227 rfl ?_
  refine q_iconst dX12_init_1228 ?_
  refine q_bipush dX12_init_1229 (by decide) ?_
  refine q_castK (k := 0) sh_153 (by omega) (by decide) (by decide) rfl dX12_init_1231 (fun M6 hM6 => ?_)
  have hnM6 : M6.1 = 154 := by rw [hM6]; exact hnM5
  have hVM6 : q_RV M6 := by rw [hM6]; exact q_RV_a (t := 1) hVM5 sh_153 (by decide)
  refine q_dup dX12_init_1232 rfl ?_
  refine q_iconst dX12_init_1233 ?_
  refine q_bipush dX12_init_1234 (by decide) ?_
  refine q_castK (k := 1) sh_153 (by omega) (by decide) (by decide) rfl dX12_init_1236 (fun M7 hM7 => ?_)
  have hnM7 : M7.1 = 154 := by rw [hM7]; exact hnM6
  have hVM7 : q_RV M7 := by rw [hM7]; exact q_RV_a (t := 1) hVM6 sh_153 (by decide)
  refine q_dup dX12_init_1237 rfl ?_
  refine q_iconst dX12_init_1238 ?_
  refine q_bipush dX12_init_1239 (by decide) ?_
  refine q_castK (k := 2) sh_153 (by omega) (by decide) (by decide) rfl dX12_init_1241 (fun M8 hM8 => ?_)
  have hnM8 : M8.1 = 154 := by rw [hM8]; exact hnM7
  have hVM8 : q_RV M8 := by rw [hM8]; exact q_RV_a (t := 1) hVM7 sh_153 (by decide)
  refine q_dup dX12_init_1242 rfl ?_
  refine q_iconst dX12_init_1243 ?_
  refine q_bipush dX12_init_1244 (by decide) ?_
  refine q_castK (k := 3) sh_153 (by omega) (by decide) (by decide) rfl dX12_init_1246 (fun M9 hM9 => ?_)
  have hnM9 : M9.1 = 154 := by rw [hM9]; exact hnM8
  have hVM9 : q_RV M9 := by rw [hM9]; exact q_RV_a (t := 1) hVM8 sh_153 (by decide)
  refine q_putF fl_X12_195 rfl rfl sh_94 (by omega) (by omega) (fun h => q_Ok_fx (by decide +kernel) h) rfl dX12_init_1247 (fun M10 hM10 => ?_)
  have hnM10 : M10.1 = 154 := by rw [hM10]; exact hnM9
  have hVM10 : q_RV M10 := by rw [hM10]; exact q_RV_r hVM9 (by omega)
  refine q_aload_n 0 dX12_init_1250 rfl rfl ?_
  refine q_iconst dX12_init_1251 ?_
  refine q_newaC (n := 154) (N := 4) q_XM_T hVM10 hnM10 (by decide) sh_154 rfl rfl (by decide) (by decide) (by decide) ak_char dX12_init_1252 (fun M11 hM11 hnM11 hVM11 => ?_)
  refine q_dup dX12_init_1254 rfl ?_
  refine q_iconst dX12_init_1255 ?_
  refine q_bipush dX12_init_1256 (by decide) ?_
  refine q_castK (k := 0) sh_154 (by omega) (by decide) (by decide) rfl dX12_init_1258 (fun M12 hM12 => ?_)
  have hnM12 : M12.1 = 155 := by rw [hM12]; exact hnM11
  have hVM12 : q_RV M12 := by rw [hM12]; exact q_RV_a (t := 1) hVM11 sh_154 (by decide)
  refine q_dup dX12_init_1259 rfl ?_
  refine q_iconst dX12_init_1260 ?_
  refine q_bipush dX12_init_1261 (by decide) ?_
  refine q_castK (k := 1) sh_154 (by omega) (by decide) (by decide) rfl dX12_init_1263 (fun M13 hM13 => ?_)
  have hnM13 : M13.1 = 155 := by rw [hM13]; exact hnM12
  have hVM13 : q_RV M13 := by rw [hM13]; exact q_RV_a (t := 1) hVM12 sh_154 (by decide)
  refine q_dup dX12_init_1264 rfl ?_
  refine q_iconst dX12_init_1265 ?_
  refine q_bipush dX12_init_1266 (by decide) ?_
  refine q_castK (k := 2) sh_154 (by omega) (by decide) (by decide) rfl dX12_init_1268 (fun M14 hM14 => ?_)
  have hnM14 : M14.1 = 155 := by rw [hM14]; exact hnM13
  have hVM14 : q_RV M14 := by rw [hM14]; exact q_RV_a (t := 1) hVM13 sh_154 (by decide)
  refine q_dup dX12_init_1269 rfl ?_
  refine q_iconst dX12_init_1270 ?_
  refine q_bipush dX12_init_1271 (by decide) ?_
  refine q_castK (k := 3) sh_154 (by omega) (by decide) (by decide) rfl dX12_init_1273 (fun M15 hM15 => ?_)
  have hnM15 : M15.1 = 155 := by rw [hM15]; exact hnM14
  have hVM15 : q_RV M15 := by rw [hM15]; exact q_RV_a (t := 1) hVM14 sh_154 (by decide)
  refine q_putF fl_X12_198 rfl rfl sh_94 (by omega) (by omega) (fun h => q_Ok_fx (by decide +kernel) h) rfl dX12_init_1274 (fun M16 hM16 => ?_)
  have hnM16 : M16.1 = 155 := by rw [hM16]; exact hnM15
  have hVM16 : q_RV M16 := by rw [hM16]; exact q_RV_r hVM15 (by omega)
  refine q_aload_n 0 dX12_init_1277 rfl rfl ?_
  refine q_bipush dX12_init_1278 (by decide) ?_
  refine q_newaC (n := 155) (N := 6) q_XM_T hVM16 hnM16 (by decide) sh_155 rfl rfl (by decide) (by decide) (by decide) ak_char dX12_init_1280 (fun M17 hM17 hnM17 hVM17 => ?_)
  refine q_dup dX12_init_1282 rfl ?_
  refine q_iconst dX12_init_1283 ?_
  refine q_bipush dX12_init_1284 (by decide) ?_
  refine q_castK (k := 0) sh_155 (by omega) (by decide) (by decide) rfl dX12_init_1286 (fun M18 hM18 => ?_)
  have hnM18 : M18.1 = 156 := by rw [hM18]; exact hnM17
  have hVM18 : q_RV M18 := by rw [hM18]; exact q_RV_a (t := 1) hVM17 sh_155 (by decide)
  refine q_dup dX12_init_1287 rfl ?_
  refine q_iconst dX12_init_1288 ?_
  refine q_bipush dX12_init_1289 (by decide) ?_
  refine q_castK (k := 1) sh_155 (by omega) (by decide) (by decide) rfl dX12_init_1291 (fun M19 hM19 => ?_)
  have hnM19 : M19.1 = 156 := by rw [hM19]; exact hnM18
  have hVM19 : q_RV M19 := by rw [hM19]; exact q_RV_a (t := 1) hVM18 sh_155 (by decide)
  refine q_dup dX12_init_1292 rfl ?_
  refine q_iconst dX12_init_1293 ?_
  refine q_bipush dX12_init_1294 (by decide) ?_
  refine q_castK (k := 2) sh_155 (by omega) (by decide) (by decide) rfl dX12_init_1296 (fun M20 hM20 => ?_)
  have hnM20 : M20.1 = 156 := by rw [hM20]; exact hnM19
  have hVM20 : q_RV M20 := by rw [hM20]; exact q_RV_a (t := 1) hVM19 sh_155 (by decide)
  refine q_dup dX12_init_1297 rfl ?_
  refine q_iconst dX12_init_1298 ?_
  refine q_bipush dX12_init_1299 (by decide) ?_
  refine q_castK (k := 3) sh_155 (by omega) (by decide) (by decide) rfl dX12_init_1301 (fun M21 hM21 => ?_)
  have hnM21 : M21.1 = 156 := by rw [hM21]; exact hnM20
  have hVM21 : q_RV M21 := by rw [hM21]; exact q_RV_a (t := 1) hVM20 sh_155 (by decide)
  refine q_dup dX12_init_1302 rfl ?_
  refine q_iconst dX12_init_1303 ?_
  refine q_bipush dX12_init_1304 (by decide) ?_
  refine q_castK (k := 4) sh_155 (by omega) (by decide) (by decide) rfl dX12_init_1306 (fun M22 hM22 => ?_)
  have hnM22 : M22.1 = 156 := by rw [hM22]; exact hnM21
  have hVM22 : q_RV M22 := by rw [hM22]; exact q_RV_a (t := 1) hVM21 sh_155 (by decide)
  refine q_dup dX12_init_1307 rfl ?_
  refine q_iconst dX12_init_1308 ?_
  refine q_bipush dX12_init_1309 (by decide) ?_
  refine q_castK (k := 5) sh_155 (by omega) (by decide) (by decide) rfl dX12_init_1311 (fun M23 hM23 => ?_)
  have hnM23 : M23.1 = 156 := by rw [hM23]; exact hnM22
  have hVM23 : q_RV M23 := by rw [hM23]; exact q_RV_a (t := 1) hVM22 sh_155 (by decide)
  refine q_putF fl_X12_201 rfl rfl sh_94 (by omega) (by omega) (fun h => q_Ok_fx (by decide +kernel) h) rfl dX12_init_1312 (fun M24 hM24 => ?_)
  have hnM24 : M24.1 = 156 := by rw [hM24]; exact hnM23
  have hVM24 : q_RV M24 := by rw [hM24]; exact q_RV_r hVM23 (by omega)
  refine q_aload_n 0 dX12_init_1315 rfl rfl ?_
  refine q_iconst dX12_init_1316 ?_
  refine q_newaC (n := 156) (N := 4) q_XM_T hVM24 hnM24 (by decide) sh_156 rfl rfl (by decide) (by decide) (by decide) ak_char dX12_init_1317 (fun M25 hM25 hnM25 hVM25 => ?_)
  refine q_dup dX12_init_1319 rfl ?_
  refine q_iconst dX12_init_1320 ?_
  refine q_bipush dX12_init_1321 (by decide) ?_
  refine q_castK (k := 0) sh_156 (by omega) (by decide) (by decide) rfl dX12_init_1323 (fun M26 hM26 => ?_)
  have hnM26 : M26.1 = 157 := by rw [hM26]; exact hnM25
  have hVM26 : q_RV M26 := by rw [hM26]; exact q_RV_a (t := 1) hVM25 sh_156 (by decide)
  refine q_dup dX12_init_1324 rfl ?_
  refine q_iconst dX12_init_1325 ?_
  refine q_bipush dX12_init_1326 (by decide) ?_
  refine q_castK (k := 1) sh_156 (by omega) (by decide) (by decide) rfl dX12_init_1328 (fun M27 hM27 => ?_)
  have hnM27 : M27.1 = 157 := by rw [hM27]; exact hnM26
  have hVM27 : q_RV M27 := by rw [hM27]; exact q_RV_a (t := 1) hVM26 sh_156 (by decide)
  refine q_dup dX12_init_1329 rfl ?_
  refine q_iconst dX12_init_1330 ?_
  refine q_bipush dX12_init_1331 (by decide) ?_
  refine q_castK (k := 2) sh_156 (by omega) (by decide) (by decide) rfl dX12_init_1333 (fun M28 hM28 => ?_)
  have hnM28 : M28.1 = 157 := by rw [hM28]; exact hnM27
  have hVM28 : q_RV M28 := by rw [hM28]; exact q_RV_a (t := 1) hVM27 sh_156 (by decide)
  refine q_dup dX12_init_1334 rfl ?_
  refine q_iconst dX12_init_1335 ?_
  refine q_bipush dX12_init_1336 (by decide) ?_
  refine q_castK (k := 3) sh_156 (by omega) (by decide) (by decide) rfl dX12_init_1338 (fun M29 hM29 => ?_)
  have hnM29 : M29.1 = 157 := by rw [hM29]; exact hnM28
  have hVM29 : q_RV M29 := by rw [hM29]; exact q_RV_a (t := 1) hVM28 sh_156 (by decide)
  refine q_putF fl_X12_204 rfl rfl sh_94 (by omega) (by omega) (fun h => q_Ok_fx (by decide +kernel) h) rfl dX12_init_1339 (fun M30 hM30 => ?_)
  have hnM30 : M30.1 = 157 := by rw [hM30]; exact hnM29
  have hVM30 : q_RV M30 := by rw [hM30]; exact q_RV_r hVM29 (by omega)
  exact kk M30 (by rw [hM30, hM29, hM28, hM27, hM26, hM25, hM24, hM23, hM22, hM21, hM20, hM19, hM18, hM17, hM16, hM15, hM14, hM13, hM12, hM11, hM10, hM9, hM8, hM7, hM6, hM5, hM4, hM3, hM2, hM1]; rfl) hnM30 hVM30
def gb10_X12_init_94 (M : q_Mem) : q_Mem := q_let (q_aln 157 M) fun M1 => q_let (q_up M1 157 0 112) fun M2 => q_let (q_up M2 157 1 114) fun M3 => q_let (q_up M3 157 2 105) fun M4 => q_let (q_up M4 157 3 99) fun M5 => q_let (q_up M5 157 4 101) fun M6 => q_let (q_up M6 94 85 (157 : Int)) fun M7 => q_let (q_aln 158 M7) fun M8 => q_let (q_up M8 158 0 110) fun M9 => q_let (q_up M9 158 1 117) fun M10 => q_let (q_up M10 158 2 109) fun M11 => q_let (q_up M11 158 3 98) fun M12 => q_let (q_up M12 158 4 101) fun M13 => q_let (q_up M13 158 5 114) fun M14 => q_let (q_up M14 94 86 (158 : Int)) fun M15 => q_let (q_aln 159 M15) fun M16 => q_let (q_up M16 159 0 104) fun M17 => q_let (q_up M17 159 1 101) fun M18 => q_let (q_up M18 159 2 114) fun M19 => q_let (q_up M19 159 3 101) fun M20 => q_let (q_up M20 94 87 (159 : Int)) fun M21 => q_let (q_aln 160 M21) fun M22 => q_let (q_up M22 160 0 115) fun M23 => q_let (q_up M23 160 1 104) fun M24 => q_let (q_up M24 160 2 97) fun M25 => q_let (q_up M25 160 3 100) fun M26 => q_let (q_up M26 160 4 101) fun M27 => q_let (q_up M27 94 88 (160 : Int)) fun M28 => q_let (q_aln 161 M28) fun M29 => q_let (q_up M29 161 0 97) fun M30 => M30
def fb10_X12_init_94 (M : q_Mem) (f : q_Mem → Option (Int × q_Mem)) : Option (Int × q_Mem) := q_let (q_aln 157 M) fun M1 => q_let (q_up M1 157 0 112) fun M2 => q_let (q_up M2 157 1 114) fun M3 => q_let (q_up M3 157 2 105) fun M4 => q_let (q_up M4 157 3 99) fun M5 => q_let (q_up M5 157 4 101) fun M6 => q_let (q_up M6 94 85 (157 : Int)) fun M7 => q_let (q_aln 158 M7) fun M8 => q_let (q_up M8 158 0 110) fun M9 => q_let (q_up M9 158 1 117) fun M10 => q_let (q_up M10 158 2 109) fun M11 => q_let (q_up M11 158 3 98) fun M12 => q_let (q_up M12 158 4 101) fun M13 => q_let (q_up M13 158 5 114) fun M14 => q_let (q_up M14 94 86 (158 : Int)) fun M15 => q_let (q_aln 159 M15) fun M16 => q_let (q_up M16 159 0 104) fun M17 => q_let (q_up M17 159 1 101) fun M18 => q_let (q_up M18 159 2 114) fun M19 => q_let (q_up M19 159 3 101) fun M20 => q_let (q_up M20 94 87 (159 : Int)) fun M21 => q_let (q_aln 160 M21) fun M22 => q_let (q_up M22 160 0 115) fun M23 => q_let (q_up M23 160 1 104) fun M24 => q_let (q_up M24 160 2 97) fun M25 => q_let (q_up M25 160 3 100) fun M26 => q_let (q_up M26 160 4 101) fun M27 => q_let (q_up M27 94 88 (160 : Int)) fun M28 => q_let (q_aln 161 M28) fun M29 => q_let (q_up M29 161 0 97) fun M30 => f M30
theorem tb10_X12_init_94 {d : Nat} (M : q_Mem) (hM : M.1 = 157) (hV : q_RV M) (f : q_Mem → Option (Int × q_Mem)) (kk : ∀ M2, M2 = gb10_X12_init_94 M → M2.1 = 162 → q_RV M2 → q_EX (d + 1) yX12_init cX12_init 1 none 1480 [(0, .inr (.inr 94))] [.inr (.inr 161), .inr (.inr 94)] M2 (f M2)) : q_EX (d + 1) yX12_init cX12_init 1 none 1342 [(0, .inr (.inr 94))] [] M (f (gb10_X12_init_94 M)) := by
  show q_EX _ _ _ _ _ _ _ _ M (fb10_X12_init_94 M f)
  unfold fb10_X12_init_94
  refine q_aload_n 0 dX12_init_1342 rfl rfl ?_
  refine q_iconst dX12_init_1343 ?_
  refine q_newaC (n := 157) (N := 5) q_XM_T hV hM (by decide) sh_157 rfl rfl (by decide) (by decide) (by decide) ak_char dX12_init_1344 (fun M1 hM1 hnM1 hVM1 => ?_)
  refine q_dup dX12_init_1346 rfl ?_
  refine q_iconst dX12_init_1347 ?_
  refine q_bipush dX12_init_1348 (by decide) ?_
  refine q_castK (k := 0) sh_157 (by omega) (by decide) (by decide) rfl dX12_init_1350 (fun M2 hM2 => ?_)
  have hnM2 : M2.1 = 158 := by rw [hM2]; exact hnM1
  have hVM2 : q_RV M2 := by rw [hM2]; exact q_RV_a (t := 1) hVM1 sh_157 (by decide)
  refine q_dup dX12_init_1351 rfl ?_
  refine q_iconst dX12_init_1352 ?_
  refine q_bipush dX12_init_1353 (by decide) ?_
  refine q_castK (k := 1) sh_157 (by omega) (by decide) (by decide) rfl dX12_init_1355 (fun M3 hM3 => ?_)
  have hnM3 : M3.1 = 158 := by rw [hM3]; exact hnM2
  have hVM3 : q_RV M3 := by rw [hM3]; exact q_RV_a (t := 1) hVM2 sh_157 (by decide)
  refine q_dup dX12_init_1356 rfl ?_
  refine q_iconst dX12_init_1357 ?_
  refine q_bipush dX12_init_1358 (by decide) ?_
  refine q_castK (k := 2) sh_157 (by omega) (by decide) (by decide) rfl dX12_init_1360 (fun M4 hM4 => ?_)
  have hnM4 : M4.1 = 158 := by rw [hM4]; exact hnM3
  have hVM4 : q_RV M4 := by rw [hM4]; exact q_RV_a (t := 1) hVM3 sh_157 (by decide)
  refine q_dup dX12_init_1361 rfl ?_
  refine q_iconst dX12_init_1362 ?_
  refine q_bipush dX12_init_1363 (by decide) ?_
  refine q_castK (k := 3) sh_157 (by omega) (by decide) (by decide) rfl dX12_init_1365 (fun M5 hM5 => ?_)
  have hnM5 : M5.1 = 158 := by rw [hM5]; exact hnM4
  have hVM5 : q_RV M5 := by rw [hM5]; exact q_RV_a (t := 1) hVM4 sh_157 (by decide)
  refine q_dup dX12_init_1366 rfl ?_
  refine q_iconst dX12_init_1367 ?_
  refine q_bipush dX12_init_1368 (by decide) ?_
  refine q_castK (k := 4) sh_157 (by omega) (by decide) (by decide) rfl dX12_init_1370 (fun M6 hM6 => ?_)
  have hnM6 : M6.1 = 158 := by rw [hM6]; exact hnM5
  have hVM6 : q_RV M6 := by rw [hM6]; exact q_RV_a (t := 1) hVM5 sh_157 (by decide)
  refine q_putF fl_X12_207 rfl rfl sh_94 (by omega) (by omega) (fun h => q_Ok_fx (by decide +kernel) h) rfl dX12_init_1371 (fun M7 hM7 => ?_)
  have hnM7 : M7.1 = 158 := by rw [hM7]; exact hnM6
  have hVM7 : q_RV M7 := by rw [hM7]; exact q_RV_r hVM6 (by omega)
  refine q_aload_n 0 dX12_init_1374 rfl rfl ?_
  refine q_bipush dX12_init_1375 (by decide) ?_
  refine q_newaC (n := 158) (N := 6) q_XM_T hVM7 hnM7 (by decide) sh_158 rfl rfl (by decide) (by decide) (by decide) ak_char dX12_init_1377 (fun M8 hM8 hnM8 hVM8 => ?_)
  refine q_dup dX12_init_1379 rfl ?_
  refine q_iconst dX12_init_1380 ?_
  refine q_bipush dX12_init_1381 (by decide) ?_
  refine q_castK (k := 0) sh_158 (by omega) (by decide) (by decide) rfl dX12_init_1383 (fun M9 hM9 => ?_)
  have hnM9 : M9.1 = 159 := by rw [hM9]; exact hnM8
  have hVM9 : q_RV M9 := by rw [hM9]; exact q_RV_a (t := 1) hVM8 sh_158 (by decide)
  refine q_dup dX12_init_1384 rfl ?_
  refine q_iconst dX12_init_1385 ?_
  refine q_bipush dX12_init_1386 (by decide) ?_
  refine q_castK (k := 1) sh_158 (by omega) (by decide) (by decide) rfl dX12_init_1388 (fun M10 hM10 => ?_)
  have hnM10 : M10.1 = 159 := by rw [hM10]; exact hnM9
  have hVM10 : q_RV M10 := by rw [hM10]; exact q_RV_a (t := 1) hVM9 sh_158 (by decide)
  refine q_dup dX12_init_1389 rfl ?_
  refine q_iconst dX12_init_1390 ?_
  refine q_bipush dX12_init_1391 (by decide) ?_
  refine q_castK (k := 2) sh_158 (by omega) (by decide) (by decide) rfl dX12_init_1393 (fun M11 hM11 => ?_)
  have hnM11 : M11.1 = 159 := by rw [hM11]; exact hnM10
  have hVM11 : q_RV M11 := by rw [hM11]; exact q_RV_a (t := 1) hVM10 sh_158 (by decide)
  refine q_dup dX12_init_1394 rfl ?_
  refine q_iconst dX12_init_1395 ?_
  refine q_bipush dX12_init_1396 (by decide) ?_
  refine q_castK (k := 3) sh_158 (by omega) (by decide) (by decide) rfl dX12_init_1398 (fun M12 hM12 => ?_)
  have hnM12 : M12.1 = 159 := by rw [hM12]; exact hnM11
  have hVM12 : q_RV M12 := by rw [hM12]; exact q_RV_a (t := 1) hVM11 sh_158 (by decide)
  refine q_dup dX12_init_1399 rfl ?_
  refine q_iconst dX12_init_1400 ?_
  refine q_bipush dX12_init_1401 (by decide) ?_
  refine q_castK (k := 4) sh_158 (by omega) (by decide) (by decide) rfl dX12_init_1403 (fun M13 hM13 => ?_)
  have hnM13 : M13.1 = 159 := by rw [hM13]; exact hnM12
  have hVM13 : q_RV M13 := by rw [hM13]; exact q_RV_a (t := 1) hVM12 sh_158 (by decide)
  refine q_dup dX12_init_1404 rfl ?_
  refine q_iconst dX12_init_1405 ?_
  refine q_bipush dX12_init_1406 (by decide) ?_
  refine q_castK (k := 5) sh_158 (by omega) (by decide) (by decide) rfl dX12_init_1408 (fun M14 hM14 => ?_)
  have hnM14 : M14.1 = 159 := by rw [hM14]; exact hnM13
  have hVM14 : q_RV M14 := by rw [hM14]; exact q_RV_a (t := 1) hVM13 sh_158 (by decide)
  refine q_putF fl_X12_210 rfl rfl sh_94 (by omega) (by omega) (fun h => q_Ok_fx (by decide +kernel) h) rfl dX12_init_1409 (fun M15 hM15 => ?_)
  have hnM15 : M15.1 = 159 := by rw [hM15]; exact hnM14
  have hVM15 : q_RV M15 := by rw [hM15]; exact q_RV_r hVM14 (by omega)
  refine q_aload_n 0 dX12_init_1412 rfl rfl ?_
  refine q_iconst dX12_init_1413 ?_
  refine q_newaC (n := 159) (N := 4) q_XM_T hVM15 hnM15 (by decide) sh_159 rfl rfl (by decide) (by decide) (by decide) ak_char dX12_init_1414 (fun M16 hM16 hnM16 hVM16 => ?_)
  refine q_dup dX12_init_1416 rfl ?_
  refine q_iconst dX12_init_1417 ?_
  refine q_bipush dX12_init_1418 (by decide) ?_
  refine q_castK (k := 0) sh_159 (by omega) (by decide) (by decide) rfl dX12_init_1420 (fun M17 hM17 => ?_)
  have hnM17 : M17.1 = 160 := by rw [hM17]; exact hnM16
  have hVM17 : q_RV M17 := by rw [hM17]; exact q_RV_a (t := 1) hVM16 sh_159 (by decide)
  refine q_dup dX12_init_1421 rfl ?_
  refine q_iconst dX12_init_1422 ?_
  refine q_bipush dX12_init_1423 (by decide) ?_
  refine q_castK (k := 1) sh_159 (by omega) (by decide) (by decide) rfl dX12_init_1425 (fun M18 hM18 => ?_)
  have hnM18 : M18.1 = 160 := by rw [hM18]; exact hnM17
  have hVM18 : q_RV M18 := by rw [hM18]; exact q_RV_a (t := 1) hVM17 sh_159 (by decide)
  refine q_dup dX12_init_1426 rfl ?_
  refine q_iconst dX12_init_1427 ?_
  refine q_bipush dX12_init_1428 (by decide) ?_
  refine q_castK (k := 2) sh_159 (by omega) (by decide) (by decide) rfl dX12_init_1430 (fun M19 hM19 => ?_)
  have hnM19 : M19.1 = 160 := by rw [hM19]; exact hnM18
  have hVM19 : q_RV M19 := by rw [hM19]; exact q_RV_a (t := 1) hVM18 sh_159 (by decide)
  refine q_dup dX12_init_1431 rfl ?_
  refine q_iconst dX12_init_1432 ?_
  refine q_bipush dX12_init_1433 (by decide) ?_
  refine q_castK (k := 3) sh_159 (by omega) (by decide) (by decide) rfl dX12_init_1435 (fun M20 hM20 => ?_)
  have hnM20 : M20.1 = 160 := by rw [hM20]; exact hnM19
  have hVM20 : q_RV M20 := by rw [hM20]; exact q_RV_a (t := 1) hVM19 sh_159 (by decide)
  refine q_putF fl_X12_213 rfl rfl sh_94 (by omega) (by omega) (fun h => q_Ok_fx (by decide +kernel) h) rfl dX12_init_1436 (fun M21 hM21 => ?_)
  have hnM21 : M21.1 = 160 := by rw [hM21]; exact hnM20
  have hVM21 : q_RV M21 := by rw [hM21]; exact q_RV_r hVM20 (by omega)
  refine q_aload_n 0 dX12_init_1439 rfl rfl ?_
  refine q_iconst dX12_init_1440 ?_
  refine q_newaC (n := 160) (N := 5) q_XM_T hVM21 hnM21 (by decide) sh_160 rfl rfl (by decide) (by decide) (by decide) ak_char dX12_init_1441 (fun M22 hM22 hnM22 hVM22 => ?_)
  refine q_dup dX12_init_1443 rfl ?_
  refine q_iconst dX12_init_1444 ?_
  refine q_bipush dX12_init_1445 (by decide) ?_
  refine q_castK (k := 0) sh_160 (by omega) (by decide) (by decide) rfl dX12_init_1447 (fun M23 hM23 => ?_)
  have hnM23 : M23.1 = 161 := by rw [hM23]; exact hnM22
  have hVM23 : q_RV M23 := by rw [hM23]; exact q_RV_a (t := 1) hVM22 sh_160 (by decide)
  refine q_dup dX12_init_1448 rfl ?_
  refine q_iconst dX12_init_1449 ?_
  refine q_bipush dX12_init_1450 (by decide) ?_
  refine q_castK (k := 1) sh_160 (by omega) (by decide) (by decide) rfl dX12_init_1452 (fun M24 hM24 => ?_)
  have hnM24 : M24.1 = 161 := by rw [hM24]; exact hnM23
  have hVM24 : q_RV M24 := by rw [hM24]; exact q_RV_a (t := 1) hVM23 sh_160 (by decide)
  refine q_dup dX12_init_1453 rfl ?_
  refine q_iconst dX12_init_1454 ?_
  refine q_bipush dX12_init_1455 (by decide) ?_
  refine q_castK (k := 2) sh_160 (by omega) (by decide) (by decide) rfl dX12_init_1457 (fun M25 hM25 => ?_)
  have hnM25 : M25.1 = 161 := by rw [hM25]; exact hnM24
  have hVM25 : q_RV M25 := by rw [hM25]; exact q_RV_a (t := 1) hVM24 sh_160 (by decide)
  refine q_dup dX12_init_1458 rfl ?_
  refine q_iconst dX12_init_1459 ?_
  refine q_bipush dX12_init_1460 (by decide) ?_
  refine q_castK (k := 3) sh_160 (by omega) (by decide) (by decide) rfl dX12_init_1462 (fun M26 hM26 => ?_)
  have hnM26 : M26.1 = 161 := by rw [hM26]; exact hnM25
  have hVM26 : q_RV M26 := by rw [hM26]; exact q_RV_a (t := 1) hVM25 sh_160 (by decide)
  refine q_dup dX12_init_1463 rfl ?_
  refine q_iconst dX12_init_1464 ?_
  refine q_bipush dX12_init_1465 (by decide) ?_
  refine q_castK (k := 4) sh_160 (by omega) (by decide) (by decide) rfl dX12_init_1467 (fun M27 hM27 => ?_)
  have hnM27 : M27.1 = 161 := by rw [hM27]; exact hnM26
  have hVM27 : q_RV M27 := by rw [hM27]; exact q_RV_a (t := 1) hVM26 sh_160 (by decide)
  refine q_putF fl_X12_216 rfl rfl sh_94 (by omega) (by omega) (fun h => q_Ok_fx (by decide +kernel) h) rfl dX12_init_1468 (fun M28 hM28 => ?_)
  have hnM28 : M28.1 = 161 := by rw [hM28]; exact hnM27
  have hVM28 : q_RV M28 := by rw [hM28]; exact q_RV_r hVM27 (by omega)
  refine q_aload_n 0 dX12_init_1471 rfl rfl ?_
  refine q_iconst dX12_init_1472 ?_
  refine q_newaC (n := 161) (N := 2) q_XM_T hVM28 hnM28 (by decide) sh_161 rfl rfl (by decide) (by decide) (by decide) ak_char dX12_init_1473 (fun M29 hM29 hnM29 hVM29 => ?_)
  refine q_dup dX12_init_1475 rfl ?_
  refine q_iconst dX12_init_1476 ?_
  refine q_bipush dX12_init_1477 (by decide) ?_
  refine q_castK (k := 0) sh_161 (by omega) (by decide) (by decide) rfl dX12_init_1479 (fun M30 hM30 => ?_)
  have hnM30 : M30.1 = 162 := by rw [hM30]; exact hnM29
  have hVM30 : q_RV M30 := by rw [hM30]; exact q_RV_a (t := 1) hVM29 sh_161 (by decide)
  exact kk M30 (by rw [hM30, hM29, hM28, hM27, hM26, hM25, hM24, hM23, hM22, hM21, hM20, hM19, hM18, hM17, hM16, hM15, hM14, hM13, hM12, hM11, hM10, hM9, hM8, hM7, hM6, hM5, hM4, hM3, hM2, hM1]; rfl) hnM30 hVM30
def gb11_X12_init_94 (M : q_Mem) : q_Mem := q_let (q_up M 161 1 116) fun M1 => q_let (q_up M1 94 89 (161 : Int)) fun M2 => q_let (q_aln 162 M2) fun M3 => q_let (q_up M3 94 90 (162 : Int)) fun M4 => q_let (q_aln 163 M4) fun M5 => q_let (q_up M5 94 92 (163 : Int)) fun M6 => q_let (q_aln 164 M6) fun M7 => q_let (q_up M7 94 96 (164 : Int)) fun M8 => q_let (q_aln 165 M8) fun M9 => q_let (q_up M9 94 100 (165 : Int)) fun M10 => M10
def fb11_X12_init_94 (M : q_Mem) : Option (Int × q_Mem) := q_let (q_up M 161 1 116) fun M1 => q_let (q_up M1 94 89 (161 : Int)) fun M2 => q_let (q_aln 162 M2) fun M3 => q_let (q_up M3 94 90 (162 : Int)) fun M4 => q_let (q_aln 163 M4) fun M5 => q_let (q_up M5 94 92 (163 : Int)) fun M6 => q_let (q_aln 164 M6) fun M7 => q_let (q_up M7 94 96 (164 : Int)) fun M8 => q_let (q_aln 165 M8) fun M9 => q_let (q_up M9 94 100 (165 : Int)) fun M10 => some (0, M10)
theorem tb11_X12_init_94 {d : Nat} (M : q_Mem) (hM : M.1 = 162) (hV : q_RV M) : q_EX (d + 1) yX12_init cX12_init 1 none 1480 [(0, .inr (.inr 94))] [.inr (.inr 161), .inr (.inr 94)] M (some (0, gb11_X12_init_94 M)) := by
  show q_EX _ _ _ _ _ _ _ _ M (fb11_X12_init_94 M)
  unfold fb11_X12_init_94
  refine q_dup dX12_init_1480 rfl ?_
  refine q_iconst dX12_init_1481 ?_
  refine q_bipush dX12_init_1482 (by decide) ?_
  refine q_castK (k := 1) sh_161 (by omega) (by decide) (by decide) rfl dX12_init_1484 (fun M1 hM1 => ?_)
  have hnM1 : M1.1 = 162 := by rw [hM1]; exact hM
  have hVM1 : q_RV M1 := by rw [hM1]; exact q_RV_a (t := 1) hV sh_161 (by decide)
  refine q_putF fl_X12_219 rfl rfl sh_94 (by omega) (by omega) (fun h => q_Ok_fx (by decide +kernel) h) rfl dX12_init_1485 (fun M2 hM2 => ?_)
  have hnM2 : M2.1 = 162 := by rw [hM2]; exact hnM1
  have hVM2 : q_RV M2 := by rw [hM2]; exact q_RV_r hVM1 (by omega)
  refine q_aload_n 0 dX12_init_1488 rfl rfl ?_
  refine q_sipush dX12_init_1489 (by decide) ?_
  refine q_newaI (n := 162) (N := 1700) q_XM_T hVM2 hnM2 (by decide) sh_162 rfl rfl (by decide) (by decide) (by decide) ak_int dX12_init_1492 (fun M3 hM3 hnM3 hVM3 => ?_)
  refine q_putF fl_X12_222 rfl rfl sh_94 (by omega) (by omega) (fun h => q_Ok_fx (by decide +kernel) h) rfl dX12_init_1494 (fun M4 hM4 => ?_)
  have hnM4 : M4.1 = 163 := by rw [hM4]; exact hnM3
  have hVM4 : q_RV M4 := by rw [hM4]; exact q_RV_r hVM3 (by omega)
  refine q_aload_n 0 dX12_init_1497 rfl rfl ?_
  refine q_sipush dX12_init_1498 (by decide) ?_
  refine q_newaI (n := 163) (N := 1700) q_XM_T hVM4 hnM4 (by decide) sh_163 rfl rfl (by decide) (by decide) (by decide) ak_int dX12_init_1501 (fun M5 hM5 hnM5 hVM5 => ?_)
  refine q_putF fl_X12_225 rfl rfl sh_94 (by omega) (by omega) (fun h => q_Ok_fx (by decide +kernel) h) rfl dX12_init_1503 (fun M6 hM6 => ?_)
  have hnM6 : M6.1 = 164 := by rw [hM6]; exact hnM5
  have hVM6 : q_RV M6 := by rw [hM6]; exact q_RV_r hVM5 (by omega)
  refine q_aload_n 0 dX12_init_1506 rfl rfl ?_
  refine q_sipush dX12_init_1507 (by decide) ?_
  refine q_newaJ (n := 164) (N := 1700) q_XM_T hVM6 hnM6 (by decide) sh_164 rfl rfl (by decide) (by decide) (by decide) ak_long dX12_init_1510 (fun M7 hM7 hnM7 hVM7 => ?_)
  refine q_putF fl_X12_228 rfl rfl sh_94 (by omega) (by omega) (fun h => q_Ok_fx (by decide +kernel) h) rfl dX12_init_1512 (fun M8 hM8 => ?_)
  have hnM8 : M8.1 = 165 := by rw [hM8]; exact hnM7
  have hVM8 : q_RV M8 := by rw [hM8]; exact q_RV_r hVM7 (by omega)
  refine q_aload_n 0 dX12_init_1515 rfl rfl ?_
  refine q_bipush dX12_init_1516 (by decide) ?_
  refine q_newaI (n := 165) (N := 38) q_XM_T hVM8 hnM8 (by decide) sh_165 rfl rfl (by decide) (by decide) (by decide) ak_int dX12_init_1518 (fun M9 hM9 hnM9 hVM9 => ?_)
  refine q_putF fl_X12_231 rfl rfl sh_94 (by omega) (by omega) (fun h => q_Ok_fx (by decide +kernel) h) rfl dX12_init_1520 (fun M10 hM10 => ?_)
  have hnM10 : M10.1 = 166 := by rw [hM10]; exact hnM9
  have hVM10 : q_RV M10 := by rw [hM10]; exact q_RV_r hVM9 (by omega)
  exact q_ret dX12_init_1523 rfl
def gi_X12_init_94 (M : q_Mem) : q_Mem := gb11_X12_init_94 (gb10_X12_init_94 (gb9_X12_init_94 (gb8_X12_init_94 (gb7_X12_init_94 (gb6_X12_init_94 (gb5_X12_init_94 (gb4_X12_init_94 (gb3_X12_init_94 (gb2_X12_init_94 (gb1_X12_init_94 (gb0_X12_init_94 M)))))))))))
theorem gc_X12_init_94 (M : q_Mem) (hM : M.1 = 95) : (gi_X12_init_94 M).1 = 166 := by first | exact hM | rfl
theorem ti_X12_init_94 {d : Nat} (hd : 1 ≤ d) (M : q_Mem) (hM : M.1 = 95) (hV : q_RV M) : q_EX d yX12_init cX12_init 1 none 0 (q_args 0 [.inr (.inr 94)]) [] M (some (0, gi_X12_init_94 M)) := by
  obtain ⟨d, rfl⟩ : ∃ d', d = d' + 1 := ⟨d - 1, by omega⟩
  show q_EX _ _ _ _ _ 0 [(0, .inr (.inr 94))] [] M _
  refine tb0_X12_init_94 M hM hV (fun z => some (0, gb11_X12_init_94 (gb10_X12_init_94 (gb9_X12_init_94 (gb8_X12_init_94 (gb7_X12_init_94 (gb6_X12_init_94 (gb5_X12_init_94 (gb4_X12_init_94 (gb3_X12_init_94 (gb2_X12_init_94 (gb1_X12_init_94 z)))))))))))) (fun M1 hM1 hn1 hV1 => ?_)
  refine tb1_X12_init_94 M1 hn1 hV1 (fun z => some (0, gb11_X12_init_94 (gb10_X12_init_94 (gb9_X12_init_94 (gb8_X12_init_94 (gb7_X12_init_94 (gb6_X12_init_94 (gb5_X12_init_94 (gb4_X12_init_94 (gb3_X12_init_94 (gb2_X12_init_94 z))))))))))) (fun M2 hM2 hn2 hV2 => ?_)
  refine tb2_X12_init_94 M2 hn2 hV2 (fun z => some (0, gb11_X12_init_94 (gb10_X12_init_94 (gb9_X12_init_94 (gb8_X12_init_94 (gb7_X12_init_94 (gb6_X12_init_94 (gb5_X12_init_94 (gb4_X12_init_94 (gb3_X12_init_94 z)))))))))) (fun M3 hM3 hn3 hV3 => ?_)
  refine tb3_X12_init_94 M3 hn3 hV3 (fun z => some (0, gb11_X12_init_94 (gb10_X12_init_94 (gb9_X12_init_94 (gb8_X12_init_94 (gb7_X12_init_94 (gb6_X12_init_94 (gb5_X12_init_94 (gb4_X12_init_94 z))))))))) (fun M4 hM4 hn4 hV4 => ?_)
  refine tb4_X12_init_94 M4 hn4 hV4 (fun z => some (0, gb11_X12_init_94 (gb10_X12_init_94 (gb9_X12_init_94 (gb8_X12_init_94 (gb7_X12_init_94 (gb6_X12_init_94 (gb5_X12_init_94 z)))))))) (fun M5 hM5 hn5 hV5 => ?_)
  refine tb5_X12_init_94 M5 hn5 hV5 (fun z => some (0, gb11_X12_init_94 (gb10_X12_init_94 (gb9_X12_init_94 (gb8_X12_init_94 (gb7_X12_init_94 (gb6_X12_init_94 z))))))) (fun M6 hM6 hn6 hV6 => ?_)
  refine tb6_X12_init_94 M6 hn6 hV6 (fun z => some (0, gb11_X12_init_94 (gb10_X12_init_94 (gb9_X12_init_94 (gb8_X12_init_94 (gb7_X12_init_94 z)))))) (fun M7 hM7 hn7 hV7 => ?_)
  refine tb7_X12_init_94 M7 hn7 hV7 (fun z => some (0, gb11_X12_init_94 (gb10_X12_init_94 (gb9_X12_init_94 (gb8_X12_init_94 z))))) (fun M8 hM8 hn8 hV8 => ?_)
  refine tb8_X12_init_94 M8 hn8 hV8 (fun z => some (0, gb11_X12_init_94 (gb10_X12_init_94 (gb9_X12_init_94 z)))) (fun M9 hM9 hn9 hV9 => ?_)
  refine tb9_X12_init_94 M9 hn9 hV9 (fun z => some (0, gb11_X12_init_94 (gb10_X12_init_94 z))) (fun M10 hM10 hn10 hV10 => ?_)
  refine tb10_X12_init_94 M10 hn10 hV10 (fun z => some (0, gb11_X12_init_94 z)) (fun M11 hM11 hn11 hV11 => ?_)
  exact tb11_X12_init_94 M11 hn11 hV11
