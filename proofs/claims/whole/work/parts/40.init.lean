theorem cl_X11_7 : Cond.classLink RX11 7 RX10 ∈ q_gT := q_mem (tb_1 (List.mem_of_getElem? (i := 30) rfl)) rfl
theorem cl_X11_21 : Cond.classLink RX11 21 RX8 ∈ q_gT := q_mem (tb_1 (List.mem_of_getElem? (i := 51) rfl)) rfl
theorem cl_X11_30 : Cond.classLink RX11 30 RX0 ∈ q_gT := q_mem (tb_1 (List.mem_of_getElem? (i := 91) rfl)) rfl
theorem cl_X11_37 : Cond.classLink RX11 37 RX4 ∈ q_gT := q_mem (tb_1 (List.mem_of_getElem? (i := 110) rfl)) rfl
theorem cl_X11_46 : Cond.classLink RX11 46 RX3 ∈ q_gT := q_mem (tb_1 (List.mem_of_getElem? (i := 129) rfl)) rfl
theorem cl_X11_55 : Cond.classLink RX11 55 RX1 ∈ q_gT := q_mem (tb_1 (List.mem_of_getElem? (i := 142) rfl)) rfl
theorem cl_X11_62 : Cond.classLink RX11 62 RX9 ∈ q_gT := q_mem (tb_1 (List.mem_of_getElem? (i := 204) rfl)) rfl
theorem cl_X11_69 : Cond.classLink RX11 69 RX6 ∈ q_gT := q_mem (tb_1 (List.mem_of_getElem? (i := 224) rfl)) rfl
theorem cl_X11_76 : Cond.classLink RX11 76 RX7 ∈ q_gT := q_mem (tb_2 (List.mem_of_getElem? (i := 22) rfl)) rfl
theorem cl_X11_87 : Cond.classLink RX11 87 RX2 ∈ q_gT := q_mem (tb_2 (List.mem_of_getElem? (i := 82) rfl)) rfl
theorem cl_X11_97 : Cond.classLink RX11 97 RX5 ∈ q_gT := q_mem (tb_2 (List.mem_of_getElem? (i := 193) rfl)) rfl
theorem cl_X1_40 : Cond.classLink RX1 40 "[[I" ∈ q_gT := q_mem (tb_1 (List.mem_of_getElem? (i := 148) rfl)) rfl
theorem cl_X2_55 : Cond.classLink RX2 55 RX0 ∈ q_gT := q_mem (tb_2 (List.mem_of_getElem? (i := 88) rfl)) rfl
theorem cl_X5_18 : Cond.classLink RX5 18 RX7 ∈ q_gT := q_mem (tb_2 (List.mem_of_getElem? (i := 199) rfl)) rfl
theorem cl_X6_22 : Cond.classLink RX6 22 "[[I" ∈ q_gT := q_mem (tb_1 (List.mem_of_getElem? (i := 230) rfl)) rfl
theorem cl_L_7 : Cond.classLink RL 7 RX11 ∈ q_gT := q_mem (tb_1 (List.mem_of_getElem? (i := 22) rfl)) rfl
theorem cl_L_10 : Cond.classLink RL 10 RX12 ∈ q_gT := q_mem (tb_5 (List.mem_of_getElem? (i := 134) rfl)) rfl
theorem df_0 : ∀ j, j < q_nf 0 → (q_isI (q_ty 0 j) || (q_isR (q_ty 0 j) || q_isL (q_ty 0 j))) = true := by decide +kernel
theorem in_0 : Cond.instantiable RX0 (q_nf 0) ∈ q_gT := q_mem (tb_1 (List.mem_of_getElem? (i := 92) rfl)) rfl
theorem df_1 : ∀ j, j < q_nf 1 → (q_isI (q_ty 1 j) || (q_isR (q_ty 1 j) || q_isL (q_ty 1 j))) = true := by decide +kernel
theorem in_1 : Cond.instantiable RX1 (q_nf 1) ∈ q_gT := q_mem (tb_1 (List.mem_of_getElem? (i := 143) rfl)) rfl
theorem df_2 : ∀ j, j < q_nf 2 → (q_isI (q_ty 2 j) || (q_isR (q_ty 2 j) || q_isL (q_ty 2 j))) = true := by decide +kernel
theorem in_2 : Cond.instantiable RX2 (q_nf 2) ∈ q_gT := q_mem (tb_2 (List.mem_of_getElem? (i := 83) rfl)) rfl
theorem df_3 : ∀ j, j < q_nf 3 → (q_isI (q_ty 3 j) || (q_isR (q_ty 3 j) || q_isL (q_ty 3 j))) = true := by decide +kernel
theorem in_3 : Cond.instantiable RX3 (q_nf 3) ∈ q_gT := q_mem (tb_1 (List.mem_of_getElem? (i := 130) rfl)) rfl
theorem df_4 : ∀ j, j < q_nf 4 → (q_isI (q_ty 4 j) || (q_isR (q_ty 4 j) || q_isL (q_ty 4 j))) = true := by decide +kernel
theorem in_4 : Cond.instantiable RX4 (q_nf 4) ∈ q_gT := q_mem (tb_1 (List.mem_of_getElem? (i := 111) rfl)) rfl
theorem df_5 : ∀ j, j < q_nf 5 → (q_isI (q_ty 5 j) || (q_isR (q_ty 5 j) || q_isL (q_ty 5 j))) = true := by decide +kernel
theorem in_5 : Cond.instantiable RX5 (q_nf 5) ∈ q_gT := q_mem (tb_2 (List.mem_of_getElem? (i := 194) rfl)) rfl
theorem df_6 : ∀ j, j < q_nf 6 → (q_isI (q_ty 6 j) || (q_isR (q_ty 6 j) || q_isL (q_ty 6 j))) = true := by decide +kernel
theorem in_6 : Cond.instantiable RX6 (q_nf 6) ∈ q_gT := q_mem (tb_1 (List.mem_of_getElem? (i := 225) rfl)) rfl
theorem df_7 : ∀ j, j < q_nf 7 → (q_isI (q_ty 7 j) || (q_isR (q_ty 7 j) || q_isL (q_ty 7 j))) = true := by decide +kernel
theorem in_7 : Cond.instantiable RX7 (q_nf 7) ∈ q_gT := q_mem (tb_2 (List.mem_of_getElem? (i := 23) rfl)) rfl
theorem df_8 : ∀ j, j < q_nf 8 → (q_isI (q_ty 8 j) || (q_isR (q_ty 8 j) || q_isL (q_ty 8 j))) = true := by decide +kernel
theorem in_8 : Cond.instantiable RX8 (q_nf 8) ∈ q_gT := q_mem (tb_1 (List.mem_of_getElem? (i := 52) rfl)) rfl
theorem df_9 : ∀ j, j < q_nf 9 → (q_isI (q_ty 9 j) || (q_isR (q_ty 9 j) || q_isL (q_ty 9 j))) = true := by decide +kernel
theorem in_9 : Cond.instantiable RX9 (q_nf 9) ∈ q_gT := q_mem (tb_1 (List.mem_of_getElem? (i := 205) rfl)) rfl
theorem df_10 : ∀ j, j < q_nf 10 → (q_isI (q_ty 10 j) || (q_isR (q_ty 10 j) || q_isL (q_ty 10 j))) = true := by decide +kernel
theorem in_10 : Cond.instantiable RX10 (q_nf 10) ∈ q_gT := q_mem (tb_1 (List.mem_of_getElem? (i := 31) rfl)) rfl
theorem df_11 : ∀ j, j < q_nf 11 → (q_isI (q_ty 11 j) || (q_isR (q_ty 11 j) || q_isL (q_ty 11 j))) = true := by decide +kernel
theorem in_11 : Cond.instantiable RX11 (q_nf 11) ∈ q_gT := q_mem (tb_1 (List.mem_of_getElem? (i := 23) rfl)) rfl
theorem df_12 : ∀ j, j < q_nf 12 → (q_isI (q_ty 12 j) || (q_isR (q_ty 12 j) || q_isL (q_ty 12 j))) = true := by decide +kernel
theorem in_12 : Cond.instantiable RX12 (q_nf 12) ∈ q_gT := q_mem (tb_5 (List.mem_of_getElem? (i := 135) rfl)) rfl
theorem ak_int : Cond.arrayClass .int ∈ q_gT := q_mem (tb_1 (List.mem_of_getElem? (i := 50) rfl)) rfl
theorem ak_char : Cond.arrayClass .char ∈ q_gT := q_mem (tb_6 (List.mem_of_getElem? (i := 207) rfl)) rfl
theorem ak_boolean : Cond.arrayClass .boolean ∈ q_gT := q_mem (tb_6 (List.mem_of_getElem? (i := 209) rfl)) rfl
theorem ak_long : Cond.arrayClass .long ∈ q_gT := q_mem (tb_6 (List.mem_of_getElem? (i := 208) rfl)) rfl
theorem oi_X11_1 : Cond.methodLink RX11 1 objectInit ∈ q_gT := q_mem (tb_1 (List.mem_of_getElem? (i := 27) rfl)) rfl
theorem oi_X0_3 : Cond.methodLink RX0 3 objectInit ∈ q_gT := q_mem (tb_1 (List.mem_of_getElem? (i := 96) rfl)) rfl
theorem oi_X1_3 : Cond.methodLink RX1 3 objectInit ∈ q_gT := q_mem (tb_1 (List.mem_of_getElem? (i := 147) rfl)) rfl
theorem oi_X2_3 : Cond.methodLink RX2 3 objectInit ∈ q_gT := q_mem (tb_2 (List.mem_of_getElem? (i := 87) rfl)) rfl
theorem oi_X3_3 : Cond.methodLink RX3 3 objectInit ∈ q_gT := q_mem (tb_1 (List.mem_of_getElem? (i := 134) rfl)) rfl
theorem oi_X4_3 : Cond.methodLink RX4 3 objectInit ∈ q_gT := q_mem (tb_1 (List.mem_of_getElem? (i := 115) rfl)) rfl
theorem oi_X5_3 : Cond.methodLink RX5 3 objectInit ∈ q_gT := q_mem (tb_2 (List.mem_of_getElem? (i := 198) rfl)) rfl
theorem oi_X6_3 : Cond.methodLink RX6 3 objectInit ∈ q_gT := q_mem (tb_1 (List.mem_of_getElem? (i := 229) rfl)) rfl
theorem oi_X7_3 : Cond.methodLink RX7 3 objectInit ∈ q_gT := q_mem (tb_2 (List.mem_of_getElem? (i := 27) rfl)) rfl
theorem oi_X8_3 : Cond.methodLink RX8 3 objectInit ∈ q_gT := q_mem (tb_1 (List.mem_of_getElem? (i := 56) rfl)) rfl
theorem oi_X9_3 : Cond.methodLink RX9 3 objectInit ∈ q_gT := q_mem (tb_1 (List.mem_of_getElem? (i := 209) rfl)) rfl
theorem oi_X10_3 : Cond.methodLink RX10 3 objectInit ∈ q_gT := q_mem (tb_1 (List.mem_of_getElem? (i := 35) rfl)) rfl
theorem oi_X12_1 : Cond.methodLink RX12 1 objectInit ∈ q_gT := q_mem (tb_5 (List.mem_of_getElem? (i := 139) rfl)) rfl
theorem oi_2 : Cond.instanceMethod objectInit ∈ q_gT := q_mem (tb_1 (List.mem_of_getElem? (i := 28) rfl)) rfl
theorem oi_3 : Cond.code objectInit ⟨#[0xb1]⟩ 1 none ∈ q_gT := q_mem (tb_1 (List.mem_of_getElem? (i := 29) rfl)) rfl
theorem rs_15 : ∀ j, j < 20 → q_shp (15 + 1 + j) = (1, 5) := by decide +kernel
theorem rs_42 : ∀ j, j < 6 → q_shp (42 + 1 + j) = (1, 401) := by decide +kernel
theorem im_X0_init : Cond.instanceMethod yX0_init ∈ q_gT := q_mem (tb_1 (List.mem_of_getElem? (i := 94) rfl)) rfl
theorem im_X10_init : Cond.instanceMethod yX10_init ∈ q_gT := q_mem (tb_1 (List.mem_of_getElem? (i := 33) rfl)) rfl
theorem im_X11_init : Cond.instanceMethod yX11_init ∈ q_gT := q_mem (tb_1 (List.mem_of_getElem? (i := 25) rfl)) rfl
theorem im_X12_init : Cond.instanceMethod yX12_init ∈ q_gT := q_mem (tb_5 (List.mem_of_getElem? (i := 137) rfl)) rfl
theorem im_X1_init : Cond.instanceMethod yX1_init ∈ q_gT := q_mem (tb_1 (List.mem_of_getElem? (i := 145) rfl)) rfl
theorem im_X2_init : Cond.instanceMethod yX2_init ∈ q_gT := q_mem (tb_2 (List.mem_of_getElem? (i := 85) rfl)) rfl
theorem im_X3_init : Cond.instanceMethod yX3_init ∈ q_gT := q_mem (tb_1 (List.mem_of_getElem? (i := 132) rfl)) rfl
theorem im_X4_init : Cond.instanceMethod yX4_init ∈ q_gT := q_mem (tb_1 (List.mem_of_getElem? (i := 113) rfl)) rfl
theorem im_X5_init : Cond.instanceMethod yX5_init ∈ q_gT := q_mem (tb_2 (List.mem_of_getElem? (i := 196) rfl)) rfl
theorem im_X6_init : Cond.instanceMethod yX6_init ∈ q_gT := q_mem (tb_1 (List.mem_of_getElem? (i := 227) rfl)) rfl
theorem im_X7_init : Cond.instanceMethod yX7_init ∈ q_gT := q_mem (tb_2 (List.mem_of_getElem? (i := 25) rfl)) rfl
theorem im_X8_init : Cond.instanceMethod yX8_init ∈ q_gT := q_mem (tb_1 (List.mem_of_getElem? (i := 54) rfl)) rfl
theorem im_X9_init : Cond.instanceMethod yX9_init ∈ q_gT := q_mem (tb_1 (List.mem_of_getElem? (i := 207) rfl)) rfl
def gi_X10_init_1 (M : q_Mem) : q_Mem := q_let (q_up M 1 1 0) fun M1 => q_let (q_aln 2 M1) fun M2 => q_let (q_up M2 1 0 (2 : Int)) fun M3 => M3
theorem gc_X10_init_1 (M : q_Mem) (hM : M.1 = 2) : (gi_X10_init_1 M).1 = 3 := by first | exact hM | rfl
def fi_X10_init_1 (M : q_Mem) : Option (Int × q_Mem) := q_let (q_up M 1 1 0) fun M1 => q_let (q_aln 2 M1) fun M2 => q_let (q_up M2 1 0 (2 : Int)) fun M3 => some (0, M3)
set_option maxRecDepth 20000 in
theorem ti_X10_init_1 {d : Nat} (hd : 1 ≤ d) (M : q_Mem) (hM : M.1 = 2) (hV : q_RV M) : q_EX d yX10_init cX10_init 2 none 0 (q_args 0 [.inr (.inr 1), .inl 1600]) [] M (some (0, gi_X10_init_1 M)) := by
  obtain ⟨d, rfl⟩ : ∃ d', d = d' + 1 := ⟨d - 1, by omega⟩
  show q_EX _ _ _ _ _ 0 [(0, .inr (.inr 1)), (1, .inl 1600)] [] M (fi_X10_init_1 M)
  unfold fi_X10_init_1
  refine q_aload_n 0 dX10_init_0 rfl rfl ?_
  refine q_objI oi_X10_3 oi_2 oi_3 (Nat.le_of_ble_eq_true rfl) dX10_init_1 ?_
  refine q_aload_n 0 dX10_init_4 rfl rfl ?_
  refine q_iconst dX10_init_5 ?_
  refine q_puti fl_X10_9 sh_1 (by omega) (fun h => q_Ok_put h sh_1 rfl) rfl dX10_init_6 (fun M1 hM1 => ?_)
  have hnM1 : M1.1 = 2 := by rw [hM1]; exact hM
  have hVM1 : q_RV M1 := by rw [hM1]; exact q_RV_i hV sh_1 rfl
  refine q_aload_n 0 dX10_init_9 rfl rfl ?_
  refine q_iconst dX10_init_10 ?_
  refine q_iload_n 1 dX10_init_11 rfl rfl ?_
  refine q_mmax ml_X10_15' jm_max ni_J9 jc_max (Nat.le_of_ble_eq_true rfl) dX10_init_12 ?_
  refine q_newaI (n := 2) (N := 1600) q_XM_T hVM1 hnM1 (by decide) sh_2 rfl rfl (by decide) (by decide) (by decide) ak_int dX10_init_15 (fun M2 hM2 hnM2 hVM2 => ?_)
  refine q_putF fl_X10_21 rfl rfl sh_1 (by omega) (by omega) (fun h => q_Ok_fx (by decide +kernel) h) rfl dX10_init_17 (fun M3 hM3 => ?_)
  have hnM3 : M3.1 = 3 := by rw [hM3]; exact hnM2
  have hVM3 : q_RV M3 := by rw [hM3]; exact q_RV_r hVM2 (by omega)
  exact q_ret dX10_init_20 rfl
def gi_X10_init_3 (M : q_Mem) : q_Mem := q_let (q_up M 3 1 0) fun M1 => q_let (q_aln 4 M1) fun M2 => q_let (q_up M2 3 0 (4 : Int)) fun M3 => M3
theorem gc_X10_init_3 (M : q_Mem) (hM : M.1 = 4) : (gi_X10_init_3 M).1 = 5 := by first | exact hM | rfl
def fi_X10_init_3 (M : q_Mem) : Option (Int × q_Mem) := q_let (q_up M 3 1 0) fun M1 => q_let (q_aln 4 M1) fun M2 => q_let (q_up M2 3 0 (4 : Int)) fun M3 => some (0, M3)
set_option maxRecDepth 20000 in
theorem ti_X10_init_3 {d : Nat} (hd : 1 ≤ d) (M : q_Mem) (hM : M.1 = 4) (hV : q_RV M) : q_EX d yX10_init cX10_init 2 none 0 (q_args 0 [.inr (.inr 3), .inl 38]) [] M (some (0, gi_X10_init_3 M)) := by
  obtain ⟨d, rfl⟩ : ∃ d', d = d' + 1 := ⟨d - 1, by omega⟩
  show q_EX _ _ _ _ _ 0 [(0, .inr (.inr 3)), (1, .inl 38)] [] M (fi_X10_init_3 M)
  unfold fi_X10_init_3
  refine q_aload_n 0 dX10_init_0 rfl rfl ?_
  refine q_objI oi_X10_3 oi_2 oi_3 (Nat.le_of_ble_eq_true rfl) dX10_init_1 ?_
  refine q_aload_n 0 dX10_init_4 rfl rfl ?_
  refine q_iconst dX10_init_5 ?_
  refine q_puti fl_X10_9 sh_3 (by omega) (fun h => q_Ok_put h sh_3 rfl) rfl dX10_init_6 (fun M1 hM1 => ?_)
  have hnM1 : M1.1 = 4 := by rw [hM1]; exact hM
  have hVM1 : q_RV M1 := by rw [hM1]; exact q_RV_i hV sh_3 rfl
  refine q_aload_n 0 dX10_init_9 rfl rfl ?_
  refine q_iconst dX10_init_10 ?_
  refine q_iload_n 1 dX10_init_11 rfl rfl ?_
  refine q_mmax ml_X10_15' jm_max ni_J9 jc_max (Nat.le_of_ble_eq_true rfl) dX10_init_12 ?_
  refine q_newaI (n := 4) (N := 38) q_XM_T hVM1 hnM1 (by decide) sh_4 rfl rfl (by decide) (by decide) (by decide) ak_int dX10_init_15 (fun M2 hM2 hnM2 hVM2 => ?_)
  refine q_putF fl_X10_21 rfl rfl sh_3 (by omega) (by omega) (fun h => q_Ok_fx (by decide +kernel) h) rfl dX10_init_17 (fun M3 hM3 => ?_)
  have hnM3 : M3.1 = 5 := by rw [hM3]; exact hnM2
  have hVM3 : q_RV M3 := by rw [hM3]; exact q_RV_r hVM2 (by omega)
  exact q_ret dX10_init_20 rfl
def gi_X8_init_5 (M : q_Mem) : q_Mem := q_let (q_up M 5 1 0) fun M1 => q_let (q_up M1 5 2 0) fun M2 => q_let (q_up M2 5 3 0) fun M3 => q_let (q_up M3 5 4 0) fun M4 => q_let (q_up M4 5 5 0) fun M5 => q_let (q_up M5 5 6 (-1)) fun M6 => q_let (q_up M6 5 0 (1 : Int)) fun M7 => M7
theorem gc_X8_init_5 (M : q_Mem) (hM : M.1 = 6) : (gi_X8_init_5 M).1 = 6 := by first | exact hM | rfl
def fi_X8_init_5 (M : q_Mem) : Option (Int × q_Mem) := q_let (q_up M 5 1 0) fun M1 => q_let (q_up M1 5 2 0) fun M2 => q_let (q_up M2 5 3 0) fun M3 => q_let (q_up M3 5 4 0) fun M4 => q_let (q_up M4 5 5 0) fun M5 => q_let (q_up M5 5 6 (-1)) fun M6 => q_let (q_up M6 5 0 (1 : Int)) fun M7 => some (0, M7)
set_option maxRecDepth 20000 in
theorem ti_X8_init_5 {d : Nat} (hd : 1 ≤ d) (M : q_Mem) (hM : M.1 = 6) (hV : q_RV M) : q_EX d yX8_init cX8_init 2 none 0 (q_args 0 [.inr (.inr 5), .inr (.inr 1)]) [] M (some (0, gi_X8_init_5 M)) := by
  obtain ⟨d, rfl⟩ : ∃ d', d = d' + 1 := ⟨d - 1, by omega⟩
  show q_EX _ _ _ _ _ 0 [(0, .inr (.inr 5)), (1, .inr (.inr 1))] [] M (fi_X8_init_5 M)
  unfold fi_X8_init_5
  refine q_aload_n 0 dX8_init_0 rfl rfl ?_
  refine q_objI oi_X8_3 oi_2 oi_3 (Nat.le_of_ble_eq_true rfl) dX8_init_1 ?_
  refine q_aload_n 0 dX8_init_4 rfl rfl ?_
  refine q_iconst dX8_init_5 ?_
  refine q_puti fl_X8_9 sh_5 (by omega) (fun h => q_Ok_put h sh_5 rfl) rfl dX8_init_6 (fun M1 hM1 => ?_)
  have hnM1 : M1.1 = 6 := by rw [hM1]; exact hM
  have hVM1 : q_RV M1 := by rw [hM1]; exact q_RV_i hV sh_5 rfl
  refine q_aload_n 0 dX8_init_9 rfl rfl ?_
  refine q_iconst dX8_init_10 ?_
  refine q_puti fl_X8_15 sh_5 (by omega) (fun h => q_Ok_put h sh_5 rfl) rfl dX8_init_11 (fun M2 hM2 => ?_)
  have hnM2 : M2.1 = 6 := by rw [hM2]; exact hnM1
  have hVM2 : q_RV M2 := by rw [hM2]; exact q_RV_i hVM1 sh_5 rfl
  refine q_aload_n 0 dX8_init_14 rfl rfl ?_
  refine q_iconst dX8_init_15 ?_
  refine q_puti fl_X8_18 sh_5 (by omega) (fun h => q_Ok_put h sh_5 rfl) rfl dX8_init_16 (fun M3 hM3 => ?_)
  have hnM3 : M3.1 = 6 := by rw [hM3]; exact hnM2
  have hVM3 : q_RV M3 := by rw [hM3]; exact q_RV_i hVM2 sh_5 rfl
  refine q_aload_n 0 dX8_init_19 rfl rfl ?_
  refine q_iconst dX8_init_20 ?_
  refine q_puti fl_X8_21 sh_5 (by omega) (fun h => q_Ok_put h sh_5 rfl) rfl dX8_init_21 (fun M4 hM4 => ?_)
  have hnM4 : M4.1 = 6 := by rw [hM4]; exact hnM3
  have hVM4 : q_RV M4 := by rw [hM4]; exact q_RV_i hVM3 sh_5 rfl
  refine q_aload_n 0 dX8_init_24 rfl rfl ?_
  refine q_iconst dX8_init_25 ?_
  refine q_puti fl_X8_24 sh_5 (by omega) (fun h => q_Ok_put h sh_5 rfl) rfl dX8_init_26 (fun M5 hM5 => ?_)
  have hnM5 : M5.1 = 6 := by rw [hM5]; exact hnM4
  have hVM5 : q_RV M5 := by rw [hM5]; exact q_RV_i hVM4 sh_5 rfl
  refine q_aload_n 0 dX8_init_29 rfl rfl ?_
  refine q_iconst dX8_init_30 ?_
  refine q_puti fl_X8_27 sh_5 (by omega) (fun h => q_Ok_put h sh_5 rfl) rfl dX8_init_31 (fun M6 hM6 => ?_)
  have hnM6 : M6.1 = 6 := by rw [hM6]; exact hnM5
  have hVM6 : q_RV M6 := by rw [hM6]; exact q_RV_i hVM5 sh_5 rfl
  refine q_aload_n 0 dX8_init_34 rfl rfl ?_
  refine q_aload_n 1 dX8_init_35 rfl rfl ?_
  refine q_putF fl_X8_30 rfl rfl sh_5 (by omega) (by omega) (fun h => q_Ok_fx (by decide +kernel) h) rfl dX8_init_36 (fun M7 hM7 => ?_)
  have hnM7 : M7.1 = 6 := by rw [hM7]; exact hnM6
  have hVM7 : q_RV M7 := by rw [hM7]; exact q_RV_r hVM6 (by omega)
  exact q_ret dX8_init_39 rfl
def gi_X0_init_6 (M : q_Mem) : q_Mem := q_let (q_aln 7 M) fun M1 => q_let (q_up M1 6 0 (7 : Int)) fun M2 => q_let (q_up M2 6 1 0) fun M3 => M3
theorem gc_X0_init_6 (M : q_Mem) (hM : M.1 = 7) : (gi_X0_init_6 M).1 = 8 := by first | exact hM | rfl
def fi_X0_init_6 (M : q_Mem) : Option (Int × q_Mem) := q_let (q_aln 7 M) fun M1 => q_let (q_up M1 6 0 (7 : Int)) fun M2 => q_let (q_up M2 6 1 0) fun M3 => some (0, M3)
set_option maxRecDepth 20000 in
theorem ti_X0_init_6 {d : Nat} (hd : 1 ≤ d) (M : q_Mem) (hM : M.1 = 7) (hV : q_RV M) : q_EX d yX0_init cX0_init 1 none 0 (q_args 0 [.inr (.inr 6)]) [] M (some (0, gi_X0_init_6 M)) := by
  obtain ⟨d, rfl⟩ : ∃ d', d = d' + 1 := ⟨d - 1, by omega⟩
  show q_EX _ _ _ _ _ 0 [(0, .inr (.inr 6))] [] M (fi_X0_init_6 M)
  unfold fi_X0_init_6
  refine q_aload_n 0 dX0_init_0 rfl rfl ?_
  refine q_objI oi_X0_3 oi_2 oi_3 (Nat.le_of_ble_eq_true rfl) dX0_init_1 ?_
  refine q_aload_n 0 dX0_init_4 rfl rfl ?_
  refine q_sipush dX0_init_5 (by decide) ?_
  refine q_newaI (n := 7) (N := 1600) q_XM_T hV hM (by decide) sh_7 rfl rfl (by decide) (by decide) (by decide) ak_int dX0_init_8 (fun M1 hM1 hnM1 hVM1 => ?_)
  refine q_putF fl_X0_9 rfl rfl sh_6 (by omega) (by omega) (fun h => q_Ok_fx (by decide +kernel) h) rfl dX0_init_10 (fun M2 hM2 => ?_)
  have hnM2 : M2.1 = 8 := by rw [hM2]; exact hnM1
  have hVM2 : q_RV M2 := by rw [hM2]; exact q_RV_r hVM1 (by omega)
  refine q_aload_n 0 dX0_init_13 rfl rfl ?_
  refine q_iconst dX0_init_14 ?_
  refine q_puti fl_X0_15 sh_6 (by omega) (fun h => q_Ok_put h sh_6 rfl) rfl dX0_init_15 (fun M3 hM3 => ?_)
  have hnM3 : M3.1 = 8 := by rw [hM3]; exact hnM2
  have hVM3 : q_RV M3 := by rw [hM3]; exact q_RV_i hVM2 sh_6 rfl
  exact q_ret dX0_init_18 rfl
def gi_X4_init_8 (M : q_Mem) : q_Mem := q_let (q_up M 8 2 0) fun M1 => q_let (q_up M1 8 3 0) fun M2 => q_let (q_up M2 8 0 (5 : Int)) fun M3 => q_let (q_up M3 8 1 (6 : Int)) fun M4 => M4
theorem gc_X4_init_8 (M : q_Mem) (hM : M.1 = 9) : (gi_X4_init_8 M).1 = 9 := by first | exact hM | rfl
def fi_X4_init_8 (M : q_Mem) : Option (Int × q_Mem) := q_let (q_up M 8 2 0) fun M1 => q_let (q_up M1 8 3 0) fun M2 => q_let (q_up M2 8 0 (5 : Int)) fun M3 => q_let (q_up M3 8 1 (6 : Int)) fun M4 => some (0, M4)
set_option maxRecDepth 20000 in
theorem ti_X4_init_8 {d : Nat} (hd : 1 ≤ d) (M : q_Mem) (hM : M.1 = 9) (hV : q_RV M) : q_EX d yX4_init cX4_init 3 none 0 (q_args 0 [.inr (.inr 8), .inr (.inr 5), .inr (.inr 6)]) [] M (some (0, gi_X4_init_8 M)) := by
  obtain ⟨d, rfl⟩ : ∃ d', d = d' + 1 := ⟨d - 1, by omega⟩
  show q_EX _ _ _ _ _ 0 [(0, .inr (.inr 8)), (1, .inr (.inr 5)), (2, .inr (.inr 6))] [] M (fi_X4_init_8 M)
  unfold fi_X4_init_8
  refine q_aload_n 0 dX4_init_0 rfl rfl ?_
  refine q_objI oi_X4_3 oi_2 oi_3 (Nat.le_of_ble_eq_true rfl) dX4_init_1 ?_
  refine q_aload_n 0 dX4_init_4 rfl rfl ?_
  refine q_iconst dX4_init_5 ?_
  refine q_puti fl_X4_11 sh_8 (by omega) (fun h => q_Ok_put h sh_8 rfl) rfl dX4_init_6 (fun M1 hM1 => ?_)
  have hnM1 : M1.1 = 9 := by rw [hM1]; exact hM
  have hVM1 : q_RV M1 := by rw [hM1]; exact q_RV_i hV sh_8 rfl
  refine q_aload_n 0 dX4_init_9 rfl rfl ?_
  refine q_iconst dX4_init_10 ?_
  refine q_puti fl_X4_15 sh_8 (by omega) (fun h => q_Ok_put h sh_8 rfl) rfl dX4_init_11 (fun M2 hM2 => ?_)
  have hnM2 : M2.1 = 9 := by rw [hM2]; exact hnM1
  have hVM2 : q_RV M2 := by rw [hM2]; exact q_RV_i hVM1 sh_8 rfl
  refine q_aload_n 0 dX4_init_14 rfl rfl ?_
  refine q_aload_n 1 dX4_init_15 rfl rfl ?_
  refine q_putF fl_X4_18 rfl rfl sh_8 (by omega) (by omega) (fun h => q_Ok_fx (by decide +kernel) h) rfl dX4_init_16 (fun M3 hM3 => ?_)
  have hnM3 : M3.1 = 9 := by rw [hM3]; exact hnM2
  have hVM3 : q_RV M3 := by rw [hM3]; exact q_RV_r hVM2 (by omega)
  refine q_aload_n 0 dX4_init_19 rfl rfl ?_
  refine q_aload_n 2 dX4_init_20 rfl rfl ?_
  refine q_putr fl_X4_22 sh_8 (by omega) (fun h => q_Ok_ref h tr_8_1 sh_6) (fun _ => by omega) rfl dX4_init_21 (fun M4 hM4 => ?_)
  have hnM4 : M4.1 = 9 := by rw [hM4]; exact hnM3
  have hVM4 : q_RV M4 := by rw [hM4]; exact q_RV_r hVM3 (by omega)
  exact q_ret dX4_init_24 rfl
def gi_X3_init_9 (M : q_Mem) : q_Mem := q_let (q_up M 9 0 (5 : Int)) fun M1 => q_let (q_up M1 9 1 (8 : Int)) fun M2 => M2
theorem gc_X3_init_9 (M : q_Mem) (hM : M.1 = 10) : (gi_X3_init_9 M).1 = 10 := by first | exact hM | rfl
def fi_X3_init_9 (M : q_Mem) : Option (Int × q_Mem) := q_let (q_up M 9 0 (5 : Int)) fun M1 => q_let (q_up M1 9 1 (8 : Int)) fun M2 => some (0, M2)
set_option maxRecDepth 20000 in
theorem ti_X3_init_9 {d : Nat} (hd : 1 ≤ d) (M : q_Mem) (hM : M.1 = 10) (hV : q_RV M) : q_EX d yX3_init cX3_init 3 none 0 (q_args 0 [.inr (.inr 9), .inr (.inr 5), .inr (.inr 8)]) [] M (some (0, gi_X3_init_9 M)) := by
  obtain ⟨d, rfl⟩ : ∃ d', d = d' + 1 := ⟨d - 1, by omega⟩
  show q_EX _ _ _ _ _ 0 [(0, .inr (.inr 9)), (1, .inr (.inr 5)), (2, .inr (.inr 8))] [] M (fi_X3_init_9 M)
  unfold fi_X3_init_9
  refine q_aload_n 0 dX3_init_0 rfl rfl ?_
  refine q_objI oi_X3_3 oi_2 oi_3 (Nat.le_of_ble_eq_true rfl) dX3_init_1 ?_
  refine q_aload_n 0 dX3_init_4 rfl rfl ?_
  refine q_aload_n 1 dX3_init_5 rfl rfl ?_
  refine q_putF fl_X3_9 rfl rfl sh_9 (by omega) (by omega) (fun h => q_Ok_fx (by decide +kernel) h) rfl dX3_init_6 (fun M1 hM1 => ?_)
  have hnM1 : M1.1 = 10 := by rw [hM1]; exact hM
  have hVM1 : q_RV M1 := by rw [hM1]; exact q_RV_r hV (by omega)
  refine q_aload_n 0 dX3_init_9 rfl rfl ?_
  refine q_aload_n 2 dX3_init_10 rfl rfl ?_
  refine q_putF fl_X3_15 rfl rfl sh_9 (by omega) (by omega) (fun h => q_Ok_fx (by decide +kernel) h) rfl dX3_init_11 (fun M2 hM2 => ?_)
  have hnM2 : M2.1 = 10 := by rw [hM2]; exact hnM1
  have hVM2 : q_RV M2 := by rw [hM2]; exact q_RV_r hVM1 (by omega)
  exact q_ret dX3_init_14 rfl
def gi_X1_init_10 (M : q_Mem) : q_Mem := q_let (q_up M 10 0 0) fun M1 => q_let (q_up M1 10 1 0) fun M2 => q_let (q_up M2 10 2 0) fun M3 => q_let (q_up M3 10 3 0) fun M4 => q_let (q_aln 11 M4) fun M5 => q_let (q_up M5 10 4 (11 : Int)) fun M6 => q_let (q_up M6 10 5 0) fun M7 => q_let (q_aln 12 M7) fun M8 => q_let (q_up M8 10 6 (12 : Int)) fun M9 => q_let (q_aln 13 M9) fun M10 => q_let (q_up M10 10 7 (13 : Int)) fun M11 => q_let (q_aln 14 M11) fun M12 => q_let (q_up M12 10 8 (14 : Int)) fun M13 => q_let (q_almn 15 M13 20) fun M14 => q_let (q_up M14 10 9 (15 : Int)) fun M15 => q_let (q_up M15 10 10 0) fun M16 => q_let (q_up M16 10 11 0) fun M17 => q_let (q_up M17 10 12 1) fun M18 => M18
theorem gc_X1_init_10 (M : q_Mem) (hM : M.1 = 11) : (gi_X1_init_10 M).1 = 36 := by first | exact hM | rfl
def fi_X1_init_10 (M : q_Mem) : Option (Int × q_Mem) := q_let (q_up M 10 0 0) fun M1 => q_let (q_up M1 10 1 0) fun M2 => q_let (q_up M2 10 2 0) fun M3 => q_let (q_up M3 10 3 0) fun M4 => q_let (q_aln 11 M4) fun M5 => q_let (q_up M5 10 4 (11 : Int)) fun M6 => q_let (q_up M6 10 5 0) fun M7 => q_let (q_aln 12 M7) fun M8 => q_let (q_up M8 10 6 (12 : Int)) fun M9 => q_let (q_aln 13 M9) fun M10 => q_let (q_up M10 10 7 (13 : Int)) fun M11 => q_let (q_aln 14 M11) fun M12 => q_let (q_up M12 10 8 (14 : Int)) fun M13 => q_let (q_almn 15 M13 20) fun M14 => q_let (q_up M14 10 9 (15 : Int)) fun M15 => q_let (q_up M15 10 10 0) fun M16 => q_let (q_up M16 10 11 0) fun M17 => q_let (q_up M17 10 12 1) fun M18 => some (0, M18)
set_option maxRecDepth 20000 in
theorem ti_X1_init_10 {d : Nat} (hd : 1 ≤ d) (M : q_Mem) (hM : M.1 = 11) (hV : q_RV M) : q_EX d yX1_init cX1_init 1 none 0 (q_args 0 [.inr (.inr 10)]) [] M (some (0, gi_X1_init_10 M)) := by
  obtain ⟨d, rfl⟩ : ∃ d', d = d' + 1 := ⟨d - 1, by omega⟩
  show q_EX _ _ _ _ _ 0 [(0, .inr (.inr 10))] [] M (fi_X1_init_10 M)
  unfold fi_X1_init_10
  refine q_aload_n 0 dX1_init_0 rfl rfl ?_
  refine q_objI oi_X1_3 oi_2 oi_3 (Nat.le_of_ble_eq_true rfl) dX1_init_1 ?_
  refine q_aload_n 0 dX1_init_4 rfl rfl ?_
  refine q_iconst dX1_init_5 ?_
  refine q_puti fl_X1_9 sh_10 (by omega) (fun h => q_Ok_put h sh_10 rfl) rfl dX1_init_6 (fun M1 hM1 => ?_)
  have hnM1 : M1.1 = 11 := by rw [hM1]; exact hM
  have hVM1 : q_RV M1 := by rw [hM1]; exact q_RV_i hV sh_10 rfl
  refine q_aload_n 0 dX1_init_9 rfl rfl ?_
  refine q_iconst dX1_init_10 ?_
  refine q_puti fl_X1_15 sh_10 (by omega) (fun h => q_Ok_put h sh_10 rfl) rfl dX1_init_11 (fun M2 hM2 => ?_)
  have hnM2 : M2.1 = 11 := by rw [hM2]; exact hnM1
  have hVM2 : q_RV M2 := by rw [hM2]; exact q_RV_i hVM1 sh_10 rfl
  refine q_aload_n 0 dX1_init_14 rfl rfl ?_
  refine q_iconst dX1_init_15 ?_
  refine q_puti fl_X1_18 sh_10 (by omega) (fun h => q_Ok_put h sh_10 rfl) rfl dX1_init_16 (fun M3 hM3 => ?_)
  have hnM3 : M3.1 = 11 := by rw [hM3]; exact hnM2
  have hVM3 : q_RV M3 := by rw [hM3]; exact q_RV_i hVM2 sh_10 rfl
  refine q_aload_n 0 dX1_init_19 rfl rfl ?_
  refine q_iconst dX1_init_20 ?_
  refine q_puti fl_X1_21 sh_10 (by omega) (fun h => q_Ok_put h sh_10 rfl) rfl dX1_init_21 (fun M4 hM4 => ?_)
  have hnM4 : M4.1 = 11 := by rw [hM4]; exact hnM3
  have hVM4 : q_RV M4 := by rw [hM4]; exact q_RV_i hVM3 sh_10 rfl
  refine q_aload_n 0 dX1_init_24 rfl rfl ?_
  refine q_bipush dX1_init_25 (by decide) ?_
  refine q_newaI (n := 11) (N := 16) q_XM_T hVM4 hnM4 (by decide) sh_11 rfl rfl (by decide) (by decide) (by decide) ak_int dX1_init_27 (fun M5 hM5 hnM5 hVM5 => ?_)
  refine q_putF fl_X1_24 rfl rfl sh_10 (by omega) (by omega) (fun h => q_Ok_fx (by decide +kernel) h) rfl dX1_init_29 (fun M6 hM6 => ?_)
  have hnM6 : M6.1 = 12 := by rw [hM6]; exact hnM5
  have hVM6 : q_RV M6 := by rw [hM6]; exact q_RV_r hVM5 (by omega)
  refine q_aload_n 0 dX1_init_32 rfl rfl ?_
  refine q_iconst dX1_init_33 ?_
  refine q_puti fl_X1_28 sh_10 (by omega) (fun h => q_Ok_put h sh_10 rfl) rfl dX1_init_34 (fun M7 hM7 => ?_)
  have hnM7 : M7.1 = 12 := by rw [hM7]; exact hnM6
  have hVM7 : q_RV M7 := by rw [hM7]; exact q_RV_i hVM6 sh_10 rfl
  refine q_aload_n 0 dX1_init_37 rfl rfl ?_
  refine q_bipush dX1_init_38 (by decide) ?_
  refine q_newaI (n := 12) (N := 6) q_XM_T hVM7 hnM7 (by decide) sh_12 rfl rfl (by decide) (by decide) (by decide) ak_int dX1_init_40 (fun M8 hM8 hnM8 hVM8 => ?_)
  refine q_putF fl_X1_31 rfl rfl sh_10 (by omega) (by omega) (fun h => q_Ok_fx (by decide +kernel) h) rfl dX1_init_42 (fun M9 hM9 => ?_)
  have hnM9 : M9.1 = 13 := by rw [hM9]; exact hnM8
  have hVM9 : q_RV M9 := by rw [hM9]; exact q_RV_r hVM8 (by omega)
  refine q_aload_n 0 dX1_init_45 rfl rfl ?_
  refine q_bipush dX1_init_46 (by decide) ?_
  refine q_newaI (n := 13) (N := 6) q_XM_T hVM9 hnM9 (by decide) sh_13 rfl rfl (by decide) (by decide) (by decide) ak_int dX1_init_48 (fun M10 hM10 hnM10 hVM10 => ?_)
  refine q_putF fl_X1_34 rfl rfl sh_10 (by omega) (by omega) (fun h => q_Ok_fx (by decide +kernel) h) rfl dX1_init_50 (fun M11 hM11 => ?_)
  have hnM11 : M11.1 = 14 := by rw [hM11]; exact hnM10
  have hVM11 : q_RV M11 := by rw [hM11]; exact q_RV_r hVM10 (by omega)
  refine q_aload_n 0 dX1_init_53 rfl rfl ?_
  refine q_bipush dX1_init_54 (by decide) ?_
  refine q_newaI (n := 14) (N := 6) q_XM_T hVM11 hnM11 (by decide) sh_14 rfl rfl (by decide) (by decide) (by decide) ak_int dX1_init_56 (fun M12 hM12 hnM12 hVM12 => ?_)
  refine q_putF fl_X1_37 rfl rfl sh_10 (by omega) (by omega) (fun h => q_Ok_fx (by decide +kernel) h) rfl dX1_init_58 (fun M13 hM13 => ?_)
  have hnM13 : M13.1 = 15 := by rw [hM13]; exact hnM12
  have hVM13 : q_RV M13 := by rw [hM13]; exact q_RV_r hVM12 (by omega)
  refine q_aload_n 0 dX1_init_61 rfl rfl ?_
  refine q_bipush dX1_init_62 (by decide) ?_
  refine q_iconst dX1_init_64 ?_
  refine q_mna (n := 15) (N := 20) (K := 5) q_XM_T hVM13 hnM13 (by decide) sh_15 rs_15 rfl rfl (by decide) (by decide) (by decide) (by decide) (by decide) (by decide) (by decide) cl_X1_40 ak_int dX1_init_65 (fun M14 hM14 hnM14 hVM14 => ?_)
  refine q_putF fl_X1_42 rfl rfl sh_10 (by omega) (by omega) (fun h => q_Ok_fx (by decide +kernel) h) rfl dX1_init_69 (fun M15 hM15 => ?_)
  have hnM15 : M15.1 = 36 := by rw [hM15]; exact hnM14
  have hVM15 : q_RV M15 := by rw [hM15]; exact q_RV_r hVM14 (by omega)
  refine q_aload_n 0 dX1_init_72 rfl rfl ?_
  refine q_iconst dX1_init_73 ?_
  refine q_puti fl_X1_45 sh_10 (by omega) (fun h => q_Ok_put h sh_10 rfl) rfl dX1_init_74 (fun M16 hM16 => ?_)
  have hnM16 : M16.1 = 36 := by rw [hM16]; exact hnM15
  have hVM16 : q_RV M16 := by rw [hM16]; exact q_RV_i hVM15 sh_10 rfl
  refine q_aload_n 0 dX1_init_77 rfl rfl ?_
  refine q_iconst dX1_init_78 ?_
  refine q_puti fl_X1_48 sh_10 (by omega) (fun h => q_Ok_put h sh_10 rfl) rfl dX1_init_79 (fun M17 hM17 => ?_)
  have hnM17 : M17.1 = 36 := by rw [hM17]; exact hnM16
  have hVM17 : q_RV M17 := by rw [hM17]; exact q_RV_i hVM16 sh_10 rfl
  refine q_aload_n 0 dX1_init_82 rfl rfl ?_
  refine q_lconst (v := 1) dX1_init_83 (by decide) ?_
  refine q_putl fl_X1_51 sh_10 (by omega) (fun h => q_Ok_put h sh_10 rfl) rfl dX1_init_84 (fun M18 hM18 => ?_)
  have hnM18 : M18.1 = 36 := by rw [hM18]; exact hnM17
  have hVM18 : q_RV M18 := by rw [hM18]; exact q_RV_i hVM17 sh_10 rfl
  exact q_ret dX1_init_87 rfl
def gi_X9_init_36 (M : q_Mem) : q_Mem := q_let (q_up M 36 0 0) fun M1 => q_let (q_aln 37 M1) fun M2 => q_let (q_up M2 36 1 (37 : Int)) fun M3 => q_let (q_aln 38 M3) fun M4 => q_let (q_up M4 36 2 (38 : Int)) fun M5 => q_let (q_aln 39 M5) fun M6 => q_let (q_up M6 36 3 (39 : Int)) fun M7 => M7
theorem gc_X9_init_36 (M : q_Mem) (hM : M.1 = 37) : (gi_X9_init_36 M).1 = 40 := by first | exact hM | rfl
def fi_X9_init_36 (M : q_Mem) : Option (Int × q_Mem) := q_let (q_up M 36 0 0) fun M1 => q_let (q_aln 37 M1) fun M2 => q_let (q_up M2 36 1 (37 : Int)) fun M3 => q_let (q_aln 38 M3) fun M4 => q_let (q_up M4 36 2 (38 : Int)) fun M5 => q_let (q_aln 39 M5) fun M6 => q_let (q_up M6 36 3 (39 : Int)) fun M7 => some (0, M7)
set_option maxRecDepth 20000 in
theorem ti_X9_init_36 {d : Nat} (hd : 1 ≤ d) (M : q_Mem) (hM : M.1 = 37) (hV : q_RV M) : q_EX d yX9_init cX9_init 1 none 0 (q_args 0 [.inr (.inr 36)]) [] M (some (0, gi_X9_init_36 M)) := by
  obtain ⟨d, rfl⟩ : ∃ d', d = d' + 1 := ⟨d - 1, by omega⟩
  show q_EX _ _ _ _ _ 0 [(0, .inr (.inr 36))] [] M (fi_X9_init_36 M)
  unfold fi_X9_init_36
  refine q_aload_n 0 dX9_init_0 rfl rfl ?_
  refine q_objI oi_X9_3 oi_2 oi_3 (Nat.le_of_ble_eq_true rfl) dX9_init_1 ?_
  refine q_aload_n 0 dX9_init_4 rfl rfl ?_
  refine q_iconst dX9_init_5 ?_
  refine q_puti fl_X9_9 sh_36 (by omega) (fun h => q_Ok_put h sh_36 rfl) rfl dX9_init_6 (fun M1 hM1 => ?_)
  have hnM1 : M1.1 = 37 := by rw [hM1]; exact hM
  have hVM1 : q_RV M1 := by rw [hM1]; exact q_RV_i hV sh_36 rfl
  refine q_aload_n 0 dX9_init_9 rfl rfl ?_
  refine q_bipush dX9_init_10 (by decide) ?_
  refine q_newaI (n := 37) (N := 16) q_XM_T hVM1 hnM1 (by decide) sh_37 rfl rfl (by decide) (by decide) (by decide) ak_int dX9_init_12 (fun M2 hM2 hnM2 hVM2 => ?_)
  refine q_putF fl_X9_15 rfl rfl sh_36 (by omega) (by omega) (fun h => q_Ok_fx (by decide +kernel) h) rfl dX9_init_14 (fun M3 hM3 => ?_)
  have hnM3 : M3.1 = 38 := by rw [hM3]; exact hnM2
  have hVM3 : q_RV M3 := by rw [hM3]; exact q_RV_r hVM2 (by omega)
  refine q_aload_n 0 dX9_init_17 rfl rfl ?_
  refine q_bipush dX9_init_18 (by decide) ?_
  refine q_newaI (n := 38) (N := 16) q_XM_T hVM3 hnM3 (by decide) sh_38 rfl rfl (by decide) (by decide) (by decide) ak_int dX9_init_20 (fun M4 hM4 hnM4 hVM4 => ?_)
  refine q_putF fl_X9_19 rfl rfl sh_36 (by omega) (by omega) (fun h => q_Ok_fx (by decide +kernel) h) rfl dX9_init_22 (fun M5 hM5 => ?_)
  have hnM5 : M5.1 = 39 := by rw [hM5]; exact hnM4
  have hVM5 : q_RV M5 := by rw [hM5]; exact q_RV_r hVM4 (by omega)
  refine q_aload_n 0 dX9_init_25 rfl rfl ?_
  refine q_bipush dX9_init_26 (by decide) ?_
  refine q_newaI (n := 39) (N := 16) q_XM_T hVM5 hnM5 (by decide) sh_39 rfl rfl (by decide) (by decide) (by decide) ak_int dX9_init_28 (fun M6 hM6 hnM6 hVM6 => ?_)
  refine q_putF fl_X9_22 rfl rfl sh_36 (by omega) (by omega) (fun h => q_Ok_fx (by decide +kernel) h) rfl dX9_init_30 (fun M7 hM7 => ?_)
  have hnM7 : M7.1 = 40 := by rw [hM7]; exact hnM6
  have hVM7 : q_RV M7 := by rw [hM7]; exact q_RV_r hVM6 (by omega)
  exact q_ret dX9_init_33 rfl
def gi_X6_init_40 (M : q_Mem) : q_Mem := q_let (q_up M 40 0 0) fun M1 => q_let (q_up M1 40 1 0) fun M2 => q_let (q_aln 41 M2) fun M3 => q_let (q_up M3 40 2 (41 : Int)) fun M4 => q_let (q_almn 42 M4 6) fun M5 => q_let (q_up M5 40 3 (42 : Int)) fun M6 => q_let (q_aln 49 M6) fun M7 => q_let (q_up M7 40 4 (49 : Int)) fun M8 => q_let (q_aln 50 M8) fun M9 => q_let (q_up M9 40 5 (50 : Int)) fun M10 => q_let (q_up M10 40 6 0) fun M11 => q_let (q_aln 51 M11) fun M12 => q_let (q_up M12 40 7 (51 : Int)) fun M13 => q_let (q_up M13 40 8 (-1)) fun M14 => M14
theorem gc_X6_init_40 (M : q_Mem) (hM : M.1 = 41) : (gi_X6_init_40 M).1 = 52 := by first | exact hM | rfl
def fi_X6_init_40 (M : q_Mem) : Option (Int × q_Mem) := q_let (q_up M 40 0 0) fun M1 => q_let (q_up M1 40 1 0) fun M2 => q_let (q_aln 41 M2) fun M3 => q_let (q_up M3 40 2 (41 : Int)) fun M4 => q_let (q_almn 42 M4 6) fun M5 => q_let (q_up M5 40 3 (42 : Int)) fun M6 => q_let (q_aln 49 M6) fun M7 => q_let (q_up M7 40 4 (49 : Int)) fun M8 => q_let (q_aln 50 M8) fun M9 => q_let (q_up M9 40 5 (50 : Int)) fun M10 => q_let (q_up M10 40 6 0) fun M11 => q_let (q_aln 51 M11) fun M12 => q_let (q_up M12 40 7 (51 : Int)) fun M13 => q_let (q_up M13 40 8 (-1)) fun M14 => some (0, M14)
set_option maxRecDepth 20000 in
theorem ti_X6_init_40 {d : Nat} (hd : 1 ≤ d) (M : q_Mem) (hM : M.1 = 41) (hV : q_RV M) : q_EX d yX6_init cX6_init 1 none 0 (q_args 0 [.inr (.inr 40)]) [] M (some (0, gi_X6_init_40 M)) := by
  obtain ⟨d, rfl⟩ : ∃ d', d = d' + 1 := ⟨d - 1, by omega⟩
  show q_EX _ _ _ _ _ 0 [(0, .inr (.inr 40))] [] M (fi_X6_init_40 M)
  unfold fi_X6_init_40
  refine q_aload_n 0 dX6_init_0 rfl rfl ?_
  refine q_objI oi_X6_3 oi_2 oi_3 (Nat.le_of_ble_eq_true rfl) dX6_init_1 ?_
  refine q_aload_n 0 dX6_init_4 rfl rfl ?_
  refine q_iconst dX6_init_5 ?_
  refine q_puti fl_X6_9 sh_40 (by omega) (fun h => q_Ok_put h sh_40 rfl) rfl dX6_init_6 (fun M1 hM1 => ?_)
  have hnM1 : M1.1 = 41 := by rw [hM1]; exact hM
  have hVM1 : q_RV M1 := by rw [hM1]; exact q_RV_i hV sh_40 rfl
  refine q_aload_n 0 dX6_init_9 rfl rfl ?_
  refine q_iconst dX6_init_10 ?_
  refine q_puti fl_X6_15 sh_40 (by omega) (fun h => q_Ok_put h sh_40 rfl) rfl dX6_init_11 (fun M2 hM2 => ?_)
  have hnM2 : M2.1 = 41 := by rw [hM2]; exact hnM1
  have hVM2 : q_RV M2 := by rw [hM2]; exact q_RV_i hVM1 sh_40 rfl
  refine q_aload_n 0 dX6_init_14 rfl rfl ?_
  refine q_bipush dX6_init_15 (by decide) ?_
  refine q_newaI (n := 41) (N := 6) q_XM_T hVM2 hnM2 (by decide) sh_41 rfl rfl (by decide) (by decide) (by decide) ak_int dX6_init_17 (fun M3 hM3 hnM3 hVM3 => ?_)
  refine q_putF fl_X6_18 rfl rfl sh_40 (by omega) (by omega) (fun h => q_Ok_fx (by decide +kernel) h) rfl dX6_init_19 (fun M4 hM4 => ?_)
  have hnM4 : M4.1 = 42 := by rw [hM4]; exact hnM3
  have hVM4 : q_RV M4 := by rw [hM4]; exact q_RV_r hVM3 (by omega)
  refine q_aload_n 0 dX6_init_22 rfl rfl ?_
  refine q_bipush dX6_init_23 (by decide) ?_
  refine q_sipush dX6_init_25 (by decide) ?_
  refine q_mna (n := 42) (N := 6) (K := 401) q_XM_T hVM4 hnM4 (by decide) sh_42 rs_42 rfl rfl (by decide) (by decide) (by decide) (by decide) (by decide) (by decide) (by decide) cl_X6_22 ak_int dX6_init_28 (fun M5 hM5 hnM5 hVM5 => ?_)
  refine q_putF fl_X6_24 rfl rfl sh_40 (by omega) (by omega) (fun h => q_Ok_fx (by decide +kernel) h) rfl dX6_init_32 (fun M6 hM6 => ?_)
  have hnM6 : M6.1 = 49 := by rw [hM6]; exact hnM5
  have hVM6 : q_RV M6 := by rw [hM6]; exact q_RV_r hVM5 (by omega)
  refine q_aload_n 0 dX6_init_35 rfl rfl ?_
  refine q_bipush dX6_init_36 (by decide) ?_
  refine q_newaI (n := 49) (N := 64) q_XM_T hVM6 hnM6 (by decide) sh_49 rfl rfl (by decide) (by decide) (by decide) ak_int dX6_init_38 (fun M7 hM7 hnM7 hVM7 => ?_)
  refine q_putF fl_X6_27 rfl rfl sh_40 (by omega) (by omega) (fun h => q_Ok_fx (by decide +kernel) h) rfl dX6_init_40 (fun M8 hM8 => ?_)
  have hnM8 : M8.1 = 50 := by rw [hM8]; exact hnM7
  have hVM8 : q_RV M8 := by rw [hM8]; exact q_RV_r hVM7 (by omega)
  refine q_aload_n 0 dX6_init_43 rfl rfl ?_
  refine q_bipush dX6_init_44 (by decide) ?_
  refine q_newaI (n := 50) (N := 6) q_XM_T hVM8 hnM8 (by decide) sh_50 rfl rfl (by decide) (by decide) (by decide) ak_int dX6_init_46 (fun M9 hM9 hnM9 hVM9 => ?_)
  refine q_putF fl_X6_30 rfl rfl sh_40 (by omega) (by omega) (fun h => q_Ok_fx (by decide +kernel) h) rfl dX6_init_48 (fun M10 hM10 => ?_)
  have hnM10 : M10.1 = 51 := by rw [hM10]; exact hnM9
  have hVM10 : q_RV M10 := by rw [hM10]; exact q_RV_r hVM9 (by omega)
  refine q_aload_n 0 dX6_init_51 rfl rfl ?_
  refine q_iconst dX6_init_52 ?_
  refine q_puti fl_X6_33 sh_40 (by omega) (fun h => q_Ok_put h sh_40 rfl) rfl dX6_init_53 (fun M11 hM11 => ?_)
  have hnM11 : M11.1 = 51 := by rw [hM11]; exact hnM10
  have hVM11 : q_RV M11 := by rw [hM11]; exact q_RV_i hVM10 sh_40 rfl
  refine q_aload_n 0 dX6_init_56 rfl rfl ?_
  refine q_bipush dX6_init_57 (by decide) ?_
  refine q_newaI (n := 51) (N := 6) q_XM_T hVM11 hnM11 (by decide) sh_51 rfl rfl (by decide) (by decide) (by decide) ak_int dX6_init_59 (fun M12 hM12 hnM12 hVM12 => ?_)
  refine q_putF fl_X6_36 rfl rfl sh_40 (by omega) (by omega) (fun h => q_Ok_fx (by decide +kernel) h) rfl dX6_init_61 (fun M13 hM13 => ?_)
  have hnM13 : M13.1 = 52 := by rw [hM13]; exact hnM12
  have hVM13 : q_RV M13 := by rw [hM13]; exact q_RV_r hVM12 (by omega)
  refine q_aload_n 0 dX6_init_64 rfl rfl ?_
  refine q_iconst dX6_init_65 ?_
  refine q_puti fl_X6_39 sh_40 (by omega) (fun h => q_Ok_put h sh_40 rfl) rfl dX6_init_66 (fun M14 hM14 => ?_)
  have hnM14 : M14.1 = 52 := by rw [hM14]; exact hnM13
  have hVM14 : q_RV M14 := by rw [hM14]; exact q_RV_i hVM13 sh_40 rfl
  exact q_ret dX6_init_69 rfl
def gi_X7_init_52 (M : q_Mem) : q_Mem := q_let (q_aln 53 M) fun M1 => q_let (q_up M1 52 0 (53 : Int)) fun M2 => q_let (q_up M2 52 1 0) fun M3 => q_let (q_up M3 52 2 0) fun M4 => q_let (q_up M4 52 3 0) fun M5 => q_let (q_up M5 52 4 0) fun M6 => q_let (q_up M6 52 5 0) fun M7 => q_let (q_up M7 52 6 0) fun M8 => q_let (q_up M8 52 7 0) fun M9 => q_let (q_up M9 52 8 0) fun M10 => q_let (q_up M10 52 9 (-1)) fun M11 => q_let (q_up M11 52 10 0) fun M12 => q_let (q_aln 54 M12) fun M13 => q_let (q_up M13 52 11 (54 : Int)) fun M14 => q_let (q_aln 55 M14) fun M15 => q_let (q_up M15 52 12 (55 : Int)) fun M16 => M16
theorem gc_X7_init_52 (M : q_Mem) (hM : M.1 = 53) : (gi_X7_init_52 M).1 = 56 := by first | exact hM | rfl
def fi_X7_init_52 (M : q_Mem) : Option (Int × q_Mem) := q_let (q_aln 53 M) fun M1 => q_let (q_up M1 52 0 (53 : Int)) fun M2 => q_let (q_up M2 52 1 0) fun M3 => q_let (q_up M3 52 2 0) fun M4 => q_let (q_up M4 52 3 0) fun M5 => q_let (q_up M5 52 4 0) fun M6 => q_let (q_up M6 52 5 0) fun M7 => q_let (q_up M7 52 6 0) fun M8 => q_let (q_up M8 52 7 0) fun M9 => q_let (q_up M9 52 8 0) fun M10 => q_let (q_up M10 52 9 (-1)) fun M11 => q_let (q_up M11 52 10 0) fun M12 => q_let (q_aln 54 M12) fun M13 => q_let (q_up M13 52 11 (54 : Int)) fun M14 => q_let (q_aln 55 M14) fun M15 => q_let (q_up M15 52 12 (55 : Int)) fun M16 => some (0, M16)
set_option maxRecDepth 20000 in
theorem ti_X7_init_52 {d : Nat} (hd : 1 ≤ d) (M : q_Mem) (hM : M.1 = 53) (hV : q_RV M) : q_EX d yX7_init cX7_init 1 none 0 (q_args 0 [.inr (.inr 52)]) [] M (some (0, gi_X7_init_52 M)) := by
  obtain ⟨d, rfl⟩ : ∃ d', d = d' + 1 := ⟨d - 1, by omega⟩
  show q_EX _ _ _ _ _ 0 [(0, .inr (.inr 52))] [] M (fi_X7_init_52 M)
  unfold fi_X7_init_52
  refine q_aload_n 0 dX7_init_0 rfl rfl ?_
  refine q_objI oi_X7_3 oi_2 oi_3 (Nat.le_of_ble_eq_true rfl) dX7_init_1 ?_
  refine q_aload_n 0 dX7_init_4 rfl rfl ?_
  refine q_bipush dX7_init_5 (by decide) ?_
  refine q_newaI (n := 53) (N := 64) q_XM_T hV hM (by decide) sh_53 rfl rfl (by decide) (by decide) (by decide) ak_int dX7_init_7 (fun M1 hM1 hnM1 hVM1 => ?_)
  refine q_putF fl_X7_9 rfl rfl sh_52 (by omega) (by omega) (fun h => q_Ok_fx (by decide +kernel) h) rfl dX7_init_9 (fun M2 hM2 => ?_)
  have hnM2 : M2.1 = 54 := by rw [hM2]; exact hnM1
  have hVM2 : q_RV M2 := by rw [hM2]; exact q_RV_r hVM1 (by omega)
  refine q_aload_n 0 dX7_init_12 rfl rfl ?_
  refine q_iconst dX7_init_13 ?_
  refine q_puti fl_X7_15 sh_52 (by omega) (fun h => q_Ok_put h sh_52 rfl) rfl dX7_init_14 (fun M3 hM3 => ?_)
  have hnM3 : M3.1 = 54 := by rw [hM3]; exact hnM2
  have hVM3 : q_RV M3 := by rw [hM3]; exact q_RV_i hVM2 sh_52 rfl
  refine q_aload_n 0 dX7_init_17 rfl rfl ?_
  refine q_iconst dX7_init_18 ?_
  refine q_puti fl_X7_19 sh_52 (by omega) (fun h => q_Ok_put h sh_52 rfl) rfl dX7_init_19 (fun M4 hM4 => ?_)
  have hnM4 : M4.1 = 54 := by rw [hM4]; exact hnM3
  have hVM4 : q_RV M4 := by rw [hM4]; exact q_RV_i hVM3 sh_52 rfl
  refine q_aload_n 0 dX7_init_22 rfl rfl ?_
  refine q_iconst dX7_init_23 ?_
  refine q_puti fl_X7_22 sh_52 (by omega) (fun h => q_Ok_put h sh_52 rfl) rfl dX7_init_24 (fun M5 hM5 => ?_)
  have hnM5 : M5.1 = 54 := by rw [hM5]; exact hnM4
  have hVM5 : q_RV M5 := by rw [hM5]; exact q_RV_i hVM4 sh_52 rfl
  refine q_aload_n 0 dX7_init_27 rfl rfl ?_
  refine q_iconst dX7_init_28 ?_
  refine q_puti fl_X7_25 sh_52 (by omega) (fun h => q_Ok_put h sh_52 rfl) rfl dX7_init_29 (fun M6 hM6 => ?_)
  have hnM6 : M6.1 = 54 := by rw [hM6]; exact hnM5
  have hVM6 : q_RV M6 := by rw [hM6]; exact q_RV_i hVM5 sh_52 rfl
  refine q_aload_n 0 dX7_init_32 rfl rfl ?_
  refine q_iconst dX7_init_33 ?_
  refine q_puti fl_X7_28 sh_52 (by omega) (fun h => q_Ok_put h sh_52 rfl) rfl dX7_init_34 (fun M7 hM7 => ?_)
  have hnM7 : M7.1 = 54 := by rw [hM7]; exact hnM6
  have hVM7 : q_RV M7 := by rw [hM7]; exact q_RV_i hVM6 sh_52 rfl
  refine q_aload_n 0 dX7_init_37 rfl rfl ?_
  refine q_iconst dX7_init_38 ?_
  refine q_puti fl_X7_31 sh_52 (by omega) (fun h => q_Ok_put h sh_52 rfl) rfl dX7_init_39 (fun M8 hM8 => ?_)
  have hnM8 : M8.1 = 54 := by rw [hM8]; exact hnM7
  have hVM8 : q_RV M8 := by rw [hM8]; exact q_RV_i hVM7 sh_52 rfl
  refine q_aload_n 0 dX7_init_42 rfl rfl ?_
  refine q_iconst dX7_init_43 ?_
  refine q_puti fl_X7_34 sh_52 (by omega) (fun h => q_Ok_put h sh_52 rfl) rfl dX7_init_44 (fun M9 hM9 => ?_)
  have hnM9 : M9.1 = 54 := by rw [hM9]; exact hnM8
  have hVM9 : q_RV M9 := by rw [hM9]; exact q_RV_i hVM8 sh_52 rfl
  refine q_aload_n 0 dX7_init_47 rfl rfl ?_
  refine q_iconst dX7_init_48 ?_
  refine q_puti fl_X7_37 sh_52 (by omega) (fun h => q_Ok_put h sh_52 rfl) rfl dX7_init_49 (fun M10 hM10 => ?_)
  have hnM10 : M10.1 = 54 := by rw [hM10]; exact hnM9
  have hVM10 : q_RV M10 := by rw [hM10]; exact q_RV_i hVM9 sh_52 rfl
  refine q_aload_n 0 dX7_init_52 rfl rfl ?_
  refine q_iconst dX7_init_53 ?_
  refine q_puti fl_X7_40 sh_52 (by omega) (fun h => q_Ok_put h sh_52 rfl) rfl dX7_init_54 (fun M11 hM11 => ?_)
  have hnM11 : M11.1 = 54 := by rw [hM11]; exact hnM10
  have hVM11 : q_RV M11 := by rw [hM11]; exact q_RV_i hVM10 sh_52 rfl
  refine q_aload_n 0 dX7_init_57 rfl rfl ?_
  refine q_iconst dX7_init_58 ?_
  refine q_puti fl_X7_43 sh_52 (by omega) (fun h => q_Ok_put h sh_52 rfl) rfl dX7_init_59 (fun M12 hM12 => ?_)
  have hnM12 : M12.1 = 54 := by rw [hM12]; exact hnM11
  have hVM12 : q_RV M12 := by rw [hM12]; exact q_RV_i hVM11 sh_52 rfl
  refine q_aload_n 0 dX7_init_62 rfl rfl ?_
  refine q_bipush dX7_init_63 (by decide) ?_
  refine q_newaI (n := 54) (N := 6) q_XM_T hVM12 hnM12 (by decide) sh_54 rfl rfl (by decide) (by decide) (by decide) ak_int dX7_init_65 (fun M13 hM13 hnM13 hVM13 => ?_)
  refine q_putF fl_X7_46 rfl rfl sh_52 (by omega) (by omega) (fun h => q_Ok_fx (by decide +kernel) h) rfl dX7_init_67 (fun M14 hM14 => ?_)
  have hnM14 : M14.1 = 55 := by rw [hM14]; exact hnM13
  have hVM14 : q_RV M14 := by rw [hM14]; exact q_RV_r hVM13 (by omega)
  refine q_aload_n 0 dX7_init_70 rfl rfl ?_
  refine q_bipush dX7_init_71 (by decide) ?_
  refine q_newaI (n := 55) (N := 6) q_XM_T hVM14 hnM14 (by decide) sh_55 rfl rfl (by decide) (by decide) (by decide) ak_int dX7_init_73 (fun M15 hM15 hnM15 hVM15 => ?_)
  refine q_putF fl_X7_49 rfl rfl sh_52 (by omega) (by omega) (fun h => q_Ok_fx (by decide +kernel) h) rfl dX7_init_75 (fun M16 hM16 => ?_)
  have hnM16 : M16.1 = 56 := by rw [hM16]; exact hnM15
  have hVM16 : q_RV M16 := by rw [hM16]; exact q_RV_r hVM15 (by omega)
  exact q_ret dX7_init_78 rfl
def gi_X0_init_68 (M : q_Mem) : q_Mem := q_let (q_aln 69 M) fun M1 => q_let (q_up M1 68 0 (69 : Int)) fun M2 => q_let (q_up M2 68 1 0) fun M3 => M3
theorem gc_X0_init_68 (M : q_Mem) (hM : M.1 = 69) : (gi_X0_init_68 M).1 = 70 := by first | exact hM | rfl
def fi_X0_init_68 (M : q_Mem) : Option (Int × q_Mem) := q_let (q_aln 69 M) fun M1 => q_let (q_up M1 68 0 (69 : Int)) fun M2 => q_let (q_up M2 68 1 0) fun M3 => some (0, M3)
set_option maxRecDepth 20000 in
theorem ti_X0_init_68 {d : Nat} (hd : 1 ≤ d) (M : q_Mem) (hM : M.1 = 69) (hV : q_RV M) : q_EX d yX0_init cX0_init 1 none 0 (q_args 0 [.inr (.inr 68)]) [] M (some (0, gi_X0_init_68 M)) := by
  obtain ⟨d, rfl⟩ : ∃ d', d = d' + 1 := ⟨d - 1, by omega⟩
  show q_EX _ _ _ _ _ 0 [(0, .inr (.inr 68))] [] M (fi_X0_init_68 M)
  unfold fi_X0_init_68
  refine q_aload_n 0 dX0_init_0 rfl rfl ?_
  refine q_objI oi_X0_3 oi_2 oi_3 (Nat.le_of_ble_eq_true rfl) dX0_init_1 ?_
  refine q_aload_n 0 dX0_init_4 rfl rfl ?_
  refine q_sipush dX0_init_5 (by decide) ?_
  refine q_newaI (n := 69) (N := 1600) q_XM_T hV hM (by decide) sh_69 rfl rfl (by decide) (by decide) (by decide) ak_int dX0_init_8 (fun M1 hM1 hnM1 hVM1 => ?_)
  refine q_putF fl_X0_9 rfl rfl sh_68 (by omega) (by omega) (fun h => q_Ok_fx (by decide +kernel) h) rfl dX0_init_10 (fun M2 hM2 => ?_)
  have hnM2 : M2.1 = 70 := by rw [hM2]; exact hnM1
  have hVM2 : q_RV M2 := by rw [hM2]; exact q_RV_r hVM1 (by omega)
  refine q_aload_n 0 dX0_init_13 rfl rfl ?_
  refine q_iconst dX0_init_14 ?_
  refine q_puti fl_X0_15 sh_68 (by omega) (fun h => q_Ok_put h sh_68 rfl) rfl dX0_init_15 (fun M3 hM3 => ?_)
  have hnM3 : M3.1 = 70 := by rw [hM3]; exact hnM2
  have hVM3 : q_RV M3 := by rw [hM3]; exact q_RV_i hVM2 sh_68 rfl
  exact q_ret dX0_init_18 rfl
def gi_X0_init_70 (M : q_Mem) : q_Mem := q_let (q_aln 71 M) fun M1 => q_let (q_up M1 70 0 (71 : Int)) fun M2 => q_let (q_up M2 70 1 0) fun M3 => M3
theorem gc_X0_init_70 (M : q_Mem) (hM : M.1 = 71) : (gi_X0_init_70 M).1 = 72 := by first | exact hM | rfl
def fi_X0_init_70 (M : q_Mem) : Option (Int × q_Mem) := q_let (q_aln 71 M) fun M1 => q_let (q_up M1 70 0 (71 : Int)) fun M2 => q_let (q_up M2 70 1 0) fun M3 => some (0, M3)
set_option maxRecDepth 20000 in
theorem ti_X0_init_70 {d : Nat} (hd : 1 ≤ d) (M : q_Mem) (hM : M.1 = 71) (hV : q_RV M) : q_EX d yX0_init cX0_init 1 none 0 (q_args 0 [.inr (.inr 70)]) [] M (some (0, gi_X0_init_70 M)) := by
  obtain ⟨d, rfl⟩ : ∃ d', d = d' + 1 := ⟨d - 1, by omega⟩
  show q_EX _ _ _ _ _ 0 [(0, .inr (.inr 70))] [] M (fi_X0_init_70 M)
  unfold fi_X0_init_70
  refine q_aload_n 0 dX0_init_0 rfl rfl ?_
  refine q_objI oi_X0_3 oi_2 oi_3 (Nat.le_of_ble_eq_true rfl) dX0_init_1 ?_
  refine q_aload_n 0 dX0_init_4 rfl rfl ?_
  refine q_sipush dX0_init_5 (by decide) ?_
  refine q_newaI (n := 71) (N := 1600) q_XM_T hV hM (by decide) sh_71 rfl rfl (by decide) (by decide) (by decide) ak_int dX0_init_8 (fun M1 hM1 hnM1 hVM1 => ?_)
  refine q_putF fl_X0_9 rfl rfl sh_70 (by omega) (by omega) (fun h => q_Ok_fx (by decide +kernel) h) rfl dX0_init_10 (fun M2 hM2 => ?_)
  have hnM2 : M2.1 = 72 := by rw [hM2]; exact hnM1
  have hVM2 : q_RV M2 := by rw [hM2]; exact q_RV_r hVM1 (by omega)
  refine q_aload_n 0 dX0_init_13 rfl rfl ?_
  refine q_iconst dX0_init_14 ?_
  refine q_puti fl_X0_15 sh_70 (by omega) (fun h => q_Ok_put h sh_70 rfl) rfl dX0_init_15 (fun M3 hM3 => ?_)
  have hnM3 : M3.1 = 72 := by rw [hM3]; exact hnM2
  have hVM3 : q_RV M3 := by rw [hM3]; exact q_RV_i hVM2 sh_70 rfl
  exact q_ret dX0_init_18 rfl
def gi_X2_init_57 (M : q_Mem) : q_Mem := q_let (q_up M 57 0 0) fun M1 => q_let (q_up M1 57 1 0) fun M2 => q_let (q_aln 58 M2) fun M3 => q_let (q_up M3 57 2 (58 : Int)) fun M4 => q_let (q_aln 59 M4) fun M5 => q_let (q_up M5 57 3 (59 : Int)) fun M6 => q_let (q_aln 60 M6) fun M7 => q_let (q_up M7 57 4 (60 : Int)) fun M8 => q_let (q_aln 61 M8) fun M9 => q_let (q_up M9 57 5 (61 : Int)) fun M10 => q_let (q_aln 62 M10) fun M11 => q_let (q_up M11 57 6 (62 : Int)) fun M12 => q_let (q_up M12 57 7 0) fun M13 => q_let (q_aln 63 M13) fun M14 => q_let (q_up M14 57 8 (63 : Int)) fun M15 => q_let (q_aln 64 M15) fun M16 => q_let (q_up M16 57 9 (64 : Int)) fun M17 => q_let (q_aln 65 M17) fun M18 => q_let (q_up M18 57 10 (65 : Int)) fun M19 => q_let (q_up M19 57 11 0) fun M20 => q_let (q_aln 66 M20) fun M21 => q_let (q_up M21 57 12 (66 : Int)) fun M22 => q_let (q_aln 67 M22) fun M23 => q_let (q_up M23 57 13 (67 : Int)) fun M24 => q_let (q_aln 68 M24) fun M25 => q_let (gi_X0_init_68 M25) fun M26 => q_let (q_up M26 57 14 (68 : Int)) fun M27 => q_let (q_aln 70 M27) fun M28 => q_let (gi_X0_init_70 M28) fun M29 => q_let (q_up M29 57 15 (70 : Int)) fun M30 => q_let (q_up M30 57 16 0) fun M31 => q_let (q_up M31 57 17 0) fun M32 => M32
theorem gc_X2_init_57 (M : q_Mem) (hM : M.1 = 58) : (gi_X2_init_57 M).1 = 72 := by first | exact hM | rfl
def fi_X2_init_57 (M : q_Mem) : Option (Int × q_Mem) := q_let (q_up M 57 0 0) fun M1 => q_let (q_up M1 57 1 0) fun M2 => q_let (q_aln 58 M2) fun M3 => q_let (q_up M3 57 2 (58 : Int)) fun M4 => q_let (q_aln 59 M4) fun M5 => q_let (q_up M5 57 3 (59 : Int)) fun M6 => q_let (q_aln 60 M6) fun M7 => q_let (q_up M7 57 4 (60 : Int)) fun M8 => q_let (q_aln 61 M8) fun M9 => q_let (q_up M9 57 5 (61 : Int)) fun M10 => q_let (q_aln 62 M10) fun M11 => q_let (q_up M11 57 6 (62 : Int)) fun M12 => q_let (q_up M12 57 7 0) fun M13 => q_let (q_aln 63 M13) fun M14 => q_let (q_up M14 57 8 (63 : Int)) fun M15 => q_let (q_aln 64 M15) fun M16 => q_let (q_up M16 57 9 (64 : Int)) fun M17 => q_let (q_aln 65 M17) fun M18 => q_let (q_up M18 57 10 (65 : Int)) fun M19 => q_let (q_up M19 57 11 0) fun M20 => q_let (q_aln 66 M20) fun M21 => q_let (q_up M21 57 12 (66 : Int)) fun M22 => q_let (q_aln 67 M22) fun M23 => q_let (q_up M23 57 13 (67 : Int)) fun M24 => q_let (q_aln 68 M24) fun M25 => q_let (gi_X0_init_68 M25) fun M26 => q_let (q_up M26 57 14 (68 : Int)) fun M27 => q_let (q_aln 70 M27) fun M28 => q_let (gi_X0_init_70 M28) fun M29 => q_let (q_up M29 57 15 (70 : Int)) fun M30 => q_let (q_up M30 57 16 0) fun M31 => q_let (q_up M31 57 17 0) fun M32 => some (0, M32)
set_option maxRecDepth 20000 in
theorem ti_X2_init_57 {d : Nat} (hd : 2 ≤ d) (M : q_Mem) (hM : M.1 = 58) (hV : q_RV M) : q_EX d yX2_init cX2_init 1 none 0 (q_args 0 [.inr (.inr 57)]) [] M (some (0, gi_X2_init_57 M)) := by
  obtain ⟨d, rfl⟩ : ∃ d', d = d' + 1 := ⟨d - 1, by omega⟩
  show q_EX _ _ _ _ _ 0 [(0, .inr (.inr 57))] [] M (fi_X2_init_57 M)
  unfold fi_X2_init_57
  refine q_aload_n 0 dX2_init_0 rfl rfl ?_
  refine q_objI oi_X2_3 oi_2 oi_3 (Nat.le_of_ble_eq_true rfl) dX2_init_1 ?_
  refine q_aload_n 0 dX2_init_4 rfl rfl ?_
  refine q_iconst dX2_init_5 ?_
  refine q_puti fl_X2_9 sh_57 (by omega) (fun h => q_Ok_put h sh_57 rfl) rfl dX2_init_6 (fun M1 hM1 => ?_)
  have hnM1 : M1.1 = 58 := by rw [hM1]; exact hM
  have hVM1 : q_RV M1 := by rw [hM1]; exact q_RV_i hV sh_57 rfl
  refine q_aload_n 0 dX2_init_9 rfl rfl ?_
  refine q_iconst dX2_init_10 ?_
  refine q_puti fl_X2_15 sh_57 (by omega) (fun h => q_Ok_put h sh_57 rfl) rfl dX2_init_11 (fun M2 hM2 => ?_)
  have hnM2 : M2.1 = 58 := by rw [hM2]; exact hnM1
  have hVM2 : q_RV M2 := by rw [hM2]; exact q_RV_i hVM1 sh_57 rfl
  refine q_aload_n 0 dX2_init_14 rfl rfl ?_
  refine q_bipush dX2_init_15 (by decide) ?_
  refine q_newaI (n := 58) (N := 6) q_XM_T hVM2 hnM2 (by decide) sh_58 rfl rfl (by decide) (by decide) (by decide) ak_int dX2_init_17 (fun M3 hM3 hnM3 hVM3 => ?_)
  refine q_putF fl_X2_18 rfl rfl sh_57 (by omega) (by omega) (fun h => q_Ok_fx (by decide +kernel) h) rfl dX2_init_19 (fun M4 hM4 => ?_)
  have hnM4 : M4.1 = 59 := by rw [hM4]; exact hnM3
  have hVM4 : q_RV M4 := by rw [hM4]; exact q_RV_r hVM3 (by omega)
  refine q_aload_n 0 dX2_init_22 rfl rfl ?_
  refine q_bipush dX2_init_23 (by decide) ?_
  refine q_newaI (n := 59) (N := 6) q_XM_T hVM4 hnM4 (by decide) sh_59 rfl rfl (by decide) (by decide) (by decide) ak_int dX2_init_25 (fun M5 hM5 hnM5 hVM5 => ?_)
  refine q_putF fl_X2_22 rfl rfl sh_57 (by omega) (by omega) (fun h => q_Ok_fx (by decide +kernel) h) rfl dX2_init_27 (fun M6 hM6 => ?_)
  have hnM6 : M6.1 = 60 := by rw [hM6]; exact hnM5
  have hVM6 : q_RV M6 := by rw [hM6]; exact q_RV_r hVM5 (by omega)
  refine q_aload_n 0 dX2_init_30 rfl rfl ?_
  refine q_bipush dX2_init_31 (by decide) ?_
  refine q_newaI (n := 60) (N := 6) q_XM_T hVM6 hnM6 (by decide) sh_60 rfl rfl (by decide) (by decide) (by decide) ak_int dX2_init_33 (fun M7 hM7 hnM7 hVM7 => ?_)
  refine q_putF fl_X2_25 rfl rfl sh_57 (by omega) (by omega) (fun h => q_Ok_fx (by decide +kernel) h) rfl dX2_init_35 (fun M8 hM8 => ?_)
  have hnM8 : M8.1 = 61 := by rw [hM8]; exact hnM7
  have hVM8 : q_RV M8 := by rw [hM8]; exact q_RV_r hVM7 (by omega)
  refine q_aload_n 0 dX2_init_38 rfl rfl ?_
  refine q_bipush dX2_init_39 (by decide) ?_
  refine q_newaI (n := 61) (N := 6) q_XM_T hVM8 hnM8 (by decide) sh_61 rfl rfl (by decide) (by decide) (by decide) ak_int dX2_init_41 (fun M9 hM9 hnM9 hVM9 => ?_)
  refine q_putF fl_X2_28 rfl rfl sh_57 (by omega) (by omega) (fun h => q_Ok_fx (by decide +kernel) h) rfl dX2_init_43 (fun M10 hM10 => ?_)
  have hnM10 : M10.1 = 62 := by rw [hM10]; exact hnM9
  have hVM10 : q_RV M10 := by rw [hM10]; exact q_RV_r hVM9 (by omega)
  refine q_aload_n 0 dX2_init_46 rfl rfl ?_
  refine q_bipush dX2_init_47 (by decide) ?_
  refine q_newaI (n := 62) (N := 6) q_XM_T hVM10 hnM10 (by decide) sh_62 rfl rfl (by decide) (by decide) (by decide) ak_int dX2_init_49 (fun M11 hM11 hnM11 hVM11 => ?_)
  refine q_putF fl_X2_31 rfl rfl sh_57 (by omega) (by omega) (fun h => q_Ok_fx (by decide +kernel) h) rfl dX2_init_51 (fun M12 hM12 => ?_)
  have hnM12 : M12.1 = 63 := by rw [hM12]; exact hnM11
  have hVM12 : q_RV M12 := by rw [hM12]; exact q_RV_r hVM11 (by omega)
  refine q_aload_n 0 dX2_init_54 rfl rfl ?_
  refine q_iconst dX2_init_55 ?_
  refine q_puti fl_X2_34 sh_57 (by omega) (fun h => q_Ok_put h sh_57 rfl) rfl dX2_init_56 (fun M13 hM13 => ?_)
  have hnM13 : M13.1 = 63 := by rw [hM13]; exact hnM12
  have hVM13 : q_RV M13 := by rw [hM13]; exact q_RV_i hVM12 sh_57 rfl
  refine q_aload_n 0 dX2_init_59 rfl rfl ?_
  refine q_bipush dX2_init_60 (by decide) ?_
  refine q_newaI (n := 63) (N := 8) q_XM_T hVM13 hnM13 (by decide) sh_63 rfl rfl (by decide) (by decide) (by decide) ak_int dX2_init_62 (fun M14 hM14 hnM14 hVM14 => ?_)
  refine q_putF fl_X2_37 rfl rfl sh_57 (by omega) (by omega) (fun h => q_Ok_fx (by decide +kernel) h) rfl dX2_init_64 (fun M15 hM15 => ?_)
  have hnM15 : M15.1 = 64 := by rw [hM15]; exact hnM14
  have hVM15 : q_RV M15 := by rw [hM15]; exact q_RV_r hVM14 (by omega)
  refine q_aload_n 0 dX2_init_67 rfl rfl ?_
  refine q_bipush dX2_init_68 (by decide) ?_
  refine q_newaI (n := 64) (N := 8) q_XM_T hVM15 hnM15 (by decide) sh_64 rfl rfl (by decide) (by decide) (by decide) ak_int dX2_init_70 (fun M16 hM16 hnM16 hVM16 => ?_)
  refine q_putF fl_X2_40 rfl rfl sh_57 (by omega) (by omega) (fun h => q_Ok_fx (by decide +kernel) h) rfl dX2_init_72 (fun M17 hM17 => ?_)
  have hnM17 : M17.1 = 65 := by rw [hM17]; exact hnM16
  have hVM17 : q_RV M17 := by rw [hM17]; exact q_RV_r hVM16 (by omega)
  refine q_aload_n 0 dX2_init_75 rfl rfl ?_
  refine q_bipush dX2_init_76 (by decide) ?_
  refine q_newaI (n := 65) (N := 8) q_XM_T hVM17 hnM17 (by decide) sh_65 rfl rfl (by decide) (by decide) (by decide) ak_int dX2_init_78 (fun M18 hM18 hnM18 hVM18 => ?_)
  refine q_putF fl_X2_43 rfl rfl sh_57 (by omega) (by omega) (fun h => q_Ok_fx (by decide +kernel) h) rfl dX2_init_80 (fun M19 hM19 => ?_)
  have hnM19 : M19.1 = 66 := by rw [hM19]; exact hnM18
  have hVM19 : q_RV M19 := by rw [hM19]; exact q_RV_r hVM18 (by omega)
  refine q_aload_n 0 dX2_init_83 rfl rfl ?_
  refine q_iconst dX2_init_84 ?_
  refine q_puti fl_X2_46 sh_57 (by omega) (fun h => q_Ok_put h sh_57 rfl) rfl dX2_init_85 (fun M20 hM20 => ?_)
  have hnM20 : M20.1 = 66 := by rw [hM20]; exact hnM19
  have hVM20 : q_RV M20 := by rw [hM20]; exact q_RV_i hVM19 sh_57 rfl
  refine q_aload_n 0 dX2_init_88 rfl rfl ?_
  refine q_bipush dX2_init_89 (by decide) ?_
  refine q_newaI (n := 66) (N := 8) q_XM_T hVM20 hnM20 (by decide) sh_66 rfl rfl (by decide) (by decide) (by decide) ak_int dX2_init_91 (fun M21 hM21 hnM21 hVM21 => ?_)
  refine q_putF fl_X2_49 rfl rfl sh_57 (by omega) (by omega) (fun h => q_Ok_fx (by decide +kernel) h) rfl dX2_init_93 (fun M22 hM22 => ?_)
  have hnM22 : M22.1 = 67 := by rw [hM22]; exact hnM21
  have hVM22 : q_RV M22 := by rw [hM22]; exact q_RV_r hVM21 (by omega)
  refine q_aload_n 0 dX2_init_96 rfl rfl ?_
  refine q_bipush dX2_init_97 (by decide) ?_
  refine q_newaI (n := 67) (N := 8) q_XM_T hVM22 hnM22 (by decide) sh_67 rfl rfl (by decide) (by decide) (by decide) ak_int dX2_init_99 (fun M23 hM23 hnM23 hVM23 => ?_)
  refine q_putF fl_X2_52 rfl rfl sh_57 (by omega) (by omega) (fun h => q_Ok_fx (by decide +kernel) h) rfl dX2_init_101 (fun M24 hM24 => ?_)
  have hnM24 : M24.1 = 68 := by rw [hM24]; exact hnM23
  have hVM24 : q_RV M24 := by rw [hM24]; exact q_RV_r hVM23 (by omega)
  refine q_aload_n 0 dX2_init_104 rfl rfl ?_
  refine q_new (n := 68) q_XM_T hVM24 hnM24 (by decide) sh_68 cf_0 df_0 rfl rfl cl_X2_55 in_0 ni_X0 dX2_init_105 (fun M25 hM25 hnM25 hVM25 => ?_)
  refine q_dup dX2_init_108 rfl ?_
  refine q_callIN (As := []) q_XM_T mb_X0_init im_X0_init rfl mn_X2_57 (by rw [hnM25]; rfl) (by rw [hnM25]; rfl) (by omega) rfl (Nat.le_of_ble_eq_true rfl) rfl (Nat.le_of_ble_eq_true rfl) dX2_init_109 (ti_X0_init_68 (by omega) M25 hnM25 hVM25) (fun M26 hM26 hrM26 => ?_)
  have hnM26 : M26.1 = 70 := by rw [hM26]; exact gc_X0_init_68 M25 hnM25
  have hVM26 : q_RV M26 := hrM26 (by omega) hVM25
  refine q_putF fl_X2_58 rfl rfl sh_57 (by omega) (by omega) (fun h => q_Ok_fx (by decide +kernel) h) rfl dX2_init_112 (fun M27 hM27 => ?_)
  have hnM27 : M27.1 = 70 := by rw [hM27]; exact hnM26
  have hVM27 : q_RV M27 := by rw [hM27]; exact q_RV_r hVM26 (by omega)
  refine q_aload_n 0 dX2_init_115 rfl rfl ?_
  refine q_new (n := 70) q_XM_T hVM27 hnM27 (by decide) sh_70 cf_0 df_0 rfl rfl cl_X2_55 in_0 ni_X0 dX2_init_116 (fun M28 hM28 hnM28 hVM28 => ?_)
  refine q_dup dX2_init_119 rfl ?_
  refine q_callIN (As := []) q_XM_T mb_X0_init im_X0_init rfl mn_X2_57 (by rw [hnM28]; rfl) (by rw [hnM28]; rfl) (by omega) rfl (Nat.le_of_ble_eq_true rfl) rfl (Nat.le_of_ble_eq_true rfl) dX2_init_120 (ti_X0_init_70 (by omega) M28 hnM28 hVM28) (fun M29 hM29 hrM29 => ?_)
  have hnM29 : M29.1 = 72 := by rw [hM29]; exact gc_X0_init_70 M28 hnM28
  have hVM29 : q_RV M29 := hrM29 (by omega) hVM28
  refine q_putF fl_X2_62 rfl rfl sh_57 (by omega) (by omega) (fun h => q_Ok_fx (by decide +kernel) h) rfl dX2_init_123 (fun M30 hM30 => ?_)
  have hnM30 : M30.1 = 72 := by rw [hM30]; exact hnM29
  have hVM30 : q_RV M30 := by rw [hM30]; exact q_RV_r hVM29 (by omega)
  refine q_aload_n 0 dX2_init_126 rfl rfl ?_
  refine q_iconst dX2_init_127 ?_
  refine q_puti fl_X2_65 sh_57 (by omega) (fun h => q_Ok_put h sh_57 rfl) rfl dX2_init_128 (fun M31 hM31 => ?_)
  have hnM31 : M31.1 = 72 := by rw [hM31]; exact hnM30
  have hVM31 : q_RV M31 := by rw [hM31]; exact q_RV_i hVM30 sh_57 rfl
  refine q_aload_n 0 dX2_init_131 rfl rfl ?_
  refine q_iconst dX2_init_132 ?_
  refine q_puti fl_X2_68 sh_57 (by omega) (fun h => q_Ok_put h sh_57 rfl) rfl dX2_init_133 (fun M32 hM32 => ?_)
  have hnM32 : M32.1 = 72 := by rw [hM32]; exact hnM31
  have hVM32 : q_RV M32 := by rw [hM32]; exact q_RV_i hVM31 sh_57 rfl
  exact q_ret dX2_init_136 rfl
def gi_X0_init_83 (M : q_Mem) : q_Mem := q_let (q_aln 84 M) fun M1 => q_let (q_up M1 83 0 (84 : Int)) fun M2 => q_let (q_up M2 83 1 0) fun M3 => M3
theorem gc_X0_init_83 (M : q_Mem) (hM : M.1 = 84) : (gi_X0_init_83 M).1 = 85 := by first | exact hM | rfl
def fi_X0_init_83 (M : q_Mem) : Option (Int × q_Mem) := q_let (q_aln 84 M) fun M1 => q_let (q_up M1 83 0 (84 : Int)) fun M2 => q_let (q_up M2 83 1 0) fun M3 => some (0, M3)
set_option maxRecDepth 20000 in
theorem ti_X0_init_83 {d : Nat} (hd : 1 ≤ d) (M : q_Mem) (hM : M.1 = 84) (hV : q_RV M) : q_EX d yX0_init cX0_init 1 none 0 (q_args 0 [.inr (.inr 83)]) [] M (some (0, gi_X0_init_83 M)) := by
  obtain ⟨d, rfl⟩ : ∃ d', d = d' + 1 := ⟨d - 1, by omega⟩
  show q_EX _ _ _ _ _ 0 [(0, .inr (.inr 83))] [] M (fi_X0_init_83 M)
  unfold fi_X0_init_83
  refine q_aload_n 0 dX0_init_0 rfl rfl ?_
  refine q_objI oi_X0_3 oi_2 oi_3 (Nat.le_of_ble_eq_true rfl) dX0_init_1 ?_
  refine q_aload_n 0 dX0_init_4 rfl rfl ?_
  refine q_sipush dX0_init_5 (by decide) ?_
  refine q_newaI (n := 84) (N := 1600) q_XM_T hV hM (by decide) sh_84 rfl rfl (by decide) (by decide) (by decide) ak_int dX0_init_8 (fun M1 hM1 hnM1 hVM1 => ?_)
  refine q_putF fl_X0_9 rfl rfl sh_83 (by omega) (by omega) (fun h => q_Ok_fx (by decide +kernel) h) rfl dX0_init_10 (fun M2 hM2 => ?_)
  have hnM2 : M2.1 = 85 := by rw [hM2]; exact hnM1
  have hVM2 : q_RV M2 := by rw [hM2]; exact q_RV_r hVM1 (by omega)
  refine q_aload_n 0 dX0_init_13 rfl rfl ?_
  refine q_iconst dX0_init_14 ?_
  refine q_puti fl_X0_15 sh_83 (by omega) (fun h => q_Ok_put h sh_83 rfl) rfl dX0_init_15 (fun M3 hM3 => ?_)
  have hnM3 : M3.1 = 85 := by rw [hM3]; exact hnM2
  have hVM3 : q_RV M3 := by rw [hM3]; exact q_RV_i hVM2 sh_83 rfl
  exact q_ret dX0_init_18 rfl
def gi_X0_init_85 (M : q_Mem) : q_Mem := q_let (q_aln 86 M) fun M1 => q_let (q_up M1 85 0 (86 : Int)) fun M2 => q_let (q_up M2 85 1 0) fun M3 => M3
theorem gc_X0_init_85 (M : q_Mem) (hM : M.1 = 86) : (gi_X0_init_85 M).1 = 87 := by first | exact hM | rfl
def fi_X0_init_85 (M : q_Mem) : Option (Int × q_Mem) := q_let (q_aln 86 M) fun M1 => q_let (q_up M1 85 0 (86 : Int)) fun M2 => q_let (q_up M2 85 1 0) fun M3 => some (0, M3)
set_option maxRecDepth 20000 in
theorem ti_X0_init_85 {d : Nat} (hd : 1 ≤ d) (M : q_Mem) (hM : M.1 = 86) (hV : q_RV M) : q_EX d yX0_init cX0_init 1 none 0 (q_args 0 [.inr (.inr 85)]) [] M (some (0, gi_X0_init_85 M)) := by
  obtain ⟨d, rfl⟩ : ∃ d', d = d' + 1 := ⟨d - 1, by omega⟩
  show q_EX _ _ _ _ _ 0 [(0, .inr (.inr 85))] [] M (fi_X0_init_85 M)
  unfold fi_X0_init_85
  refine q_aload_n 0 dX0_init_0 rfl rfl ?_
  refine q_objI oi_X0_3 oi_2 oi_3 (Nat.le_of_ble_eq_true rfl) dX0_init_1 ?_
  refine q_aload_n 0 dX0_init_4 rfl rfl ?_
  refine q_sipush dX0_init_5 (by decide) ?_
  refine q_newaI (n := 86) (N := 1600) q_XM_T hV hM (by decide) sh_86 rfl rfl (by decide) (by decide) (by decide) ak_int dX0_init_8 (fun M1 hM1 hnM1 hVM1 => ?_)
  refine q_putF fl_X0_9 rfl rfl sh_85 (by omega) (by omega) (fun h => q_Ok_fx (by decide +kernel) h) rfl dX0_init_10 (fun M2 hM2 => ?_)
  have hnM2 : M2.1 = 87 := by rw [hM2]; exact hnM1
  have hVM2 : q_RV M2 := by rw [hM2]; exact q_RV_r hVM1 (by omega)
  refine q_aload_n 0 dX0_init_13 rfl rfl ?_
  refine q_iconst dX0_init_14 ?_
  refine q_puti fl_X0_15 sh_85 (by omega) (fun h => q_Ok_put h sh_85 rfl) rfl dX0_init_15 (fun M3 hM3 => ?_)
  have hnM3 : M3.1 = 87 := by rw [hM3]; exact hnM2
  have hVM3 : q_RV M3 := by rw [hM3]; exact q_RV_i hVM2 sh_85 rfl
  exact q_ret dX0_init_18 rfl
def gi_X2_init_72 (M : q_Mem) : q_Mem := q_let (q_up M 72 0 0) fun M1 => q_let (q_up M1 72 1 0) fun M2 => q_let (q_aln 73 M2) fun M3 => q_let (q_up M3 72 2 (73 : Int)) fun M4 => q_let (q_aln 74 M4) fun M5 => q_let (q_up M5 72 3 (74 : Int)) fun M6 => q_let (q_aln 75 M6) fun M7 => q_let (q_up M7 72 4 (75 : Int)) fun M8 => q_let (q_aln 76 M8) fun M9 => q_let (q_up M9 72 5 (76 : Int)) fun M10 => q_let (q_aln 77 M10) fun M11 => q_let (q_up M11 72 6 (77 : Int)) fun M12 => q_let (q_up M12 72 7 0) fun M13 => q_let (q_aln 78 M13) fun M14 => q_let (q_up M14 72 8 (78 : Int)) fun M15 => q_let (q_aln 79 M15) fun M16 => q_let (q_up M16 72 9 (79 : Int)) fun M17 => q_let (q_aln 80 M17) fun M18 => q_let (q_up M18 72 10 (80 : Int)) fun M19 => q_let (q_up M19 72 11 0) fun M20 => q_let (q_aln 81 M20) fun M21 => q_let (q_up M21 72 12 (81 : Int)) fun M22 => q_let (q_aln 82 M22) fun M23 => q_let (q_up M23 72 13 (82 : Int)) fun M24 => q_let (q_aln 83 M24) fun M25 => q_let (gi_X0_init_83 M25) fun M26 => q_let (q_up M26 72 14 (83 : Int)) fun M27 => q_let (q_aln 85 M27) fun M28 => q_let (gi_X0_init_85 M28) fun M29 => q_let (q_up M29 72 15 (85 : Int)) fun M30 => q_let (q_up M30 72 16 0) fun M31 => q_let (q_up M31 72 17 0) fun M32 => M32
theorem gc_X2_init_72 (M : q_Mem) (hM : M.1 = 73) : (gi_X2_init_72 M).1 = 87 := by first | exact hM | rfl
def fi_X2_init_72 (M : q_Mem) : Option (Int × q_Mem) := q_let (q_up M 72 0 0) fun M1 => q_let (q_up M1 72 1 0) fun M2 => q_let (q_aln 73 M2) fun M3 => q_let (q_up M3 72 2 (73 : Int)) fun M4 => q_let (q_aln 74 M4) fun M5 => q_let (q_up M5 72 3 (74 : Int)) fun M6 => q_let (q_aln 75 M6) fun M7 => q_let (q_up M7 72 4 (75 : Int)) fun M8 => q_let (q_aln 76 M8) fun M9 => q_let (q_up M9 72 5 (76 : Int)) fun M10 => q_let (q_aln 77 M10) fun M11 => q_let (q_up M11 72 6 (77 : Int)) fun M12 => q_let (q_up M12 72 7 0) fun M13 => q_let (q_aln 78 M13) fun M14 => q_let (q_up M14 72 8 (78 : Int)) fun M15 => q_let (q_aln 79 M15) fun M16 => q_let (q_up M16 72 9 (79 : Int)) fun M17 => q_let (q_aln 80 M17) fun M18 => q_let (q_up M18 72 10 (80 : Int)) fun M19 => q_let (q_up M19 72 11 0) fun M20 => q_let (q_aln 81 M20) fun M21 => q_let (q_up M21 72 12 (81 : Int)) fun M22 => q_let (q_aln 82 M22) fun M23 => q_let (q_up M23 72 13 (82 : Int)) fun M24 => q_let (q_aln 83 M24) fun M25 => q_let (gi_X0_init_83 M25) fun M26 => q_let (q_up M26 72 14 (83 : Int)) fun M27 => q_let (q_aln 85 M27) fun M28 => q_let (gi_X0_init_85 M28) fun M29 => q_let (q_up M29 72 15 (85 : Int)) fun M30 => q_let (q_up M30 72 16 0) fun M31 => q_let (q_up M31 72 17 0) fun M32 => some (0, M32)
set_option maxRecDepth 20000 in
theorem ti_X2_init_72 {d : Nat} (hd : 2 ≤ d) (M : q_Mem) (hM : M.1 = 73) (hV : q_RV M) : q_EX d yX2_init cX2_init 1 none 0 (q_args 0 [.inr (.inr 72)]) [] M (some (0, gi_X2_init_72 M)) := by
  obtain ⟨d, rfl⟩ : ∃ d', d = d' + 1 := ⟨d - 1, by omega⟩
  show q_EX _ _ _ _ _ 0 [(0, .inr (.inr 72))] [] M (fi_X2_init_72 M)
  unfold fi_X2_init_72
  refine q_aload_n 0 dX2_init_0 rfl rfl ?_
  refine q_objI oi_X2_3 oi_2 oi_3 (Nat.le_of_ble_eq_true rfl) dX2_init_1 ?_
  refine q_aload_n 0 dX2_init_4 rfl rfl ?_
  refine q_iconst dX2_init_5 ?_
  refine q_puti fl_X2_9 sh_72 (by omega) (fun h => q_Ok_put h sh_72 rfl) rfl dX2_init_6 (fun M1 hM1 => ?_)
  have hnM1 : M1.1 = 73 := by rw [hM1]; exact hM
  have hVM1 : q_RV M1 := by rw [hM1]; exact q_RV_i hV sh_72 rfl
  refine q_aload_n 0 dX2_init_9 rfl rfl ?_
  refine q_iconst dX2_init_10 ?_
  refine q_puti fl_X2_15 sh_72 (by omega) (fun h => q_Ok_put h sh_72 rfl) rfl dX2_init_11 (fun M2 hM2 => ?_)
  have hnM2 : M2.1 = 73 := by rw [hM2]; exact hnM1
  have hVM2 : q_RV M2 := by rw [hM2]; exact q_RV_i hVM1 sh_72 rfl
  refine q_aload_n 0 dX2_init_14 rfl rfl ?_
  refine q_bipush dX2_init_15 (by decide) ?_
  refine q_newaI (n := 73) (N := 6) q_XM_T hVM2 hnM2 (by decide) sh_73 rfl rfl (by decide) (by decide) (by decide) ak_int dX2_init_17 (fun M3 hM3 hnM3 hVM3 => ?_)
  refine q_putF fl_X2_18 rfl rfl sh_72 (by omega) (by omega) (fun h => q_Ok_fx (by decide +kernel) h) rfl dX2_init_19 (fun M4 hM4 => ?_)
  have hnM4 : M4.1 = 74 := by rw [hM4]; exact hnM3
  have hVM4 : q_RV M4 := by rw [hM4]; exact q_RV_r hVM3 (by omega)
  refine q_aload_n 0 dX2_init_22 rfl rfl ?_
  refine q_bipush dX2_init_23 (by decide) ?_
  refine q_newaI (n := 74) (N := 6) q_XM_T hVM4 hnM4 (by decide) sh_74 rfl rfl (by decide) (by decide) (by decide) ak_int dX2_init_25 (fun M5 hM5 hnM5 hVM5 => ?_)
  refine q_putF fl_X2_22 rfl rfl sh_72 (by omega) (by omega) (fun h => q_Ok_fx (by decide +kernel) h) rfl dX2_init_27 (fun M6 hM6 => ?_)
  have hnM6 : M6.1 = 75 := by rw [hM6]; exact hnM5
  have hVM6 : q_RV M6 := by rw [hM6]; exact q_RV_r hVM5 (by omega)
  refine q_aload_n 0 dX2_init_30 rfl rfl ?_
  refine q_bipush dX2_init_31 (by decide) ?_
  refine q_newaI (n := 75) (N := 6) q_XM_T hVM6 hnM6 (by decide) sh_75 rfl rfl (by decide) (by decide) (by decide) ak_int dX2_init_33 (fun M7 hM7 hnM7 hVM7 => ?_)
  refine q_putF fl_X2_25 rfl rfl sh_72 (by omega) (by omega) (fun h => q_Ok_fx (by decide +kernel) h) rfl dX2_init_35 (fun M8 hM8 => ?_)
  have hnM8 : M8.1 = 76 := by rw [hM8]; exact hnM7
  have hVM8 : q_RV M8 := by rw [hM8]; exact q_RV_r hVM7 (by omega)
  refine q_aload_n 0 dX2_init_38 rfl rfl ?_
  refine q_bipush dX2_init_39 (by decide) ?_
  refine q_newaI (n := 76) (N := 6) q_XM_T hVM8 hnM8 (by decide) sh_76 rfl rfl (by decide) (by decide) (by decide) ak_int dX2_init_41 (fun M9 hM9 hnM9 hVM9 => ?_)
  refine q_putF fl_X2_28 rfl rfl sh_72 (by omega) (by omega) (fun h => q_Ok_fx (by decide +kernel) h) rfl dX2_init_43 (fun M10 hM10 => ?_)
  have hnM10 : M10.1 = 77 := by rw [hM10]; exact hnM9
  have hVM10 : q_RV M10 := by rw [hM10]; exact q_RV_r hVM9 (by omega)
  refine q_aload_n 0 dX2_init_46 rfl rfl ?_
  refine q_bipush dX2_init_47 (by decide) ?_
  refine q_newaI (n := 77) (N := 6) q_XM_T hVM10 hnM10 (by decide) sh_77 rfl rfl (by decide) (by decide) (by decide) ak_int dX2_init_49 (fun M11 hM11 hnM11 hVM11 => ?_)
  refine q_putF fl_X2_31 rfl rfl sh_72 (by omega) (by omega) (fun h => q_Ok_fx (by decide +kernel) h) rfl dX2_init_51 (fun M12 hM12 => ?_)
  have hnM12 : M12.1 = 78 := by rw [hM12]; exact hnM11
  have hVM12 : q_RV M12 := by rw [hM12]; exact q_RV_r hVM11 (by omega)
  refine q_aload_n 0 dX2_init_54 rfl rfl ?_
  refine q_iconst dX2_init_55 ?_
  refine q_puti fl_X2_34 sh_72 (by omega) (fun h => q_Ok_put h sh_72 rfl) rfl dX2_init_56 (fun M13 hM13 => ?_)
  have hnM13 : M13.1 = 78 := by rw [hM13]; exact hnM12
  have hVM13 : q_RV M13 := by rw [hM13]; exact q_RV_i hVM12 sh_72 rfl
  refine q_aload_n 0 dX2_init_59 rfl rfl ?_
  refine q_bipush dX2_init_60 (by decide) ?_
  refine q_newaI (n := 78) (N := 8) q_XM_T hVM13 hnM13 (by decide) sh_78 rfl rfl (by decide) (by decide) (by decide) ak_int dX2_init_62 (fun M14 hM14 hnM14 hVM14 => ?_)
  refine q_putF fl_X2_37 rfl rfl sh_72 (by omega) (by omega) (fun h => q_Ok_fx (by decide +kernel) h) rfl dX2_init_64 (fun M15 hM15 => ?_)
  have hnM15 : M15.1 = 79 := by rw [hM15]; exact hnM14
  have hVM15 : q_RV M15 := by rw [hM15]; exact q_RV_r hVM14 (by omega)
  refine q_aload_n 0 dX2_init_67 rfl rfl ?_
  refine q_bipush dX2_init_68 (by decide) ?_
  refine q_newaI (n := 79) (N := 8) q_XM_T hVM15 hnM15 (by decide) sh_79 rfl rfl (by decide) (by decide) (by decide) ak_int dX2_init_70 (fun M16 hM16 hnM16 hVM16 => ?_)
  refine q_putF fl_X2_40 rfl rfl sh_72 (by omega) (by omega) (fun h => q_Ok_fx (by decide +kernel) h) rfl dX2_init_72 (fun M17 hM17 => ?_)
  have hnM17 : M17.1 = 80 := by rw [hM17]; exact hnM16
  have hVM17 : q_RV M17 := by rw [hM17]; exact q_RV_r hVM16 (by omega)
  refine q_aload_n 0 dX2_init_75 rfl rfl ?_
  refine q_bipush dX2_init_76 (by decide) ?_
  refine q_newaI (n := 80) (N := 8) q_XM_T hVM17 hnM17 (by decide) sh_80 rfl rfl (by decide) (by decide) (by decide) ak_int dX2_init_78 (fun M18 hM18 hnM18 hVM18 => ?_)
  refine q_putF fl_X2_43 rfl rfl sh_72 (by omega) (by omega) (fun h => q_Ok_fx (by decide +kernel) h) rfl dX2_init_80 (fun M19 hM19 => ?_)
  have hnM19 : M19.1 = 81 := by rw [hM19]; exact hnM18
  have hVM19 : q_RV M19 := by rw [hM19]; exact q_RV_r hVM18 (by omega)
  refine q_aload_n 0 dX2_init_83 rfl rfl ?_
  refine q_iconst dX2_init_84 ?_
  refine q_puti fl_X2_46 sh_72 (by omega) (fun h => q_Ok_put h sh_72 rfl) rfl dX2_init_85 (fun M20 hM20 => ?_)
  have hnM20 : M20.1 = 81 := by rw [hM20]; exact hnM19
  have hVM20 : q_RV M20 := by rw [hM20]; exact q_RV_i hVM19 sh_72 rfl
  refine q_aload_n 0 dX2_init_88 rfl rfl ?_
  refine q_bipush dX2_init_89 (by decide) ?_
  refine q_newaI (n := 81) (N := 8) q_XM_T hVM20 hnM20 (by decide) sh_81 rfl rfl (by decide) (by decide) (by decide) ak_int dX2_init_91 (fun M21 hM21 hnM21 hVM21 => ?_)
  refine q_putF fl_X2_49 rfl rfl sh_72 (by omega) (by omega) (fun h => q_Ok_fx (by decide +kernel) h) rfl dX2_init_93 (fun M22 hM22 => ?_)
  have hnM22 : M22.1 = 82 := by rw [hM22]; exact hnM21
  have hVM22 : q_RV M22 := by rw [hM22]; exact q_RV_r hVM21 (by omega)
  refine q_aload_n 0 dX2_init_96 rfl rfl ?_
  refine q_bipush dX2_init_97 (by decide) ?_
  refine q_newaI (n := 82) (N := 8) q_XM_T hVM22 hnM22 (by decide) sh_82 rfl rfl (by decide) (by decide) (by decide) ak_int dX2_init_99 (fun M23 hM23 hnM23 hVM23 => ?_)
  refine q_putF fl_X2_52 rfl rfl sh_72 (by omega) (by omega) (fun h => q_Ok_fx (by decide +kernel) h) rfl dX2_init_101 (fun M24 hM24 => ?_)
  have hnM24 : M24.1 = 83 := by rw [hM24]; exact hnM23
  have hVM24 : q_RV M24 := by rw [hM24]; exact q_RV_r hVM23 (by omega)
  refine q_aload_n 0 dX2_init_104 rfl rfl ?_
  refine q_new (n := 83) q_XM_T hVM24 hnM24 (by decide) sh_83 cf_0 df_0 rfl rfl cl_X2_55 in_0 ni_X0 dX2_init_105 (fun M25 hM25 hnM25 hVM25 => ?_)
  refine q_dup dX2_init_108 rfl ?_
  refine q_callIN (As := []) q_XM_T mb_X0_init im_X0_init rfl mn_X2_57 (by rw [hnM25]; rfl) (by rw [hnM25]; rfl) (by omega) rfl (Nat.le_of_ble_eq_true rfl) rfl (Nat.le_of_ble_eq_true rfl) dX2_init_109 (ti_X0_init_83 (by omega) M25 hnM25 hVM25) (fun M26 hM26 hrM26 => ?_)
  have hnM26 : M26.1 = 85 := by rw [hM26]; exact gc_X0_init_83 M25 hnM25
  have hVM26 : q_RV M26 := hrM26 (by omega) hVM25
  refine q_putF fl_X2_58 rfl rfl sh_72 (by omega) (by omega) (fun h => q_Ok_fx (by decide +kernel) h) rfl dX2_init_112 (fun M27 hM27 => ?_)
  have hnM27 : M27.1 = 85 := by rw [hM27]; exact hnM26
  have hVM27 : q_RV M27 := by rw [hM27]; exact q_RV_r hVM26 (by omega)
  refine q_aload_n 0 dX2_init_115 rfl rfl ?_
  refine q_new (n := 85) q_XM_T hVM27 hnM27 (by decide) sh_85 cf_0 df_0 rfl rfl cl_X2_55 in_0 ni_X0 dX2_init_116 (fun M28 hM28 hnM28 hVM28 => ?_)
  refine q_dup dX2_init_119 rfl ?_
  refine q_callIN (As := []) q_XM_T mb_X0_init im_X0_init rfl mn_X2_57 (by rw [hnM28]; rfl) (by rw [hnM28]; rfl) (by omega) rfl (Nat.le_of_ble_eq_true rfl) rfl (Nat.le_of_ble_eq_true rfl) dX2_init_120 (ti_X0_init_85 (by omega) M28 hnM28 hVM28) (fun M29 hM29 hrM29 => ?_)
  have hnM29 : M29.1 = 87 := by rw [hM29]; exact gc_X0_init_85 M28 hnM28
  have hVM29 : q_RV M29 := hrM29 (by omega) hVM28
  refine q_putF fl_X2_62 rfl rfl sh_72 (by omega) (by omega) (fun h => q_Ok_fx (by decide +kernel) h) rfl dX2_init_123 (fun M30 hM30 => ?_)
  have hnM30 : M30.1 = 87 := by rw [hM30]; exact hnM29
  have hVM30 : q_RV M30 := by rw [hM30]; exact q_RV_r hVM29 (by omega)
  refine q_aload_n 0 dX2_init_126 rfl rfl ?_
  refine q_iconst dX2_init_127 ?_
  refine q_puti fl_X2_65 sh_72 (by omega) (fun h => q_Ok_put h sh_72 rfl) rfl dX2_init_128 (fun M31 hM31 => ?_)
  have hnM31 : M31.1 = 87 := by rw [hM31]; exact hnM30
  have hVM31 : q_RV M31 := by rw [hM31]; exact q_RV_i hVM30 sh_72 rfl
  refine q_aload_n 0 dX2_init_131 rfl rfl ?_
  refine q_iconst dX2_init_132 ?_
  refine q_puti fl_X2_68 sh_72 (by omega) (fun h => q_Ok_put h sh_72 rfl) rfl dX2_init_133 (fun M32 hM32 => ?_)
  have hnM32 : M32.1 = 87 := by rw [hM32]; exact hnM31
  have hVM32 : q_RV M32 := by rw [hM32]; exact q_RV_i hVM31 sh_72 rfl
  exact q_ret dX2_init_136 rfl
def gi_X7_init_90 (M : q_Mem) : q_Mem := q_let (q_aln 91 M) fun M1 => q_let (q_up M1 90 0 (91 : Int)) fun M2 => q_let (q_up M2 90 1 0) fun M3 => q_let (q_up M3 90 2 0) fun M4 => q_let (q_up M4 90 3 0) fun M5 => q_let (q_up M5 90 4 0) fun M6 => q_let (q_up M6 90 5 0) fun M7 => q_let (q_up M7 90 6 0) fun M8 => q_let (q_up M8 90 7 0) fun M9 => q_let (q_up M9 90 8 0) fun M10 => q_let (q_up M10 90 9 (-1)) fun M11 => q_let (q_up M11 90 10 0) fun M12 => q_let (q_aln 92 M12) fun M13 => q_let (q_up M13 90 11 (92 : Int)) fun M14 => q_let (q_aln 93 M14) fun M15 => q_let (q_up M15 90 12 (93 : Int)) fun M16 => M16
theorem gc_X7_init_90 (M : q_Mem) (hM : M.1 = 91) : (gi_X7_init_90 M).1 = 94 := by first | exact hM | rfl
def fi_X7_init_90 (M : q_Mem) : Option (Int × q_Mem) := q_let (q_aln 91 M) fun M1 => q_let (q_up M1 90 0 (91 : Int)) fun M2 => q_let (q_up M2 90 1 0) fun M3 => q_let (q_up M3 90 2 0) fun M4 => q_let (q_up M4 90 3 0) fun M5 => q_let (q_up M5 90 4 0) fun M6 => q_let (q_up M6 90 5 0) fun M7 => q_let (q_up M7 90 6 0) fun M8 => q_let (q_up M8 90 7 0) fun M9 => q_let (q_up M9 90 8 0) fun M10 => q_let (q_up M10 90 9 (-1)) fun M11 => q_let (q_up M11 90 10 0) fun M12 => q_let (q_aln 92 M12) fun M13 => q_let (q_up M13 90 11 (92 : Int)) fun M14 => q_let (q_aln 93 M14) fun M15 => q_let (q_up M15 90 12 (93 : Int)) fun M16 => some (0, M16)
set_option maxRecDepth 20000 in
theorem ti_X7_init_90 {d : Nat} (hd : 1 ≤ d) (M : q_Mem) (hM : M.1 = 91) (hV : q_RV M) : q_EX d yX7_init cX7_init 1 none 0 (q_args 0 [.inr (.inr 90)]) [] M (some (0, gi_X7_init_90 M)) := by
  obtain ⟨d, rfl⟩ : ∃ d', d = d' + 1 := ⟨d - 1, by omega⟩
  show q_EX _ _ _ _ _ 0 [(0, .inr (.inr 90))] [] M (fi_X7_init_90 M)
  unfold fi_X7_init_90
  refine q_aload_n 0 dX7_init_0 rfl rfl ?_
  refine q_objI oi_X7_3 oi_2 oi_3 (Nat.le_of_ble_eq_true rfl) dX7_init_1 ?_
  refine q_aload_n 0 dX7_init_4 rfl rfl ?_
  refine q_bipush dX7_init_5 (by decide) ?_
  refine q_newaI (n := 91) (N := 64) q_XM_T hV hM (by decide) sh_91 rfl rfl (by decide) (by decide) (by decide) ak_int dX7_init_7 (fun M1 hM1 hnM1 hVM1 => ?_)
  refine q_putF fl_X7_9 rfl rfl sh_90 (by omega) (by omega) (fun h => q_Ok_fx (by decide +kernel) h) rfl dX7_init_9 (fun M2 hM2 => ?_)
  have hnM2 : M2.1 = 92 := by rw [hM2]; exact hnM1
  have hVM2 : q_RV M2 := by rw [hM2]; exact q_RV_r hVM1 (by omega)
  refine q_aload_n 0 dX7_init_12 rfl rfl ?_
  refine q_iconst dX7_init_13 ?_
  refine q_puti fl_X7_15 sh_90 (by omega) (fun h => q_Ok_put h sh_90 rfl) rfl dX7_init_14 (fun M3 hM3 => ?_)
  have hnM3 : M3.1 = 92 := by rw [hM3]; exact hnM2
  have hVM3 : q_RV M3 := by rw [hM3]; exact q_RV_i hVM2 sh_90 rfl
  refine q_aload_n 0 dX7_init_17 rfl rfl ?_
  refine q_iconst dX7_init_18 ?_
  refine q_puti fl_X7_19 sh_90 (by omega) (fun h => q_Ok_put h sh_90 rfl) rfl dX7_init_19 (fun M4 hM4 => ?_)
  have hnM4 : M4.1 = 92 := by rw [hM4]; exact hnM3
  have hVM4 : q_RV M4 := by rw [hM4]; exact q_RV_i hVM3 sh_90 rfl
  refine q_aload_n 0 dX7_init_22 rfl rfl ?_
  refine q_iconst dX7_init_23 ?_
  refine q_puti fl_X7_22 sh_90 (by omega) (fun h => q_Ok_put h sh_90 rfl) rfl dX7_init_24 (fun M5 hM5 => ?_)
  have hnM5 : M5.1 = 92 := by rw [hM5]; exact hnM4
  have hVM5 : q_RV M5 := by rw [hM5]; exact q_RV_i hVM4 sh_90 rfl
  refine q_aload_n 0 dX7_init_27 rfl rfl ?_
  refine q_iconst dX7_init_28 ?_
  refine q_puti fl_X7_25 sh_90 (by omega) (fun h => q_Ok_put h sh_90 rfl) rfl dX7_init_29 (fun M6 hM6 => ?_)
  have hnM6 : M6.1 = 92 := by rw [hM6]; exact hnM5
  have hVM6 : q_RV M6 := by rw [hM6]; exact q_RV_i hVM5 sh_90 rfl
  refine q_aload_n 0 dX7_init_32 rfl rfl ?_
  refine q_iconst dX7_init_33 ?_
  refine q_puti fl_X7_28 sh_90 (by omega) (fun h => q_Ok_put h sh_90 rfl) rfl dX7_init_34 (fun M7 hM7 => ?_)
  have hnM7 : M7.1 = 92 := by rw [hM7]; exact hnM6
  have hVM7 : q_RV M7 := by rw [hM7]; exact q_RV_i hVM6 sh_90 rfl
  refine q_aload_n 0 dX7_init_37 rfl rfl ?_
  refine q_iconst dX7_init_38 ?_
  refine q_puti fl_X7_31 sh_90 (by omega) (fun h => q_Ok_put h sh_90 rfl) rfl dX7_init_39 (fun M8 hM8 => ?_)
  have hnM8 : M8.1 = 92 := by rw [hM8]; exact hnM7
  have hVM8 : q_RV M8 := by rw [hM8]; exact q_RV_i hVM7 sh_90 rfl
  refine q_aload_n 0 dX7_init_42 rfl rfl ?_
  refine q_iconst dX7_init_43 ?_
  refine q_puti fl_X7_34 sh_90 (by omega) (fun h => q_Ok_put h sh_90 rfl) rfl dX7_init_44 (fun M9 hM9 => ?_)
  have hnM9 : M9.1 = 92 := by rw [hM9]; exact hnM8
  have hVM9 : q_RV M9 := by rw [hM9]; exact q_RV_i hVM8 sh_90 rfl
  refine q_aload_n 0 dX7_init_47 rfl rfl ?_
  refine q_iconst dX7_init_48 ?_
  refine q_puti fl_X7_37 sh_90 (by omega) (fun h => q_Ok_put h sh_90 rfl) rfl dX7_init_49 (fun M10 hM10 => ?_)
  have hnM10 : M10.1 = 92 := by rw [hM10]; exact hnM9
  have hVM10 : q_RV M10 := by rw [hM10]; exact q_RV_i hVM9 sh_90 rfl
  refine q_aload_n 0 dX7_init_52 rfl rfl ?_
  refine q_iconst dX7_init_53 ?_
  refine q_puti fl_X7_40 sh_90 (by omega) (fun h => q_Ok_put h sh_90 rfl) rfl dX7_init_54 (fun M11 hM11 => ?_)
  have hnM11 : M11.1 = 92 := by rw [hM11]; exact hnM10
  have hVM11 : q_RV M11 := by rw [hM11]; exact q_RV_i hVM10 sh_90 rfl
  refine q_aload_n 0 dX7_init_57 rfl rfl ?_
  refine q_iconst dX7_init_58 ?_
  refine q_puti fl_X7_43 sh_90 (by omega) (fun h => q_Ok_put h sh_90 rfl) rfl dX7_init_59 (fun M12 hM12 => ?_)
  have hnM12 : M12.1 = 92 := by rw [hM12]; exact hnM11
  have hVM12 : q_RV M12 := by rw [hM12]; exact q_RV_i hVM11 sh_90 rfl
  refine q_aload_n 0 dX7_init_62 rfl rfl ?_
  refine q_bipush dX7_init_63 (by decide) ?_
  refine q_newaI (n := 92) (N := 6) q_XM_T hVM12 hnM12 (by decide) sh_92 rfl rfl (by decide) (by decide) (by decide) ak_int dX7_init_65 (fun M13 hM13 hnM13 hVM13 => ?_)
  refine q_putF fl_X7_46 rfl rfl sh_90 (by omega) (by omega) (fun h => q_Ok_fx (by decide +kernel) h) rfl dX7_init_67 (fun M14 hM14 => ?_)
  have hnM14 : M14.1 = 93 := by rw [hM14]; exact hnM13
  have hVM14 : q_RV M14 := by rw [hM14]; exact q_RV_r hVM13 (by omega)
  refine q_aload_n 0 dX7_init_70 rfl rfl ?_
  refine q_bipush dX7_init_71 (by decide) ?_
  refine q_newaI (n := 93) (N := 6) q_XM_T hVM14 hnM14 (by decide) sh_93 rfl rfl (by decide) (by decide) (by decide) ak_int dX7_init_73 (fun M15 hM15 hnM15 hVM15 => ?_)
  refine q_putF fl_X7_49 rfl rfl sh_90 (by omega) (by omega) (fun h => q_Ok_fx (by decide +kernel) h) rfl dX7_init_75 (fun M16 hM16 => ?_)
  have hnM16 : M16.1 = 94 := by rw [hM16]; exact hnM15
  have hVM16 : q_RV M16 := by rw [hM16]; exact q_RV_r hVM15 (by omega)
  exact q_ret dX7_init_78 rfl
def gi_X5_init_87 (M : q_Mem) : q_Mem := q_let (q_aln 88 M) fun M1 => q_let (q_up M1 87 1 (88 : Int)) fun M2 => q_let (q_aln 89 M2) fun M3 => q_let (q_up M3 87 2 (89 : Int)) fun M4 => q_let (q_aln 90 M4) fun M5 => q_let (gi_X7_init_90 M5) fun M6 => q_let (q_up M6 87 3 (90 : Int)) fun M7 => q_let (q_up M7 87 0 (57 : Int)) fun M8 => M8
theorem gc_X5_init_87 (M : q_Mem) (hM : M.1 = 88) : (gi_X5_init_87 M).1 = 94 := by first | exact hM | rfl
def fi_X5_init_87 (M : q_Mem) : Option (Int × q_Mem) := q_let (q_aln 88 M) fun M1 => q_let (q_up M1 87 1 (88 : Int)) fun M2 => q_let (q_aln 89 M2) fun M3 => q_let (q_up M3 87 2 (89 : Int)) fun M4 => q_let (q_aln 90 M4) fun M5 => q_let (gi_X7_init_90 M5) fun M6 => q_let (q_up M6 87 3 (90 : Int)) fun M7 => q_let (q_up M7 87 0 (57 : Int)) fun M8 => some (0, M8)
set_option maxRecDepth 20000 in
theorem ti_X5_init_87 {d : Nat} (hd : 2 ≤ d) (M : q_Mem) (hM : M.1 = 88) (hV : q_RV M) : q_EX d yX5_init cX5_init 2 none 0 (q_args 0 [.inr (.inr 87), .inr (.inr 57)]) [] M (some (0, gi_X5_init_87 M)) := by
  obtain ⟨d, rfl⟩ : ∃ d', d = d' + 1 := ⟨d - 1, by omega⟩
  show q_EX _ _ _ _ _ 0 [(0, .inr (.inr 87)), (1, .inr (.inr 57))] [] M (fi_X5_init_87 M)
  unfold fi_X5_init_87
  refine q_aload_n 0 dX5_init_0 rfl rfl ?_
  refine q_objI oi_X5_3 oi_2 oi_3 (Nat.le_of_ble_eq_true rfl) dX5_init_1 ?_
  refine q_aload_n 0 dX5_init_4 rfl rfl ?_
  refine q_sipush dX5_init_5 (by decide) ?_
  refine q_newaI (n := 88) (N := 19248) q_XM_T hV hM (by decide) sh_88 rfl rfl (by decide) (by decide) (by decide) ak_int dX5_init_8 (fun M1 hM1 hnM1 hVM1 => ?_)
  refine q_putF fl_X5_9 rfl rfl sh_87 (by omega) (by omega) (fun h => q_Ok_fx (by decide +kernel) h) rfl dX5_init_10 (fun M2 hM2 => ?_)
  have hnM2 : M2.1 = 89 := by rw [hM2]; exact hnM1
  have hVM2 : q_RV M2 := by rw [hM2]; exact q_RV_r hVM1 (by omega)
  refine q_aload_n 0 dX5_init_13 rfl rfl ?_
  refine q_sipush dX5_init_14 (by decide) ?_
  refine q_newaI (n := 89) (N := 401) q_XM_T hVM2 hnM2 (by decide) sh_89 rfl rfl (by decide) (by decide) (by decide) ak_int dX5_init_17 (fun M3 hM3 hnM3 hVM3 => ?_)
  refine q_putF fl_X5_15 rfl rfl sh_87 (by omega) (by omega) (fun h => q_Ok_fx (by decide +kernel) h) rfl dX5_init_19 (fun M4 hM4 => ?_)
  have hnM4 : M4.1 = 90 := by rw [hM4]; exact hnM3
  have hVM4 : q_RV M4 := by rw [hM4]; exact q_RV_r hVM3 (by omega)
  refine q_aload_n 0 dX5_init_22 rfl rfl ?_
  refine q_new (n := 90) q_XM_T hVM4 hnM4 (by decide) sh_90 cf_7 df_7 rfl rfl cl_X5_18 in_7 ni_X7 dX5_init_23 (fun M5 hM5 hnM5 hVM5 => ?_)
  refine q_dup dX5_init_26 rfl ?_
  refine q_callIN (As := []) q_XM_T mb_X7_init im_X7_init rfl mn_X5_20 (by rw [hnM5]; rfl) (by rw [hnM5]; rfl) (by omega) rfl (Nat.le_of_ble_eq_true rfl) rfl (Nat.le_of_ble_eq_true rfl) dX5_init_27 (ti_X7_init_90 (by omega) M5 hnM5 hVM5) (fun M6 hM6 hrM6 => ?_)
  have hnM6 : M6.1 = 94 := by rw [hM6]; exact gc_X7_init_90 M5 hnM5
  have hVM6 : q_RV M6 := hrM6 (by omega) hVM5
  refine q_putF fl_X5_21 rfl rfl sh_87 (by omega) (by omega) (fun h => q_Ok_fx (by decide +kernel) h) rfl dX5_init_30 (fun M7 hM7 => ?_)
  have hnM7 : M7.1 = 94 := by rw [hM7]; exact hnM6
  have hVM7 : q_RV M7 := by rw [hM7]; exact q_RV_r hVM6 (by omega)
  refine q_aload_n 0 dX5_init_33 rfl rfl ?_
  refine q_aload_n 1 dX5_init_34 rfl rfl ?_
  refine q_putr fl_X5_25 sh_87 (by omega) (fun h => q_Ok_ref h tr_87_0 sh_57) (fun _ => by omega) rfl dX5_init_35 (fun M8 hM8 => ?_)
  have hnM8 : M8.1 = 94 := by rw [hM8]; exact hnM7
  have hVM8 : q_RV M8 := by rw [hM8]; exact q_RV_r hVM7 (by omega)
  exact q_ret dX5_init_38 rfl
def gi_X11_init_0 (M : q_Mem) : q_Mem := q_let (q_aln 1 M) fun M1 => q_let (gi_X10_init_1 M1) fun M2 => q_let (q_up M2 0 0 (1 : Int)) fun M3 => q_let (q_aln 3 M3) fun M4 => q_let (gi_X10_init_3 M4) fun M5 => q_let (q_up M5 0 1 (3 : Int)) fun M6 => q_let (q_aln 5 M6) fun M7 => q_let (gi_X8_init_5 M7) fun M8 => q_let (q_up M8 0 2 (5 : Int)) fun M9 => q_let (q_aln 6 M9) fun M10 => q_let (gi_X0_init_6 M10) fun M11 => q_let (q_up M11 0 3 (6 : Int)) fun M12 => q_let (q_aln 8 M12) fun M13 => q_let (gi_X4_init_8 M13) fun M14 => q_let (q_up M14 0 4 (8 : Int)) fun M15 => q_let (q_aln 9 M15) fun M16 => q_let (gi_X3_init_9 M16) fun M17 => q_let (q_up M17 0 5 (9 : Int)) fun M18 => q_let (q_aln 10 M18) fun M19 => q_let (gi_X1_init_10 M19) fun M20 => q_let (q_up M20 0 6 (10 : Int)) fun M21 => q_let (q_aln 36 M21) fun M22 => q_let (gi_X9_init_36 M22) fun M23 => q_let (q_up M23 0 7 (36 : Int)) fun M24 => q_let (q_aln 40 M24) fun M25 => q_let (gi_X6_init_40 M25) fun M26 => q_let (q_up M26 0 8 (40 : Int)) fun M27 => q_let (q_aln 52 M27) fun M28 => q_let (gi_X7_init_52 M28) fun M29 => q_let (q_up M29 0 9 (52 : Int)) fun M30 => q_let (q_aln 56 M30) fun M31 => q_let (q_up M31 0 10 (56 : Int)) fun M32 => q_let (q_aln 57 M32) fun M33 => q_let (gi_X2_init_57 M33) fun M34 => q_let (q_up M34 0 11 (57 : Int)) fun M35 => q_let (q_aln 72 M35) fun M36 => q_let (gi_X2_init_72 M36) fun M37 => q_let (q_up M37 0 12 (72 : Int)) fun M38 => q_let (q_aln 87 M38) fun M39 => q_let (gi_X5_init_87 M39) fun M40 => q_let (q_up M40 0 13 (87 : Int)) fun M41 => q_let (q_up M41 0 14 0) fun M42 => q_let (q_up M42 0 15 (-1)) fun M43 => M43
theorem gc_X11_init_0 (M : q_Mem) (hM : M.1 = 1) : (gi_X11_init_0 M).1 = 94 := by first | exact hM | rfl
def fi_X11_init_0 (M : q_Mem) : Option (Int × q_Mem) := q_let (q_aln 1 M) fun M1 => q_let (gi_X10_init_1 M1) fun M2 => q_let (q_up M2 0 0 (1 : Int)) fun M3 => q_let (q_aln 3 M3) fun M4 => q_let (gi_X10_init_3 M4) fun M5 => q_let (q_up M5 0 1 (3 : Int)) fun M6 => q_let (q_aln 5 M6) fun M7 => q_let (gi_X8_init_5 M7) fun M8 => q_let (q_up M8 0 2 (5 : Int)) fun M9 => q_let (q_aln 6 M9) fun M10 => q_let (gi_X0_init_6 M10) fun M11 => q_let (q_up M11 0 3 (6 : Int)) fun M12 => q_let (q_aln 8 M12) fun M13 => q_let (gi_X4_init_8 M13) fun M14 => q_let (q_up M14 0 4 (8 : Int)) fun M15 => q_let (q_aln 9 M15) fun M16 => q_let (gi_X3_init_9 M16) fun M17 => q_let (q_up M17 0 5 (9 : Int)) fun M18 => q_let (q_aln 10 M18) fun M19 => q_let (gi_X1_init_10 M19) fun M20 => q_let (q_up M20 0 6 (10 : Int)) fun M21 => q_let (q_aln 36 M21) fun M22 => q_let (gi_X9_init_36 M22) fun M23 => q_let (q_up M23 0 7 (36 : Int)) fun M24 => q_let (q_aln 40 M24) fun M25 => q_let (gi_X6_init_40 M25) fun M26 => q_let (q_up M26 0 8 (40 : Int)) fun M27 => q_let (q_aln 52 M27) fun M28 => q_let (gi_X7_init_52 M28) fun M29 => q_let (q_up M29 0 9 (52 : Int)) fun M30 => q_let (q_aln 56 M30) fun M31 => q_let (q_up M31 0 10 (56 : Int)) fun M32 => q_let (q_aln 57 M32) fun M33 => q_let (gi_X2_init_57 M33) fun M34 => q_let (q_up M34 0 11 (57 : Int)) fun M35 => q_let (q_aln 72 M35) fun M36 => q_let (gi_X2_init_72 M36) fun M37 => q_let (q_up M37 0 12 (72 : Int)) fun M38 => q_let (q_aln 87 M38) fun M39 => q_let (gi_X5_init_87 M39) fun M40 => q_let (q_up M40 0 13 (87 : Int)) fun M41 => q_let (q_up M41 0 14 0) fun M42 => q_let (q_up M42 0 15 (-1)) fun M43 => some (0, M43)
set_option maxRecDepth 20000 in
theorem ti_X11_init_0 {d : Nat} (hd : 3 ≤ d) (M : q_Mem) (hM : M.1 = 1) (hV : q_RV M) : q_EX d yX11_init cX11_init 1 none 0 (q_args 0 [.inr (.inr 0)]) [] M (some (0, gi_X11_init_0 M)) := by
  obtain ⟨d, rfl⟩ : ∃ d', d = d' + 1 := ⟨d - 1, by omega⟩
  show q_EX _ _ _ _ _ 0 [(0, .inr (.inr 0))] [] M (fi_X11_init_0 M)
  unfold fi_X11_init_0
  refine q_aload_n 0 dX11_init_0 rfl rfl ?_
  refine q_objI oi_X11_1 oi_2 oi_3 (Nat.le_of_ble_eq_true rfl) dX11_init_1 ?_
  refine q_aload_n 0 dX11_init_4 rfl rfl ?_
  refine q_new (n := 1) q_XM_T hV hM (by decide) sh_1 cf_10 df_10 rfl rfl cl_X11_7 in_10 ni_X10 dX11_init_5 (fun M1 hM1 hnM1 hVM1 => ?_)
  refine q_dup dX11_init_8 rfl ?_
  refine q_sipush dX11_init_9 (by decide) ?_
  refine q_callI (As := [.inl 1600]) q_XM_T mb_X10_init im_X10_init rfl ml_X11_11 (by rw [hnM1]; rfl) (by rw [hnM1]; rfl) (by omega) rfl (Nat.le_of_ble_eq_true rfl) rfl (Nat.le_of_ble_eq_true rfl) dX11_init_12 (ti_X10_init_1 (by omega) M1 hnM1 hVM1) (fun M2 hM2 hrM2 => ?_)
  have hnM2 : M2.1 = 3 := by rw [hM2]; exact gc_X10_init_1 M1 hnM1
  have hVM2 : q_RV M2 := hrM2 (by omega) hVM1
  refine q_putF fl_X11_14 rfl rfl sh_0 (by omega) (by omega) (fun h => q_Ok_fx (by decide +kernel) h) rfl dX11_init_15 (fun M3 hM3 => ?_)
  have hnM3 : M3.1 = 3 := by rw [hM3]; exact hnM2
  have hVM3 : q_RV M3 := by rw [hM3]; exact q_RV_r hVM2 (by omega)
  refine q_aload_n 0 dX11_init_18 rfl rfl ?_
  refine q_new (n := 3) q_XM_T hVM3 hnM3 (by decide) sh_3 cf_10 df_10 rfl rfl cl_X11_7 in_10 ni_X10 dX11_init_19 (fun M4 hM4 hnM4 hVM4 => ?_)
  refine q_dup dX11_init_22 rfl ?_
  refine q_bipush dX11_init_23 (by decide) ?_
  refine q_callI (As := [.inl 38]) q_XM_T mb_X10_init im_X10_init rfl ml_X11_11 (by rw [hnM4]; rfl) (by rw [hnM4]; rfl) (by omega) rfl (Nat.le_of_ble_eq_true rfl) rfl (Nat.le_of_ble_eq_true rfl) dX11_init_25 (ti_X10_init_3 (by omega) M4 hnM4 hVM4) (fun M5 hM5 hrM5 => ?_)
  have hnM5 : M5.1 = 5 := by rw [hM5]; exact gc_X10_init_3 M4 hnM4
  have hVM5 : q_RV M5 := hrM5 (by omega) hVM4
  refine q_putF fl_X11_18 rfl rfl sh_0 (by omega) (by omega) (fun h => q_Ok_fx (by decide +kernel) h) rfl dX11_init_28 (fun M6 hM6 => ?_)
  have hnM6 : M6.1 = 5 := by rw [hM6]; exact hnM5
  have hVM6 : q_RV M6 := by rw [hM6]; exact q_RV_r hVM5 (by omega)
  refine q_aload_n 0 dX11_init_31 rfl rfl ?_
  refine q_new (n := 5) q_XM_T hVM6 hnM6 (by decide) sh_5 cf_8 df_8 rfl rfl cl_X11_21 in_8 ni_X8 dX11_init_32 (fun M7 hM7 hnM7 hVM7 => ?_)
  refine q_dup dX11_init_35 rfl ?_
  refine q_aload_n 0 dX11_init_36 rfl rfl ?_
  refine q_getK (v := 1) fl_X11_14 sh_0 (by omega) rfl (by rw [hM7, hM6, hM5, hM4, hM3, hM2, hM1]; rfl) dX11_init_37 ?_
  refine q_callI (As := [.inr (.inr 1)]) q_XM_T mb_X8_init im_X8_init rfl ml_X11_23 (by rw [hnM7]; rfl) (by rw [hnM7]; rfl) (by omega) rfl (Nat.le_of_ble_eq_true rfl) rfl (Nat.le_of_ble_eq_true rfl) dX11_init_40 (ti_X8_init_5 (by omega) M7 hnM7 hVM7) (fun M8 hM8 hrM8 => ?_)
  have hnM8 : M8.1 = 6 := by rw [hM8]; exact gc_X8_init_5 M7 hnM7
  have hVM8 : q_RV M8 := hrM8 (by omega) hVM7
  refine q_putF fl_X11_26 rfl rfl sh_0 (by omega) (by omega) (fun h => q_Ok_fx (by decide +kernel) h) rfl dX11_init_43 (fun M9 hM9 => ?_)
  have hnM9 : M9.1 = 6 := by rw [hM9]; exact hnM8
  have hVM9 : q_RV M9 := by rw [hM9]; exact q_RV_r hVM8 (by omega)
  refine q_aload_n 0 dX11_init_46 rfl rfl ?_
  refine q_new (n := 6) q_XM_T hVM9 hnM9 (by decide) sh_6 cf_0 df_0 rfl rfl cl_X11_30 in_0 ni_X0 dX11_init_47 (fun M10 hM10 hnM10 hVM10 => ?_)
  refine q_dup dX11_init_50 rfl ?_
  refine q_callIN (As := []) q_XM_T mb_X0_init im_X0_init rfl mn_X11_32 (by rw [hnM10]; rfl) (by rw [hnM10]; rfl) (by omega) rfl (Nat.le_of_ble_eq_true rfl) rfl (Nat.le_of_ble_eq_true rfl) dX11_init_51 (ti_X0_init_6 (by omega) M10 hnM10 hVM10) (fun M11 hM11 hrM11 => ?_)
  have hnM11 : M11.1 = 8 := by rw [hM11]; exact gc_X0_init_6 M10 hnM10
  have hVM11 : q_RV M11 := hrM11 (by omega) hVM10
  refine q_putF fl_X11_33 rfl rfl sh_0 (by omega) (by omega) (fun h => q_Ok_fx (by decide +kernel) h) rfl dX11_init_54 (fun M12 hM12 => ?_)
  have hnM12 : M12.1 = 8 := by rw [hM12]; exact hnM11
  have hVM12 : q_RV M12 := by rw [hM12]; exact q_RV_r hVM11 (by omega)
  refine q_aload_n 0 dX11_init_57 rfl rfl ?_
  refine q_new (n := 8) q_XM_T hVM12 hnM12 (by decide) sh_8 cf_4 df_4 rfl rfl cl_X11_37 in_4 ni_X4 dX11_init_58 (fun M13 hM13 hnM13 hVM13 => ?_)
  refine q_dup dX11_init_61 rfl ?_
  refine q_aload_n 0 dX11_init_62 rfl rfl ?_
  refine q_getK (v := 5) fl_X11_26 sh_0 (by omega) rfl (by rw [hM13, hM12, hM11, hM10, hM9, hM8, hM7, hM6, hM5, hM4, hM3, hM2, hM1]; rfl) dX11_init_63 ?_
  refine q_aload_n 0 dX11_init_66 rfl rfl ?_
  refine q_getK (v := 6) fl_X11_33 sh_0 (by omega) rfl (by rw [hM13, hM12, hM11, hM10, hM9, hM8, hM7, hM6, hM5, hM4, hM3, hM2, hM1]; rfl) dX11_init_67 ?_
  refine q_callI (As := [.inr (.inr 5), .inr (.inr 6)]) q_XM_T mb_X4_init im_X4_init rfl ml_X11_39 (by rw [hnM13]; rfl) (by rw [hnM13]; rfl) (by omega) rfl (Nat.le_of_ble_eq_true rfl) rfl (Nat.le_of_ble_eq_true rfl) dX11_init_70 (ti_X4_init_8 (by omega) M13 hnM13 hVM13) (fun M14 hM14 hrM14 => ?_)
  have hnM14 : M14.1 = 9 := by rw [hM14]; exact gc_X4_init_8 M13 hnM13
  have hVM14 : q_RV M14 := hrM14 (by omega) hVM13
  refine q_putF fl_X11_42 rfl rfl sh_0 (by omega) (by omega) (fun h => q_Ok_fx (by decide +kernel) h) rfl dX11_init_73 (fun M15 hM15 => ?_)
  have hnM15 : M15.1 = 9 := by rw [hM15]; exact hnM14
  have hVM15 : q_RV M15 := by rw [hM15]; exact q_RV_r hVM14 (by omega)
  refine q_aload_n 0 dX11_init_76 rfl rfl ?_
  refine q_new (n := 9) q_XM_T hVM15 hnM15 (by decide) sh_9 cf_3 df_3 rfl rfl cl_X11_46 in_3 ni_X3 dX11_init_77 (fun M16 hM16 hnM16 hVM16 => ?_)
  refine q_dup dX11_init_80 rfl ?_
  refine q_aload_n 0 dX11_init_81 rfl rfl ?_
  refine q_getK (v := 5) fl_X11_26 sh_0 (by omega) rfl (by rw [hM16, hM15, hM14, hM13, hM12, hM11, hM10, hM9, hM8, hM7, hM6, hM5, hM4, hM3, hM2, hM1]; rfl) dX11_init_82 ?_
  refine q_aload_n 0 dX11_init_85 rfl rfl ?_
  refine q_getK (v := 8) fl_X11_42 sh_0 (by omega) rfl (by rw [hM16, hM15, hM14, hM13, hM12, hM11, hM10, hM9, hM8, hM7, hM6, hM5, hM4, hM3, hM2, hM1]; rfl) dX11_init_86 ?_
  refine q_callI (As := [.inr (.inr 5), .inr (.inr 8)]) q_XM_T mb_X3_init im_X3_init rfl ml_X11_48 (by rw [hnM16]; rfl) (by rw [hnM16]; rfl) (by omega) rfl (Nat.le_of_ble_eq_true rfl) rfl (Nat.le_of_ble_eq_true rfl) dX11_init_89 (ti_X3_init_9 (by omega) M16 hnM16 hVM16) (fun M17 hM17 hrM17 => ?_)
  have hnM17 : M17.1 = 10 := by rw [hM17]; exact gc_X3_init_9 M16 hnM16
  have hVM17 : q_RV M17 := hrM17 (by omega) hVM16
  refine q_putF fl_X11_51 rfl rfl sh_0 (by omega) (by omega) (fun h => q_Ok_fx (by decide +kernel) h) rfl dX11_init_92 (fun M18 hM18 => ?_)
  have hnM18 : M18.1 = 10 := by rw [hM18]; exact hnM17
  have hVM18 : q_RV M18 := by rw [hM18]; exact q_RV_r hVM17 (by omega)
  refine q_aload_n 0 dX11_init_95 rfl rfl ?_
  refine q_new (n := 10) q_XM_T hVM18 hnM18 (by decide) sh_10 cf_1 df_1 rfl rfl cl_X11_55 in_1 ni_X1 dX11_init_96 (fun M19 hM19 hnM19 hVM19 => ?_)
  refine q_dup dX11_init_99 rfl ?_
  refine q_callIN (As := []) q_XM_T mb_X1_init im_X1_init rfl mn_X11_57 (by rw [hnM19]; rfl) (by rw [hnM19]; rfl) (by omega) rfl (Nat.le_of_ble_eq_true rfl) rfl (Nat.le_of_ble_eq_true rfl) dX11_init_100 (ti_X1_init_10 (by omega) M19 hnM19 hVM19) (fun M20 hM20 hrM20 => ?_)
  have hnM20 : M20.1 = 36 := by rw [hM20]; exact gc_X1_init_10 M19 hnM19
  have hVM20 : q_RV M20 := hrM20 (by omega) hVM19
  refine q_putF fl_X11_58 rfl rfl sh_0 (by omega) (by omega) (fun h => q_Ok_fx (by decide +kernel) h) rfl dX11_init_103 (fun M21 hM21 => ?_)
  have hnM21 : M21.1 = 36 := by rw [hM21]; exact hnM20
  have hVM21 : q_RV M21 := by rw [hM21]; exact q_RV_r hVM20 (by omega)
  refine q_aload_n 0 dX11_init_106 rfl rfl ?_
  refine q_new (n := 36) q_XM_T hVM21 hnM21 (by decide) sh_36 cf_9 df_9 rfl rfl cl_X11_62 in_9 ni_X9 dX11_init_107 (fun M22 hM22 hnM22 hVM22 => ?_)
  refine q_dup dX11_init_110 rfl ?_
  refine q_callIN (As := []) q_XM_T mb_X9_init im_X9_init rfl mn_X11_64 (by rw [hnM22]; rfl) (by rw [hnM22]; rfl) (by omega) rfl (Nat.le_of_ble_eq_true rfl) rfl (Nat.le_of_ble_eq_true rfl) dX11_init_111 (ti_X9_init_36 (by omega) M22 hnM22 hVM22) (fun M23 hM23 hrM23 => ?_)
  have hnM23 : M23.1 = 40 := by rw [hM23]; exact gc_X9_init_36 M22 hnM22
  have hVM23 : q_RV M23 := hrM23 (by omega) hVM22
  refine q_putF fl_X11_65 rfl rfl sh_0 (by omega) (by omega) (fun h => q_Ok_fx (by decide +kernel) h) rfl dX11_init_114 (fun M24 hM24 => ?_)
  have hnM24 : M24.1 = 40 := by rw [hM24]; exact hnM23
  have hVM24 : q_RV M24 := by rw [hM24]; exact q_RV_r hVM23 (by omega)
  refine q_aload_n 0 dX11_init_117 rfl rfl ?_
  refine q_new (n := 40) q_XM_T hVM24 hnM24 (by decide) sh_40 cf_6 df_6 rfl rfl cl_X11_69 in_6 ni_X6 dX11_init_118 (fun M25 hM25 hnM25 hVM25 => ?_)
  refine q_dup dX11_init_121 rfl ?_
  refine q_callIN (As := []) q_XM_T mb_X6_init im_X6_init rfl mn_X11_71 (by rw [hnM25]; rfl) (by rw [hnM25]; rfl) (by omega) rfl (Nat.le_of_ble_eq_true rfl) rfl (Nat.le_of_ble_eq_true rfl) dX11_init_122 (ti_X6_init_40 (by omega) M25 hnM25 hVM25) (fun M26 hM26 hrM26 => ?_)
  have hnM26 : M26.1 = 52 := by rw [hM26]; exact gc_X6_init_40 M25 hnM25
  have hVM26 : q_RV M26 := hrM26 (by omega) hVM25
  refine q_putF fl_X11_72 rfl rfl sh_0 (by omega) (by omega) (fun h => q_Ok_fx (by decide +kernel) h) rfl dX11_init_125 (fun M27 hM27 => ?_)
  have hnM27 : M27.1 = 52 := by rw [hM27]; exact hnM26
  have hVM27 : q_RV M27 := by rw [hM27]; exact q_RV_r hVM26 (by omega)
  refine q_aload_n 0 dX11_init_128 rfl rfl ?_
  refine q_new (n := 52) q_XM_T hVM27 hnM27 (by decide) sh_52 cf_7 df_7 rfl rfl cl_X11_76 in_7 ni_X7 dX11_init_129 (fun M28 hM28 hnM28 hVM28 => ?_)
  refine q_dup dX11_init_132 rfl ?_
  refine q_callIN (As := []) q_XM_T mb_X7_init im_X7_init rfl mn_X11_78 (by rw [hnM28]; rfl) (by rw [hnM28]; rfl) (by omega) rfl (Nat.le_of_ble_eq_true rfl) rfl (Nat.le_of_ble_eq_true rfl) dX11_init_133 (ti_X7_init_52 (by omega) M28 hnM28 hVM28) (fun M29 hM29 hrM29 => ?_)
  have hnM29 : M29.1 = 56 := by rw [hM29]; exact gc_X7_init_52 M28 hnM28
  have hVM29 : q_RV M29 := hrM29 (by omega) hVM28
  refine q_putF fl_X11_79 rfl rfl sh_0 (by omega) (by omega) (fun h => q_Ok_fx (by decide +kernel) h) rfl dX11_init_136 (fun M30 hM30 => ?_)
  have hnM30 : M30.1 = 56 := by rw [hM30]; exact hnM29
  have hVM30 : q_RV M30 := by rw [hM30]; exact q_RV_r hVM29 (by omega)
  refine q_aload_n 0 dX11_init_139 rfl rfl ?_
  refine q_bipush dX11_init_140 (by decide) ?_
  refine q_newaI (n := 56) (N := 6) q_XM_T hVM30 hnM30 (by decide) sh_56 rfl rfl (by decide) (by decide) (by decide) ak_int dX11_init_142 (fun M31 hM31 hnM31 hVM31 => ?_)
  refine q_putF fl_X11_83 rfl rfl sh_0 (by omega) (by omega) (fun h => q_Ok_fx (by decide +kernel) h) rfl dX11_init_144 (fun M32 hM32 => ?_)
  have hnM32 : M32.1 = 57 := by rw [hM32]; exact hnM31
  have hVM32 : q_RV M32 := by rw [hM32]; exact q_RV_r hVM31 (by omega)
  refine q_aload_n 0 dX11_init_147 rfl rfl ?_
  refine q_new (n := 57) q_XM_T hVM32 hnM32 (by decide) sh_57 cf_2 df_2 rfl rfl cl_X11_87 in_2 ni_X2 dX11_init_148 (fun M33 hM33 hnM33 hVM33 => ?_)
  refine q_dup dX11_init_151 rfl ?_
  refine q_callIN (As := []) q_XM_T mb_X2_init im_X2_init rfl mn_X11_89 (by rw [hnM33]; rfl) (by rw [hnM33]; rfl) (by omega) rfl (Nat.le_of_ble_eq_true rfl) rfl (Nat.le_of_ble_eq_true rfl) dX11_init_152 (ti_X2_init_57 (by omega) M33 hnM33 hVM33) (fun M34 hM34 hrM34 => ?_)
  have hnM34 : M34.1 = 72 := by rw [hM34]; exact gc_X2_init_57 M33 hnM33
  have hVM34 : q_RV M34 := hrM34 (by omega) hVM33
  refine q_putr fl_X11_90 sh_0 (by omega) (fun h => q_Ok_ref h tr_0_11 sh_57) (fun _ => by omega) rfl dX11_init_155 (fun M35 hM35 => ?_)
  have hnM35 : M35.1 = 72 := by rw [hM35]; exact hnM34
  have hVM35 : q_RV M35 := by rw [hM35]; exact q_RV_r hVM34 (by omega)
  refine q_aload_n 0 dX11_init_158 rfl rfl ?_
  refine q_new (n := 72) q_XM_T hVM35 hnM35 (by decide) sh_72 cf_2 df_2 rfl rfl cl_X11_87 in_2 ni_X2 dX11_init_159 (fun M36 hM36 hnM36 hVM36 => ?_)
  refine q_dup dX11_init_162 rfl ?_
  refine q_callIN (As := []) q_XM_T mb_X2_init im_X2_init rfl mn_X11_89 (by rw [hnM36]; rfl) (by rw [hnM36]; rfl) (by omega) rfl (Nat.le_of_ble_eq_true rfl) rfl (Nat.le_of_ble_eq_true rfl) dX11_init_163 (ti_X2_init_72 (by omega) M36 hnM36 hVM36) (fun M37 hM37 hrM37 => ?_)
  have hnM37 : M37.1 = 87 := by rw [hM37]; exact gc_X2_init_72 M36 hnM36
  have hVM37 : q_RV M37 := hrM37 (by omega) hVM36
  refine q_putr fl_X11_94 sh_0 (by omega) (fun h => q_Ok_ref h tr_0_12 sh_72) (fun _ => by omega) rfl dX11_init_166 (fun M38 hM38 => ?_)
  have hnM38 : M38.1 = 87 := by rw [hM38]; exact hnM37
  have hVM38 : q_RV M38 := by rw [hM38]; exact q_RV_r hVM37 (by omega)
  refine q_aload_n 0 dX11_init_169 rfl rfl ?_
  refine q_new (n := 87) q_XM_T hVM38 hnM38 (by decide) sh_87 cf_5 df_5 rfl rfl cl_X11_97 in_5 ni_X5 dX11_init_170 (fun M39 hM39 hnM39 hVM39 => ?_)
  refine q_dup dX11_init_173 rfl ?_
  refine q_aload_n 0 dX11_init_174 rfl rfl ?_
  refine q_getK (v := 57) fl_X11_90 sh_0 (by omega) rfl (by rw [hM39, hM38, hM37, hM36, hM35, hM34, hM33, hM32, hM31, hM30, hM29, hM28, hM27, hM26, hM25, hM24, hM23, hM22, hM21, hM20, hM19, hM18, hM17, hM16, hM15, hM14, hM13, hM12, hM11, hM10, hM9, hM8, hM7, hM6, hM5, hM4, hM3, hM2, hM1]; rfl) dX11_init_175 ?_
  refine q_callI (As := [.inr (.inr 57)]) q_XM_T mb_X5_init im_X5_init rfl ml_X11_99 (by rw [hnM39]; rfl) (by rw [hnM39]; rfl) (by omega) rfl (Nat.le_of_ble_eq_true rfl) rfl (Nat.le_of_ble_eq_true rfl) dX11_init_178 (ti_X5_init_87 (by omega) M39 hnM39 hVM39) (fun M40 hM40 hrM40 => ?_)
  have hnM40 : M40.1 = 94 := by rw [hM40]; exact gc_X5_init_87 M39 hnM39
  have hVM40 : q_RV M40 := hrM40 (by omega) hVM39
  refine q_putF fl_X11_102 rfl rfl sh_0 (by omega) (by omega) (fun h => q_Ok_fx (by decide +kernel) h) rfl dX11_init_181 (fun M41 hM41 => ?_)
  have hnM41 : M41.1 = 94 := by rw [hM41]; exact hnM40
  have hVM41 : q_RV M41 := by rw [hM41]; exact q_RV_r hVM40 (by omega)
  refine q_aload_n 0 dX11_init_184 rfl rfl ?_
  refine q_iconst dX11_init_185 ?_
  refine q_puti fl_X11_106 sh_0 (by omega) (fun h => q_Ok_put h sh_0 rfl) rfl dX11_init_186 (fun M42 hM42 => ?_)
  have hnM42 : M42.1 = 94 := by rw [hM42]; exact hnM41
  have hVM42 : q_RV M42 := by rw [hM42]; exact q_RV_i hVM41 sh_0 rfl
  refine q_aload_n 0 dX11_init_189 rfl rfl ?_
  refine q_iconst dX11_init_190 ?_
  refine q_puti fl_X11_110 sh_0 (by omega) (fun h => q_Ok_put h sh_0 rfl) rfl dX11_init_191 (fun M43 hM43 => ?_)
  have hnM43 : M43.1 = 94 := by rw [hM43]; exact hnM42
  have hVM43 : q_RV M43 := by rw [hM43]; exact q_RV_i hVM42 sh_0 rfl
  exact q_ret dX11_init_194 rfl
