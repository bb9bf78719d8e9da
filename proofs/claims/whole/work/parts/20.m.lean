def fX0_put (r0 : Nat) (x1 : Int) (M : q_Mem) : Option (Int × q_Mem) := if q_w (M.2 r0 1) < 0 then (some (0, M)) else (if q_w (M.2 r0 1) < q_w ((1600 : Nat) : Int) then ((q_sto M (q_fr r0 0) 1600 (M.2 r0 1) x1).bind fun M1 => q_let (q_up M1 r0 1 ((M1.2 r0 1) + 1)) fun M2 => some (0, M2)) else (some (0, M)))
theorem tX0_put {d : Nat} (r0 : Nat) (x1 : Int) (M : q_Mem) (hO : q_Ok M) (hr0 : q_shp r0 = (0, 0)) : q_EX d yX0_put cX0_put 2 none 0 (q_args 0 [.inr (.inr r0), .inl x1]) [] M (fX0_put r0 x1 M) := by
  show q_EX _ _ _ _ _ 0 [(0, .inr (.inr r0)), (1, .inl x1)] [] M _
  unfold fX0_put
  refine q_aload_n 0 dX0_put_0 rfl rfl ?_
  refine q_geti fl_X0_15 hr0 (q_inO hO hr0) rfl dX0_put_1 ?_
  refine q_iflt (tgt := 39) dX0_put_4 (by decide) ?_ ?_
  · exact q_ret dX0_put_39 rfl
  · refine q_aload_n 0 dX0_put_7 rfl rfl ?_
    refine q_geti fl_X0_15 hr0 (q_inO hO hr0) rfl dX0_put_8 ?_
    refine q_aload_n 0 dX0_put_11 rfl rfl ?_
    refine q_getx fl_X0_9 hO hr0 rfl (fs_0_0 hr0) dX0_put_12 ?_
    refine q_alen (t := 0) (ft_0_0 hr0) (by decide) (q_inA hO (ft_0_0 hr0) (by decide)) dX0_put_15 ?_
    refine q_icmpge (tgt := 39) dX0_put_16 (by decide) ?_ ?_
    · exact q_ret dX0_put_39 rfl
    · refine q_aload_n 0 dX0_put_19 rfl rfl ?_
      refine q_getx fl_X0_9 hO hr0 rfl (fs_0_0 hr0) dX0_put_20 ?_
      refine q_aload_n 0 dX0_put_23 rfl rfl ?_
      refine q_geti fl_X0_15 hr0 (q_inO hO hr0) rfl dX0_put_24 ?_
      refine q_iload_n 1 dX0_put_27 rfl rfl ?_
      refine q_iast (ft_0_0 hr0) (q_inA hO (ft_0_0 hr0) (by decide)) dX0_put_28 (fun M1 _ _ hM1 => ?_)
      have hO1 : q_Ok M1 := by rw [hM1]; exact q_Ok_arr (t := 0) hO (ft_0_0 hr0) (by decide)
      refine q_aload_n 0 dX0_put_29 rfl rfl ?_
      refine q_dup dX0_put_30 rfl ?_
      refine q_geti fl_X0_15 hr0 (q_inO hO1 hr0) rfl dX0_put_31 ?_
      refine q_iconst dX0_put_34 ?_
      refine q_iadd dX0_put_35 ?_
      refine q_puti fl_X0_15 hr0 (q_inO hO1 hr0) (fun h => q_Ok_put h hr0 rfl) rfl dX0_put_36 (fun M2 hM2 => ?_)
      have hO2 : q_Ok M2 := by rw [hM2]; exact q_Ok_put hO1 hr0 rfl
      exact q_ret dX0_put_39 rfl
def fX0_putOperation (r0 : Nat) (x1 : Int) (M : q_Mem) : Option (Int × q_Mem) := q_bd (fX0_put r0 (10000 + x1) M) fun _ M1 => some (0, M1)
theorem tX0_putOperation {d : Nat} (hd : 1 ≤ d) (r0 : Nat) (x1 : Int) (M : q_Mem) (hO : q_Ok M) (hr0 : q_shp r0 = (0, 0)) : q_EX d yX0_putOperation cX0_putOperation 2 none 0 (q_args 0 [.inr (.inr r0), .inl x1]) [] M (fX0_putOperation r0 x1 M) := by
  obtain ⟨d, rfl⟩ : ∃ d', d = d' + 1 := ⟨d - 1, by omega⟩
  have hd : 0 ≤ d := by omega
  show q_EX _ _ _ _ _ 0 [(0, .inr (.inr r0)), (1, .inl x1)] [] M _
  unfold fX0_putOperation
  refine q_aload_n 0 dX0_putOperation_0 rfl rfl ?_
  refine q_sipush dX0_putOperation_1 (by decide) ?_
  refine q_iload_n 1 dX0_putOperation_4 rfl rfl ?_
  refine q_iadd dX0_putOperation_5 ?_
  refine q_callVv (As := [.inl (10000 + x1)]) hO mb_X0_put mv_X0_put ml_X0_19 hr0 rfl dX0_putOperation_6 (fun _ => rfl) rfl (Nat.le_of_ble_eq_true rfl) rfl (Nat.le_of_ble_eq_true rfl) (tX0_put r0 (10000 + x1) M hO hr0) (fun _ M1 _ hO1 => ?_)
  exact q_ret dX0_putOperation_9 rfl
def fX1_forget (M : q_Mem) : Option (Int × q_Mem) := q_let (q_up M 10 5 0) fun M1 => q_let (q_up M1 10 11 0) fun M2 => q_let (q_up M2 10 10 0) fun M3 => some (0, M3)
theorem tX1_forget {d : Nat} (M : q_Mem) (hO : q_Ok M) : q_EX d yX1_forget cX1_forget 1 none 0 (q_args 0 [.inr (.inr 10)]) [] M (fX1_forget M) := by
  show q_EX _ _ _ _ _ 0 [(0, .inr (.inr 10))] [] M _
  unfold fX1_forget
  refine q_aload_n 0 dX1_forget_0 rfl rfl ?_
  refine q_iconst dX1_forget_1 ?_
  refine q_puti fl_X1_28 sh_10 (q_inO hO sh_10) (fun h => q_Ok_put h sh_10 rfl) rfl dX1_forget_2 (fun M1 hM1 => ?_)
  have hO1 : q_Ok M1 := by rw [hM1]; exact q_Ok_put hO sh_10 rfl
  refine q_aload_n 0 dX1_forget_5 rfl rfl ?_
  refine q_iconst dX1_forget_6 ?_
  refine q_puti fl_X1_48 sh_10 (q_inO hO1 sh_10) (fun h => q_Ok_put h sh_10 rfl) rfl dX1_forget_7 (fun M2 hM2 => ?_)
  have hO2 : q_Ok M2 := by rw [hM2]; exact q_Ok_put hO1 sh_10 rfl
  refine q_aload_n 0 dX1_forget_10 rfl rfl ?_
  refine q_iconst dX1_forget_11 ?_
  refine q_puti fl_X1_45 sh_10 (q_inO hO2 sh_10) (fun h => q_Ok_put h sh_10 rfl) rfl dX1_forget_12 (fun M3 hM3 => ?_)
  have hO3 : q_Ok M3 := by rw [hM3]; exact q_Ok_put hO2 sh_10 rfl
  exact q_ret dX1_forget_15 rfl
def fX1_begin (M : q_Mem) : Option (Int × q_Mem) := q_let (q_up M 10 0 0) fun M1 => q_let (q_up M1 10 1 0) fun M2 => q_let (q_up M2 10 2 0) fun M3 => q_let (q_up M3 10 3 0) fun M4 => q_bd (fX1_forget M4) fun _ M5 => some (0, M5)
theorem tX1_begin {d : Nat} (hd : 1 ≤ d) (M : q_Mem) (hO : q_Ok M) : q_EX d yX1_begin cX1_begin 1 none 0 (q_args 0 [.inr (.inr 10)]) [] M (fX1_begin M) := by
  obtain ⟨d, rfl⟩ : ∃ d', d = d' + 1 := ⟨d - 1, by omega⟩
  have hd : 0 ≤ d := by omega
  show q_EX _ _ _ _ _ 0 [(0, .inr (.inr 10))] [] M _
  unfold fX1_begin
  refine q_aload_n 0 dX1_begin_0 rfl rfl ?_
  refine q_iconst dX1_begin_1 ?_
  refine q_puti fl_X1_9 sh_10 (q_inO hO sh_10) (fun h => q_Ok_put h sh_10 rfl) rfl dX1_begin_2 (fun M1 hM1 => ?_)
  have hO1 : q_Ok M1 := by rw [hM1]; exact q_Ok_put hO sh_10 rfl
  refine q_aload_n 0 dX1_begin_5 rfl rfl ?_
  refine q_iconst dX1_begin_6 ?_
  refine q_puti fl_X1_15 sh_10 (q_inO hO1 sh_10) (fun h => q_Ok_put h sh_10 rfl) rfl dX1_begin_7 (fun M2 hM2 => ?_)
  have hO2 : q_Ok M2 := by rw [hM2]; exact q_Ok_put hO1 sh_10 rfl
  refine q_aload_n 0 dX1_begin_10 rfl rfl ?_
  refine q_iconst dX1_begin_11 ?_
  refine q_puti fl_X1_18 sh_10 (q_inO hO2 sh_10) (fun h => q_Ok_put h sh_10 rfl) rfl dX1_begin_12 (fun M3 hM3 => ?_)
  have hO3 : q_Ok M3 := by rw [hM3]; exact q_Ok_put hO2 sh_10 rfl
  refine q_aload_n 0 dX1_begin_15 rfl rfl ?_
  refine q_iconst dX1_begin_16 ?_
  refine q_puti fl_X1_21 sh_10 (q_inO hO3 sh_10) (fun h => q_Ok_put h sh_10 rfl) rfl dX1_begin_17 (fun M4 hM4 => ?_)
  have hO4 : q_Ok M4 := by rw [hM4]; exact q_Ok_put hO3 sh_10 rfl
  refine q_aload_n 0 dX1_begin_20 rfl rfl ?_
  refine q_callVv (As := []) hO4 mb_X1_forget mv_X1_forget ml_X1_55 sh_10 rfl dX1_begin_21 (fun _ => rfl) rfl (Nat.le_of_ble_eq_true rfl) rfl (Nat.le_of_ble_eq_true rfl) (tX1_forget M4 hO4) (fun _ M5 _ hO5 => ?_)
  exact q_ret dX1_begin_24 rfl
def fX1_hasBought (x1 : Int) (M : q_Mem) : Option (Int × q_Mem) := if q_w (q_and (q_shr (M.2 10 2) x1) 1) = q_w 1 then (some (1, M)) else (some (0, M))
theorem tX1_hasBought {d : Nat} (x1 : Int) (M : q_Mem) (hO : q_Ok M) : q_EX d yX1_hasBought cX1_hasBought 2 (some .boolean) 0 (q_args 0 [.inr (.inr 10), .inl x1]) [] M (fX1_hasBought x1 M) := by
  show q_EX _ _ _ _ _ 0 [(0, .inr (.inr 10)), (1, .inl x1)] [] M _
  unfold fX1_hasBought
  refine q_aload_n 0 dX1_hasBought_0 rfl rfl ?_
  refine q_geti fl_X1_18 sh_10 (q_inO hO sh_10) rfl dX1_hasBought_1 ?_
  refine q_iload_n 1 dX1_hasBought_4 rfl rfl ?_
  refine q_ishr dX1_hasBought_5 ?_
  refine q_iconst dX1_hasBought_6 ?_
  refine q_iand dX1_hasBought_7 ?_
  refine q_iconst dX1_hasBought_8 ?_
  refine q_icmpne (tgt := 16) dX1_hasBought_9 (by decide) ?_ ?_
  · refine q_iconst dX1_hasBought_16 ?_
    exact q_ret ⟨dX1_hasBought_17, by decide⟩ rfl
  · refine q_iconst dX1_hasBought_12 ?_
    refine q_goto (tgt := 17) dX1_hasBought_13 (by decide) ?_
    exact q_ret ⟨dX1_hasBought_17, by decide⟩ rfl
def fX1_remember (M : q_Mem) : Option (Int × q_Mem) := (q_ldr 15 20 (M.2 10 10)).bind fun r21 => (q_sto M r21 5 0 (M.2 10 0)).bind fun M1 => (q_sto M1 r21 5 1 (M1.2 10 1)).bind fun M2 => (q_sto M2 r21 5 2 (M2.2 10 2)).bind fun M3 => (q_sto M3 r21 5 3 (M3.2 10 3)).bind fun M4 => (q_sto M4 r21 5 4 (M4.2 10 5)).bind fun M5 => q_let (q_up M5 10 10 (q_rem ((M5.2 10 10) + 1) 20)) fun M6 => q_let (q_up M6 10 11 (q_min 20 ((M6.2 10 11) + 1))) fun M7 => some (0, M7)
theorem tX1_remember {d : Nat} (hd : 1 ≤ d) (M : q_Mem) (hO : q_Ok M) : q_EX d yX1_remember cX1_remember 2 none 0 (q_args 0 [.inr (.inr 10)]) [] M (fX1_remember M) := by
  obtain ⟨d, rfl⟩ : ∃ d', d = d' + 1 := ⟨d - 1, by omega⟩
  have hd : 0 ≤ d := by omega
  show q_EX _ _ _ _ _ 0 [(0, .inr (.inr 10))] [] M _
  unfold fX1_remember
  refine q_aload_n 0 dX1_remember_0 rfl rfl ?_
  refine q_getx fl_X1_42 hO sh_10 rfl fx_10_9 dX1_remember_1 ?_
  refine q_aload_n 0 dX1_remember_4 rfl rfl ?_
  refine q_geti fl_X1_45 sh_10 (q_inO hO sh_10) rfl dX1_remember_5 ?_
  refine q_aaldX hO sh_15 rw_15 dX1_remember_8 (fun r21 _ _ _ hr21 => ?_)
  refine q_astore_n (ls' := [(1, .inr (.inr r21)), (0, .inr (.inr 10))]) dX1_remember_9 rfl (by decide) rfl ?_
  refine q_aload_n 0 dX1_remember_10 rfl rfl ?_
  refine q_iconst dX1_remember_11 ?_
  refine q_aload_n 1 dX1_remember_12 rfl rfl ?_
  refine q_geti fl_X1_9 sh_10 (q_inO hO sh_10) rfl dX1_remember_13 ?_
  refine q_iast hr21 (q_inA hO hr21 (by decide)) dX1_remember_16 (fun M1 _ _ hM1 => ?_)
  have hO1 : q_Ok M1 := by rw [hM1]; exact q_Ok_arr (t := 0) hO hr21 (by decide)
  refine q_aload_n 0 dX1_remember_17 rfl rfl ?_
  refine q_iconst dX1_remember_18 ?_
  refine q_aload_n 1 dX1_remember_19 rfl rfl ?_
  refine q_geti fl_X1_15 sh_10 (q_inO hO1 sh_10) rfl dX1_remember_20 ?_
  refine q_iast hr21 (q_inA hO1 hr21 (by decide)) dX1_remember_23 (fun M2 _ _ hM2 => ?_)
  have hO2 : q_Ok M2 := by rw [hM2]; exact q_Ok_arr (t := 0) hO1 hr21 (by decide)
  refine q_aload_n 0 dX1_remember_24 rfl rfl ?_
  refine q_iconst dX1_remember_25 ?_
  refine q_aload_n 1 dX1_remember_26 rfl rfl ?_
  refine q_geti fl_X1_18 sh_10 (q_inO hO2 sh_10) rfl dX1_remember_27 ?_
  refine q_iast hr21 (q_inA hO2 hr21 (by decide)) dX1_remember_30 (fun M3 _ _ hM3 => ?_)
  have hO3 : q_Ok M3 := by rw [hM3]; exact q_Ok_arr (t := 0) hO2 hr21 (by decide)
  refine q_aload_n 0 dX1_remember_31 rfl rfl ?_
  refine q_iconst dX1_remember_32 ?_
  refine q_aload_n 1 dX1_remember_33 rfl rfl ?_
  refine q_geti fl_X1_21 sh_10 (q_inO hO3 sh_10) rfl dX1_remember_34 ?_
  refine q_iast hr21 (q_inA hO3 hr21 (by decide)) dX1_remember_37 (fun M4 _ _ hM4 => ?_)
  have hO4 : q_Ok M4 := by rw [hM4]; exact q_Ok_arr (t := 0) hO3 hr21 (by decide)
  refine q_aload_n 0 dX1_remember_38 rfl rfl ?_
  refine q_iconst dX1_remember_39 ?_
  refine q_aload_n 1 dX1_remember_40 rfl rfl ?_
  refine q_geti fl_X1_28 sh_10 (q_inO hO4 sh_10) rfl dX1_remember_41 ?_
  refine q_iast hr21 (q_inA hO4 hr21 (by decide)) dX1_remember_44 (fun M5 _ _ hM5 => ?_)
  have hO5 : q_Ok M5 := by rw [hM5]; exact q_Ok_arr (t := 0) hO4 hr21 (by decide)
  refine q_aload_n 1 dX1_remember_45 rfl rfl ?_
  refine q_aload_n 1 dX1_remember_46 rfl rfl ?_
  refine q_geti fl_X1_45 sh_10 (q_inO hO5 sh_10) rfl dX1_remember_47 ?_
  refine q_iconst dX1_remember_50 ?_
  refine q_iadd dX1_remember_51 ?_
  refine q_bipush dX1_remember_52 (by decide) ?_
  refine q_irem dX1_remember_54 (by decide) ?_
  refine q_puti fl_X1_45 sh_10 (q_inO hO5 sh_10) (fun h => q_Ok_put h sh_10 rfl) rfl dX1_remember_55 (fun M6 hM6 => ?_)
  have hO6 : q_Ok M6 := by rw [hM6]; exact q_Ok_put hO5 sh_10 rfl
  refine q_aload_n 1 dX1_remember_58 rfl rfl ?_
  refine q_bipush dX1_remember_59 (by decide) ?_
  refine q_aload_n 1 dX1_remember_61 rfl rfl ?_
  refine q_geti fl_X1_48 sh_10 (q_inO hO6 sh_10) rfl dX1_remember_62 ?_
  refine q_iconst dX1_remember_65 ?_
  refine q_iadd dX1_remember_66 ?_
  refine q_mmin ml_X1_58' jm_min ni_J9 jc_min (Nat.le_of_ble_eq_true rfl) dX1_remember_67 ?_
  refine q_puti fl_X1_48 sh_10 (q_inO hO6 sh_10) (fun h => q_Ok_put h sh_10 rfl) rfl dX1_remember_70 (fun M7 hM7 => ?_)
  have hO7 : q_Ok M7 := by rw [hM7]; exact q_Ok_put hO6 sh_10 rfl
  exact q_ret dX1_remember_73 rfl
def fX1_takeBack (M : q_Mem) : Option (Int × q_Mem) := q_let (q_up M 10 10 (q_rem (((M.2 10 10) + 20) - 1) 20)) fun M1 => q_let (q_up M1 10 11 ((M1.2 10 11) - 1)) fun M2 => (q_ldr 15 20 (M2.2 10 10)).bind fun r21 => (q_ld M2 r21 5 0).bind fun x21 => q_let (q_up M2 10 0 x21) fun M3 => (q_ld M3 r21 5 1).bind fun x22 => q_let (q_up M3 10 1 x22) fun M4 => (q_ld M4 r21 5 2).bind fun x23 => q_let (q_up M4 10 2 x23) fun M5 => (q_ld M5 r21 5 3).bind fun x24 => q_let (q_up M5 10 3 x24) fun M6 => (q_ld M6 r21 5 4).bind fun x25 => q_let (q_up M6 10 5 x25) fun M7 => some (0, M7)
theorem tX1_takeBack {d : Nat} (M : q_Mem) (hO : q_Ok M) : q_EX d yX1_takeBack cX1_takeBack 2 none 0 (q_args 0 [.inr (.inr 10)]) [] M (fX1_takeBack M) := by
  show q_EX _ _ _ _ _ 0 [(0, .inr (.inr 10))] [] M _
  unfold fX1_takeBack
  refine q_aload_n 0 dX1_takeBack_0 rfl rfl ?_
  refine q_aload_n 0 dX1_takeBack_1 rfl rfl ?_
  refine q_geti fl_X1_45 sh_10 (q_inO hO sh_10) rfl dX1_takeBack_2 ?_
  refine q_bipush dX1_takeBack_5 (by decide) ?_
  refine q_iadd dX1_takeBack_7 ?_
  refine q_iconst dX1_takeBack_8 ?_
  refine q_isub dX1_takeBack_9 ?_
  refine q_bipush dX1_takeBack_10 (by decide) ?_
  refine q_irem dX1_takeBack_12 (by decide) ?_
  refine q_puti fl_X1_45 sh_10 (q_inO hO sh_10) (fun h => q_Ok_put h sh_10 rfl) rfl dX1_takeBack_13 (fun M1 hM1 => ?_)
  have hO1 : q_Ok M1 := by rw [hM1]; exact q_Ok_put hO sh_10 rfl
  refine q_aload_n 0 dX1_takeBack_16 rfl rfl ?_
  refine q_dup dX1_takeBack_17 rfl ?_
  refine q_geti fl_X1_48 sh_10 (q_inO hO1 sh_10) rfl dX1_takeBack_18 ?_
  refine q_iconst dX1_takeBack_21 ?_
  refine q_isub dX1_takeBack_22 ?_
  refine q_puti fl_X1_48 sh_10 (q_inO hO1 sh_10) (fun h => q_Ok_put h sh_10 rfl) rfl dX1_takeBack_23 (fun M2 hM2 => ?_)
  have hO2 : q_Ok M2 := by rw [hM2]; exact q_Ok_put hO1 sh_10 rfl
  refine q_aload_n 0 dX1_takeBack_26 rfl rfl ?_
  refine q_getx fl_X1_42 hO2 sh_10 rfl fx_10_9 dX1_takeBack_27 ?_
  refine q_aload_n 0 dX1_takeBack_30 rfl rfl ?_
  refine q_geti fl_X1_45 sh_10 (q_inO hO2 sh_10) rfl dX1_takeBack_31 ?_
  refine q_aaldX hO2 sh_15 rw_15 dX1_takeBack_34 (fun r21 _ _ _ hr21 => ?_)
  refine q_astore_n (ls' := [(1, .inr (.inr r21)), (0, .inr (.inr 10))]) dX1_takeBack_35 rfl (by decide) rfl ?_
  refine q_aload_n 1 dX1_takeBack_36 rfl rfl ?_
  refine q_aload_n 0 dX1_takeBack_37 rfl rfl ?_
  refine q_iconst dX1_takeBack_38 ?_
  refine q_iald hr21 (q_inA hO2 hr21 (by decide)) dX1_takeBack_39 (fun x21 _ _ _ => ?_)
  refine q_puti fl_X1_9 sh_10 (q_inO hO2 sh_10) (fun h => q_Ok_put h sh_10 rfl) rfl dX1_takeBack_40 (fun M3 hM3 => ?_)
  have hO3 : q_Ok M3 := by rw [hM3]; exact q_Ok_put hO2 sh_10 rfl
  refine q_aload_n 1 dX1_takeBack_43 rfl rfl ?_
  refine q_aload_n 0 dX1_takeBack_44 rfl rfl ?_
  refine q_iconst dX1_takeBack_45 ?_
  refine q_iald hr21 (q_inA hO3 hr21 (by decide)) dX1_takeBack_46 (fun x22 _ _ _ => ?_)
  refine q_puti fl_X1_15 sh_10 (q_inO hO3 sh_10) (fun h => q_Ok_put h sh_10 rfl) rfl dX1_takeBack_47 (fun M4 hM4 => ?_)
  have hO4 : q_Ok M4 := by rw [hM4]; exact q_Ok_put hO3 sh_10 rfl
  refine q_aload_n 1 dX1_takeBack_50 rfl rfl ?_
  refine q_aload_n 0 dX1_takeBack_51 rfl rfl ?_
  refine q_iconst dX1_takeBack_52 ?_
  refine q_iald hr21 (q_inA hO4 hr21 (by decide)) dX1_takeBack_53 (fun x23 _ _ _ => ?_)
  refine q_puti fl_X1_18 sh_10 (q_inO hO4 sh_10) (fun h => q_Ok_put h sh_10 rfl) rfl dX1_takeBack_54 (fun M5 hM5 => ?_)
  have hO5 : q_Ok M5 := by rw [hM5]; exact q_Ok_put hO4 sh_10 rfl
  refine q_aload_n 1 dX1_takeBack_57 rfl rfl ?_
  refine q_aload_n 0 dX1_takeBack_58 rfl rfl ?_
  refine q_iconst dX1_takeBack_59 ?_
  refine q_iald hr21 (q_inA hO5 hr21 (by decide)) dX1_takeBack_60 (fun x24 _ _ _ => ?_)
  refine q_puti fl_X1_21 sh_10 (q_inO hO5 sh_10) (fun h => q_Ok_put h sh_10 rfl) rfl dX1_takeBack_61 (fun M6 hM6 => ?_)
  have hO6 : q_Ok M6 := by rw [hM6]; exact q_Ok_put hO5 sh_10 rfl
  refine q_aload_n 1 dX1_takeBack_64 rfl rfl ?_
  refine q_aload_n 0 dX1_takeBack_65 rfl rfl ?_
  refine q_iconst dX1_takeBack_66 ?_
  refine q_iald hr21 (q_inA hO6 hr21 (by decide)) dX1_takeBack_67 (fun x25 _ _ _ => ?_)
  refine q_puti fl_X1_28 sh_10 (q_inO hO6 sh_10) (fun h => q_Ok_put h sh_10 rfl) rfl dX1_takeBack_68 (fun M7 hM7 => ?_)
  have hO7 : q_Ok M7 := by rw [hM7]; exact q_Ok_put hO6 sh_10 rfl
  exact q_ret dX1_takeBack_71 rfl
def fX1_keep (x1 : Int) (x2 : Int) (M : q_Mem) : Option (Int × q_Mem) := q_let (q_up M 10 2 (q_or (M.2 10 2) (q_shl 1 x2))) fun M1 => if q_w (M1.2 10 5) < q_w 6 then ((q_sto M1 12 6 (M1.2 10 5) (M1.2 10 0)).bind fun M2 => (q_sto M2 13 6 (M2.2 10 5) x2).bind fun M3 => (q_sto M3 14 6 (M3.2 10 5) x1).bind fun M4 => q_let (q_up M4 10 5 ((M4.2 10 5) + 1)) fun M5 => some (0, M5)) else (some (0, M1))
theorem tX1_keep {d : Nat} (x1 : Int) (x2 : Int) (M : q_Mem) (hO : q_Ok M) : q_EX d yX1_keep cX1_keep 3 none 0 (q_args 0 [.inr (.inr 10), .inl x1, .inl x2]) [] M (fX1_keep x1 x2 M) := by
  show q_EX _ _ _ _ _ 0 [(0, .inr (.inr 10)), (1, .inl x1), (2, .inl x2)] [] M _
  unfold fX1_keep
  refine q_aload_n 0 dX1_keep_0 rfl rfl ?_
  refine q_dup dX1_keep_1 rfl ?_
  refine q_geti fl_X1_18 sh_10 (q_inO hO sh_10) rfl dX1_keep_2 ?_
  refine q_iconst dX1_keep_5 ?_
  refine q_iload_n 2 dX1_keep_6 rfl rfl ?_
  refine q_ishl dX1_keep_7 ?_
  refine q_ior dX1_keep_8 ?_
  refine q_puti fl_X1_18 sh_10 (q_inO hO sh_10) (fun h => q_Ok_put h sh_10 rfl) rfl dX1_keep_9 (fun M1 hM1 => ?_)
  have hO1 : q_Ok M1 := by rw [hM1]; exact q_Ok_put hO sh_10 rfl
  refine q_aload_n 0 dX1_keep_12 rfl rfl ?_
  refine q_geti fl_X1_28 sh_10 (q_inO hO1 sh_10) rfl dX1_keep_13 ?_
  refine q_bipush dX1_keep_16 (by decide) ?_
  refine q_icmpge (tgt := 64) dX1_keep_18 (by decide) ?_ ?_
  · exact q_ret dX1_keep_64 rfl
  · refine q_aload_n 0 dX1_keep_21 rfl rfl ?_
    refine q_getx fl_X1_31 hO1 sh_10 rfl fx_10_6 dX1_keep_22 ?_
    refine q_aload_n 0 dX1_keep_25 rfl rfl ?_
    refine q_geti fl_X1_28 sh_10 (q_inO hO1 sh_10) rfl dX1_keep_26 ?_
    refine q_aload_n 0 dX1_keep_29 rfl rfl ?_
    refine q_geti fl_X1_9 sh_10 (q_inO hO1 sh_10) rfl dX1_keep_30 ?_
    refine q_iast sh_12 (q_inA hO1 sh_12 (by decide)) dX1_keep_33 (fun M2 _ _ hM2 => ?_)
    have hO2 : q_Ok M2 := by rw [hM2]; exact q_Ok_arr (t := 0) hO1 sh_12 (by decide)
    refine q_aload_n 0 dX1_keep_34 rfl rfl ?_
    refine q_getx fl_X1_34 hO2 sh_10 rfl fx_10_7 dX1_keep_35 ?_
    refine q_aload_n 0 dX1_keep_38 rfl rfl ?_
    refine q_geti fl_X1_28 sh_10 (q_inO hO2 sh_10) rfl dX1_keep_39 ?_
    refine q_iload_n 2 dX1_keep_42 rfl rfl ?_
    refine q_iast sh_13 (q_inA hO2 sh_13 (by decide)) dX1_keep_43 (fun M3 _ _ hM3 => ?_)
    have hO3 : q_Ok M3 := by rw [hM3]; exact q_Ok_arr (t := 0) hO2 sh_13 (by decide)
    refine q_aload_n 0 dX1_keep_44 rfl rfl ?_
    refine q_getx fl_X1_37 hO3 sh_10 rfl fx_10_8 dX1_keep_45 ?_
    refine q_aload_n 0 dX1_keep_48 rfl rfl ?_
    refine q_geti fl_X1_28 sh_10 (q_inO hO3 sh_10) rfl dX1_keep_49 ?_
    refine q_iload_n 1 dX1_keep_52 rfl rfl ?_
    refine q_iast sh_14 (q_inA hO3 sh_14 (by decide)) dX1_keep_53 (fun M4 _ _ hM4 => ?_)
    have hO4 : q_Ok M4 := by rw [hM4]; exact q_Ok_arr (t := 0) hO3 sh_14 (by decide)
    refine q_aload_n 0 dX1_keep_54 rfl rfl ?_
    refine q_dup dX1_keep_55 rfl ?_
    refine q_geti fl_X1_28 sh_10 (q_inO hO4 sh_10) rfl dX1_keep_56 ?_
    refine q_iconst dX1_keep_59 ?_
    refine q_iadd dX1_keep_60 ?_
    refine q_puti fl_X1_28 sh_10 (q_inO hO4 sh_10) (fun h => q_Ok_put h sh_10 rfl) rfl dX1_keep_61 (fun M5 hM5 => ?_)
    have hO5 : q_Ok M5 := by rw [hM5]; exact q_Ok_put hO4 sh_10 rfl
    exact q_ret dX1_keep_64 rfl
def fX1_waitByChance_78 (r1 : Nat) (M : q_Mem) : Option (Int × q_Mem) := q_let (q_up M 10 0 ((M.2 10 0) + 1)) fun M1 => some (0, M1)
theorem tX1_waitByChance_78 {d : Nat} (r1 : Nat) (hr1 : q_shp r1 = (0, 2)) (M : q_Mem) (hO : q_Ok M) : q_EX d yX1_waitByChance cX1_waitByChance 2 none 78 [(0, .inr (.inr 10))] [] M (fX1_waitByChance_78 r1 M) := by
  unfold fX1_waitByChance_78
  refine q_aload_n 0 dX1_waitByChance_78 rfl rfl ?_
  refine q_dup dX1_waitByChance_79 rfl ?_
  refine q_geti fl_X1_9 sh_10 (q_inO hO sh_10) rfl dX1_waitByChance_80 ?_
  refine q_iconst dX1_waitByChance_83 ?_
  refine q_iadd dX1_waitByChance_84 ?_
  refine q_puti fl_X1_9 sh_10 (q_inO hO sh_10) (fun h => q_Ok_put h sh_10 rfl) rfl dX1_waitByChance_85 (fun M1 hM1 => ?_)
  have hO1 : q_Ok M1 := by rw [hM1]; exact q_Ok_put hO sh_10 rfl
  exact q_ret dX1_waitByChance_88 rfl
def fX1_waitByChance (r1 : Nat) (M : q_Mem) : Option (Int × q_Mem) := q_let (q_up M 10 12 (q_lrem ((1103515245 * (M.2 10 12)) + 12345) 2147483648)) fun M1 => if q_w (q_lcmp (q_lrem (q_ldiv (M1.2 10 12) 64) 100) (q_w (M1.2 r1 17))) < 0 then (if q_w ((M1.2 r1 11) + (M1.2 10 3)) < q_w 16 then ((q_sto M1 11 16 (M1.2 10 3) (M1.2 10 0)).bind fun M2 => q_let (q_up M2 10 3 ((M2.2 10 3) + 1)) fun M3 => (fX1_waitByChance_78 r1 M3)) else ((fX1_waitByChance_78 r1 M1))) else ((fX1_waitByChance_78 r1 M1))
theorem tX1_waitByChance {d : Nat} (r1 : Nat) (M : q_Mem) (hO : q_Ok M) (hr1 : q_shp r1 = (0, 2)) : q_EX d yX1_waitByChance cX1_waitByChance 2 none 0 (q_args 0 [.inr (.inr 10), .inr (.inr r1)]) [] M (fX1_waitByChance r1 M) := by
  show q_EX _ _ _ _ _ 0 [(0, .inr (.inr 10)), (1, .inr (.inr r1))] [] M _
  unfold fX1_waitByChance
  refine q_aload_n 0 dX1_waitByChance_0 rfl rfl ?_
  refine q_ldc2 dX1_waitByChance_1 kl_X1_64 (n := 1103515245) rfl ?_
  refine q_aload_n 0 dX1_waitByChance_4 rfl rfl ?_
  refine q_getl fl_X1_51 sh_10 (q_inO hO sh_10) rfl dX1_waitByChance_5 ?_
  refine q_lmul dX1_waitByChance_8 ?_
  refine q_ldc2 dX1_waitByChance_9 kl_X1_66 (n := 12345) rfl ?_
  refine q_ladd dX1_waitByChance_12 ?_
  refine q_ldc2 dX1_waitByChance_13 kl_X1_68 (n := 2147483648) rfl ?_
  refine q_lremR dX1_waitByChance_16 (by decide) ?_
  refine q_putl fl_X1_51 sh_10 (q_inO hO sh_10) (fun h => q_Ok_put h sh_10 rfl) rfl dX1_waitByChance_17 (fun M1 hM1 => ?_)
  have hO1 : q_Ok M1 := by rw [hM1]; exact q_Ok_put hO sh_10 rfl
  refine q_aload_n 0 dX1_waitByChance_20 rfl rfl ?_
  refine q_getl fl_X1_51 sh_10 (q_inO hO1 sh_10) rfl dX1_waitByChance_21 ?_
  refine q_ldc2 dX1_waitByChance_24 kl_X1_70 (n := 64) rfl ?_
  refine q_ldivR dX1_waitByChance_27 (by decide) ?_
  refine q_ldc2 dX1_waitByChance_28 kl_X1_72 (n := 100) rfl ?_
  refine q_lremR dX1_waitByChance_31 (by decide) ?_
  refine q_aload_n 1 dX1_waitByChance_32 rfl rfl ?_
  refine q_geti fl_X1_74 hr1 (q_inO hO1 hr1) rfl dX1_waitByChance_33 ?_
  refine q_i2l dX1_waitByChance_36 ?_
  refine q_lcmpR dX1_waitByChance_37 ?_
  refine q_ifge (tgt := 78) dX1_waitByChance_38 (by decide) ?_ ?_
  · refine q_sub [0] rfl ?_
    exact tX1_waitByChance_78 r1 hr1 M1 hO1
  · refine q_aload_n 1 dX1_waitByChance_41 rfl rfl ?_
    refine q_geti fl_X1_79 hr1 (q_inO hO1 hr1) rfl dX1_waitByChance_42 ?_
    refine q_aload_n 0 dX1_waitByChance_45 rfl rfl ?_
    refine q_geti fl_X1_21 sh_10 (q_inO hO1 sh_10) rfl dX1_waitByChance_46 ?_
    refine q_iadd dX1_waitByChance_49 ?_
    refine q_bipush dX1_waitByChance_50 (by decide) ?_
    refine q_icmpge (tgt := 78) dX1_waitByChance_52 (by decide) ?_ ?_
    · refine q_sub [0] rfl ?_
      exact tX1_waitByChance_78 r1 hr1 M1 hO1
    · refine q_aload_n 0 dX1_waitByChance_55 rfl rfl ?_
      refine q_getx fl_X1_24 hO1 sh_10 rfl fx_10_4 dX1_waitByChance_56 ?_
      refine q_aload_n 0 dX1_waitByChance_59 rfl rfl ?_
      refine q_geti fl_X1_21 sh_10 (q_inO hO1 sh_10) rfl dX1_waitByChance_60 ?_
      refine q_aload_n 0 dX1_waitByChance_63 rfl rfl ?_
      refine q_geti fl_X1_9 sh_10 (q_inO hO1 sh_10) rfl dX1_waitByChance_64 ?_
      refine q_iast sh_11 (q_inA hO1 sh_11 (by decide)) dX1_waitByChance_67 (fun M2 _ _ hM2 => ?_)
      have hO2 : q_Ok M2 := by rw [hM2]; exact q_Ok_arr (t := 0) hO1 sh_11 (by decide)
      refine q_aload_n 0 dX1_waitByChance_68 rfl rfl ?_
      refine q_dup dX1_waitByChance_69 rfl ?_
      refine q_geti fl_X1_21 sh_10 (q_inO hO2 sh_10) rfl dX1_waitByChance_70 ?_
      refine q_iconst dX1_waitByChance_73 ?_
      refine q_iadd dX1_waitByChance_74 ?_
      refine q_puti fl_X1_21 sh_10 (q_inO hO2 sh_10) (fun h => q_Ok_put h sh_10 rfl) rfl dX1_waitByChance_75 (fun M3 hM3 => ?_)
      have hO3 : q_Ok M3 := by rw [hM3]; exact q_Ok_put hO2 sh_10 rfl
      refine q_sub [0] rfl ?_
      exact tX1_waitByChance_78 r1 hr1 M3 hO3
def fX1_imageLength (x0 : Int) (M : q_Mem) : Option (Int × q_Mem) := some (((5 + (2 * x0)) + 1), M)
theorem tX1_imageLength {d : Nat} (x0 : Int) (M : q_Mem) (hO : q_Ok M) : q_EX d yX1_imageLength cX1_imageLength 1 (some .int) 0 (q_args 0 [.inl x0]) [] M (fX1_imageLength x0 M) := by
  show q_EX _ _ _ _ _ 0 [(0, .inl x0)] [] M _
  unfold fX1_imageLength
  refine q_iconst dX1_imageLength_0 ?_
  refine q_iconst dX1_imageLength_1 ?_
  refine q_iload_n 0 dX1_imageLength_2 rfl rfl ?_
  refine q_imul dX1_imageLength_3 ?_
  refine q_iadd dX1_imageLength_4 ?_
  refine q_iconst dX1_imageLength_5 ?_
  refine q_iadd dX1_imageLength_6 ?_
  exact q_ret dX1_imageLength_7 rfl
def fX10_put (r0 : Nat) (x1 : Int) (M : q_Mem) : Option (Int × q_Mem) := if q_w (M.2 r0 1) < 0 then (some (0, M)) else (if q_w (M.2 r0 1) < q_w (((q_shp (q_fr r0 0)).2 : Nat) : Int) then ((q_sto M (q_fr r0 0) ((q_shp (q_fr r0 0)).2) (M.2 r0 1) (q_and x1 255)).bind fun M1 => q_let (q_up M1 r0 1 ((M1.2 r0 1) + 1)) fun M2 => some (0, M2)) else (some (0, M)))
theorem tX10_put {d : Nat} (r0 : Nat) (x1 : Int) (M : q_Mem) (hO : q_Ok M) (hr0 : q_shp r0 = (0, 10)) : q_EX d yX10_put cX10_put 2 none 0 (q_args 0 [.inr (.inr r0), .inl x1]) [] M (fX10_put r0 x1 M) := by
  show q_EX _ _ _ _ _ 0 [(0, .inr (.inr r0)), (1, .inl x1)] [] M _
  unfold fX10_put
  refine q_aload_n 0 dX10_put_0 rfl rfl ?_
  refine q_geti fl_X10_9 hr0 (q_inO hO hr0) rfl dX10_put_1 ?_
  refine q_iflt (tgt := 43) dX10_put_4 (by decide) ?_ ?_
  · exact q_ret dX10_put_43 rfl
  · refine q_aload_n 0 dX10_put_7 rfl rfl ?_
    refine q_geti fl_X10_9 hr0 (q_inO hO hr0) rfl dX10_put_8 ?_
    refine q_aload_n 0 dX10_put_11 rfl rfl ?_
    refine q_getx fl_X10_21 hO hr0 rfl (fs_10_0 hr0) dX10_put_12 ?_
    refine q_alen (t := 0) (ft_10_0 hr0) (by decide) (q_inA hO (ft_10_0 hr0) (by decide)) dX10_put_15 ?_
    refine q_icmpge (tgt := 43) dX10_put_16 (by decide) ?_ ?_
    · exact q_ret dX10_put_43 rfl
    · refine q_aload_n 0 dX10_put_19 rfl rfl ?_
      refine q_getx fl_X10_21 hO hr0 rfl (fs_10_0 hr0) dX10_put_20 ?_
      refine q_aload_n 0 dX10_put_23 rfl rfl ?_
      refine q_geti fl_X10_9 hr0 (q_inO hO hr0) rfl dX10_put_24 ?_
      refine q_iload_n 1 dX10_put_27 rfl rfl ?_
      refine q_sipush dX10_put_28 (by decide) ?_
      refine q_iand dX10_put_31 ?_
      refine q_iast (ft_10_0 hr0) (q_inA hO (ft_10_0 hr0) (by decide)) dX10_put_32 (fun M1 _ _ hM1 => ?_)
      have hO1 : q_Ok M1 := by rw [hM1]; exact q_Ok_arr (t := 0) hO (ft_10_0 hr0) (by decide)
      refine q_aload_n 0 dX10_put_33 rfl rfl ?_
      refine q_dup dX10_put_34 rfl ?_
      refine q_geti fl_X10_9 hr0 (q_inO hO1 hr0) rfl dX10_put_35 ?_
      refine q_iconst dX10_put_38 ?_
      refine q_iadd dX10_put_39 ?_
      refine q_puti fl_X10_9 hr0 (q_inO hO1 hr0) (fun h => q_Ok_put h hr0 rfl) rfl dX10_put_40 (fun M2 hM2 => ?_)
      have hO2 : q_Ok M2 := by rw [hM2]; exact q_Ok_put hO1 hr0 rfl
      exact q_ret dX10_put_43 rfl
def fX10_putTwo (r0 : Nat) (x1 : Int) (M : q_Mem) : Option (Int × q_Mem) := q_bd (fX10_put r0 (q_shr x1 8) M) fun _ M1 => q_bd (fX10_put r0 x1 M1) fun _ M2 => some (0, M2)
theorem tX10_putTwo {d : Nat} (hd : 1 ≤ d) (r0 : Nat) (x1 : Int) (M : q_Mem) (hO : q_Ok M) (hr0 : q_shp r0 = (0, 10)) : q_EX d yX10_putTwo cX10_putTwo 2 none 0 (q_args 0 [.inr (.inr r0), .inl x1]) [] M (fX10_putTwo r0 x1 M) := by
  obtain ⟨d, rfl⟩ : ∃ d', d = d' + 1 := ⟨d - 1, by omega⟩
  have hd : 0 ≤ d := by omega
  show q_EX _ _ _ _ _ 0 [(0, .inr (.inr r0)), (1, .inl x1)] [] M _
  unfold fX10_putTwo
  refine q_aload_n 0 dX10_putTwo_0 rfl rfl ?_
  refine q_iload_n 1 dX10_putTwo_1 rfl rfl ?_
  refine q_bipush dX10_putTwo_2 (by decide) ?_
  refine q_ishr dX10_putTwo_4 ?_
  refine q_callVv (As := [.inl (q_shr x1 8)]) hO mb_X10_put mv_X10_put ml_X10_25 hr0 rfl dX10_putTwo_5 (fun _ => rfl) rfl (Nat.le_of_ble_eq_true rfl) rfl (Nat.le_of_ble_eq_true rfl) (tX10_put r0 (q_shr x1 8) M hO hr0) (fun _ M1 _ hO1 => ?_)
  refine q_aload_n 0 dX10_putTwo_8 rfl rfl ?_
  refine q_iload_n 1 dX10_putTwo_9 rfl rfl ?_
  refine q_callVv (As := [.inl x1]) hO1 mb_X10_put mv_X10_put ml_X10_25 hr0 rfl dX10_putTwo_10 (fun _ => rfl) rfl (Nat.le_of_ble_eq_true rfl) rfl (Nat.le_of_ble_eq_true rfl) (tX10_put r0 x1 M1 hO1 hr0) (fun _ M2 _ hO2 => ?_)
  exact q_ret dX10_putTwo_13 rfl
def fX10_at (r0 : Nat) (x1 : Int) (M : q_Mem) : Option (Int × q_Mem) := if q_w x1 < 0 then (some ((-1), M)) else (if q_w x1 < q_w (M.2 r0 1) then (if q_w x1 < q_w (((q_shp (q_fr r0 0)).2 : Nat) : Int) then ((q_ld M (q_fr r0 0) ((q_shp (q_fr r0 0)).2) x1).bind fun x21 => some (x21, M)) else (some ((-1), M))) else (some ((-1), M)))
theorem tX10_at {d : Nat} (r0 : Nat) (x1 : Int) (M : q_Mem) (hO : q_Ok M) (hr0 : q_shp r0 = (0, 10)) : q_EX d yX10_at cX10_at 2 (some .int) 0 (q_args 0 [.inr (.inr r0), .inl x1]) [] M (fX10_at r0 x1 M) := by
  show q_EX _ _ _ _ _ 0 [(0, .inr (.inr r0)), (1, .inl x1)] [] M _
  unfold fX10_at
  refine q_iload_n 1 dX10_at_0 rfl rfl ?_
  refine q_iflt (tgt := 30) dX10_at_1 (by decide) ?_ ?_
  · refine q_iconst dX10_at_30 ?_
    exact q_ret dX10_at_31 rfl
  · refine q_iload_n 1 dX10_at_4 rfl rfl ?_
    refine q_aload_n 0 dX10_at_5 rfl rfl ?_
    refine q_geti fl_X10_9 hr0 (q_inO hO hr0) rfl dX10_at_6 ?_
    refine q_icmpge (tgt := 30) dX10_at_9 (by decide) ?_ ?_
    · refine q_iconst dX10_at_30 ?_
      exact q_ret dX10_at_31 rfl
    · refine q_iload_n 1 dX10_at_12 rfl rfl ?_
      refine q_aload_n 0 dX10_at_13 rfl rfl ?_
      refine q_getx fl_X10_21 hO hr0 rfl (fs_10_0 hr0) dX10_at_14 ?_
      refine q_alen (t := 0) (ft_10_0 hr0) (by decide) (q_inA hO (ft_10_0 hr0) (by decide)) dX10_at_17 ?_
      refine q_icmpge (tgt := 30) dX10_at_18 (by decide) ?_ ?_
      · refine q_iconst dX10_at_30 ?_
        exact q_ret dX10_at_31 rfl
      · refine q_aload_n 0 dX10_at_21 rfl rfl ?_
        refine q_getx fl_X10_21 hO hr0 rfl (fs_10_0 hr0) dX10_at_22 ?_
        refine q_iload_n 1 dX10_at_25 rfl rfl ?_
        refine q_iald (ft_10_0 hr0) (q_inA hO (ft_10_0 hr0) (by decide)) dX10_at_26 (fun x21 _ _ _ => ?_)
        refine q_goto (tgt := 31) dX10_at_27 (by decide) ?_
        exact q_ret dX10_at_31 rfl
def fX10_check_6 (r0 : Nat) : Nat → Int → Int → Int → q_Mem → Option (Int × q_Mem)
  | 0, _, _, _, _ => none
  | n + 1, x1, x2, x3, M => if q_w x3 < q_w x1 then (q_bd (fX10_at r0 x3 M) fun x21 M1 => q_let (q_rem ((3 * x2) + x21) 251) fun x22 => (fX10_check_6 r0 n x1 x22 (x3 + 1) M1)) else (some (x2, M))
theorem tX10_check_6 {d : Nat} (hd : 0 ≤ d) (r0 : Nat) (hr0 : q_shp r0 = (0, 10)) : ∀ (n : Nat) (x1 : Int) (x2 : Int) (x3 : Int) (M : q_Mem), q_Ok M → q_EX (d + 1) yX10_check cX10_check 4 (some .int) 6 [(0, .inr (.inr r0)), (1, .inl x1), (2, .inl x2), (3, .inl x3)] [] M (fX10_check_6 r0 n x1 x2 x3 M) := by
  intro n
  induction n with
  | zero => intro x1 x2 x3 M hO; exact q_none
  | succ n ih =>
    intro x1 x2 x3 M hO
    rw [fX10_check_6]
    refine q_iload_n 3 dX10_check_6 rfl rfl ?_
    refine q_iload_n 1 dX10_check_7 rfl rfl ?_
    refine q_icmpge (tgt := 31) dX10_check_8 (by decide) ?_ ?_
    · refine q_iload_n 2 dX10_check_31 rfl rfl ?_
      exact q_ret dX10_check_32 rfl
    · refine q_iconst dX10_check_11 ?_
      refine q_iload_n 2 dX10_check_12 rfl rfl ?_
      refine q_imul dX10_check_13 ?_
      refine q_aload_n 0 dX10_check_14 rfl rfl ?_
      refine q_iload_n 3 dX10_check_15 rfl rfl ?_
      refine q_callVi (As := [.inl x3]) hO mb_X10_at mv_X10_at ml_X10_32 hr0 rfl dX10_check_16 (fun _ => rfl) rfl (Nat.le_of_ble_eq_true rfl) rfl (Nat.le_of_ble_eq_true rfl) (tX10_at r0 x3 M hO hr0) (fun x21 M1 _ hO1 => ?_)
      refine q_iadd dX10_check_19 ?_
      refine q_sipush dX10_check_20 (by decide) ?_
      refine q_irem dX10_check_23 (by decide) ?_
      refine q_nameI (fun x22 _ => ?_)
      refine q_istore_n (ls' := [(2, .inl x22), (0, .inr (.inr r0)), (1, .inl x1), (3, .inl x3)]) dX10_check_24 rfl (by decide) rfl ?_
      refine q_iinc (ls' := [(3, .inl (x3 + 1)), (2, .inl x22), (0, .inr (.inr r0)), (1, .inl x1)]) 3 dX10_check_25 rfl (by decide) rfl ?_
      refine q_goto (tgt := 6) dX10_check_28 (by decide) ?_
      refine q_sub [2, 3, 1, 0] rfl ?_
      exact ih x1 x22 (x3 + 1) M1 hO1
def fX10_check (r0 : Nat) (x1 : Int) (M : q_Mem) : Option (Int × q_Mem) := (fX10_check_6 r0 q_FU x1 167 0 M)
theorem tX10_check {d : Nat} (hd : 1 ≤ d) (r0 : Nat) (x1 : Int) (M : q_Mem) (hO : q_Ok M) (hr0 : q_shp r0 = (0, 10)) : q_EX d yX10_check cX10_check 4 (some .int) 0 (q_args 0 [.inr (.inr r0), .inl x1]) [] M (fX10_check r0 x1 M) := by
  obtain ⟨d, rfl⟩ : ∃ d', d = d' + 1 := ⟨d - 1, by omega⟩
  have hd : 0 ≤ d := by omega
  show q_EX _ _ _ _ _ 0 [(0, .inr (.inr r0)), (1, .inl x1)] [] M _
  unfold fX10_check
  refine q_sipush dX10_check_0 (by decide) ?_
  refine q_istore_n (ls' := [(2, .inl 167), (0, .inr (.inr r0)), (1, .inl x1)]) dX10_check_3 rfl (by decide) rfl ?_
  refine q_iconst dX10_check_4 ?_
  refine q_istore_n (ls' := [(3, .inl 0), (2, .inl 167), (0, .inr (.inr r0)), (1, .inl x1)]) dX10_check_5 rfl (by decide) rfl ?_
  refine q_sub [2, 3, 1, 0] rfl ?_
  exact tX10_check_6 hd r0 hr0 q_FU x1 167 0 M hO
def fX1_write_39 (r1 : Nat) : Nat → Int → q_Mem → Option (Int × q_Mem)
  | 0, _, _ => none
  | n + 1, x2, M => if q_w x2 < q_w (M.2 10 3) then ((q_ld M 11 16 x2).bind fun x22 => q_bd (fX10_putTwo r1 x22 M) fun _ M3 => (fX1_write_39 r1 n (x2 + 1) M3)) else (q_bd (fX10_check r1 (M.2 r1 1) M) fun x21 M1 => q_bd (fX10_put r1 x21 M1) fun _ M2 => some (0, M2))
theorem tX1_write_39 {d : Nat} (hd : 1 ≤ d) (r1 : Nat) (hr1 : q_shp r1 = (0, 10)) : ∀ (n : Nat) (x2 : Int) (M : q_Mem), q_Ok M → q_EX (d + 1) yX1_write cX1_write 3 none 39 [(0, .inr (.inr 10)), (1, .inr (.inr r1)), (2, .inl x2)] [] M (fX1_write_39 r1 n x2 M) := by
  intro n
  induction n with
  | zero => intro x2 M hO; exact q_none
  | succ n ih =>
    intro x2 M hO
    rw [fX1_write_39]
    refine q_iload_n 2 dX1_write_39 rfl rfl ?_
    refine q_aload_n 0 dX1_write_40 rfl rfl ?_
    refine q_geti fl_X1_21 sh_10 (q_inO hO sh_10) rfl dX1_write_41 ?_
    refine q_icmpge (tgt := 63) dX1_write_44 (by decide) ?_ ?_
    · refine q_aload_n 1 dX1_write_63 rfl rfl ?_
      refine q_aload_n 1 dX1_write_64 rfl rfl ?_
      refine q_aload_n 1 dX1_write_65 rfl rfl ?_
      refine q_geti fl_X1_80 hr1 (q_inO hO hr1) rfl dX1_write_66 ?_
      refine q_callVi (As := [.inl (M.2 r1 1)]) hO mb_X10_check mv_X10_check ml_X1_92 hr1 rfl dX1_write_69 (fun _ => rfl) rfl (Nat.le_of_ble_eq_true rfl) rfl (Nat.le_of_ble_eq_true rfl) (tX10_check (by omega) r1 (M.2 r1 1) M hO hr1) (fun x21 M1 _ hO1 => ?_)
      refine q_callVv (As := [.inl x21]) hO1 mb_X10_put mv_X10_put ml_X1_89 hr1 rfl dX1_write_72 (fun _ => rfl) rfl (Nat.le_of_ble_eq_true rfl) rfl (Nat.le_of_ble_eq_true rfl) (tX10_put r1 x21 M1 hO1 hr1) (fun _ M2 _ hO2 => ?_)
      exact q_ret dX1_write_75 rfl
    · refine q_aload_n 1 dX1_write_47 rfl rfl ?_
      refine q_aload_n 0 dX1_write_48 rfl rfl ?_
      refine q_getx fl_X1_24 hO sh_10 rfl fx_10_4 dX1_write_49 ?_
      refine q_iload_n 2 dX1_write_52 rfl rfl ?_
      refine q_iald sh_11 (q_inA hO sh_11 (by decide)) dX1_write_53 (fun x22 _ _ _ => ?_)
      refine q_callVv (As := [.inl x22]) hO mb_X10_putTwo mv_X10_putTwo ml_X1_85 hr1 rfl dX1_write_54 (fun _ => rfl) rfl (Nat.le_of_ble_eq_true rfl) rfl (Nat.le_of_ble_eq_true rfl) (tX10_putTwo (by omega) r1 x22 M hO hr1) (fun _ M3 _ hO3 => ?_)
      refine q_iinc (ls' := [(2, .inl (x2 + 1)), (0, .inr (.inr 10)), (1, .inr (.inr r1))]) 2 dX1_write_57 rfl (by decide) rfl ?_
      refine q_goto (tgt := 39) dX1_write_60 (by decide) ?_
      refine q_sub [1, 2, 0] rfl ?_
      exact ih (x2 + 1) M3 hO3
def fX1_write (r1 : Nat) (M : q_Mem) : Option (Int × q_Mem) := q_let (q_up M r1 1 0) fun M1 => q_bd (fX10_putTwo r1 (M1.2 10 0) M1) fun _ M2 => q_bd (fX10_put r1 (M2.2 10 1) M2) fun _ M3 => q_bd (fX10_put r1 (M3.2 10 2) M3) fun _ M4 => q_bd (fX10_put r1 (M4.2 10 3) M4) fun _ M5 => (fX1_write_39 r1 q_FU 0 M5)
theorem tX1_write {d : Nat} (hd : 2 ≤ d) (r1 : Nat) (M : q_Mem) (hO : q_Ok M) (hr1 : q_shp r1 = (0, 10)) : q_EX d yX1_write cX1_write 3 none 0 (q_args 0 [.inr (.inr 10), .inr (.inr r1)]) [] M (fX1_write r1 M) := by
  obtain ⟨d, rfl⟩ : ∃ d', d = d' + 1 := ⟨d - 1, by omega⟩
  have hd : 1 ≤ d := by omega
  show q_EX _ _ _ _ _ 0 [(0, .inr (.inr 10)), (1, .inr (.inr r1))] [] M _
  unfold fX1_write
  refine q_aload_n 1 dX1_write_0 rfl rfl ?_
  refine q_iconst dX1_write_1 ?_
  refine q_puti fl_X1_80 hr1 (q_inO hO hr1) (fun h => q_Ok_put h hr1 rfl) rfl dX1_write_2 (fun M1 hM1 => ?_)
  have hO1 : q_Ok M1 := by rw [hM1]; exact q_Ok_put hO hr1 rfl
  refine q_aload_n 1 dX1_write_5 rfl rfl ?_
  refine q_aload_n 0 dX1_write_6 rfl rfl ?_
  refine q_geti fl_X1_9 sh_10 (q_inO hO1 sh_10) rfl dX1_write_7 ?_
  refine q_callVv (As := [.inl (M1.2 10 0)]) hO1 mb_X10_putTwo mv_X10_putTwo ml_X1_85 hr1 rfl dX1_write_10 (fun _ => rfl) rfl (Nat.le_of_ble_eq_true rfl) rfl (Nat.le_of_ble_eq_true rfl) (tX10_putTwo (by omega) r1 (M1.2 10 0) M1 hO1 hr1) (fun _ M2 _ hO2 => ?_)
  refine q_aload_n 1 dX1_write_13 rfl rfl ?_
  refine q_aload_n 0 dX1_write_14 rfl rfl ?_
  refine q_geti fl_X1_15 sh_10 (q_inO hO2 sh_10) rfl dX1_write_15 ?_
  refine q_callVv (As := [.inl (M2.2 10 1)]) hO2 mb_X10_put mv_X10_put ml_X1_89 hr1 rfl dX1_write_18 (fun _ => rfl) rfl (Nat.le_of_ble_eq_true rfl) rfl (Nat.le_of_ble_eq_true rfl) (tX10_put r1 (M2.2 10 1) M2 hO2 hr1) (fun _ M3 _ hO3 => ?_)
  refine q_aload_n 1 dX1_write_21 rfl rfl ?_
  refine q_aload_n 0 dX1_write_22 rfl rfl ?_
  refine q_geti fl_X1_18 sh_10 (q_inO hO3 sh_10) rfl dX1_write_23 ?_
  refine q_callVv (As := [.inl (M3.2 10 2)]) hO3 mb_X10_put mv_X10_put ml_X1_89 hr1 rfl dX1_write_26 (fun _ => rfl) rfl (Nat.le_of_ble_eq_true rfl) rfl (Nat.le_of_ble_eq_true rfl) (tX10_put r1 (M3.2 10 2) M3 hO3 hr1) (fun _ M4 _ hO4 => ?_)
  refine q_aload_n 1 dX1_write_29 rfl rfl ?_
  refine q_aload_n 0 dX1_write_30 rfl rfl ?_
  refine q_geti fl_X1_21 sh_10 (q_inO hO4 sh_10) rfl dX1_write_31 ?_
  refine q_callVv (As := [.inl (M4.2 10 3)]) hO4 mb_X10_put mv_X10_put ml_X1_89 hr1 rfl dX1_write_34 (fun _ => rfl) rfl (Nat.le_of_ble_eq_true rfl) rfl (Nat.le_of_ble_eq_true rfl) (tX10_put r1 (M4.2 10 3) M4 hO4 hr1) (fun _ M5 _ hO5 => ?_)
  refine q_iconst dX1_write_37 ?_
  refine q_istore_n (ls' := [(2, .inl 0), (0, .inr (.inr 10)), (1, .inr (.inr r1))]) dX1_write_38 rfl (by decide) rfl ?_
  refine q_sub [1, 2, 0] rfl ?_
  exact tX1_write_39 hd r1 hr1 q_FU 0 M5 hO5
def fX10_twoAt (r0 : Nat) (x1 : Int) (M : q_Mem) : Option (Int × q_Mem) := q_bd (fX10_at r0 x1 M) fun x21 M1 => q_bd (fX10_at r0 (x1 + 1) M1) fun x22 M2 => some ((q_or (q_shl x21 8) x22), M2)
theorem tX10_twoAt {d : Nat} (hd : 1 ≤ d) (r0 : Nat) (x1 : Int) (M : q_Mem) (hO : q_Ok M) (hr0 : q_shp r0 = (0, 10)) : q_EX d yX10_twoAt cX10_twoAt 2 (some .int) 0 (q_args 0 [.inr (.inr r0), .inl x1]) [] M (fX10_twoAt r0 x1 M) := by
  obtain ⟨d, rfl⟩ : ∃ d', d = d' + 1 := ⟨d - 1, by omega⟩
  have hd : 0 ≤ d := by omega
  show q_EX _ _ _ _ _ 0 [(0, .inr (.inr r0)), (1, .inl x1)] [] M _
  unfold fX10_twoAt
  refine q_aload_n 0 dX10_twoAt_0 rfl rfl ?_
  refine q_iload_n 1 dX10_twoAt_1 rfl rfl ?_
  refine q_callVi (As := [.inl x1]) hO mb_X10_at mv_X10_at ml_X10_32 hr0 rfl dX10_twoAt_2 (fun _ => rfl) rfl (Nat.le_of_ble_eq_true rfl) rfl (Nat.le_of_ble_eq_true rfl) (tX10_at r0 x1 M hO hr0) (fun x21 M1 _ hO1 => ?_)
  refine q_bipush dX10_twoAt_5 (by decide) ?_
  refine q_ishl dX10_twoAt_7 ?_
  refine q_aload_n 0 dX10_twoAt_8 rfl rfl ?_
  refine q_iload_n 1 dX10_twoAt_9 rfl rfl ?_
  refine q_iconst dX10_twoAt_10 ?_
  refine q_iadd dX10_twoAt_11 ?_
  refine q_callVi (As := [.inl (x1 + 1)]) hO1 mb_X10_at mv_X10_at ml_X10_32 hr0 rfl dX10_twoAt_12 (fun _ => rfl) rfl (Nat.le_of_ble_eq_true rfl) rfl (Nat.le_of_ble_eq_true rfl) (tX10_at r0 (x1 + 1) M1 hO1 hr0) (fun x22 M2 _ hO2 => ?_)
  refine q_ior dX10_twoAt_15 ?_
  exact q_ret dX10_twoAt_16 rfl
def fX1_read_43 (r1 : Nat) : Nat → Int → q_Mem → Option (Int × q_Mem)
  | 0, _, _ => none
  | n + 1, x2, M => if q_w x2 < q_w (M.2 10 3) then (q_bd (fX10_twoAt r1 (5 + (2 * x2)) M) fun x21 M2 => (q_sto M2 11 16 x2 x21).bind fun M3 => (fX1_read_43 r1 n (x2 + 1) M3)) else (q_bd (fX1_forget M) fun _ M1 => some (0, M1))
theorem tX1_read_43 {d : Nat} (hd : 1 ≤ d) (r1 : Nat) (hr1 : q_shp r1 = (0, 10)) : ∀ (n : Nat) (x2 : Int) (M : q_Mem), q_Ok M → q_EX (d + 1) yX1_read cX1_read 3 none 43 [(0, .inr (.inr 10)), (1, .inr (.inr r1)), (2, .inl x2)] [] M (fX1_read_43 r1 n x2 M) := by
  intro n
  induction n with
  | zero => intro x2 M hO; exact q_none
  | succ n ih =>
    intro x2 M hO
    rw [fX1_read_43]
    refine q_iload_n 2 dX1_read_43 rfl rfl ?_
    refine q_aload_n 0 dX1_read_44 rfl rfl ?_
    refine q_geti fl_X1_21 sh_10 (q_inO hO sh_10) rfl dX1_read_45 ?_
    refine q_icmpge (tgt := 72) dX1_read_48 (by decide) ?_ ?_
    · refine q_aload_n 0 dX1_read_72 rfl rfl ?_
      refine q_callVv (As := []) hO mb_X1_forget mv_X1_forget ml_X1_55 sh_10 rfl dX1_read_73 (fun _ => rfl) rfl (Nat.le_of_ble_eq_true rfl) rfl (Nat.le_of_ble_eq_true rfl) (tX1_forget M hO) (fun _ M1 _ hO1 => ?_)
      exact q_ret dX1_read_76 rfl
    · refine q_aload_n 0 dX1_read_51 rfl rfl ?_
      refine q_getx fl_X1_24 hO sh_10 rfl fx_10_4 dX1_read_52 ?_
      refine q_iload_n 2 dX1_read_55 rfl rfl ?_
      refine q_aload_n 1 dX1_read_56 rfl rfl ?_
      refine q_iconst dX1_read_57 ?_
      refine q_iconst dX1_read_58 ?_
      refine q_iload_n 2 dX1_read_59 rfl rfl ?_
      refine q_imul dX1_read_60 ?_
      refine q_iadd dX1_read_61 ?_
      refine q_callVi (As := [.inl (5 + (2 * x2))]) hO mb_X10_twoAt mv_X10_twoAt ml_X1_96 hr1 rfl dX1_read_62 (fun _ => rfl) rfl (Nat.le_of_ble_eq_true rfl) rfl (Nat.le_of_ble_eq_true rfl) (tX10_twoAt (by omega) r1 (5 + (2 * x2)) M hO hr1) (fun x21 M2 _ hO2 => ?_)
      refine q_iast sh_11 (q_inA hO2 sh_11 (by decide)) dX1_read_65 (fun M3 _ _ hM3 => ?_)
      have hO3 : q_Ok M3 := by rw [hM3]; exact q_Ok_arr (t := 0) hO2 sh_11 (by decide)
      refine q_iinc (ls' := [(2, .inl (x2 + 1)), (0, .inr (.inr 10)), (1, .inr (.inr r1))]) 2 dX1_read_66 rfl (by decide) rfl ?_
      refine q_goto (tgt := 43) dX1_read_69 (by decide) ?_
      refine q_sub [1, 2, 0] rfl ?_
      exact ih (x2 + 1) M3 hO3
def fX1_read (r1 : Nat) (M : q_Mem) : Option (Int × q_Mem) := q_bd (fX10_twoAt r1 0 M) fun x21 M1 => q_let (q_up M1 10 0 x21) fun M2 => q_bd (fX10_at r1 2 M2) fun x22 M3 => q_let (q_up M3 10 1 x22) fun M4 => q_bd (fX10_at r1 3 M4) fun x23 M5 => q_let (q_up M5 10 2 x23) fun M6 => q_bd (fX10_at r1 4 M6) fun x24 M7 => q_let (q_up M7 10 3 (q_min 16 x24)) fun M8 => (fX1_read_43 r1 q_FU 0 M8)
theorem tX1_read {d : Nat} (hd : 2 ≤ d) (r1 : Nat) (M : q_Mem) (hO : q_Ok M) (hr1 : q_shp r1 = (0, 10)) : q_EX d yX1_read cX1_read 3 none 0 (q_args 0 [.inr (.inr 10), .inr (.inr r1)]) [] M (fX1_read r1 M) := by
  obtain ⟨d, rfl⟩ : ∃ d', d = d' + 1 := ⟨d - 1, by omega⟩
  have hd : 1 ≤ d := by omega
  show q_EX _ _ _ _ _ 0 [(0, .inr (.inr 10)), (1, .inr (.inr r1))] [] M _
  unfold fX1_read
  refine q_aload_n 0 dX1_read_0 rfl rfl ?_
  refine q_aload_n 1 dX1_read_1 rfl rfl ?_
  refine q_iconst dX1_read_2 ?_
  refine q_callVi (As := [.inl 0]) hO mb_X10_twoAt mv_X10_twoAt ml_X1_96 hr1 rfl dX1_read_3 (fun _ => rfl) rfl (Nat.le_of_ble_eq_true rfl) rfl (Nat.le_of_ble_eq_true rfl) (tX10_twoAt (by omega) r1 0 M hO hr1) (fun x21 M1 _ hO1 => ?_)
  refine q_puti fl_X1_9 sh_10 (q_inO hO1 sh_10) (fun h => q_Ok_put h sh_10 rfl) rfl dX1_read_6 (fun M2 hM2 => ?_)
  have hO2 : q_Ok M2 := by rw [hM2]; exact q_Ok_put hO1 sh_10 rfl
  refine q_aload_n 0 dX1_read_9 rfl rfl ?_
  refine q_aload_n 1 dX1_read_10 rfl rfl ?_
  refine q_iconst dX1_read_11 ?_
  refine q_callVi (As := [.inl 2]) hO2 mb_X10_at mv_X10_at ml_X1_99 hr1 rfl dX1_read_12 (fun _ => rfl) rfl (Nat.le_of_ble_eq_true rfl) rfl (Nat.le_of_ble_eq_true rfl) (tX10_at r1 2 M2 hO2 hr1) (fun x22 M3 _ hO3 => ?_)
  refine q_puti fl_X1_15 sh_10 (q_inO hO3 sh_10) (fun h => q_Ok_put h sh_10 rfl) rfl dX1_read_15 (fun M4 hM4 => ?_)
  have hO4 : q_Ok M4 := by rw [hM4]; exact q_Ok_put hO3 sh_10 rfl
  refine q_aload_n 0 dX1_read_18 rfl rfl ?_
  refine q_aload_n 1 dX1_read_19 rfl rfl ?_
  refine q_iconst dX1_read_20 ?_
  refine q_callVi (As := [.inl 3]) hO4 mb_X10_at mv_X10_at ml_X1_99 hr1 rfl dX1_read_21 (fun _ => rfl) rfl (Nat.le_of_ble_eq_true rfl) rfl (Nat.le_of_ble_eq_true rfl) (tX10_at r1 3 M4 hO4 hr1) (fun x23 M5 _ hO5 => ?_)
  refine q_puti fl_X1_18 sh_10 (q_inO hO5 sh_10) (fun h => q_Ok_put h sh_10 rfl) rfl dX1_read_24 (fun M6 hM6 => ?_)
  have hO6 : q_Ok M6 := by rw [hM6]; exact q_Ok_put hO5 sh_10 rfl
  refine q_aload_n 0 dX1_read_27 rfl rfl ?_
  refine q_bipush dX1_read_28 (by decide) ?_
  refine q_aload_n 1 dX1_read_30 rfl rfl ?_
  refine q_iconst dX1_read_31 ?_
  refine q_callVi (As := [.inl 4]) hO6 mb_X10_at mv_X10_at ml_X1_99 hr1 rfl dX1_read_32 (fun _ => rfl) rfl (Nat.le_of_ble_eq_true rfl) rfl (Nat.le_of_ble_eq_true rfl) (tX10_at r1 4 M6 hO6 hr1) (fun x24 M7 _ hO7 => ?_)
  refine q_mmin ml_X1_58' jm_min ni_J9 jc_min (Nat.le_of_ble_eq_true rfl) dX1_read_35 ?_
  refine q_puti fl_X1_21 sh_10 (q_inO hO7 sh_10) (fun h => q_Ok_put h sh_10 rfl) rfl dX1_read_38 (fun M8 hM8 => ?_)
  have hO8 : q_Ok M8 := by rw [hM8]; exact q_Ok_put hO7 sh_10 rfl
  refine q_iconst dX1_read_41 ?_
  refine q_istore_n (ls' := [(2, .inl 0), (0, .inr (.inr 10)), (1, .inr (.inr r1))]) dX1_read_42 rfl (by decide) rfl ?_
  refine q_sub [1, 2, 0] rfl ?_
  exact tX1_read_43 hd r1 hr1 q_FU 0 M8 hO8
def fX2_clear (r0 : Nat) (M : q_Mem) : Option (Int × q_Mem) := q_let (q_up M r0 0 0) fun M1 => q_let (q_up M1 r0 1 0) fun M2 => q_let (q_up M2 r0 7 0) fun M3 => q_let (q_up M3 r0 11 0) fun M4 => q_let (q_up M4 (q_fr r0 14) 1 0) fun M5 => q_let (q_up M5 (q_fr r0 15) 1 0) fun M6 => q_let (q_up M6 r0 16 0) fun M7 => q_let (q_up M7 r0 17 0) fun M8 => some (0, M8)
theorem tX2_clear {d : Nat} (r0 : Nat) (M : q_Mem) (hO : q_Ok M) (hr0 : q_shp r0 = (0, 2)) : q_EX d yX2_clear cX2_clear 1 none 0 (q_args 0 [.inr (.inr r0)]) [] M (fX2_clear r0 M) := by
  show q_EX _ _ _ _ _ 0 [(0, .inr (.inr r0))] [] M _
  unfold fX2_clear
  refine q_aload_n 0 dX2_clear_0 rfl rfl ?_
  refine q_iconst dX2_clear_1 ?_
  refine q_puti fl_X2_9 hr0 (q_inO hO hr0) (fun h => q_Ok_put h hr0 rfl) rfl dX2_clear_2 (fun M1 hM1 => ?_)
  have hO1 : q_Ok M1 := by rw [hM1]; exact q_Ok_put hO hr0 rfl
  refine q_aload_n 0 dX2_clear_5 rfl rfl ?_
  refine q_iconst dX2_clear_6 ?_
  refine q_puti fl_X2_15 hr0 (q_inO hO1 hr0) (fun h => q_Ok_put h hr0 rfl) rfl dX2_clear_7 (fun M2 hM2 => ?_)
  have hO2 : q_Ok M2 := by rw [hM2]; exact q_Ok_put hO1 hr0 rfl
  refine q_aload_n 0 dX2_clear_10 rfl rfl ?_
  refine q_iconst dX2_clear_11 ?_
  refine q_puti fl_X2_34 hr0 (q_inO hO2 hr0) (fun h => q_Ok_put h hr0 rfl) rfl dX2_clear_12 (fun M3 hM3 => ?_)
  have hO3 : q_Ok M3 := by rw [hM3]; exact q_Ok_put hO2 hr0 rfl
  refine q_aload_n 0 dX2_clear_15 rfl rfl ?_
  refine q_iconst dX2_clear_16 ?_
  refine q_puti fl_X2_46 hr0 (q_inO hO3 hr0) (fun h => q_Ok_put h hr0 rfl) rfl dX2_clear_17 (fun M4 hM4 => ?_)
  have hO4 : q_Ok M4 := by rw [hM4]; exact q_Ok_put hO3 hr0 rfl
  refine q_aload_n 0 dX2_clear_20 rfl rfl ?_
  refine q_getx fl_X2_58 hO4 hr0 rfl (fs_2_14 hr0) dX2_clear_21 ?_
  refine q_iconst dX2_clear_24 ?_
  refine q_puti fl_X2_71 (ft_2_14 hr0) (q_inO hO4 (ft_2_14 hr0)) (fun h => q_Ok_put h (ft_2_14 hr0) rfl) rfl dX2_clear_25 (fun M5 hM5 => ?_)
  have hO5 : q_Ok M5 := by rw [hM5]; exact q_Ok_put hO4 (ft_2_14 hr0) rfl
  refine q_aload_n 0 dX2_clear_28 rfl rfl ?_
  refine q_getx fl_X2_62 hO5 hr0 rfl (fs_2_15 hr0) dX2_clear_29 ?_
  refine q_iconst dX2_clear_32 ?_
  refine q_puti fl_X2_71 (ft_2_15 hr0) (q_inO hO5 (ft_2_15 hr0)) (fun h => q_Ok_put h (ft_2_15 hr0) rfl) rfl dX2_clear_33 (fun M6 hM6 => ?_)
  have hO6 : q_Ok M6 := by rw [hM6]; exact q_Ok_put hO5 (ft_2_15 hr0) rfl
  refine q_aload_n 0 dX2_clear_36 rfl rfl ?_
  refine q_iconst dX2_clear_37 ?_
  refine q_puti fl_X2_65 hr0 (q_inO hO6 hr0) (fun h => q_Ok_put h hr0 rfl) rfl dX2_clear_38 (fun M7 hM7 => ?_)
  have hO7 : q_Ok M7 := by rw [hM7]; exact q_Ok_put hO6 hr0 rfl
  refine q_aload_n 0 dX2_clear_41 rfl rfl ?_
  refine q_iconst dX2_clear_42 ?_
  refine q_puti fl_X2_68 hr0 (q_inO hO7 hr0) (fun h => q_Ok_put h hr0 rfl) rfl dX2_clear_43 (fun M8 hM8 => ?_)
  have hO8 : q_Ok M8 := by rw [hM8]; exact q_Ok_put hO7 hr0 rfl
  exact q_ret dX2_clear_46 rfl
def fX2_hasName_30 (r0 : Nat) : Nat → Int → Int → q_Mem → Option (Int × q_Mem)
  | 0, _, _, _ => none
  | n + 1, x1, x2, M => if q_w x2 < q_w (M.2 r0 7) then ((q_ld M (q_fr r0 8) 8 x2).bind fun x21 => if q_w x21 = q_w x1 then (some (1, M)) else ((fX2_hasName_30 r0 n x1 (x2 + 1) M))) else (some (0, M))
theorem tX2_hasName_30 {d : Nat} (r0 : Nat) (hr0 : q_shp r0 = (0, 2)) : ∀ (n : Nat) (x1 : Int) (x2 : Int) (M : q_Mem), q_Ok M → q_EX d yX2_hasName cX2_hasName 3 (some .boolean) 30 [(0, .inr (.inr r0)), (1, .inl x1), (2, .inl x2)] [] M (fX2_hasName_30 r0 n x1 x2 M) := by
  intro n
  induction n with
  | zero => intro x1 x2 M hO; exact q_none
  | succ n ih =>
    intro x1 x2 M hO
    rw [fX2_hasName_30]
    refine q_iload_n 2 dX2_hasName_30 rfl rfl ?_
    refine q_aload_n 0 dX2_hasName_31 rfl rfl ?_
    refine q_geti fl_X2_34 hr0 (q_inO hO hr0) rfl dX2_hasName_32 ?_
    refine q_icmpge (tgt := 56) dX2_hasName_35 (by decide) ?_ ?_
    · refine q_iconst dX2_hasName_56 ?_
      exact q_ret ⟨dX2_hasName_57, by decide⟩ rfl
    · refine q_aload_n 0 dX2_hasName_38 rfl rfl ?_
      refine q_getx fl_X2_37 hO hr0 rfl (fs_2_8 hr0) dX2_hasName_39 ?_
      refine q_iload_n 2 dX2_hasName_42 rfl rfl ?_
      refine q_iald (ft_2_8 hr0) (q_inA hO (ft_2_8 hr0) (by decide)) dX2_hasName_43 (fun x21 _ _ _ => ?_)
      refine q_iload_n 1 dX2_hasName_44 rfl rfl ?_
      refine q_icmpne (tgt := 50) dX2_hasName_45 (by decide) ?_ ?_
      · refine q_iinc (ls' := [(2, .inl (x2 + 1)), (0, .inr (.inr r0)), (1, .inl x1)]) 2 dX2_hasName_50 rfl (by decide) rfl ?_
        refine q_goto (tgt := 30) dX2_hasName_53 (by decide) ?_
        refine q_sub [1, 2, 0] rfl ?_
        exact ih x1 (x2 + 1) M hO
      · refine q_iconst dX2_hasName_48 ?_
        exact q_ret ⟨dX2_hasName_49, by decide⟩ rfl
def fX2_hasName_2 (r0 : Nat) : Nat → Int → Int → q_Mem → Option (Int × q_Mem)
  | 0, _, _, _ => none
  | n + 1, x1, x2, M => if q_w x2 < q_w (M.2 r0 1) then ((q_ld M (q_fr r0 2) 6 x2).bind fun x21 => if q_w x21 = q_w x1 then (some (1, M)) else ((fX2_hasName_2 r0 n x1 (x2 + 1) M))) else ((fX2_hasName_30 r0 q_FU x1 0 M))
theorem tX2_hasName_2 {d : Nat} (r0 : Nat) (hr0 : q_shp r0 = (0, 2)) : ∀ (n : Nat) (x1 : Int) (x2 : Int) (M : q_Mem), q_Ok M → q_EX d yX2_hasName cX2_hasName 3 (some .boolean) 2 [(0, .inr (.inr r0)), (1, .inl x1), (2, .inl x2)] [] M (fX2_hasName_2 r0 n x1 x2 M) := by
  intro n
  induction n with
  | zero => intro x1 x2 M hO; exact q_none
  | succ n ih =>
    intro x1 x2 M hO
    rw [fX2_hasName_2]
    refine q_iload_n 2 dX2_hasName_2 rfl rfl ?_
    refine q_aload_n 0 dX2_hasName_3 rfl rfl ?_
    refine q_geti fl_X2_15 hr0 (q_inO hO hr0) rfl dX2_hasName_4 ?_
    refine q_icmpge (tgt := 28) dX2_hasName_7 (by decide) ?_ ?_
    · refine q_iconst dX2_hasName_28 ?_
      refine q_istore_n (ls' := [(2, .inl 0), (0, .inr (.inr r0)), (1, .inl x1)]) dX2_hasName_29 rfl (by decide) rfl ?_
      refine q_sub [1, 2, 0] rfl ?_
      exact tX2_hasName_30 r0 hr0 q_FU x1 0 M hO
    · refine q_aload_n 0 dX2_hasName_10 rfl rfl ?_
      refine q_getx fl_X2_18 hO hr0 rfl (fs_2_2 hr0) dX2_hasName_11 ?_
      refine q_iload_n 2 dX2_hasName_14 rfl rfl ?_
      refine q_iald (ft_2_2 hr0) (q_inA hO (ft_2_2 hr0) (by decide)) dX2_hasName_15 (fun x21 _ _ _ => ?_)
      refine q_iload_n 1 dX2_hasName_16 rfl rfl ?_
      refine q_icmpne (tgt := 22) dX2_hasName_17 (by decide) ?_ ?_
      · refine q_iinc (ls' := [(2, .inl (x2 + 1)), (0, .inr (.inr r0)), (1, .inl x1)]) 2 dX2_hasName_22 rfl (by decide) rfl ?_
        refine q_goto (tgt := 2) dX2_hasName_25 (by decide) ?_
        refine q_sub [1, 2, 0] rfl ?_
        exact ih x1 (x2 + 1) M hO
      · refine q_iconst dX2_hasName_20 ?_
        exact q_ret ⟨dX2_hasName_21, by decide⟩ rfl
def fX2_hasName (r0 : Nat) (x1 : Int) (M : q_Mem) : Option (Int × q_Mem) := (fX2_hasName_2 r0 q_FU x1 0 M)
theorem tX2_hasName {d : Nat} (r0 : Nat) (x1 : Int) (M : q_Mem) (hO : q_Ok M) (hr0 : q_shp r0 = (0, 2)) : q_EX d yX2_hasName cX2_hasName 3 (some .boolean) 0 (q_args 0 [.inr (.inr r0), .inl x1]) [] M (fX2_hasName r0 x1 M) := by
  show q_EX _ _ _ _ _ 0 [(0, .inr (.inr r0)), (1, .inl x1)] [] M _
  unfold fX2_hasName
  refine q_iconst dX2_hasName_0 ?_
  refine q_istore_n (ls' := [(2, .inl 0), (0, .inr (.inr r0)), (1, .inl x1)]) dX2_hasName_1 rfl (by decide) rfl ?_
  refine q_sub [1, 2, 0] rfl ?_
  exact tX2_hasName_2 r0 hr0 q_FU x1 0 M hO
def fX8_isBlank_12 (M : q_Mem) : Option (Int × q_Mem) := some (1, M)
theorem tX8_isBlank_12 {d : Nat} (M : q_Mem) (hO : q_Ok M) : q_EX d yX8_isBlank cX8_isBlank 1 (some .boolean) 12 [] [] M (fX8_isBlank_12 M) := by
  unfold fX8_isBlank_12
  refine q_iconst dX8_isBlank_12 ?_
  refine q_goto (tgt := 17) dX8_isBlank_13 (by decide) ?_
  exact q_ret ⟨dX8_isBlank_17, by decide⟩ rfl
def fX8_isBlank (x0 : Int) (M : q_Mem) : Option (Int × q_Mem) := if q_w x0 = q_w 32 then ((fX8_isBlank_12 M)) else (if q_w x0 = q_w 10 then ((fX8_isBlank_12 M)) else (some (0, M)))
theorem tX8_isBlank {d : Nat} (x0 : Int) (M : q_Mem) (hO : q_Ok M) : q_EX d yX8_isBlank cX8_isBlank 1 (some .boolean) 0 (q_args 0 [.inl x0]) [] M (fX8_isBlank x0 M) := by
  show q_EX _ _ _ _ _ 0 [(0, .inl x0)] [] M _
  unfold fX8_isBlank
  refine q_iload_n 0 dX8_isBlank_0 rfl rfl ?_
  refine q_bipush dX8_isBlank_1 (by decide) ?_
  refine q_icmpeq (tgt := 12) dX8_isBlank_3 (by decide) ?_ ?_
  · refine q_sub [] rfl ?_
    exact tX8_isBlank_12 M hO
  · refine q_iload_n 0 dX8_isBlank_6 rfl rfl ?_
    refine q_bipush dX8_isBlank_7 (by decide) ?_
    refine q_icmpne (tgt := 16) dX8_isBlank_9 (by decide) ?_ ?_
    · refine q_iconst dX8_isBlank_16 ?_
      exact q_ret ⟨dX8_isBlank_17, by decide⟩ rfl
    · refine q_sub [] rfl ?_
      exact tX8_isBlank_12 M hO
def fX8_isLetter (x0 : Int) (M : q_Mem) : Option (Int × q_Mem) := if q_w x0 < q_w 97 then (some (0, M)) else (if q_w 122 < q_w x0 then (some (0, M)) else (some (1, M)))
theorem tX8_isLetter {d : Nat} (x0 : Int) (M : q_Mem) (hO : q_Ok M) : q_EX d yX8_isLetter cX8_isLetter 1 (some .boolean) 0 (q_args 0 [.inl x0]) [] M (fX8_isLetter x0 M) := by
  show q_EX _ _ _ _ _ 0 [(0, .inl x0)] [] M _
  unfold fX8_isLetter
  refine q_iload_n 0 dX8_isLetter_0 rfl rfl ?_
  refine q_bipush dX8_isLetter_1 (by decide) ?_
  refine q_icmplt (tgt := 16) dX8_isLetter_3 (by decide) ?_ ?_
  · refine q_iconst dX8_isLetter_16 ?_
    exact q_ret ⟨dX8_isLetter_17, by decide⟩ rfl
  · refine q_iload_n 0 dX8_isLetter_6 rfl rfl ?_
    refine q_bipush dX8_isLetter_7 (by decide) ?_
    refine q_icmpgt (tgt := 16) dX8_isLetter_9 (by decide) ?_ ?_
    · refine q_iconst dX8_isLetter_16 ?_
      exact q_ret ⟨dX8_isLetter_17, by decide⟩ rfl
    · refine q_iconst dX8_isLetter_12 ?_
      refine q_goto (tgt := 17) dX8_isLetter_13 (by decide) ?_
      exact q_ret ⟨dX8_isLetter_17, by decide⟩ rfl
def fX8_readWord_164 (K74 : Int → Int → q_Mem → Option (Int × q_Mem)) (x1 : Int) (x2 : Int) (M : q_Mem) : Option (Int × q_Mem) := (K74 x1 (x2 + 1) M)
theorem tX8_readWord_164 {d : Nat} (hd : 8 ≤ d) (K74 : Int → Int → q_Mem → Option (Int × q_Mem)) (hK74 : ∀ (x1 : Int) (x2 : Int) (M : q_Mem), q_Ok M → q_EX (d + 1) yX8_readWord cX8_readWord 5 none 74 [(0, .inr (.inr 5)), (1, .inl x1), (2, .inl x2)] [] M (K74 x1 x2 M)) (x1 : Int) (x2 : Int) (M : q_Mem) (hO : q_Ok M) : q_EX (d + 1) yX8_readWord cX8_readWord 5 none 164 [(0, .inr (.inr 5)), (1, .inl x1), (2, .inl x2)] [] M (fX8_readWord_164 K74 x1 x2 M) := by
  unfold fX8_readWord_164
  refine q_iinc (ls' := [(2, .inl (x2 + 1)), (0, .inr (.inr 5)), (1, .inl x1)]) 2 dX8_readWord_164 rfl (by decide) rfl ?_
  refine q_goto (tgt := 74) dX8_readWord_167 (by decide) ?_
  refine q_sub [1, 2, 0] rfl ?_
  exact hK74 x1 (x2 + 1) M hO
def fX8_readWord_159 (K74 : Int → Int → q_Mem → Option (Int × q_Mem)) (x1 : Int) (x2 : Int) (M : q_Mem) : Option (Int × q_Mem) := q_let (q_up M 5 4 x2) fun M1 => (fX8_readWord_164 K74 x1 x2 M1)
theorem tX8_readWord_159 {d : Nat} (hd : 8 ≤ d) (K74 : Int → Int → q_Mem → Option (Int × q_Mem)) (hK74 : ∀ (x1 : Int) (x2 : Int) (M : q_Mem), q_Ok M → q_EX (d + 1) yX8_readWord cX8_readWord 5 none 74 [(0, .inr (.inr 5)), (1, .inl x1), (2, .inl x2)] [] M (K74 x1 x2 M)) (x1 : Int) (x2 : Int) (M : q_Mem) (hO : q_Ok M) : q_EX (d + 1) yX8_readWord cX8_readWord 5 none 159 [(0, .inr (.inr 5)), (1, .inl x1), (2, .inl x2)] [] M (fX8_readWord_159 K74 x1 x2 M) := by
  unfold fX8_readWord_159
  refine q_aload_n 0 dX8_readWord_159 rfl rfl ?_
  refine q_iload_n 2 dX8_readWord_160 rfl rfl ?_
  refine q_puti fl_X8_21 sh_5 (q_inO hO sh_5) (fun h => q_Ok_put h sh_5 rfl) rfl dX8_readWord_161 (fun M1 hM1 => ?_)
  have hO1 : q_Ok M1 := by rw [hM1]; exact q_Ok_put hO sh_5 rfl
  refine q_sub [0, 1, 2] rfl ?_
  exact tX8_readWord_164 hd K74 hK74 x1 x2 M1 hO1
def fX8_readWord_132 (K74 : Int → Int → q_Mem → Option (Int × q_Mem)) (x1 : Int) (x2 : Int) (x3 : Int) (x4 : Int) (M : q_Mem) : Option (Int × q_Mem) := if q_w x4 = q_w x1 then (if q_w x4 = q_w 6 then ((fX8_readWord_159 K74 x1 x2 M)) else ((q_wat (x3 + x4)).bind fun x21 => if q_w x21 = q_w 32 then ((fX8_readWord_159 K74 x1 x2 M)) else ((fX8_readWord_164 K74 x1 x2 M)))) else ((fX8_readWord_164 K74 x1 x2 M))
theorem tX8_readWord_132 {d : Nat} (hd : 8 ≤ d) (K74 : Int → Int → q_Mem → Option (Int × q_Mem)) (hK74 : ∀ (x1 : Int) (x2 : Int) (M : q_Mem), q_Ok M → q_EX (d + 1) yX8_readWord cX8_readWord 5 none 74 [(0, .inr (.inr 5)), (1, .inl x1), (2, .inl x2)] [] M (K74 x1 x2 M)) (x1 : Int) (x2 : Int) (x3 : Int) (x4 : Int) (M : q_Mem) (hO : q_Ok M) : q_EX (d + 1) yX8_readWord cX8_readWord 5 none 132 [(0, .inr (.inr 5)), (1, .inl x1), (2, .inl x2), (3, .inl x3), (4, .inl x4)] [] M (fX8_readWord_132 K74 x1 x2 x3 x4 M) := by
  unfold fX8_readWord_132
  refine q_iload 4 dX8_readWord_132 rfl ?_
  refine q_iload_n 1 dX8_readWord_134 rfl rfl ?_
  refine q_icmpne (tgt := 164) dX8_readWord_135 (by decide) ?_ ?_
  · refine q_sub [0, 1, 2] rfl ?_
    exact tX8_readWord_164 hd K74 hK74 x1 x2 M hO
  · refine q_iload 4 dX8_readWord_138 rfl ?_
    refine q_bipush dX8_readWord_140 (by decide) ?_
    refine q_icmpeq (tgt := 159) dX8_readWord_142 (by decide) ?_ ?_
    · refine q_sub [0, 1, 2] rfl ?_
      exact tX8_readWord_159 hd K74 hK74 x1 x2 M hO
    · refine q_ldcS rfl dX8_readWord_145 ?_
      refine q_iload_n 3 dX8_readWord_147 rfl rfl ?_
      refine q_iload 4 dX8_readWord_148 rfl ?_
      refine q_iadd dX8_readWord_150 ?_
      refine q_chat (by omega) rfl (Nat.le_of_ble_eq_true rfl) dX8_readWord_151 (fun x21 => ?_)
      refine q_bipush dX8_readWord_154 (by decide) ?_
      refine q_icmpne (tgt := 164) dX8_readWord_156 (by decide) ?_ ?_
      · refine q_sub [0, 1, 2] rfl ?_
        exact tX8_readWord_164 hd K74 hK74 x1 x2 M hO
      · refine q_sub [0, 1, 2] rfl ?_
        exact tX8_readWord_159 hd K74 hK74 x1 x2 M hO
def fX8_readWord_94 (K74 : Int → Int → q_Mem → Option (Int × q_Mem)) : Nat → Int → Int → Int → Int → q_Mem → Option (Int × q_Mem)
  | 0, _, _, _, _, _ => none
  | n + 1, x1, x2, x3, x4, M => if q_w x4 < q_w x1 then ((q_wat (x3 + x4)).bind fun x21 => q_bd (fX10_at 1 ((M.2 5 1) + x4) M) fun x22 M1 => if q_w x21 = q_w x22 then ((fX8_readWord_94 K74 n x1 x2 x3 (x4 + 1) M1)) else ((fX8_readWord_132 K74 x1 x2 x3 x4 M1))) else ((fX8_readWord_132 K74 x1 x2 x3 x4 M))
theorem tX8_readWord_94 {d : Nat} (hd : 8 ≤ d) (K74 : Int → Int → q_Mem → Option (Int × q_Mem)) (hK74 : ∀ (x1 : Int) (x2 : Int) (M : q_Mem), q_Ok M → q_EX (d + 1) yX8_readWord cX8_readWord 5 none 74 [(0, .inr (.inr 5)), (1, .inl x1), (2, .inl x2)] [] M (K74 x1 x2 M)) : ∀ (n : Nat) (x1 : Int) (x2 : Int) (x3 : Int) (x4 : Int) (M : q_Mem), q_Ok M → q_EX (d + 1) yX8_readWord cX8_readWord 5 none 94 [(0, .inr (.inr 5)), (1, .inl x1), (2, .inl x2), (3, .inl x3), (4, .inl x4)] [] M (fX8_readWord_94 K74 n x1 x2 x3 x4 M) := by
  intro n
  induction n with
  | zero => intro x1 x2 x3 x4 M hO; exact q_none
  | succ n ih =>
    intro x1 x2 x3 x4 M hO
    rw [fX8_readWord_94]
    refine q_iload 4 dX8_readWord_94 rfl ?_
    refine q_iload_n 1 dX8_readWord_96 rfl rfl ?_
    refine q_icmpge (tgt := 132) dX8_readWord_97 (by decide) ?_ ?_
    · refine q_sub [0, 1, 2, 3, 4] rfl ?_
      exact tX8_readWord_132 hd K74 hK74 x1 x2 x3 x4 M hO
    · refine q_ldcS rfl dX8_readWord_100 ?_
      refine q_iload_n 3 dX8_readWord_102 rfl rfl ?_
      refine q_iload 4 dX8_readWord_103 rfl ?_
      refine q_iadd dX8_readWord_105 ?_
      refine q_chat (by omega) rfl (Nat.le_of_ble_eq_true rfl) dX8_readWord_106 (fun x21 => ?_)
      refine q_aload_n 0 dX8_readWord_109 rfl rfl ?_
      refine q_getx fl_X8_30 hO sh_5 rfl fx_5_0 dX8_readWord_110 ?_
      refine q_aload_n 0 dX8_readWord_113 rfl rfl ?_
      refine q_geti fl_X8_9 sh_5 (q_inO hO sh_5) rfl dX8_readWord_114 ?_
      refine q_iload 4 dX8_readWord_117 rfl ?_
      refine q_iadd dX8_readWord_119 ?_
      refine q_callVi (As := [.inl ((M.2 5 1) + x4)]) hO mb_X10_at mv_X10_at ml_X8_42 sh_1 rfl dX8_readWord_120 (fun _ => rfl) rfl (Nat.le_of_ble_eq_true rfl) rfl (Nat.le_of_ble_eq_true rfl) (tX10_at 1 ((M.2 5 1) + x4) M hO sh_1) (fun x22 M1 _ hO1 => ?_)
      refine q_icmpne (tgt := 132) dX8_readWord_123 (by decide) ?_ ?_
      · refine q_sub [0, 1, 2, 3, 4] rfl ?_
        exact tX8_readWord_132 hd K74 hK74 x1 x2 x3 x4 M1 hO1
      · refine q_iinc (ls' := [(4, .inl (x4 + 1)), (0, .inr (.inr 5)), (1, .inl x1), (2, .inl x2), (3, .inl x3)]) 4 dX8_readWord_126 rfl (by decide) rfl ?_
        refine q_goto (tgt := 94) dX8_readWord_129 (by decide) ?_
        refine q_sub [1, 2, 3, 4, 0] rfl ?_
        exact ih x1 x2 x3 (x4 + 1) M1 hO1
def fX8_readWord_74  : Nat → Int → Int → q_Mem → Option (Int × q_Mem)
  | 0, _, _, _ => none
  | n + 1, x1, x2, M => if q_w x2 < q_w 31 then (if q_w 6 < q_w x1 then (some (0, M)) else (q_let (x2 * 6) fun x21 => (fX8_readWord_94 (fX8_readWord_74 n) q_FU x1 x2 x21 0 M))) else (some (0, M))
theorem tX8_readWord_74 {d : Nat} (hd : 8 ≤ d) : ∀ (n : Nat) (x1 : Int) (x2 : Int) (M : q_Mem), q_Ok M → q_EX (d + 1) yX8_readWord cX8_readWord 5 none 74 [(0, .inr (.inr 5)), (1, .inl x1), (2, .inl x2)] [] M (fX8_readWord_74 n x1 x2 M) := by
  intro n
  induction n with
  | zero => intro x1 x2 M hO; exact q_none
  | succ n ih =>
    intro x1 x2 M hO
    rw [fX8_readWord_74]
    refine q_iload_n 2 dX8_readWord_74 rfl rfl ?_
    refine q_bipush dX8_readWord_75 (by decide) ?_
    refine q_icmpge (tgt := 170) dX8_readWord_77 (by decide) ?_ ?_
    · exact q_ret dX8_readWord_170 rfl
    · refine q_iload_n 1 dX8_readWord_80 rfl rfl ?_
      refine q_bipush dX8_readWord_81 (by decide) ?_
      refine q_icmpgt (tgt := 170) dX8_readWord_83 (by decide) ?_ ?_
      · exact q_ret dX8_readWord_170 rfl
      · refine q_iload_n 2 dX8_readWord_86 rfl rfl ?_
        refine q_bipush dX8_readWord_87 (by decide) ?_
        refine q_imul dX8_readWord_89 ?_
        refine q_nameI (fun x21 _ => ?_)
        refine q_istore_n (ls' := [(3, .inl x21), (0, .inr (.inr 5)), (1, .inl x1), (2, .inl x2)]) dX8_readWord_90 rfl (by decide) rfl ?_
        refine q_iconst dX8_readWord_91 ?_
        refine q_istore (ls' := [(4, .inl 0), (3, .inl x21), (0, .inr (.inr 5)), (1, .inl x1), (2, .inl x2)]) dX8_readWord_92 (by decide) rfl ?_
        refine q_sub [2, 3, 4, 1, 0] rfl ?_
        exact tX8_readWord_94 hd (fX8_readWord_74 n) ih q_FU x1 x2 x21 0 M hO
def fX8_readWord_57 (M : q_Mem) : Option (Int × q_Mem) := q_let (q_up M 5 4 (-1)) fun M1 => q_let ((M1.2 5 2) - (M1.2 5 1)) fun x21 => (fX8_readWord_74 q_FU x21 0 M1)
theorem tX8_readWord_57 {d : Nat} (hd : 8 ≤ d) (M : q_Mem) (hO : q_Ok M) : q_EX (d + 1) yX8_readWord cX8_readWord 5 none 57 [(0, .inr (.inr 5))] [] M (fX8_readWord_57 M) := by
  unfold fX8_readWord_57
  refine q_aload_n 0 dX8_readWord_57 rfl rfl ?_
  refine q_iconst dX8_readWord_58 ?_
  refine q_puti fl_X8_21 sh_5 (q_inO hO sh_5) (fun h => q_Ok_put h sh_5 rfl) rfl dX8_readWord_59 (fun M1 hM1 => ?_)
  have hO1 : q_Ok M1 := by rw [hM1]; exact q_Ok_put hO sh_5 rfl
  refine q_aload_n 0 dX8_readWord_62 rfl rfl ?_
  refine q_geti fl_X8_15 sh_5 (q_inO hO1 sh_5) rfl dX8_readWord_63 ?_
  refine q_aload_n 0 dX8_readWord_66 rfl rfl ?_
  refine q_geti fl_X8_9 sh_5 (q_inO hO1 sh_5) rfl dX8_readWord_67 ?_
  refine q_isub dX8_readWord_70 ?_
  refine q_nameI (fun x21 _ => ?_)
  refine q_istore_n (ls' := [(1, .inl x21), (0, .inr (.inr 5))]) dX8_readWord_71 rfl (by decide) rfl ?_
  refine q_iconst dX8_readWord_72 ?_
  refine q_istore_n (ls' := [(2, .inl 0), (1, .inl x21), (0, .inr (.inr 5))]) dX8_readWord_73 rfl (by decide) rfl ?_
  refine q_sub [2, 1, 0] rfl ?_
  exact tX8_readWord_74 hd q_FU x21 0 M1 hO1
def fX8_readWord_13  : Nat → q_Mem → Option (Int × q_Mem)
  | 0, _ => none
  | n + 1, M => if q_w (M.2 5 2) < q_w (M.2 1 1) then (q_bd (fX10_at 1 (M.2 5 2) M) fun x21 M1 => q_bd (fX8_isLetter x21 M1) fun x22 M2 => if q_w x22 = 0 then ((fX8_readWord_57 M2)) else (q_let (q_up M2 5 2 ((M2.2 5 2) + 1)) fun M3 => (fX8_readWord_13 n M3))) else ((fX8_readWord_57 M))
theorem tX8_readWord_13 {d : Nat} (hd : 8 ≤ d) : ∀ (n : Nat)  (M : q_Mem), q_Ok M → q_EX (d + 1) yX8_readWord cX8_readWord 5 none 13 [(0, .inr (.inr 5))] [] M (fX8_readWord_13 n M) := by
  intro n
  induction n with
  | zero => intro M hO; exact q_none
  | succ n ih =>
    intro M hO
    rw [fX8_readWord_13]
    refine q_aload_n 0 dX8_readWord_13 rfl rfl ?_
    refine q_geti fl_X8_15 sh_5 (q_inO hO sh_5) rfl dX8_readWord_14 ?_
    refine q_aload_n 0 dX8_readWord_17 rfl rfl ?_
    refine q_getx fl_X8_30 hO sh_5 rfl fx_5_0 dX8_readWord_18 ?_
    refine q_geti fl_X8_37 sh_1 (q_inO hO sh_1) rfl dX8_readWord_21 ?_
    refine q_icmpge (tgt := 57) dX8_readWord_24 (by decide) ?_ ?_
    · refine q_sub [0] rfl ?_
      exact tX8_readWord_57 hd M hO
    · refine q_aload_n 0 dX8_readWord_27 rfl rfl ?_
      refine q_getx fl_X8_30 hO sh_5 rfl fx_5_0 dX8_readWord_28 ?_
      refine q_aload_n 0 dX8_readWord_31 rfl rfl ?_
      refine q_geti fl_X8_15 sh_5 (q_inO hO sh_5) rfl dX8_readWord_32 ?_
      refine q_callVi (As := [.inl (M.2 5 2)]) hO mb_X10_at mv_X10_at ml_X8_42 sh_1 rfl dX8_readWord_35 (fun _ => rfl) rfl (Nat.le_of_ble_eq_true rfl) rfl (Nat.le_of_ble_eq_true rfl) (tX10_at 1 (M.2 5 2) M hO sh_1) (fun x21 M1 _ hO1 => ?_)
      refine q_callSi (As := [.inl x21]) hO1 mb_X8_isLetter ms_X8_isLetter ml_X8_50 dX8_readWord_38 (fun _ => rfl) rfl (Nat.le_of_ble_eq_true rfl) rfl (Nat.le_of_ble_eq_true rfl) (tX8_isLetter x21 M1 hO1) (fun x22 M2 _ hO2 => ?_)
      refine q_ifeq (tgt := 57) dX8_readWord_41 (by decide) ?_ ?_
      · refine q_sub [0] rfl ?_
        exact tX8_readWord_57 hd M2 hO2
      · refine q_aload_n 0 dX8_readWord_44 rfl rfl ?_
        refine q_dup dX8_readWord_45 rfl ?_
        refine q_geti fl_X8_15 sh_5 (q_inO hO2 sh_5) rfl dX8_readWord_46 ?_
        refine q_iconst dX8_readWord_49 ?_
        refine q_iadd dX8_readWord_50 ?_
        refine q_puti fl_X8_15 sh_5 (q_inO hO2 sh_5) (fun h => q_Ok_put h sh_5 rfl) rfl dX8_readWord_51 (fun M3 hM3 => ?_)
        have hO3 : q_Ok M3 := by rw [hM3]; exact q_Ok_put hO2 sh_5 rfl
        refine q_goto (tgt := 13) dX8_readWord_54 (by decide) ?_
        refine q_sub [0] rfl ?_
        exact ih M3 hO3
def fX8_readWord (M : q_Mem) : Option (Int × q_Mem) := q_let (q_up M 5 3 1) fun M1 => q_let (q_up M1 5 2 (M1.2 5 1)) fun M2 => (fX8_readWord_13 q_FU M2)
theorem tX8_readWord {d : Nat} (hd : 9 ≤ d) (M : q_Mem) (hO : q_Ok M) : q_EX d yX8_readWord cX8_readWord 5 none 0 (q_args 0 [.inr (.inr 5)]) [] M (fX8_readWord M) := by
  obtain ⟨d, rfl⟩ : ∃ d', d = d' + 1 := ⟨d - 1, by omega⟩
  have hd : 8 ≤ d := by omega
  show q_EX _ _ _ _ _ 0 [(0, .inr (.inr 5))] [] M _
  unfold fX8_readWord
  refine q_aload_n 0 dX8_readWord_0 rfl rfl ?_
  refine q_iconst dX8_readWord_1 ?_
  refine q_puti fl_X8_18 sh_5 (q_inO hO sh_5) (fun h => q_Ok_put h sh_5 rfl) rfl dX8_readWord_2 (fun M1 hM1 => ?_)
  have hO1 : q_Ok M1 := by rw [hM1]; exact q_Ok_put hO sh_5 rfl
  refine q_aload_n 0 dX8_readWord_5 rfl rfl ?_
  refine q_aload_n 0 dX8_readWord_6 rfl rfl ?_
  refine q_geti fl_X8_9 sh_5 (q_inO hO1 sh_5) rfl dX8_readWord_7 ?_
  refine q_puti fl_X8_15 sh_5 (q_inO hO1 sh_5) (fun h => q_Ok_put h sh_5 rfl) rfl dX8_readWord_10 (fun M2 hM2 => ?_)
  have hO2 : q_Ok M2 := by rw [hM2]; exact q_Ok_put hO1 sh_5 rfl
  refine q_sub [0] rfl ?_
  exact tX8_readWord_13 hd q_FU M2 hO2
def fX8_isDigit (x0 : Int) (M : q_Mem) : Option (Int × q_Mem) := if q_w x0 < q_w 48 then (some (0, M)) else (if q_w 57 < q_w x0 then (some (0, M)) else (some (1, M)))
theorem tX8_isDigit {d : Nat} (x0 : Int) (M : q_Mem) (hO : q_Ok M) : q_EX d yX8_isDigit cX8_isDigit 1 (some .boolean) 0 (q_args 0 [.inl x0]) [] M (fX8_isDigit x0 M) := by
  show q_EX _ _ _ _ _ 0 [(0, .inl x0)] [] M _
  unfold fX8_isDigit
  refine q_iload_n 0 dX8_isDigit_0 rfl rfl ?_
  refine q_bipush dX8_isDigit_1 (by decide) ?_
  refine q_icmplt (tgt := 16) dX8_isDigit_3 (by decide) ?_ ?_
  · refine q_iconst dX8_isDigit_16 ?_
    exact q_ret ⟨dX8_isDigit_17, by decide⟩ rfl
  · refine q_iload_n 0 dX8_isDigit_6 rfl rfl ?_
    refine q_bipush dX8_isDigit_7 (by decide) ?_
    refine q_icmpgt (tgt := 16) dX8_isDigit_9 (by decide) ?_ ?_
    · refine q_iconst dX8_isDigit_16 ?_
      exact q_ret ⟨dX8_isDigit_17, by decide⟩ rfl
    · refine q_iconst dX8_isDigit_12 ?_
      refine q_goto (tgt := 17) dX8_isDigit_13 (by decide) ?_
      exact q_ret ⟨dX8_isDigit_17, by decide⟩ rfl
def fX8_readNumeral_88 (K18 : q_Mem → Option (Int × q_Mem)) (M : q_Mem) : Option (Int × q_Mem) := q_let (q_up M 5 2 ((M.2 5 2) + 1)) fun M1 => (K18 M1)
theorem tX8_readNumeral_88 {d : Nat} (hd : 0 ≤ d) (K18 : q_Mem → Option (Int × q_Mem)) (hK18 : ∀  (M : q_Mem), q_Ok M → q_EX (d + 1) yX8_readNumeral cX8_readNumeral 1 none 18 [(0, .inr (.inr 5))] [] M (K18 M)) (M : q_Mem) (hO : q_Ok M) : q_EX (d + 1) yX8_readNumeral cX8_readNumeral 1 none 88 [(0, .inr (.inr 5))] [] M (fX8_readNumeral_88 K18 M) := by
  unfold fX8_readNumeral_88
  refine q_aload_n 0 dX8_readNumeral_88 rfl rfl ?_
  refine q_dup dX8_readNumeral_89 rfl ?_
  refine q_geti fl_X8_15 sh_5 (q_inO hO sh_5) rfl dX8_readNumeral_90 ?_
  refine q_iconst dX8_readNumeral_93 ?_
  refine q_iadd dX8_readNumeral_94 ?_
  refine q_puti fl_X8_15 sh_5 (q_inO hO sh_5) (fun h => q_Ok_put h sh_5 rfl) rfl dX8_readNumeral_95 (fun M1 hM1 => ?_)
  have hO1 : q_Ok M1 := by rw [hM1]; exact q_Ok_put hO sh_5 rfl
  refine q_goto (tgt := 18) dX8_readNumeral_98 (by decide) ?_
  refine q_sub [0] rfl ?_
  exact hK18 M1 hO1
def fX8_readNumeral_18  : Nat → q_Mem → Option (Int × q_Mem)
  | 0, _ => none
  | n + 1, M => if q_w (M.2 5 2) < q_w (M.2 1 1) then (q_bd (fX10_at 1 (M.2 5 2) M) fun x21 M1 => q_bd (fX8_isDigit x21 M1) fun x22 M2 => if q_w x22 = 0 then (some (0, M2)) else (if q_w ((M2.2 5 2) - (M2.2 5 1)) < q_w 4 then (q_bd (fX10_at 1 (M2.2 5 2) M2) fun x23 M3 => q_let (q_up M3 5 4 (((10 * (M2.2 5 4)) + x23) - 48)) fun M4 => (fX8_readNumeral_88 (fX8_readNumeral_18 n) M4)) else ((fX8_readNumeral_88 (fX8_readNumeral_18 n) M2)))) else (some (0, M))
theorem tX8_readNumeral_18 {d : Nat} (hd : 0 ≤ d) : ∀ (n : Nat)  (M : q_Mem), q_Ok M → q_EX (d + 1) yX8_readNumeral cX8_readNumeral 1 none 18 [(0, .inr (.inr 5))] [] M (fX8_readNumeral_18 n M) := by
  intro n
  induction n with
  | zero => intro M hO; exact q_none
  | succ n ih =>
    intro M hO
    rw [fX8_readNumeral_18]
    refine q_aload_n 0 dX8_readNumeral_18 rfl rfl ?_
    refine q_geti fl_X8_15 sh_5 (q_inO hO sh_5) rfl dX8_readNumeral_19 ?_
    refine q_aload_n 0 dX8_readNumeral_22 rfl rfl ?_
    refine q_getx fl_X8_30 hO sh_5 rfl fx_5_0 dX8_readNumeral_23 ?_
    refine q_geti fl_X8_37 sh_1 (q_inO hO sh_1) rfl dX8_readNumeral_26 ?_
    refine q_icmpge (tgt := 101) dX8_readNumeral_29 (by decide) ?_ ?_
    · exact q_ret dX8_readNumeral_101 rfl
    · refine q_aload_n 0 dX8_readNumeral_32 rfl rfl ?_
      refine q_getx fl_X8_30 hO sh_5 rfl fx_5_0 dX8_readNumeral_33 ?_
      refine q_aload_n 0 dX8_readNumeral_36 rfl rfl ?_
      refine q_geti fl_X8_15 sh_5 (q_inO hO sh_5) rfl dX8_readNumeral_37 ?_
      refine q_callVi (As := [.inl (M.2 5 2)]) hO mb_X10_at mv_X10_at ml_X8_42 sh_1 rfl dX8_readNumeral_40 (fun _ => rfl) rfl (Nat.le_of_ble_eq_true rfl) rfl (Nat.le_of_ble_eq_true rfl) (tX10_at 1 (M.2 5 2) M hO sh_1) (fun x21 M1 _ hO1 => ?_)
      refine q_callSi (As := [.inl x21]) hO1 mb_X8_isDigit ms_X8_isDigit ml_X8_56 dX8_readNumeral_43 (fun _ => rfl) rfl (Nat.le_of_ble_eq_true rfl) rfl (Nat.le_of_ble_eq_true rfl) (tX8_isDigit x21 M1 hO1) (fun x22 M2 _ hO2 => ?_)
      refine q_ifeq (tgt := 101) dX8_readNumeral_46 (by decide) ?_ ?_
      · exact q_ret dX8_readNumeral_101 rfl
      · refine q_aload_n 0 dX8_readNumeral_49 rfl rfl ?_
        refine q_geti fl_X8_15 sh_5 (q_inO hO2 sh_5) rfl dX8_readNumeral_50 ?_
        refine q_aload_n 0 dX8_readNumeral_53 rfl rfl ?_
        refine q_geti fl_X8_9 sh_5 (q_inO hO2 sh_5) rfl dX8_readNumeral_54 ?_
        refine q_isub dX8_readNumeral_57 ?_
        refine q_iconst dX8_readNumeral_58 ?_
        refine q_icmpge (tgt := 88) dX8_readNumeral_59 (by decide) ?_ ?_
        · refine q_sub [0] rfl ?_
          exact tX8_readNumeral_88 hd (fX8_readNumeral_18 n) ih M2 hO2
        · refine q_aload_n 0 dX8_readNumeral_62 rfl rfl ?_
          refine q_bipush dX8_readNumeral_63 (by decide) ?_
          refine q_aload_n 0 dX8_readNumeral_65 rfl rfl ?_
          refine q_geti fl_X8_21 sh_5 (q_inO hO2 sh_5) rfl dX8_readNumeral_66 ?_
          refine q_imul dX8_readNumeral_69 ?_
          refine q_aload_n 0 dX8_readNumeral_70 rfl rfl ?_
          refine q_getx fl_X8_30 hO2 sh_5 rfl fx_5_0 dX8_readNumeral_71 ?_
          refine q_aload_n 0 dX8_readNumeral_74 rfl rfl ?_
          refine q_geti fl_X8_15 sh_5 (q_inO hO2 sh_5) rfl dX8_readNumeral_75 ?_
          refine q_callVi (As := [.inl (M2.2 5 2)]) hO2 mb_X10_at mv_X10_at ml_X8_42 sh_1 rfl dX8_readNumeral_78 (fun _ => rfl) rfl (Nat.le_of_ble_eq_true rfl) rfl (Nat.le_of_ble_eq_true rfl) (tX10_at 1 (M2.2 5 2) M2 hO2 sh_1) (fun x23 M3 _ hO3 => ?_)
          refine q_iadd dX8_readNumeral_81 ?_
          refine q_bipush dX8_readNumeral_82 (by decide) ?_
          refine q_isub dX8_readNumeral_84 ?_
          refine q_puti fl_X8_21 sh_5 (q_inO hO3 sh_5) (fun h => q_Ok_put h sh_5 rfl) rfl dX8_readNumeral_85 (fun M4 hM4 => ?_)
          have hO4 : q_Ok M4 := by rw [hM4]; exact q_Ok_put hO3 sh_5 rfl
          refine q_sub [0] rfl ?_
          exact tX8_readNumeral_88 hd (fX8_readNumeral_18 n) ih M4 hO4
def fX8_readNumeral (M : q_Mem) : Option (Int × q_Mem) := q_let (q_up M 5 3 2) fun M1 => q_let (q_up M1 5 4 0) fun M2 => q_let (q_up M2 5 2 (M2.2 5 1)) fun M3 => (fX8_readNumeral_18 q_FU M3)
theorem tX8_readNumeral {d : Nat} (hd : 1 ≤ d) (M : q_Mem) (hO : q_Ok M) : q_EX d yX8_readNumeral cX8_readNumeral 1 none 0 (q_args 0 [.inr (.inr 5)]) [] M (fX8_readNumeral M) := by
  obtain ⟨d, rfl⟩ : ∃ d', d = d' + 1 := ⟨d - 1, by omega⟩
  have hd : 0 ≤ d := by omega
  show q_EX _ _ _ _ _ 0 [(0, .inr (.inr 5))] [] M _
  unfold fX8_readNumeral
  refine q_aload_n 0 dX8_readNumeral_0 rfl rfl ?_
  refine q_iconst dX8_readNumeral_1 ?_
  refine q_puti fl_X8_18 sh_5 (q_inO hO sh_5) (fun h => q_Ok_put h sh_5 rfl) rfl dX8_readNumeral_2 (fun M1 hM1 => ?_)
  have hO1 : q_Ok M1 := by rw [hM1]; exact q_Ok_put hO sh_5 rfl
  refine q_aload_n 0 dX8_readNumeral_5 rfl rfl ?_
  refine q_iconst dX8_readNumeral_6 ?_
  refine q_puti fl_X8_21 sh_5 (q_inO hO1 sh_5) (fun h => q_Ok_put h sh_5 rfl) rfl dX8_readNumeral_7 (fun M2 hM2 => ?_)
  have hO2 : q_Ok M2 := by rw [hM2]; exact q_Ok_put hO1 sh_5 rfl
  refine q_aload_n 0 dX8_readNumeral_10 rfl rfl ?_
  refine q_aload_n 0 dX8_readNumeral_11 rfl rfl ?_
  refine q_geti fl_X8_9 sh_5 (q_inO hO2 sh_5) rfl dX8_readNumeral_12 ?_
  refine q_puti fl_X8_15 sh_5 (q_inO hO2 sh_5) (fun h => q_Ok_put h sh_5 rfl) rfl dX8_readNumeral_15 (fun M3 hM3 => ?_)
  have hO3 : q_Ok M3 := by rw [hM3]; exact q_Ok_put hO2 sh_5 rfl
  refine q_sub [0] rfl ?_
  exact tX8_readNumeral_18 hd q_FU M3 hO3
def fX8_step_181 (s0 : Int) (M : q_Mem) : Option (Int × q_Mem) := q_let (q_up M 5 2 s0) fun M1 => some (0, M1)
theorem tX8_step_181 {d : Nat} (hd : 9 ≤ d) (s0 : Int) (M : q_Mem) (hO : q_Ok M) : q_EX (d + 1) yX8_step cX8_step 4 none 181 [] [.inl s0, .inr (.inr 5)] M (fX8_step_181 s0 M) := by
  unfold fX8_step_181
  refine q_puti fl_X8_15 sh_5 (q_inO hO sh_5) (fun h => q_Ok_put h sh_5 rfl) rfl dX8_step_181 (fun M1 hM1 => ?_)
  have hO1 : q_Ok M1 := by rw [hM1]; exact q_Ok_put hO sh_5 rfl
  exact q_ret dX8_step_184 rfl
def fX8_step_154 (x3 : Int) (s0 : Int) (M : q_Mem) : Option (Int × q_Mem) := q_let (q_up M 5 3 s0) fun M1 => q_let (q_up M1 5 4 x3) fun M2 => if q_w x3 = q_w (-1) then ((fX8_step_181 (M2.2 5 1) M2)) else ((fX8_step_181 ((M2.2 5 1) + 1) M2))
theorem tX8_step_154 {d : Nat} (hd : 9 ≤ d) (x3 : Int) (s0 : Int) (M : q_Mem) (hO : q_Ok M) : q_EX (d + 1) yX8_step cX8_step 4 none 154 [(0, .inr (.inr 5)), (3, .inl x3)] [.inl s0, .inr (.inr 5)] M (fX8_step_154 x3 s0 M) := by
  unfold fX8_step_154
  refine q_puti fl_X8_18 sh_5 (q_inO hO sh_5) (fun h => q_Ok_put h sh_5 rfl) rfl dX8_step_154 (fun M1 hM1 => ?_)
  have hO1 : q_Ok M1 := by rw [hM1]; exact q_Ok_put hO sh_5 rfl
  refine q_aload_n 0 dX8_step_157 rfl rfl ?_
  refine q_iload_n 1 dX8_step_158 rfl rfl ?_
  refine q_puti fl_X8_21 sh_5 (q_inO hO1 sh_5) (fun h => q_Ok_put h sh_5 rfl) rfl dX8_step_159 (fun M2 hM2 => ?_)
  have hO2 : q_Ok M2 := by rw [hM2]; exact q_Ok_put hO1 sh_5 rfl
  refine q_aload_n 0 dX8_step_162 rfl rfl ?_
  refine q_iload_n 1 dX8_step_163 rfl rfl ?_
  refine q_iconst dX8_step_164 ?_
  refine q_icmpne (tgt := 175) dX8_step_165 (by decide) ?_ ?_
  · refine q_aload_n 0 dX8_step_175 rfl rfl ?_
    refine q_geti fl_X8_9 sh_5 (q_inO hO2 sh_5) rfl dX8_step_176 ?_
    refine q_iconst dX8_step_179 ?_
    refine q_iadd dX8_step_180 ?_
    refine q_sub [] rfl ?_
    exact tX8_step_181 hd ((M2.2 5 1) + 1) M2 hO2
  · refine q_aload_n 0 dX8_step_168 rfl rfl ?_
    refine q_geti fl_X8_9 sh_5 (q_inO hO2 sh_5) rfl dX8_step_169 ?_
    refine q_goto (tgt := 181) dX8_step_172 (by decide) ?_
    refine q_sub [] rfl ?_
    exact tX8_step_181 hd (M2.2 5 1) M2 hO2
def fX8_step_185 (x2 : Int) (M : q_Mem) : Option (Int × q_Mem) := if q_w x2 = 0 then (some (0, M)) else (q_let (q_up M 5 3 4) fun M1 => some (0, M1))
theorem tX8_step_185 {d : Nat} (hd : 9 ≤ d) (x2 : Int) (M : q_Mem) (hO : q_Ok M) : q_EX (d + 1) yX8_step cX8_step 4 none 185 [(0, .inr (.inr 5)), (2, .inl x2)] [] M (fX8_step_185 x2 M) := by
  unfold fX8_step_185
  refine q_iload_n 1 dX8_step_185 rfl rfl ?_
  refine q_ifeq (tgt := 194) dX8_step_186 (by decide) ?_ ?_
  · exact q_ret dX8_step_194 rfl
  · refine q_aload_n 0 dX8_step_189 rfl rfl ?_
    refine q_iconst dX8_step_190 ?_
    refine q_puti fl_X8_18 sh_5 (q_inO hO sh_5) (fun h => q_Ok_put h sh_5 rfl) rfl dX8_step_191 (fun M1 hM1 => ?_)
    have hO1 : q_Ok M1 := by rw [hM1]; exact q_Ok_put hO sh_5 rfl
    exact q_ret dX8_step_194 rfl
def fX8_step_102 (s0 : Int) (M : q_Mem) : Option (Int × q_Mem) := q_bd (fX10_at 1 (M.2 5 1) M) fun x21 M1 => q_bd (fX8_isLetter x21 M1) fun x22 M2 => if q_w x22 = 0 then (q_bd (fX8_isDigit x21 M2) fun x23 M3 => if q_w x23 = 0 then (if q_w x21 = q_w (-1) then ((fX8_step_154 x21 0 M3)) else ((fX8_step_154 x21 3 M3))) else (q_bd (fX8_readNumeral M3) fun _ M4 => (fX8_step_185 s0 M4))) else (q_bd (fX8_readWord M2) fun _ M5 => (fX8_step_185 s0 M5))
theorem tX8_step_102 {d : Nat} (hd : 9 ≤ d) (s0 : Int) (M : q_Mem) (hO : q_Ok M) : q_EX (d + 1) yX8_step cX8_step 4 none 102 [(0, .inr (.inr 5))] [.inl s0] M (fX8_step_102 s0 M) := by
  unfold fX8_step_102
  refine q_istore_n (ls' := [(2, .inl s0), (0, .inr (.inr 5))]) dX8_step_102 rfl (by decide) rfl ?_
  refine q_aload_n 1 dX8_step_103 rfl rfl ?_
  refine q_getx fl_X8_30 hO sh_5 rfl fx_5_0 dX8_step_104 ?_
  refine q_aload_n 1 dX8_step_107 rfl rfl ?_
  refine q_geti fl_X8_9 sh_5 (q_inO hO sh_5) rfl dX8_step_108 ?_
  refine q_callVi (As := [.inl (M.2 5 1)]) hO mb_X10_at mv_X10_at ml_X8_42 sh_1 rfl dX8_step_111 (fun _ => rfl) rfl (Nat.le_of_ble_eq_true rfl) rfl (Nat.le_of_ble_eq_true rfl) (tX10_at 1 (M.2 5 1) M hO sh_1) (fun x21 M1 _ hO1 => ?_)
  refine q_istore_n (ls' := [(3, .inl x21), (2, .inl s0), (0, .inr (.inr 5))]) dX8_step_114 rfl (by decide) rfl ?_
  refine q_iload_n 0 dX8_step_115 rfl rfl ?_
  refine q_callSi (As := [.inl x21]) hO1 mb_X8_isLetter ms_X8_isLetter ml_X8_50 dX8_step_116 (fun _ => rfl) rfl (Nat.le_of_ble_eq_true rfl) rfl (Nat.le_of_ble_eq_true rfl) (tX8_isLetter x21 M1 hO1) (fun x22 M2 _ hO2 => ?_)
  refine q_ifeq (tgt := 129) dX8_step_119 (by decide) ?_ ?_
  · refine q_iload_n 0 dX8_step_129 rfl rfl ?_
    refine q_callSi (As := [.inl x21]) hO2 mb_X8_isDigit ms_X8_isDigit ml_X8_56 dX8_step_130 (fun _ => rfl) rfl (Nat.le_of_ble_eq_true rfl) rfl (Nat.le_of_ble_eq_true rfl) (tX8_isDigit x21 M2 hO2) (fun x23 M3 _ hO3 => ?_)
    refine q_ifeq (tgt := 143) dX8_step_133 (by decide) ?_ ?_
    · refine q_aload_n 2 dX8_step_143 rfl rfl ?_
      refine q_iload_n 0 dX8_step_144 rfl rfl ?_
      refine q_iconst dX8_step_145 ?_
      refine q_icmpne (tgt := 153) dX8_step_146 (by decide) ?_ ?_
      · refine q_iconst dX8_step_153 ?_
        refine q_sub [2, 0] rfl ?_
        exact tX8_step_154 hd x21 3 M3 hO3
      · refine q_iconst dX8_step_149 ?_
        refine q_goto (tgt := 154) dX8_step_150 (by decide) ?_
        refine q_sub [2, 0] rfl ?_
        exact tX8_step_154 hd x21 0 M3 hO3
    · refine q_aload_n 2 dX8_step_136 rfl rfl ?_
      refine q_callVv (As := []) hO3 mb_X8_readNumeral mv_X8_readNumeral ml_X8_59 sh_5 rfl dX8_step_137 (fun _ => rfl) rfl (Nat.le_of_ble_eq_true rfl) rfl (Nat.le_of_ble_eq_true rfl) (tX8_readNumeral (by omega) M3 hO3) (fun _ M4 _ hO4 => ?_)
      refine q_goto (tgt := 185) dX8_step_140 (by decide) ?_
      refine q_sub [2, 1] rfl ?_
      exact tX8_step_185 hd s0 M4 hO4
  · refine q_aload_n 2 dX8_step_122 rfl rfl ?_
    refine q_callVv (As := []) hO2 mb_X8_readWord mv_X8_readWord ml_X8_53 sh_5 rfl dX8_step_123 (fun _ => rfl) rfl (Nat.le_of_ble_eq_true rfl) rfl (Nat.le_of_ble_eq_true rfl) (tX8_readWord (by omega) M2 hO2) (fun _ M5 _ hO5 => ?_)
    refine q_goto (tgt := 185) dX8_step_126 (by decide) ?_
    refine q_sub [2, 1] rfl ?_
    exact tX8_step_185 hd s0 M5 hO5
def fX8_step_101 (M : q_Mem) : Option (Int × q_Mem) := (fX8_step_102 0 M)
theorem tX8_step_101 {d : Nat} (hd : 9 ≤ d) (M : q_Mem) (hO : q_Ok M) : q_EX (d + 1) yX8_step cX8_step 4 none 101 [(0, .inr (.inr 5))] [] M (fX8_step_101 M) := by
  unfold fX8_step_101
  refine q_iconst dX8_step_101 ?_
  refine q_sub [0] rfl ?_
  exact tX8_step_102 hd 0 M hO
def fX8_step_82 (x1 : Int) (M : q_Mem) : Option (Int × q_Mem) := if q_w x1 = 0 then ((fX8_step_101 M)) else (if q_w (M.2 5 1) = q_w (M.2 5 2) then ((fX8_step_102 1 M)) else ((fX8_step_101 M)))
theorem tX8_step_82 {d : Nat} (hd : 9 ≤ d) (x1 : Int) (M : q_Mem) (hO : q_Ok M) : q_EX (d + 1) yX8_step cX8_step 4 none 82 [(0, .inr (.inr 5)), (1, .inl x1)] [] M (fX8_step_82 x1 M) := by
  unfold fX8_step_82
  refine q_iload_n 1 dX8_step_82 rfl rfl ?_
  refine q_ifeq (tgt := 101) dX8_step_83 (by decide) ?_ ?_
  · refine q_sub [0] rfl ?_
    exact tX8_step_101 hd M hO
  · refine q_aload_n 0 dX8_step_86 rfl rfl ?_
    refine q_geti fl_X8_9 sh_5 (q_inO hO sh_5) rfl dX8_step_87 ?_
    refine q_aload_n 0 dX8_step_90 rfl rfl ?_
    refine q_geti fl_X8_15 sh_5 (q_inO hO sh_5) rfl dX8_step_91 ?_
    refine q_icmpne (tgt := 101) dX8_step_94 (by decide) ?_ ?_
    · refine q_sub [0] rfl ?_
      exact tX8_step_101 hd M hO
    · refine q_iconst dX8_step_97 ?_
      refine q_goto (tgt := 102) dX8_step_98 (by decide) ?_
      refine q_sub [0] rfl ?_
      exact tX8_step_102 hd 1 M hO
def fX8_step_38  : Nat → Int → q_Mem → Option (Int × q_Mem)
  | 0, _, _ => none
  | n + 1, x1, M => if q_w (M.2 5 1) < q_w (M.2 1 1) then (q_bd (fX10_at 1 (M.2 5 1) M) fun x21 M1 => q_bd (fX8_isBlank x21 M1) fun x22 M2 => if q_w x22 = 0 then ((fX8_step_82 x1 M2)) else (q_let (q_up M2 5 1 ((M2.2 5 1) + 1)) fun M3 => (fX8_step_38 n x1 M3))) else ((fX8_step_82 x1 M))
theorem tX8_step_38 {d : Nat} (hd : 9 ≤ d) : ∀ (n : Nat) (x1 : Int) (M : q_Mem), q_Ok M → q_EX (d + 1) yX8_step cX8_step 4 none 38 [(0, .inr (.inr 5)), (1, .inl x1)] [] M (fX8_step_38 n x1 M) := by
  intro n
  induction n with
  | zero => intro x1 M hO; exact q_none
  | succ n ih =>
    intro x1 M hO
    rw [fX8_step_38]
    refine q_aload_n 0 dX8_step_38 rfl rfl ?_
    refine q_geti fl_X8_9 sh_5 (q_inO hO sh_5) rfl dX8_step_39 ?_
    refine q_aload_n 0 dX8_step_42 rfl rfl ?_
    refine q_getx fl_X8_30 hO sh_5 rfl fx_5_0 dX8_step_43 ?_
    refine q_geti fl_X8_37 sh_1 (q_inO hO sh_1) rfl dX8_step_46 ?_
    refine q_icmpge (tgt := 82) dX8_step_49 (by decide) ?_ ?_
    · refine q_sub [0, 1] rfl ?_
      exact tX8_step_82 hd x1 M hO
    · refine q_aload_n 0 dX8_step_52 rfl rfl ?_
      refine q_getx fl_X8_30 hO sh_5 rfl fx_5_0 dX8_step_53 ?_
      refine q_aload_n 0 dX8_step_56 rfl rfl ?_
      refine q_geti fl_X8_9 sh_5 (q_inO hO sh_5) rfl dX8_step_57 ?_
      refine q_callVi (As := [.inl (M.2 5 1)]) hO mb_X10_at mv_X10_at ml_X8_42 sh_1 rfl dX8_step_60 (fun _ => rfl) rfl (Nat.le_of_ble_eq_true rfl) rfl (Nat.le_of_ble_eq_true rfl) (tX10_at 1 (M.2 5 1) M hO sh_1) (fun x21 M1 _ hO1 => ?_)
      refine q_callSi (As := [.inl x21]) hO1 mb_X8_isBlank ms_X8_isBlank ml_X8_46 dX8_step_63 (fun _ => rfl) rfl (Nat.le_of_ble_eq_true rfl) rfl (Nat.le_of_ble_eq_true rfl) (tX8_isBlank x21 M1 hO1) (fun x22 M2 _ hO2 => ?_)
      refine q_ifeq (tgt := 82) dX8_step_66 (by decide) ?_ ?_
      · refine q_sub [0, 1] rfl ?_
        exact tX8_step_82 hd x1 M2 hO2
      · refine q_aload_n 0 dX8_step_69 rfl rfl ?_
        refine q_dup dX8_step_70 rfl ?_
        refine q_geti fl_X8_9 sh_5 (q_inO hO2 sh_5) rfl dX8_step_71 ?_
        refine q_iconst dX8_step_74 ?_
        refine q_iadd dX8_step_75 ?_
        refine q_puti fl_X8_9 sh_5 (q_inO hO2 sh_5) (fun h => q_Ok_put h sh_5 rfl) rfl dX8_step_76 (fun M3 hM3 => ?_)
        have hO3 : q_Ok M3 := by rw [hM3]; exact q_Ok_put hO2 sh_5 rfl
        refine q_goto (tgt := 38) dX8_step_79 (by decide) ?_
        refine q_sub [0, 1] rfl ?_
        exact ih x1 M3 hO3
def fX8_step_29 (s0 : Int) (M : q_Mem) : Option (Int × q_Mem) := q_let (q_up M 5 1 (M.2 5 2)) fun M1 => (fX8_step_38 q_FU s0 M1)
theorem tX8_step_29 {d : Nat} (hd : 9 ≤ d) (s0 : Int) (M : q_Mem) (hO : q_Ok M) : q_EX (d + 1) yX8_step cX8_step 4 none 29 [(0, .inr (.inr 5))] [.inl s0] M (fX8_step_29 s0 M) := by
  unfold fX8_step_29
  refine q_istore_n (ls' := [(1, .inl s0), (0, .inr (.inr 5))]) dX8_step_29 rfl (by decide) rfl ?_
  refine q_aload_n 1 dX8_step_30 rfl rfl ?_
  refine q_aload_n 1 dX8_step_31 rfl rfl ?_
  refine q_geti fl_X8_15 sh_5 (q_inO hO sh_5) rfl dX8_step_32 ?_
  refine q_puti fl_X8_9 sh_5 (q_inO hO sh_5) (fun h => q_Ok_put h sh_5 rfl) rfl dX8_step_35 (fun M1 hM1 => ?_)
  have hO1 : q_Ok M1 := by rw [hM1]; exact q_Ok_put hO sh_5 rfl
  refine q_sub [1, 0] rfl ?_
  exact tX8_step_38 hd q_FU s0 M1 hO1
def fX8_step_24 (M : q_Mem) : Option (Int × q_Mem) := (fX8_step_29 1 M)
theorem tX8_step_24 {d : Nat} (hd : 9 ≤ d) (M : q_Mem) (hO : q_Ok M) : q_EX (d + 1) yX8_step cX8_step 4 none 24 [(0, .inr (.inr 5))] [] M (fX8_step_24 M) := by
  unfold fX8_step_24
  refine q_iconst dX8_step_24 ?_
  refine q_goto (tgt := 29) dX8_step_25 (by decide) ?_
  refine q_sub [0] rfl ?_
  exact tX8_step_29 hd 1 M hO
def fX8_step (M : q_Mem) : Option (Int × q_Mem) := if q_w (M.2 5 5) = 0 then (if q_w (M.2 5 3) = q_w 1 then ((fX8_step_24 M)) else (if q_w (M.2 5 3) = q_w 2 then ((fX8_step_24 M)) else ((fX8_step_29 0 M)))) else (some (0, M))
theorem tX8_step {d : Nat} (hd : 10 ≤ d) (M : q_Mem) (hO : q_Ok M) : q_EX d yX8_step cX8_step 4 none 0 (q_args 0 [.inr (.inr 5)]) [] M (fX8_step M) := by
  obtain ⟨d, rfl⟩ : ∃ d', d = d' + 1 := ⟨d - 1, by omega⟩
  have hd : 9 ≤ d := by omega
  show q_EX _ _ _ _ _ 0 [(0, .inr (.inr 5))] [] M _
  unfold fX8_step
  refine q_aload_n 0 dX8_step_0 rfl rfl ?_
  refine q_geti fl_X8_24 sh_5 (q_inO hO sh_5) rfl dX8_step_1 ?_
  refine q_ifeq (tgt := 8) dX8_step_4 (by decide) ?_ ?_
  · refine q_aload_n 0 dX8_step_8 rfl rfl ?_
    refine q_geti fl_X8_18 sh_5 (q_inO hO sh_5) rfl dX8_step_9 ?_
    refine q_iconst dX8_step_12 ?_
    refine q_icmpeq (tgt := 24) dX8_step_13 (by decide) ?_ ?_
    · refine q_sub [0] rfl ?_
      exact tX8_step_24 hd M hO
    · refine q_aload_n 0 dX8_step_16 rfl rfl ?_
      refine q_geti fl_X8_18 sh_5 (q_inO hO sh_5) rfl dX8_step_17 ?_
      refine q_iconst dX8_step_20 ?_
      refine q_icmpne (tgt := 28) dX8_step_21 (by decide) ?_ ?_
      · refine q_iconst dX8_step_28 ?_
        refine q_sub [0] rfl ?_
        exact tX8_step_29 hd 0 M hO
      · refine q_sub [0] rfl ?_
        exact tX8_step_24 hd M hO
  · exact q_ret dX8_step_7 rfl
def fX8_begin (M : q_Mem) : Option (Int × q_Mem) := q_let (q_up M 5 2 0) fun M1 => q_let (q_up M1 5 3 0) fun M2 => q_let (q_up M2 5 5 0) fun M3 => q_let (q_up M3 5 6 (-1)) fun M4 => q_bd (fX8_step M4) fun _ M5 => some (0, M5)
theorem tX8_begin {d : Nat} (hd : 11 ≤ d) (M : q_Mem) (hO : q_Ok M) : q_EX d yX8_begin cX8_begin 1 none 0 (q_args 0 [.inr (.inr 5)]) [] M (fX8_begin M) := by
  obtain ⟨d, rfl⟩ : ∃ d', d = d' + 1 := ⟨d - 1, by omega⟩
  have hd : 10 ≤ d := by omega
  show q_EX _ _ _ _ _ 0 [(0, .inr (.inr 5))] [] M _
  unfold fX8_begin
  refine q_aload_n 0 dX8_begin_0 rfl rfl ?_
  refine q_iconst dX8_begin_1 ?_
  refine q_puti fl_X8_15 sh_5 (q_inO hO sh_5) (fun h => q_Ok_put h sh_5 rfl) rfl dX8_begin_2 (fun M1 hM1 => ?_)
  have hO1 : q_Ok M1 := by rw [hM1]; exact q_Ok_put hO sh_5 rfl
  refine q_aload_n 0 dX8_begin_5 rfl rfl ?_
  refine q_iconst dX8_begin_6 ?_
  refine q_puti fl_X8_18 sh_5 (q_inO hO1 sh_5) (fun h => q_Ok_put h sh_5 rfl) rfl dX8_begin_7 (fun M2 hM2 => ?_)
  have hO2 : q_Ok M2 := by rw [hM2]; exact q_Ok_put hO1 sh_5 rfl
  refine q_aload_n 0 dX8_begin_10 rfl rfl ?_
  refine q_iconst dX8_begin_11 ?_
  refine q_puti fl_X8_24 sh_5 (q_inO hO2 sh_5) (fun h => q_Ok_put h sh_5 rfl) rfl dX8_begin_12 (fun M3 hM3 => ?_)
  have hO3 : q_Ok M3 := by rw [hM3]; exact q_Ok_put hO2 sh_5 rfl
  refine q_aload_n 0 dX8_begin_15 rfl rfl ?_
  refine q_iconst dX8_begin_16 ?_
  refine q_puti fl_X8_27 sh_5 (q_inO hO3 sh_5) (fun h => q_Ok_put h sh_5 rfl) rfl dX8_begin_17 (fun M4 hM4 => ?_)
  have hO4 : q_Ok M4 := by rw [hM4]; exact q_Ok_put hO3 sh_5 rfl
  refine q_aload_n 0 dX8_begin_20 rfl rfl ?_
  refine q_callVv (As := []) hO4 mb_X8_step mv_X8_step ml_X8_34 sh_5 rfl dX8_begin_21 (fun _ => rfl) rfl (Nat.le_of_ble_eq_true rfl) rfl (Nat.le_of_ble_eq_true rfl) (tX8_step (by omega) M4 hO4) (fun _ M5 _ hO5 => ?_)
  exact q_ret dX8_begin_24 rfl
def fX8_isWord (x1 : Int) (M : q_Mem) : Option (Int × q_Mem) := if q_w (M.2 5 3) = q_w 1 then (if q_w (M.2 5 4) = q_w x1 then (some (1, M)) else (some (0, M))) else (some (0, M))
theorem tX8_isWord {d : Nat} (x1 : Int) (M : q_Mem) (hO : q_Ok M) : q_EX d yX8_isWord cX8_isWord 2 (some .boolean) 0 (q_args 0 [.inr (.inr 5), .inl x1]) [] M (fX8_isWord x1 M) := by
  show q_EX _ _ _ _ _ 0 [(0, .inr (.inr 5)), (1, .inl x1)] [] M _
  unfold fX8_isWord
  refine q_aload_n 0 dX8_isWord_0 rfl rfl ?_
  refine q_geti fl_X8_18 sh_5 (q_inO hO sh_5) rfl dX8_isWord_1 ?_
  refine q_iconst dX8_isWord_4 ?_
  refine q_icmpne (tgt := 20) dX8_isWord_5 (by decide) ?_ ?_
  · refine q_iconst dX8_isWord_20 ?_
    exact q_ret ⟨dX8_isWord_21, by decide⟩ rfl
  · refine q_aload_n 0 dX8_isWord_8 rfl rfl ?_
    refine q_geti fl_X8_21 sh_5 (q_inO hO sh_5) rfl dX8_isWord_9 ?_
    refine q_iload_n 1 dX8_isWord_12 rfl rfl ?_
    refine q_icmpne (tgt := 20) dX8_isWord_13 (by decide) ?_ ?_
    · refine q_iconst dX8_isWord_20 ?_
      exact q_ret ⟨dX8_isWord_21, by decide⟩ rfl
    · refine q_iconst dX8_isWord_16 ?_
      refine q_goto (tgt := 21) dX8_isWord_17 (by decide) ?_
      exact q_ret ⟨dX8_isWord_21, by decide⟩ rfl
def fX8_fail_17 (M : q_Mem) : Option (Int × q_Mem) := q_let (q_up M 5 3 4) fun M1 => some (0, M1)
theorem tX8_fail_17 {d : Nat} (M : q_Mem) (hO : q_Ok M) : q_EX d yX8_fail cX8_fail 3 none 17 [(0, .inr (.inr 5))] [] M (fX8_fail_17 M) := by
  unfold fX8_fail_17
  refine q_aload_n 0 dX8_fail_17 rfl rfl ?_
  refine q_iconst dX8_fail_18 ?_
  refine q_puti fl_X8_18 sh_5 (q_inO hO sh_5) (fun h => q_Ok_put h sh_5 rfl) rfl dX8_fail_19 (fun M1 hM1 => ?_)
  have hO1 : q_Ok M1 := by rw [hM1]; exact q_Ok_put hO sh_5 rfl
  exact q_ret dX8_fail_22 rfl
def fX8_fail (x1 : Int) (x2 : Int) (M : q_Mem) : Option (Int × q_Mem) := if q_w (M.2 5 5) = 0 then (q_let (q_up M 5 5 x1) fun M1 => q_let (q_up M1 5 6 x2) fun M2 => (fX8_fail_17 M2)) else ((fX8_fail_17 M))
theorem tX8_fail {d : Nat} (x1 : Int) (x2 : Int) (M : q_Mem) (hO : q_Ok M) : q_EX d yX8_fail cX8_fail 3 none 0 (q_args 0 [.inr (.inr 5), .inl x1, .inl x2]) [] M (fX8_fail x1 x2 M) := by
  show q_EX _ _ _ _ _ 0 [(0, .inr (.inr 5)), (1, .inl x1), (2, .inl x2)] [] M _
  unfold fX8_fail
  refine q_aload_n 0 dX8_fail_0 rfl rfl ?_
  refine q_geti fl_X8_24 sh_5 (q_inO hO sh_5) rfl dX8_fail_1 ?_
  refine q_ifne (tgt := 17) dX8_fail_4 (by decide) ?_ ?_
  · refine q_sub [0] rfl ?_
    exact tX8_fail_17 M hO
  · refine q_aload_n 0 dX8_fail_7 rfl rfl ?_
    refine q_iload_n 1 dX8_fail_8 rfl rfl ?_
    refine q_puti fl_X8_24 sh_5 (q_inO hO sh_5) (fun h => q_Ok_put h sh_5 rfl) rfl dX8_fail_9 (fun M1 hM1 => ?_)
    have hO1 : q_Ok M1 := by rw [hM1]; exact q_Ok_put hO sh_5 rfl
    refine q_aload_n 0 dX8_fail_12 rfl rfl ?_
    refine q_iload_n 2 dX8_fail_13 rfl rfl ?_
    refine q_puti fl_X8_27 sh_5 (q_inO hO1 sh_5) (fun h => q_Ok_put h sh_5 rfl) rfl dX8_fail_14 (fun M2 hM2 => ?_)
    have hO2 : q_Ok M2 := by rw [hM2]; exact q_Ok_put hO1 sh_5 rfl
    refine q_sub [0] rfl ?_
    exact tX8_fail_17 M2 hO2
def fX8_takeNumber_71 (x3 : Int) (M : q_Mem) : Option (Int × q_Mem) := q_bd (fX8_step M) fun _ M1 => if q_w (M1.2 5 5) = 0 then (some (x3, M1)) else (some (0, M1))
theorem tX8_takeNumber_71 {d : Nat} (hd : 10 ≤ d) (x3 : Int) (M : q_Mem) (hO : q_Ok M) : q_EX (d + 1) yX8_takeNumber cX8_takeNumber 4 (some .int) 71 [(0, .inr (.inr 5)), (3, .inl x3)] [] M (fX8_takeNumber_71 x3 M) := by
  unfold fX8_takeNumber_71
  refine q_aload_n 0 dX8_takeNumber_71 rfl rfl ?_
  refine q_callVv (As := []) hO mb_X8_step mv_X8_step ml_X8_34 sh_5 rfl dX8_takeNumber_72 (fun _ => rfl) rfl (Nat.le_of_ble_eq_true rfl) rfl (Nat.le_of_ble_eq_true rfl) (tX8_step (by omega) M hO) (fun _ M1 _ hO1 => ?_)
  refine q_aload_n 0 dX8_takeNumber_75 rfl rfl ?_
  refine q_geti fl_X8_24 sh_5 (q_inO hO1 sh_5) rfl dX8_takeNumber_76 ?_
  refine q_ifne (tgt := 86) dX8_takeNumber_79 (by decide) ?_ ?_
  · refine q_iconst dX8_takeNumber_86 ?_
    exact q_ret dX8_takeNumber_87 rfl
  · refine q_iload_n 1 dX8_takeNumber_82 rfl rfl ?_
    refine q_goto (tgt := 87) dX8_takeNumber_83 (by decide) ?_
    exact q_ret dX8_takeNumber_87 rfl
def fX8_takeNumber_62 (x3 : Int) (M : q_Mem) : Option (Int × q_Mem) := q_bd (fX8_fail 2 (M.2 5 1) M) fun _ M1 => (fX8_takeNumber_71 x3 M1)
theorem tX8_takeNumber_62 {d : Nat} (hd : 10 ≤ d) (x3 : Int) (M : q_Mem) (hO : q_Ok M) : q_EX (d + 1) yX8_takeNumber cX8_takeNumber 4 (some .int) 62 [(0, .inr (.inr 5)), (3, .inl x3)] [] M (fX8_takeNumber_62 x3 M) := by
  unfold fX8_takeNumber_62
  refine q_aload_n 0 dX8_takeNumber_62 rfl rfl ?_
  refine q_iconst dX8_takeNumber_63 ?_
  refine q_aload_n 0 dX8_takeNumber_64 rfl rfl ?_
  refine q_geti fl_X8_9 sh_5 (q_inO hO sh_5) rfl dX8_takeNumber_65 ?_
  refine q_callVv (As := [.inl 2, .inl (M.2 5 1)]) hO mb_X8_fail mv_X8_fail ml_X8_73 sh_5 rfl dX8_takeNumber_68 (fun _ => rfl) rfl (Nat.le_of_ble_eq_true rfl) rfl (Nat.le_of_ble_eq_true rfl) (tX8_fail 2 (M.2 5 1) M hO) (fun _ M1 _ hO1 => ?_)
  refine q_sub [0, 1] rfl ?_
  exact tX8_takeNumber_71 hd x3 M1 hO1
def fX8_takeNumber (x1 : Int) (x2 : Int) (M : q_Mem) : Option (Int × q_Mem) := q_let (M.2 5 4) fun x21 => if q_w (M.2 5 3) = q_w 2 then (if q_w 4 < q_w ((M.2 5 2) - (M.2 5 1)) then (q_bd (fX8_fail 1 ((M.2 5 1) + 4) M) fun _ M1 => (fX8_takeNumber_71 x21 M1)) else (if q_w x21 < q_w x1 then ((fX8_takeNumber_62 x21 M)) else (if q_w x2 < q_w x21 then ((fX8_takeNumber_62 x21 M)) else ((fX8_takeNumber_71 x21 M))))) else (q_bd (fX8_fail 1 (M.2 5 1) M) fun _ M2 => (fX8_takeNumber_71 x21 M2))
theorem tX8_takeNumber {d : Nat} (hd : 11 ≤ d) (x1 : Int) (x2 : Int) (M : q_Mem) (hO : q_Ok M) : q_EX d yX8_takeNumber cX8_takeNumber 4 (some .int) 0 (q_args 0 [.inr (.inr 5), .inl x1, .inl x2]) [] M (fX8_takeNumber x1 x2 M) := by
  obtain ⟨d, rfl⟩ : ∃ d', d = d' + 1 := ⟨d - 1, by omega⟩
  have hd : 10 ≤ d := by omega
  show q_EX _ _ _ _ _ 0 [(0, .inr (.inr 5)), (1, .inl x1), (2, .inl x2)] [] M _
  unfold fX8_takeNumber
  refine q_aload_n 0 dX8_takeNumber_0 rfl rfl ?_
  refine q_geti fl_X8_21 sh_5 (q_inO hO sh_5) rfl dX8_takeNumber_1 ?_
  refine q_nameI (fun x21 _ => ?_)
  refine q_istore_n (ls' := [(3, .inl x21), (0, .inr (.inr 5)), (1, .inl x1), (2, .inl x2)]) dX8_takeNumber_4 rfl (by decide) rfl ?_
  refine q_aload_n 1 dX8_takeNumber_5 rfl rfl ?_
  refine q_geti fl_X8_18 sh_5 (q_inO hO sh_5) rfl dX8_takeNumber_6 ?_
  refine q_iconst dX8_takeNumber_9 ?_
  refine q_icmpeq (tgt := 25) dX8_takeNumber_10 (by decide) ?_ ?_
  · refine q_aload_n 1 dX8_takeNumber_25 rfl rfl ?_
    refine q_geti fl_X8_15 sh_5 (q_inO hO sh_5) rfl dX8_takeNumber_26 ?_
    refine q_aload_n 1 dX8_takeNumber_29 rfl rfl ?_
    refine q_geti fl_X8_9 sh_5 (q_inO hO sh_5) rfl dX8_takeNumber_30 ?_
    refine q_isub dX8_takeNumber_33 ?_
    refine q_iconst dX8_takeNumber_34 ?_
    refine q_icmple (tgt := 52) dX8_takeNumber_35 (by decide) ?_ ?_
    · refine q_iload_n 0 dX8_takeNumber_52 rfl rfl ?_
      refine q_iload_n 2 dX8_takeNumber_53 rfl rfl ?_
      refine q_icmplt (tgt := 62) dX8_takeNumber_54 (by decide) ?_ ?_
      · refine q_sub [1, 0] rfl ?_
        exact tX8_takeNumber_62 hd x21 M hO
      · refine q_iload_n 0 dX8_takeNumber_57 rfl rfl ?_
        refine q_iload_n 3 dX8_takeNumber_58 rfl rfl ?_
        refine q_icmple (tgt := 71) dX8_takeNumber_59 (by decide) ?_ ?_
        · refine q_sub [1, 0] rfl ?_
          exact tX8_takeNumber_71 hd x21 M hO
        · refine q_sub [1, 0] rfl ?_
          exact tX8_takeNumber_62 hd x21 M hO
    · refine q_aload_n 1 dX8_takeNumber_38 rfl rfl ?_
      refine q_iconst dX8_takeNumber_39 ?_
      refine q_aload_n 1 dX8_takeNumber_40 rfl rfl ?_
      refine q_geti fl_X8_9 sh_5 (q_inO hO sh_5) rfl dX8_takeNumber_41 ?_
      refine q_iconst dX8_takeNumber_44 ?_
      refine q_iadd dX8_takeNumber_45 ?_
      refine q_callVv (As := [.inl 1, .inl ((M.2 5 1) + 4)]) hO mb_X8_fail mv_X8_fail ml_X8_73 sh_5 rfl dX8_takeNumber_46 (fun _ => rfl) rfl (Nat.le_of_ble_eq_true rfl) rfl (Nat.le_of_ble_eq_true rfl) (tX8_fail 1 ((M.2 5 1) + 4) M hO) (fun _ M1 _ hO1 => ?_)
      refine q_goto (tgt := 71) dX8_takeNumber_49 (by decide) ?_
      refine q_sub [1, 0] rfl ?_
      exact tX8_takeNumber_71 hd x21 M1 hO1
  · refine q_aload_n 1 dX8_takeNumber_13 rfl rfl ?_
    refine q_iconst dX8_takeNumber_14 ?_
    refine q_aload_n 1 dX8_takeNumber_15 rfl rfl ?_
    refine q_geti fl_X8_9 sh_5 (q_inO hO sh_5) rfl dX8_takeNumber_16 ?_
    refine q_callVv (As := [.inl 1, .inl (M.2 5 1)]) hO mb_X8_fail mv_X8_fail ml_X8_73 sh_5 rfl dX8_takeNumber_19 (fun _ => rfl) rfl (Nat.le_of_ble_eq_true rfl) rfl (Nat.le_of_ble_eq_true rfl) (tX8_fail 1 (M.2 5 1) M hO) (fun _ M2 _ hO2 => ?_)
    refine q_goto (tgt := 71) dX8_takeNumber_22 (by decide) ?_
    refine q_sub [1, 0] rfl ?_
    exact tX8_takeNumber_71 hd x21 M2 hO2
def fX3_hasRoom (x1 : Int) (x2 : Int) (M : q_Mem) : Option (Int × q_Mem) := if q_w x1 < q_w x2 then (some (1, M)) else (q_bd (fX8_fail 5 (M.2 5 1) M) fun _ M1 => some (0, M1))
theorem tX3_hasRoom {d : Nat} (hd : 1 ≤ d) (x1 : Int) (x2 : Int) (M : q_Mem) (hO : q_Ok M) : q_EX d yX3_hasRoom cX3_hasRoom 3 (some .boolean) 0 (q_args 0 [.inr (.inr 9), .inl x1, .inl x2]) [] M (fX3_hasRoom x1 x2 M) := by
  obtain ⟨d, rfl⟩ : ∃ d', d = d' + 1 := ⟨d - 1, by omega⟩
  have hd : 0 ≤ d := by omega
  show q_EX _ _ _ _ _ 0 [(0, .inr (.inr 9)), (1, .inl x1), (2, .inl x2)] [] M _
  unfold fX3_hasRoom
  refine q_iload_n 1 dX3_hasRoom_0 rfl rfl ?_
  refine q_iload_n 2 dX3_hasRoom_1 rfl rfl ?_
  refine q_icmpge (tgt := 7) dX3_hasRoom_2 (by decide) ?_ ?_
  · refine q_aload_n 0 dX3_hasRoom_7 rfl rfl ?_
    refine q_getx fl_X3_9 hO sh_9 rfl fx_9_0 dX3_hasRoom_8 ?_
    refine q_iconst dX3_hasRoom_11 ?_
    refine q_aload_n 0 dX3_hasRoom_12 rfl rfl ?_
    refine q_getx fl_X3_9 hO sh_9 rfl fx_9_0 dX3_hasRoom_13 ?_
    refine q_geti fl_X3_44 sh_5 (q_inO hO sh_5) rfl dX3_hasRoom_16 ?_
    refine q_callVv (As := [.inl 5, .inl (M.2 5 1)]) hO mb_X8_fail mv_X8_fail ml_X3_47 sh_5 rfl dX3_hasRoom_19 (fun _ => rfl) rfl (Nat.le_of_ble_eq_true rfl) rfl (Nat.le_of_ble_eq_true rfl) (tX8_fail 5 (M.2 5 1) M hO) (fun _ M1 _ hO1 => ?_)
    refine q_iconst dX3_hasRoom_22 ?_
    exact q_ret ⟨dX3_hasRoom_23, by decide⟩ rfl
  · refine q_iconst dX3_hasRoom_5 ?_
    exact q_ret ⟨dX3_hasRoom_6, by decide⟩ rfl
def fX8_takeName_24 (r1 : Nat) (M : q_Mem) : Option (Int × q_Mem) := q_bd (fX8_fail 1 (M.2 5 1) M) fun _ M1 => some (0, M1)
theorem tX8_takeName_24 {d : Nat} (hd : 10 ≤ d) (r1 : Nat) (hr1 : q_shp r1 = (0, 2)) (M : q_Mem) (hO : q_Ok M) : q_EX (d + 1) yX8_takeName cX8_takeName 4 (some .int) 24 [(0, .inr (.inr 5))] [] M (fX8_takeName_24 r1 M) := by
  unfold fX8_takeName_24
  refine q_aload_n 0 dX8_takeName_24 rfl rfl ?_
  refine q_iconst dX8_takeName_25 ?_
  refine q_aload_n 0 dX8_takeName_26 rfl rfl ?_
  refine q_geti fl_X8_9 sh_5 (q_inO hO sh_5) rfl dX8_takeName_27 ?_
  refine q_callVv (As := [.inl 1, .inl (M.2 5 1)]) hO mb_X8_fail mv_X8_fail ml_X8_73 sh_5 rfl dX8_takeName_30 (fun _ => rfl) rfl (Nat.le_of_ble_eq_true rfl) rfl (Nat.le_of_ble_eq_true rfl) (tX8_fail 1 (M.2 5 1) M hO) (fun _ M1 _ hO1 => ?_)
  refine q_iconst dX8_takeName_33 ?_
  exact q_ret dX8_takeName_34 rfl
def fX8_takeName_121 (r1 : Nat) (x2 : Int) (M : q_Mem) : Option (Int × q_Mem) := q_bd (fX8_step M) fun _ M1 => some (x2, M1)
theorem tX8_takeName_121 {d : Nat} (hd : 10 ≤ d) (r1 : Nat) (hr1 : q_shp r1 = (0, 2)) (x2 : Int) (M : q_Mem) (hO : q_Ok M) : q_EX (d + 1) yX8_takeName cX8_takeName 4 (some .int) 121 [(0, .inr (.inr 5)), (2, .inl x2)] [] M (fX8_takeName_121 r1 x2 M) := by
  unfold fX8_takeName_121
  refine q_aload_n 0 dX8_takeName_121 rfl rfl ?_
  refine q_callVv (As := []) hO mb_X8_step mv_X8_step ml_X8_34 sh_5 rfl dX8_takeName_122 (fun _ => rfl) rfl (Nat.le_of_ble_eq_true rfl) rfl (Nat.le_of_ble_eq_true rfl) (tX8_step (by omega) M hO) (fun _ M1 _ hO1 => ?_)
  refine q_iload_n 1 dX8_takeName_125 rfl rfl ?_
  exact q_ret dX8_takeName_126 rfl
def fX8_takeName_72 (r1 : Nat) : Nat → Int → Int → q_Mem → Option (Int × q_Mem)
  | 0, _, _, _ => none
  | n + 1, x2, x3, M => if q_w x3 < q_w (M.2 5 1) then (q_bd (fX2_hasName r1 x2 M) fun x21 M1 => if q_w x21 = 0 then ((fX8_takeName_121 r1 x2 M1)) else (q_bd (fX8_fail 3 (M1.2 5 1) M1) fun _ M2 => (fX8_takeName_121 r1 x2 M2))) else (q_bd (fX10_at 1 x3 M) fun x22 M3 => q_let (q_or (q_shl x2 5) ((x22 - 97) + 1)) fun x23 => (fX8_takeName_72 r1 n x23 (x3 + (-1)) M3))
theorem tX8_takeName_72 {d : Nat} (hd : 10 ≤ d) (r1 : Nat) (hr1 : q_shp r1 = (0, 2)) : ∀ (n : Nat) (x2 : Int) (x3 : Int) (M : q_Mem), q_Ok M → q_EX (d + 1) yX8_takeName cX8_takeName 4 (some .int) 72 [(0, .inr (.inr 5)), (1, .inr (.inr r1)), (2, .inl x2), (3, .inl x3)] [] M (fX8_takeName_72 r1 n x2 x3 M) := by
  intro n
  induction n with
  | zero => intro x2 x3 M hO; exact q_none
  | succ n ih =>
    intro x2 x3 M hO
    rw [fX8_takeName_72]
    refine q_iload_n 3 dX8_takeName_72 rfl rfl ?_
    refine q_aload_n 0 dX8_takeName_73 rfl rfl ?_
    refine q_geti fl_X8_9 sh_5 (q_inO hO sh_5) rfl dX8_takeName_74 ?_
    refine q_icmplt (tgt := 104) dX8_takeName_77 (by decide) ?_ ?_
    · refine q_aload_n 1 dX8_takeName_104 rfl rfl ?_
      refine q_iload_n 2 dX8_takeName_105 rfl rfl ?_
      refine q_callVi (As := [.inl x2]) hO mb_X2_hasName mv_X2_hasName ml_X8_80 hr1 rfl dX8_takeName_106 (fun _ => rfl) rfl (Nat.le_of_ble_eq_true rfl) rfl (Nat.le_of_ble_eq_true rfl) (tX2_hasName r1 x2 M hO hr1) (fun x21 M1 _ hO1 => ?_)
      refine q_ifeq (tgt := 121) dX8_takeName_109 (by decide) ?_ ?_
      · refine q_sub [0, 2] rfl ?_
        exact tX8_takeName_121 hd r1 hr1 x2 M1 hO1
      · refine q_aload_n 0 dX8_takeName_112 rfl rfl ?_
        refine q_iconst dX8_takeName_113 ?_
        refine q_aload_n 0 dX8_takeName_114 rfl rfl ?_
        refine q_geti fl_X8_9 sh_5 (q_inO hO1 sh_5) rfl dX8_takeName_115 ?_
        refine q_callVv (As := [.inl 3, .inl (M1.2 5 1)]) hO1 mb_X8_fail mv_X8_fail ml_X8_73 sh_5 rfl dX8_takeName_118 (fun _ => rfl) rfl (Nat.le_of_ble_eq_true rfl) rfl (Nat.le_of_ble_eq_true rfl) (tX8_fail 3 (M1.2 5 1) M1 hO1) (fun _ M2 _ hO2 => ?_)
        refine q_sub [0, 2] rfl ?_
        exact tX8_takeName_121 hd r1 hr1 x2 M2 hO2
    · refine q_iload_n 2 dX8_takeName_80 rfl rfl ?_
      refine q_iconst dX8_takeName_81 ?_
      refine q_ishl dX8_takeName_82 ?_
      refine q_aload_n 0 dX8_takeName_83 rfl rfl ?_
      refine q_getx fl_X8_30 hO sh_5 rfl fx_5_0 dX8_takeName_84 ?_
      refine q_iload_n 3 dX8_takeName_87 rfl rfl ?_
      refine q_callVi (As := [.inl x3]) hO mb_X10_at mv_X10_at ml_X8_42 sh_1 rfl dX8_takeName_88 (fun _ => rfl) rfl (Nat.le_of_ble_eq_true rfl) rfl (Nat.le_of_ble_eq_true rfl) (tX10_at 1 x3 M hO sh_1) (fun x22 M3 _ hO3 => ?_)
      refine q_bipush dX8_takeName_91 (by decide) ?_
      refine q_isub dX8_takeName_93 ?_
      refine q_iconst dX8_takeName_94 ?_
      refine q_iadd dX8_takeName_95 ?_
      refine q_ior dX8_takeName_96 ?_
      refine q_nameI (fun x23 _ => ?_)
      refine q_istore_n (ls' := [(2, .inl x23), (0, .inr (.inr 5)), (1, .inr (.inr r1)), (3, .inl x3)]) dX8_takeName_97 rfl (by decide) rfl ?_
      refine q_iinc (ls' := [(3, .inl (x3 + (-1))), (2, .inl x23), (0, .inr (.inr 5)), (1, .inr (.inr r1))]) 3 dX8_takeName_98 rfl (by decide) rfl ?_
      refine q_goto (tgt := 72) dX8_takeName_101 (by decide) ?_
      refine q_sub [2, 3, 1, 0] rfl ?_
      exact ih x23 (x3 + (-1)) M3 hO3
def fX8_takeName_35 (r1 : Nat) (M : q_Mem) : Option (Int × q_Mem) := if q_w 6 < q_w ((M.2 5 2) - (M.2 5 1)) then (q_bd (fX8_fail 1 ((M.2 5 1) + 6) M) fun _ M1 => some (0, M1)) else (q_let ((M.2 5 2) - 1) fun x21 => (fX8_takeName_72 r1 q_FU 0 x21 M))
theorem tX8_takeName_35 {d : Nat} (hd : 10 ≤ d) (r1 : Nat) (hr1 : q_shp r1 = (0, 2)) (M : q_Mem) (hO : q_Ok M) : q_EX (d + 1) yX8_takeName cX8_takeName 4 (some .int) 35 [(0, .inr (.inr 5)), (1, .inr (.inr r1))] [] M (fX8_takeName_35 r1 M) := by
  unfold fX8_takeName_35
  refine q_aload_n 0 dX8_takeName_35 rfl rfl ?_
  refine q_geti fl_X8_15 sh_5 (q_inO hO sh_5) rfl dX8_takeName_36 ?_
  refine q_aload_n 0 dX8_takeName_39 rfl rfl ?_
  refine q_geti fl_X8_9 sh_5 (q_inO hO sh_5) rfl dX8_takeName_40 ?_
  refine q_isub dX8_takeName_43 ?_
  refine q_bipush dX8_takeName_44 (by decide) ?_
  refine q_icmple (tgt := 63) dX8_takeName_46 (by decide) ?_ ?_
  · refine q_iconst dX8_takeName_63 ?_
    refine q_istore_n (ls' := [(2, .inl 0), (0, .inr (.inr 5)), (1, .inr (.inr r1))]) dX8_takeName_64 rfl (by decide) rfl ?_
    refine q_aload_n 1 dX8_takeName_65 rfl rfl ?_
    refine q_geti fl_X8_15 sh_5 (q_inO hO sh_5) rfl dX8_takeName_66 ?_
    refine q_iconst dX8_takeName_69 ?_
    refine q_isub dX8_takeName_70 ?_
    refine q_nameI (fun x21 _ => ?_)
    refine q_istore_n (ls' := [(3, .inl x21), (2, .inl 0), (0, .inr (.inr 5)), (1, .inr (.inr r1))]) dX8_takeName_71 rfl (by decide) rfl ?_
    refine q_sub [2, 3, 1, 0] rfl ?_
    exact tX8_takeName_72 hd r1 hr1 q_FU 0 x21 M hO
  · refine q_aload_n 0 dX8_takeName_49 rfl rfl ?_
    refine q_iconst dX8_takeName_50 ?_
    refine q_aload_n 0 dX8_takeName_51 rfl rfl ?_
    refine q_geti fl_X8_9 sh_5 (q_inO hO sh_5) rfl dX8_takeName_52 ?_
    refine q_bipush dX8_takeName_55 (by decide) ?_
    refine q_iadd dX8_takeName_57 ?_
    refine q_callVv (As := [.inl 1, .inl ((M.2 5 1) + 6)]) hO mb_X8_fail mv_X8_fail ml_X8_73 sh_5 rfl dX8_takeName_58 (fun _ => rfl) rfl (Nat.le_of_ble_eq_true rfl) rfl (Nat.le_of_ble_eq_true rfl) (tX8_fail 1 ((M.2 5 1) + 6) M hO) (fun _ M1 _ hO1 => ?_)
    refine q_iconst dX8_takeName_61 ?_
    exact q_ret dX8_takeName_62 rfl
def fX8_takeName (r1 : Nat) (M : q_Mem) : Option (Int × q_Mem) := if q_w (M.2 5 3) = q_w 1 then (if q_w (M.2 5 4) < 0 then ((fX8_takeName_35 r1 M)) else (if q_w 24 < q_w (M.2 5 4) then ((fX8_takeName_35 r1 M)) else ((fX8_takeName_24 r1 M)))) else ((fX8_takeName_24 r1 M))
theorem tX8_takeName {d : Nat} (hd : 11 ≤ d) (r1 : Nat) (M : q_Mem) (hO : q_Ok M) (hr1 : q_shp r1 = (0, 2)) : q_EX d yX8_takeName cX8_takeName 4 (some .int) 0 (q_args 0 [.inr (.inr 5), .inr (.inr r1)]) [] M (fX8_takeName r1 M) := by
  obtain ⟨d, rfl⟩ : ∃ d', d = d' + 1 := ⟨d - 1, by omega⟩
  have hd : 10 ≤ d := by omega
  show q_EX _ _ _ _ _ 0 [(0, .inr (.inr 5)), (1, .inr (.inr r1))] [] M _
  unfold fX8_takeName
  refine q_aload_n 0 dX8_takeName_0 rfl rfl ?_
  refine q_geti fl_X8_18 sh_5 (q_inO hO sh_5) rfl dX8_takeName_1 ?_
  refine q_iconst dX8_takeName_4 ?_
  refine q_icmpne (tgt := 24) dX8_takeName_5 (by decide) ?_ ?_
  · refine q_sub [0] rfl ?_
    exact tX8_takeName_24 hd r1 hr1 M hO
  · refine q_aload_n 0 dX8_takeName_8 rfl rfl ?_
    refine q_geti fl_X8_21 sh_5 (q_inO hO sh_5) rfl dX8_takeName_9 ?_
    refine q_iflt (tgt := 35) dX8_takeName_12 (by decide) ?_ ?_
    · refine q_sub [0, 1] rfl ?_
      exact tX8_takeName_35 hd r1 hr1 M hO
    · refine q_aload_n 0 dX8_takeName_15 rfl rfl ?_
      refine q_geti fl_X8_21 sh_5 (q_inO hO sh_5) rfl dX8_takeName_16 ?_
      refine q_bipush dX8_takeName_19 (by decide) ?_
      refine q_icmpgt (tgt := 35) dX8_takeName_21 (by decide) ?_ ?_
      · refine q_sub [0, 1] rfl ?_
        exact tX8_takeName_35 hd r1 hr1 M hO
      · refine q_sub [0] rfl ?_
        exact tX8_takeName_24 hd r1 hr1 M hO
def fX8_takeWord (x1 : Int) (M : q_Mem) : Option (Int × q_Mem) := q_bd (fX8_isWord x1 M) fun x21 M1 => if q_w x21 = 0 then (q_bd (fX8_fail 1 (M1.2 5 1) M1) fun _ M2 => some (0, M2)) else (q_bd (fX8_step M1) fun _ M3 => some (0, M3))
theorem tX8_takeWord {d : Nat} (hd : 11 ≤ d) (x1 : Int) (M : q_Mem) (hO : q_Ok M) : q_EX d yX8_takeWord cX8_takeWord 2 none 0 (q_args 0 [.inr (.inr 5), .inl x1]) [] M (fX8_takeWord x1 M) := by
  obtain ⟨d, rfl⟩ : ∃ d', d = d' + 1 := ⟨d - 1, by omega⟩
  have hd : 10 ≤ d := by omega
  show q_EX _ _ _ _ _ 0 [(0, .inr (.inr 5)), (1, .inl x1)] [] M _
  unfold fX8_takeWord
  refine q_aload_n 0 dX8_takeWord_0 rfl rfl ?_
  refine q_iload_n 1 dX8_takeWord_1 rfl rfl ?_
  refine q_callVi (As := [.inl x1]) hO mb_X8_isWord mv_X8_isWord ml_X8_70 sh_5 rfl dX8_takeWord_2 (fun _ => rfl) rfl (Nat.le_of_ble_eq_true rfl) rfl (Nat.le_of_ble_eq_true rfl) (tX8_isWord x1 M hO) (fun x21 M1 _ hO1 => ?_)
  refine q_ifeq (tgt := 15) dX8_takeWord_5 (by decide) ?_ ?_
  · refine q_aload_n 0 dX8_takeWord_15 rfl rfl ?_
    refine q_iconst dX8_takeWord_16 ?_
    refine q_aload_n 0 dX8_takeWord_17 rfl rfl ?_
    refine q_geti fl_X8_9 sh_5 (q_inO hO1 sh_5) rfl dX8_takeWord_18 ?_
    refine q_callVv (As := [.inl 1, .inl (M1.2 5 1)]) hO1 mb_X8_fail mv_X8_fail ml_X8_73 sh_5 rfl dX8_takeWord_21 (fun _ => rfl) rfl (Nat.le_of_ble_eq_true rfl) rfl (Nat.le_of_ble_eq_true rfl) (tX8_fail 1 (M1.2 5 1) M1 hO1) (fun _ M2 _ hO2 => ?_)
    exact q_ret dX8_takeWord_24 rfl
  · refine q_aload_n 0 dX8_takeWord_8 rfl rfl ?_
    refine q_callVv (As := []) hO1 mb_X8_step mv_X8_step ml_X8_34 sh_5 rfl dX8_takeWord_9 (fun _ => rfl) rfl (Nat.le_of_ble_eq_true rfl) rfl (Nat.le_of_ble_eq_true rfl) (tX8_step (by omega) M1 hO1) (fun _ M3 _ hO3 => ?_)
    refine q_goto (tgt := 24) dX8_takeWord_12 (by decide) ?_
    exact q_ret dX8_takeWord_24 rfl
