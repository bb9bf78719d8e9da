def fX11_lamps_84 (K39 : Int → Int → Int → Int → q_Mem → Option (Int × q_Mem)) (x1 : Int) (x2 : Int) (x3 : Int) (x4 : Int) (M : q_Mem) : Option (Int × q_Mem) := (K39 x1 x2 x3 (x4 + 1) M)
theorem tX11_lamps_84 {d : Nat} (hd : 5 ≤ d) (K39 : Int → Int → Int → Int → q_Mem → Option (Int × q_Mem)) (hK39 : ∀ (x1 : Int) (x2 : Int) (x3 : Int) (x4 : Int) (M : q_Mem), q_Ok M → q_EX (d + 1) yX11_lamps cX11_lamps 6 (some .int) 39 [(0, .inr (.inr 0)), (1, .inl x1), (2, .inl x2), (3, .inl x3), (4, .inl x4)] [] M (K39 x1 x2 x3 x4 M)) (x1 : Int) (x2 : Int) (x3 : Int) (x4 : Int) (M : q_Mem) (hO : q_Ok M) : q_EX (d + 1) yX11_lamps cX11_lamps 6 (some .int) 84 [(0, .inr (.inr 0)), (1, .inl x1), (2, .inl x2), (3, .inl x3), (4, .inl x4)] [] M (fX11_lamps_84 K39 x1 x2 x3 x4 M) := by
  unfold fX11_lamps_84
  refine q_iinc (ls' := [(4, .inl (x4 + 1)), (0, .inr (.inr 0)), (1, .inl x1), (2, .inl x2), (3, .inl x3)]) 4 dX11_lamps_84 rfl (by decide) rfl ?_
  refine q_goto (tgt := 39) dX11_lamps_87 (by decide) ?_
  refine q_sub [1, 2, 3, 4, 0] rfl ?_
  exact hK39 x1 x2 x3 (x4 + 1) M hO
def fX11_lamps_39  : Nat → Int → Int → Int → Int → q_Mem → Option (Int × q_Mem)
  | 0, _, _, _, _, _ => none
  | n + 1, x1, x2, x3, x4, M => q_let (M.2 0 11).toNat fun r21 => if q_w (M.2 r21 0) < q_w x4 then (if q_w x1 = 0 then (q_bd (fJ6_bitCount_0f7a4 x2 M) fun x21 M1 => some (x21, M1)) else (if q_w x1 = q_w 1 then (some (x2, M)) else (some (x3, M)))) else (q_bd (fX9_wrongRows x4 M) fun x22 M2 => q_bd (fJ6_bitCount_0f7a4 x22 M2) fun x23 M3 => q_bd (fJ6_bitCount_0f7a4 x2 M3) fun x24 M4 => if q_w x23 < q_w x24 then ((fX11_lamps_84 (fX11_lamps_39 n) x1 x22 x4 x4 M4)) else ((fX11_lamps_84 (fX11_lamps_39 n) x1 x2 x3 x4 M4)))
theorem tX11_lamps_39 {d : Nat} (hd : 5 ≤ d) : ∀ (n : Nat) (x1 : Int) (x2 : Int) (x3 : Int) (x4 : Int) (M : q_Mem), q_Ok M → q_EX (d + 1) yX11_lamps cX11_lamps 6 (some .int) 39 [(0, .inr (.inr 0)), (1, .inl x1), (2, .inl x2), (3, .inl x3), (4, .inl x4)] [] M (fX11_lamps_39 n x1 x2 x3 x4 M) := by
  intro n
  induction n with
  | zero => intro x1 x2 x3 x4 M hO; exact q_none
  | succ n ih =>
    intro x1 x2 x3 x4 M hO
    rw [fX11_lamps_39]
    refine q_iload 4 dX11_lamps_39 rfl ?_
    refine q_aload_n 0 dX11_lamps_41 rfl rfl ?_
    refine q_gettL fl_X11_90 hO sh_0 rfl tr_0_11 dX11_lamps_42 (fun r21 _ hr21 => ?_)
    refine q_geti fl_X11_142 hr21 (q_inO hO hr21) rfl dX11_lamps_45 ?_
    refine q_icmpgt (tgt := 90) dX11_lamps_48 (by decide) ?_ ?_
    · refine q_iload_n 1 dX11_lamps_90 rfl rfl ?_
      refine q_ifne (tgt := 99) dX11_lamps_91 (by decide) ?_ ?_
      · refine q_iload_n 1 dX11_lamps_99 rfl rfl ?_
        refine q_iconst dX11_lamps_100 ?_
        refine q_icmpne (tgt := 108) dX11_lamps_101 (by decide) ?_ ?_
        · refine q_iload_n 3 dX11_lamps_108 rfl rfl ?_
          exact q_ret dX11_lamps_109 rfl
        · refine q_iload_n 2 dX11_lamps_104 rfl rfl ?_
          refine q_goto (tgt := 109) dX11_lamps_105 (by decide) ?_
          exact q_ret dX11_lamps_109 rfl
      · refine q_iload_n 2 dX11_lamps_94 rfl rfl ?_
        refine q_callSi (As := [.inl x2]) hO mb_J6_bitCount_0f7a4 ms_J6_bitCount_0f7a4 ml_X11_164 dX11_lamps_95 (fun _ => rfl) rfl (Nat.le_of_ble_eq_true rfl) rfl (Nat.le_of_ble_eq_true rfl) (tJ6_bitCount_0f7a4 x2 M hO) (fun x21 M1 _ hO1 => ?_)
        exact q_ret dX11_lamps_98 rfl
    · refine q_aload_n 0 dX11_lamps_51 rfl rfl ?_
      refine q_getx fl_X11_65 hO sh_0 rfl fx_0_7 dX11_lamps_52 ?_
      refine q_aload_n 0 dX11_lamps_55 rfl rfl ?_
      refine q_getx fl_X11_102 hO sh_0 rfl fx_0_13 dX11_lamps_56 ?_
      refine q_iload 4 dX11_lamps_59 rfl ?_
      refine q_callVi (As := [.inr (.inr 87), .inl x4]) hO mb_X9_wrongRows mv_X9_wrongRows ml_X11_274 sh_36 rfl dX11_lamps_61 (fun _ => rfl) rfl (Nat.le_of_ble_eq_true rfl) rfl (Nat.le_of_ble_eq_true rfl) (tX9_wrongRows (by omega) x4 M hO) (fun x22 M2 _ hO2 => ?_)
      refine q_istore (ls' := [(5, .inl x22), (0, .inr (.inr 0)), (1, .inl x1), (2, .inl x2), (3, .inl x3), (4, .inl x4)]) dX11_lamps_64 (by decide) rfl ?_
      refine q_iload 0 dX11_lamps_66 rfl ?_
      refine q_callSi (As := [.inl x22]) hO2 mb_J6_bitCount_0f7a4 ms_J6_bitCount_0f7a4 ml_X11_164 dX11_lamps_68 (fun _ => rfl) rfl (Nat.le_of_ble_eq_true rfl) rfl (Nat.le_of_ble_eq_true rfl) (tJ6_bitCount_0f7a4 x22 M2 hO2) (fun x23 M3 _ hO3 => ?_)
      refine q_iload_n 3 dX11_lamps_71 rfl rfl ?_
      refine q_callSi (As := [.inl x2]) hO3 mb_J6_bitCount_0f7a4 ms_J6_bitCount_0f7a4 ml_X11_164 dX11_lamps_72 (fun _ => rfl) rfl (Nat.le_of_ble_eq_true rfl) rfl (Nat.le_of_ble_eq_true rfl) (tJ6_bitCount_0f7a4 x2 M3 hO3) (fun x24 M4 _ hO4 => ?_)
      refine q_icmpge (tgt := 84) dX11_lamps_75 (by decide) ?_ ?_
      · refine q_sub [1, 2, 3, 4, 5] rfl ?_
        exact tX11_lamps_84 hd (fX11_lamps_39 n) ih x1 x2 x3 x4 M4 hO4
      · refine q_iload 0 dX11_lamps_78 rfl ?_
        refine q_istore_n (ls' := [(2, .inl x22), (5, .inl x22), (0, .inr (.inr 0)), (1, .inl x1), (3, .inl x3), (4, .inl x4)]) dX11_lamps_80 rfl (by decide) rfl ?_
        refine q_iload 5 dX11_lamps_81 rfl ?_
        refine q_istore_n (ls' := [(3, .inl x4), (2, .inl x22), (5, .inl x22), (0, .inr (.inr 0)), (1, .inl x1), (4, .inl x4)]) dX11_lamps_83 rfl (by decide) rfl ?_
        refine q_sub [3, 4, 1, 0, 5] rfl ?_
        exact tX11_lamps_84 hd (fX11_lamps_39 n) ih x1 x22 x4 x4 M4 hO4
def fX11_lamps (x1 : Int) (M : q_Mem) : Option (Int × q_Mem) := q_let (M.2 0 11).toNat fun r21 => if q_w (M.2 r21 0) = 0 then (some ((-1), M)) else (if q_w x1 < 0 then (some ((-1), M)) else (if q_w 2 < q_w x1 then (some ((-1), M)) else (q_bd (fX9_wrongRows 0 M) fun x21 M1 => (fX11_lamps_39 q_FU x1 x21 0 1 M1))))
theorem tX11_lamps {d : Nat} (hd : 6 ≤ d) (x1 : Int) (M : q_Mem) (hO : q_Ok M) : q_EX d yX11_lamps cX11_lamps 6 (some .int) 0 (q_args 0 [.inr (.inr 0), .inl x1]) [] M (fX11_lamps x1 M) := by
  obtain ⟨d, rfl⟩ : ∃ d', d = d' + 1 := ⟨d - 1, by omega⟩
  have hd : 5 ≤ d := by omega
  show q_EX _ _ _ _ _ 0 [(0, .inr (.inr 0)), (1, .inl x1)] [] M _
  unfold fX11_lamps
  refine q_aload_n 0 dX11_lamps_0 rfl rfl ?_
  refine q_gettL fl_X11_90 hO sh_0 rfl tr_0_11 dX11_lamps_1 (fun r21 _ hr21 => ?_)
  refine q_geti fl_X11_142 hr21 (q_inO hO hr21) rfl dX11_lamps_4 ?_
  refine q_ifeq (tgt := 19) dX11_lamps_7 (by decide) ?_ ?_
  · refine q_iconst dX11_lamps_19 ?_
    exact q_ret dX11_lamps_20 rfl
  · refine q_iload_n 1 dX11_lamps_10 rfl rfl ?_
    refine q_iflt (tgt := 19) dX11_lamps_11 (by decide) ?_ ?_
    · refine q_iconst dX11_lamps_19 ?_
      exact q_ret dX11_lamps_20 rfl
    · refine q_iload_n 1 dX11_lamps_14 rfl rfl ?_
      refine q_iconst dX11_lamps_15 ?_
      refine q_icmple (tgt := 21) dX11_lamps_16 (by decide) ?_ ?_
      · refine q_aload_n 0 dX11_lamps_21 rfl rfl ?_
        refine q_getx fl_X11_65 hO sh_0 rfl fx_0_7 dX11_lamps_22 ?_
        refine q_aload_n 0 dX11_lamps_25 rfl rfl ?_
        refine q_getx fl_X11_102 hO sh_0 rfl fx_0_13 dX11_lamps_26 ?_
        refine q_iconst dX11_lamps_29 ?_
        refine q_callVi (As := [.inr (.inr 87), .inl 0]) hO mb_X9_wrongRows mv_X9_wrongRows ml_X11_274 sh_36 rfl dX11_lamps_30 (fun _ => rfl) rfl (Nat.le_of_ble_eq_true rfl) rfl (Nat.le_of_ble_eq_true rfl) (tX9_wrongRows (by omega) 0 M hO) (fun x21 M1 _ hO1 => ?_)
        refine q_istore_n (ls' := [(2, .inl x21), (0, .inr (.inr 0)), (1, .inl x1)]) dX11_lamps_33 rfl (by decide) rfl ?_
        refine q_iconst dX11_lamps_34 ?_
        refine q_istore_n (ls' := [(3, .inl 0), (2, .inl x21), (0, .inr (.inr 0)), (1, .inl x1)]) dX11_lamps_35 rfl (by decide) rfl ?_
        refine q_iconst dX11_lamps_36 ?_
        refine q_istore (ls' := [(4, .inl 1), (3, .inl 0), (2, .inl x21), (0, .inr (.inr 0)), (1, .inl x1)]) dX11_lamps_37 (by decide) rfl ?_
        refine q_sub [3, 4, 2, 1, 0] rfl ?_
        exact tX11_lamps_39 hd q_FU x1 x21 0 1 M1 hO1
      · refine q_iconst dX11_lamps_19 ?_
        exact q_ret dX11_lamps_20 rfl
def fX11_walk_58 (M : q_Mem) : Option (Int × q_Mem) := q_bd (fX11_refuse 2 M) fun x21 M1 => some (x21, M1)
theorem tX11_walk_58 {d : Nat} (hd : 1 ≤ d) (M : q_Mem) (hO : q_Ok M) : q_EX (d + 1) yX11_walk cX11_walk 3 (some .int) 58 [(0, .inr (.inr 0))] [] M (fX11_walk_58 M) := by
  unfold fX11_walk_58
  refine q_aload_n 0 dX11_walk_58 rfl rfl ?_
  refine q_iconst dX11_walk_59 ?_
  refine q_callVi (As := [.inl 2]) hO mb_X11_refuse mv_X11_refuse ml_X11_116 sh_0 rfl dX11_walk_60 (fun _ => rfl) rfl (Nat.le_of_ble_eq_true rfl) rfl (Nat.le_of_ble_eq_true rfl) (tX11_refuse 2 M hO) (fun x21 M1 _ hO1 => ?_)
  exact q_ret dX11_walk_63 rfl
def fX11_walk (x1 : Int) (M : q_Mem) : Option (Int × q_Mem) := q_bd (fX11_isStall x1 M) fun x21 M1 => if q_w x21 = 0 then (q_bd (fX11_refuse 2 M1) fun x25 M5 => some (x25, M5)) else (q_let (M1.2 0 11).toNat fun r21 => (q_ld M1 (q_fr r21 3) 6 x1).bind fun x22 => q_let (q_abs (x22 - (M1.2 10 1))) fun x23 => if q_w x23 = 0 then ((fX11_walk_58 M1)) else (q_let (M1.2 0 11).toNat fun r22 => if q_w (M1.2 r22 0) < q_w ((M1.2 10 0) + x23) then ((fX11_walk_58 M1)) else (q_bd (fX1_remember M1) fun _ M2 => q_let (q_up M2 10 0 ((M2.2 10 0) + x23)) fun M3 => q_let (M3.2 0 11).toNat fun r23 => (q_ld M3 (q_fr r23 3) 6 x1).bind fun x24 => q_let (q_up M3 10 1 x24) fun M4 => some ((M4.2 10 0), M4))))
theorem tX11_walk {d : Nat} (hd : 2 ≤ d) (x1 : Int) (M : q_Mem) (hO : q_Ok M) : q_EX d yX11_walk cX11_walk 3 (some .int) 0 (q_args 0 [.inr (.inr 0), .inl x1]) [] M (fX11_walk x1 M) := by
  obtain ⟨d, rfl⟩ : ∃ d', d = d' + 1 := ⟨d - 1, by omega⟩
  have hd : 1 ≤ d := by omega
  show q_EX _ _ _ _ _ 0 [(0, .inr (.inr 0)), (1, .inl x1)] [] M _
  unfold fX11_walk
  refine q_aload_n 0 dX11_walk_0 rfl rfl ?_
  refine q_iload_n 1 dX11_walk_1 rfl rfl ?_
  refine q_callVi (As := [.inl x1]) hO mb_X11_isStall mv_X11_isStall ml_X11_179 sh_0 rfl dX11_walk_2 (fun _ => rfl) rfl (Nat.le_of_ble_eq_true rfl) rfl (Nat.le_of_ble_eq_true rfl) (tX11_isStall x1 M hO) (fun x21 M1 _ hO1 => ?_)
  refine q_ifne (tgt := 14) dX11_walk_5 (by decide) ?_ ?_
  · refine q_aload_n 0 dX11_walk_14 rfl rfl ?_
    refine q_gettL fl_X11_90 hO1 sh_0 rfl tr_0_11 dX11_walk_15 (fun r21 _ hr21 => ?_)
    refine q_getx fl_X11_195 hO1 hr21 rfl (fs_2_3 hr21) dX11_walk_18 ?_
    refine q_iload_n 1 dX11_walk_21 rfl rfl ?_
    refine q_iald (ft_2_3 hr21) (q_inA hO1 (ft_2_3 hr21) (by decide)) dX11_walk_22 (fun x22 _ _ _ => ?_)
    refine q_aload_n 0 dX11_walk_23 rfl rfl ?_
    refine q_getx fl_X11_58 hO1 sh_0 rfl fx_0_6 dX11_walk_24 ?_
    refine q_geti fl_X11_158 sh_10 (q_inO hO1 sh_10) rfl dX11_walk_27 ?_
    refine q_isub dX11_walk_30 ?_
    refine q_mabs ml_X11_278' jm_abs ni_J9 jc_abs (Nat.le_of_ble_eq_true rfl) dX11_walk_31 ?_
    refine q_nameI (fun x23 _ => ?_)
    refine q_istore_n (ls' := [(2, .inl x23), (0, .inr (.inr 0)), (1, .inl x1)]) dX11_walk_34 rfl (by decide) rfl ?_
    refine q_iload_n 0 dX11_walk_35 rfl rfl ?_
    refine q_ifeq (tgt := 58) dX11_walk_36 (by decide) ?_ ?_
    · refine q_sub [1] rfl ?_
      exact tX11_walk_58 hd M1 hO1
    · refine q_aload_n 1 dX11_walk_39 rfl rfl ?_
      refine q_getx fl_X11_58 hO1 sh_0 rfl fx_0_6 dX11_walk_40 ?_
      refine q_geti fl_X11_155 sh_10 (q_inO hO1 sh_10) rfl dX11_walk_43 ?_
      refine q_iload_n 0 dX11_walk_46 rfl rfl ?_
      refine q_iadd dX11_walk_47 ?_
      refine q_aload_n 1 dX11_walk_48 rfl rfl ?_
      refine q_gettL fl_X11_90 hO1 sh_0 rfl tr_0_11 dX11_walk_49 (fun r22 _ hr22 => ?_)
      refine q_geti fl_X11_142 hr22 (q_inO hO1 hr22) rfl dX11_walk_52 ?_
      refine q_icmple (tgt := 64) dX11_walk_55 (by decide) ?_ ?_
      · refine q_aload_n 1 dX11_walk_64 rfl rfl ?_
        refine q_getx fl_X11_58 hO1 sh_0 rfl fx_0_6 dX11_walk_65 ?_
        refine q_callVv (As := []) hO1 mb_X1_remember mv_X1_remember ml_X11_283 sh_10 rfl dX11_walk_68 (fun _ => rfl) rfl (Nat.le_of_ble_eq_true rfl) rfl (Nat.le_of_ble_eq_true rfl) (tX1_remember (by omega) M1 hO1) (fun _ M2 _ hO2 => ?_)
        refine q_aload_n 1 dX11_walk_71 rfl rfl ?_
        refine q_getx fl_X11_58 hO2 sh_0 rfl fx_0_6 dX11_walk_72 ?_
        refine q_dup dX11_walk_75 rfl ?_
        refine q_geti fl_X11_155 sh_10 (q_inO hO2 sh_10) rfl dX11_walk_76 ?_
        refine q_iload_n 0 dX11_walk_79 rfl rfl ?_
        refine q_iadd dX11_walk_80 ?_
        refine q_puti fl_X11_155 sh_10 (q_inO hO2 sh_10) (fun h => q_Ok_put h sh_10 rfl) rfl dX11_walk_81 (fun M3 hM3 => ?_)
        have hO3 : q_Ok M3 := by rw [hM3]; exact q_Ok_put hO2 sh_10 rfl
        refine q_aload_n 1 dX11_walk_84 rfl rfl ?_
        refine q_getx fl_X11_58 hO3 sh_0 rfl fx_0_6 dX11_walk_85 ?_
        refine q_aload_n 1 dX11_walk_88 rfl rfl ?_
        refine q_gettL fl_X11_90 hO3 sh_0 rfl tr_0_11 dX11_walk_89 (fun r23 _ hr23 => ?_)
        refine q_getx fl_X11_195 hO3 hr23 rfl (fs_2_3 hr23) dX11_walk_92 ?_
        refine q_iload_n 2 dX11_walk_95 rfl rfl ?_
        refine q_iald (ft_2_3 hr23) (q_inA hO3 (ft_2_3 hr23) (by decide)) dX11_walk_96 (fun x24 _ _ _ => ?_)
        refine q_puti fl_X11_158 sh_10 (q_inO hO3 sh_10) (fun h => q_Ok_put h sh_10 rfl) rfl dX11_walk_97 (fun M4 hM4 => ?_)
        have hO4 : q_Ok M4 := by rw [hM4]; exact q_Ok_put hO3 sh_10 rfl
        refine q_aload_n 1 dX11_walk_100 rfl rfl ?_
        refine q_getx fl_X11_58 hO4 sh_0 rfl fx_0_6 dX11_walk_101 ?_
        refine q_geti fl_X11_155 sh_10 (q_inO hO4 sh_10) rfl dX11_walk_104 ?_
        exact q_ret dX11_walk_107 rfl
      · refine q_sub [1] rfl ?_
        exact tX11_walk_58 hd M1 hO1
  · refine q_aload_n 0 dX11_walk_8 rfl rfl ?_
    refine q_iconst dX11_walk_9 ?_
    refine q_callVi (As := [.inl 2]) hO1 mb_X11_refuse mv_X11_refuse ml_X11_116 sh_0 rfl dX11_walk_10 (fun _ => rfl) rfl (Nat.le_of_ble_eq_true rfl) rfl (Nat.le_of_ble_eq_true rfl) (tX11_refuse 2 M1 hO1) (fun x25 M5 _ hO5 => ?_)
    exact q_ret dX11_walk_13 rfl
def fX11_canWait (x1 : Int) (M : q_Mem) : Option (Int × q_Mem) := if q_w x1 < q_w 1 then (some (0, M)) else (if q_w 400 < q_w x1 then (some (0, M)) else (q_let (M.2 0 11).toNat fun r21 => if q_w (M.2 r21 0) < q_w ((M.2 10 0) + x1) then (some (0, M)) else (some (1, M))))
theorem tX11_canWait {d : Nat} (x1 : Int) (M : q_Mem) (hO : q_Ok M) : q_EX d yX11_canWait cX11_canWait 2 (some .boolean) 0 (q_args 0 [.inr (.inr 0), .inl x1]) [] M (fX11_canWait x1 M) := by
  show q_EX _ _ _ _ _ 0 [(0, .inr (.inr 0)), (1, .inl x1)] [] M _
  unfold fX11_canWait
  refine q_iload_n 1 dX11_canWait_0 rfl rfl ?_
  refine q_iconst dX11_canWait_1 ?_
  refine q_icmplt (tgt := 35) dX11_canWait_2 (by decide) ?_ ?_
  · refine q_iconst dX11_canWait_35 ?_
    exact q_ret ⟨dX11_canWait_36, by decide⟩ rfl
  · refine q_iload_n 1 dX11_canWait_5 rfl rfl ?_
    refine q_sipush dX11_canWait_6 (by decide) ?_
    refine q_icmpgt (tgt := 35) dX11_canWait_9 (by decide) ?_ ?_
    · refine q_iconst dX11_canWait_35 ?_
      exact q_ret ⟨dX11_canWait_36, by decide⟩ rfl
    · refine q_aload_n 0 dX11_canWait_12 rfl rfl ?_
      refine q_getx fl_X11_58 hO sh_0 rfl fx_0_6 dX11_canWait_13 ?_
      refine q_geti fl_X11_155 sh_10 (q_inO hO sh_10) rfl dX11_canWait_16 ?_
      refine q_iload_n 1 dX11_canWait_19 rfl rfl ?_
      refine q_iadd dX11_canWait_20 ?_
      refine q_aload_n 0 dX11_canWait_21 rfl rfl ?_
      refine q_gettL fl_X11_90 hO sh_0 rfl tr_0_11 dX11_canWait_22 (fun r21 _ hr21 => ?_)
      refine q_geti fl_X11_142 hr21 (q_inO hO hr21) rfl dX11_canWait_25 ?_
      refine q_icmpgt (tgt := 35) dX11_canWait_28 (by decide) ?_ ?_
      · refine q_iconst dX11_canWait_35 ?_
        exact q_ret ⟨dX11_canWait_36, by decide⟩ rfl
      · refine q_iconst dX11_canWait_31 ?_
        refine q_goto (tgt := 36) dX11_canWait_32 (by decide) ?_
        exact q_ret ⟨dX11_canWait_36, by decide⟩ rfl
def fX11_pause (x1 : Int) (M : q_Mem) : Option (Int × q_Mem) := q_bd (fX11_canWait x1 M) fun x21 M1 => if q_w x21 = 0 then (q_bd (fX11_refuse 3 M1) fun x22 M4 => some (0, M4)) else (q_bd (fX1_remember M1) fun _ M2 => q_let (q_up M2 10 0 ((M2.2 10 0) + x1)) fun M3 => some (1, M3))
theorem tX11_pause {d : Nat} (hd : 2 ≤ d) (x1 : Int) (M : q_Mem) (hO : q_Ok M) : q_EX d yX11_pause cX11_pause 2 (some .boolean) 0 (q_args 0 [.inr (.inr 0), .inl x1]) [] M (fX11_pause x1 M) := by
  obtain ⟨d, rfl⟩ : ∃ d', d = d' + 1 := ⟨d - 1, by omega⟩
  have hd : 1 ≤ d := by omega
  show q_EX _ _ _ _ _ 0 [(0, .inr (.inr 0)), (1, .inl x1)] [] M _
  unfold fX11_pause
  refine q_aload_n 0 dX11_pause_0 rfl rfl ?_
  refine q_iload_n 1 dX11_pause_1 rfl rfl ?_
  refine q_callVi (As := [.inl x1]) hO mb_X11_canWait mv_X11_canWait ml_X11_286 sh_0 rfl dX11_pause_2 (fun _ => rfl) rfl (Nat.le_of_ble_eq_true rfl) rfl (Nat.le_of_ble_eq_true rfl) (tX11_canWait x1 M hO) (fun x21 M1 _ hO1 => ?_)
  refine q_ifne (tgt := 16) dX11_pause_5 (by decide) ?_ ?_
  · refine q_aload_n 0 dX11_pause_16 rfl rfl ?_
    refine q_getx fl_X11_58 hO1 sh_0 rfl fx_0_6 dX11_pause_17 ?_
    refine q_callVv (As := []) hO1 mb_X1_remember mv_X1_remember ml_X11_283 sh_10 rfl dX11_pause_20 (fun _ => rfl) rfl (Nat.le_of_ble_eq_true rfl) rfl (Nat.le_of_ble_eq_true rfl) (tX1_remember (by omega) M1 hO1) (fun _ M2 _ hO2 => ?_)
    refine q_aload_n 0 dX11_pause_23 rfl rfl ?_
    refine q_getx fl_X11_58 hO2 sh_0 rfl fx_0_6 dX11_pause_24 ?_
    refine q_dup dX11_pause_27 rfl ?_
    refine q_geti fl_X11_155 sh_10 (q_inO hO2 sh_10) rfl dX11_pause_28 ?_
    refine q_iload_n 1 dX11_pause_31 rfl rfl ?_
    refine q_iadd dX11_pause_32 ?_
    refine q_puti fl_X11_155 sh_10 (q_inO hO2 sh_10) (fun h => q_Ok_put h sh_10 rfl) rfl dX11_pause_33 (fun M3 hM3 => ?_)
    have hO3 : q_Ok M3 := by rw [hM3]; exact q_Ok_put hO2 sh_10 rfl
    refine q_iconst dX11_pause_36 ?_
    exact q_ret ⟨dX11_pause_37, by decide⟩ rfl
  · refine q_aload_n 0 dX11_pause_8 rfl rfl ?_
    refine q_iconst dX11_pause_9 ?_
    refine q_callVi (As := [.inl 3]) hO1 mb_X11_refuse mv_X11_refuse ml_X11_116 sh_0 rfl dX11_pause_10 (fun _ => rfl) rfl (Nat.le_of_ble_eq_true rfl) rfl (Nat.le_of_ble_eq_true rfl) (tX11_refuse 3 M1 hO1) (fun x22 M4 _ hO4 => ?_)
    refine q_pop dX11_pause_13 rfl ?_
    refine q_iconst dX11_pause_14 ?_
    exact q_ret ⟨dX11_pause_15, by decide⟩ rfl
def fX11_canBuy (x1 : Int) (x2 : Int) (M : q_Mem) : Option (Int × q_Mem) := q_bd (fX11_isCoin x1 M) fun x21 M1 => if q_w x21 = 0 then (some (0, M1)) else (q_bd (fX11_isStall x2 M1) fun x22 M2 => if q_w x22 = 0 then (some (0, M2)) else (q_let (M2.2 0 11).toNat fun r21 => (q_ld M2 (q_fr r21 3) 6 x2).bind fun x23 => if q_w x23 = q_w (M2.2 10 1) then (q_bd (fX1_hasBought x2 M2) fun x24 M3 => if q_w x24 = 0 then (q_bd (fX5_paysAt x1 x2 (M3.2 10 0) M3) fun x25 M4 => if q_w x25 = 0 then (some (0, M4)) else (some (1, M4))) else (some (0, M3))) else (some (0, M2))))
theorem tX11_canBuy {d : Nat} (hd : 5 ≤ d) (x1 : Int) (x2 : Int) (M : q_Mem) (hO : q_Ok M) : q_EX d yX11_canBuy cX11_canBuy 3 (some .boolean) 0 (q_args 0 [.inr (.inr 0), .inl x1, .inl x2]) [] M (fX11_canBuy x1 x2 M) := by
  obtain ⟨d, rfl⟩ : ∃ d', d = d' + 1 := ⟨d - 1, by omega⟩
  have hd : 4 ≤ d := by omega
  show q_EX _ _ _ _ _ 0 [(0, .inr (.inr 0)), (1, .inl x1), (2, .inl x2)] [] M _
  unfold fX11_canBuy
  refine q_aload_n 0 dX11_canBuy_0 rfl rfl ?_
  refine q_iload_n 1 dX11_canBuy_1 rfl rfl ?_
  refine q_callVi (As := [.inl x1]) hO mb_X11_isCoin mv_X11_isCoin ml_X11_189 sh_0 rfl dX11_canBuy_2 (fun _ => rfl) rfl (Nat.le_of_ble_eq_true rfl) rfl (Nat.le_of_ble_eq_true rfl) (tX11_isCoin x1 M hO) (fun x21 M1 _ hO1 => ?_)
  refine q_ifeq (tgt := 69) dX11_canBuy_5 (by decide) ?_ ?_
  · refine q_iconst dX11_canBuy_69 ?_
    exact q_ret ⟨dX11_canBuy_70, by decide⟩ rfl
  · refine q_aload_n 0 dX11_canBuy_8 rfl rfl ?_
    refine q_iload_n 2 dX11_canBuy_9 rfl rfl ?_
    refine q_callVi (As := [.inl x2]) hO1 mb_X11_isStall mv_X11_isStall ml_X11_179 sh_0 rfl dX11_canBuy_10 (fun _ => rfl) rfl (Nat.le_of_ble_eq_true rfl) rfl (Nat.le_of_ble_eq_true rfl) (tX11_isStall x2 M1 hO1) (fun x22 M2 _ hO2 => ?_)
    refine q_ifeq (tgt := 69) dX11_canBuy_13 (by decide) ?_ ?_
    · refine q_iconst dX11_canBuy_69 ?_
      exact q_ret ⟨dX11_canBuy_70, by decide⟩ rfl
    · refine q_aload_n 0 dX11_canBuy_16 rfl rfl ?_
      refine q_gettL fl_X11_90 hO2 sh_0 rfl tr_0_11 dX11_canBuy_17 (fun r21 _ hr21 => ?_)
      refine q_getx fl_X11_195 hO2 hr21 rfl (fs_2_3 hr21) dX11_canBuy_20 ?_
      refine q_iload_n 2 dX11_canBuy_23 rfl rfl ?_
      refine q_iald (ft_2_3 hr21) (q_inA hO2 (ft_2_3 hr21) (by decide)) dX11_canBuy_24 (fun x23 _ _ _ => ?_)
      refine q_aload_n 0 dX11_canBuy_25 rfl rfl ?_
      refine q_getx fl_X11_58 hO2 sh_0 rfl fx_0_6 dX11_canBuy_26 ?_
      refine q_geti fl_X11_158 sh_10 (q_inO hO2 sh_10) rfl dX11_canBuy_29 ?_
      refine q_icmpne (tgt := 69) dX11_canBuy_32 (by decide) ?_ ?_
      · refine q_iconst dX11_canBuy_69 ?_
        exact q_ret ⟨dX11_canBuy_70, by decide⟩ rfl
      · refine q_aload_n 0 dX11_canBuy_35 rfl rfl ?_
        refine q_getx fl_X11_58 hO2 sh_0 rfl fx_0_6 dX11_canBuy_36 ?_
        refine q_iload_n 2 dX11_canBuy_39 rfl rfl ?_
        refine q_callVi (As := [.inl x2]) hO2 mb_X1_hasBought mv_X1_hasBought ml_X11_206 sh_10 rfl dX11_canBuy_40 (fun _ => rfl) rfl (Nat.le_of_ble_eq_true rfl) rfl (Nat.le_of_ble_eq_true rfl) (tX1_hasBought x2 M2 hO2) (fun x24 M3 _ hO3 => ?_)
        refine q_ifne (tgt := 69) dX11_canBuy_43 (by decide) ?_ ?_
        · refine q_iconst dX11_canBuy_69 ?_
          exact q_ret ⟨dX11_canBuy_70, by decide⟩ rfl
        · refine q_aload_n 0 dX11_canBuy_46 rfl rfl ?_
          refine q_getx fl_X11_102 hO3 sh_0 rfl fx_0_13 dX11_canBuy_47 ?_
          refine q_iload_n 1 dX11_canBuy_50 rfl rfl ?_
          refine q_iload_n 2 dX11_canBuy_51 rfl rfl ?_
          refine q_aload_n 0 dX11_canBuy_52 rfl rfl ?_
          refine q_getx fl_X11_58 hO3 sh_0 rfl fx_0_6 dX11_canBuy_53 ?_
          refine q_geti fl_X11_155 sh_10 (q_inO hO3 sh_10) rfl dX11_canBuy_56 ?_
          refine q_callVi (As := [.inl x1, .inl x2, .inl (M3.2 10 0)]) hO3 mb_X5_paysAt mv_X5_paysAt ml_X11_222 sh_87 rfl dX11_canBuy_59 (fun _ => rfl) rfl (Nat.le_of_ble_eq_true rfl) rfl (Nat.le_of_ble_eq_true rfl) (tX5_paysAt (by omega) x1 x2 (M3.2 10 0) M3 hO3) (fun x25 M4 _ hO4 => ?_)
          refine q_ifeq (tgt := 69) dX11_canBuy_62 (by decide) ?_ ?_
          · refine q_iconst dX11_canBuy_69 ?_
            exact q_ret ⟨dX11_canBuy_70, by decide⟩ rfl
          · refine q_iconst dX11_canBuy_65 ?_
            refine q_goto (tgt := 70) dX11_canBuy_66 (by decide) ?_
            exact q_ret ⟨dX11_canBuy_70, by decide⟩ rfl
def fX11_buy (x1 : Int) (x2 : Int) (M : q_Mem) : Option (Int × q_Mem) := q_bd (fX11_canBuy x1 x2 M) fun x21 M1 => if q_w x21 = 0 then (q_bd (fX11_refuse 2 M1) fun x22 M4 => some (0, M4)) else (q_bd (fX1_remember M1) fun _ M2 => q_bd (fX1_keep x1 x2 M2) fun _ M3 => some (1, M3))
theorem tX11_buy {d : Nat} (hd : 6 ≤ d) (x1 : Int) (x2 : Int) (M : q_Mem) (hO : q_Ok M) : q_EX d yX11_buy cX11_buy 3 (some .boolean) 0 (q_args 0 [.inr (.inr 0), .inl x1, .inl x2]) [] M (fX11_buy x1 x2 M) := by
  obtain ⟨d, rfl⟩ : ∃ d', d = d' + 1 := ⟨d - 1, by omega⟩
  have hd : 5 ≤ d := by omega
  show q_EX _ _ _ _ _ 0 [(0, .inr (.inr 0)), (1, .inl x1), (2, .inl x2)] [] M _
  unfold fX11_buy
  refine q_aload_n 0 dX11_buy_0 rfl rfl ?_
  refine q_iload_n 1 dX11_buy_1 rfl rfl ?_
  refine q_iload_n 2 dX11_buy_2 rfl rfl ?_
  refine q_callVi (As := [.inl x1, .inl x2]) hO mb_X11_canBuy mv_X11_canBuy ml_X11_289 sh_0 rfl dX11_buy_3 (fun _ => rfl) rfl (Nat.le_of_ble_eq_true rfl) rfl (Nat.le_of_ble_eq_true rfl) (tX11_canBuy (by omega) x1 x2 M hO) (fun x21 M1 _ hO1 => ?_)
  refine q_ifne (tgt := 17) dX11_buy_6 (by decide) ?_ ?_
  · refine q_aload_n 0 dX11_buy_17 rfl rfl ?_
    refine q_getx fl_X11_58 hO1 sh_0 rfl fx_0_6 dX11_buy_18 ?_
    refine q_callVv (As := []) hO1 mb_X1_remember mv_X1_remember ml_X11_283 sh_10 rfl dX11_buy_21 (fun _ => rfl) rfl (Nat.le_of_ble_eq_true rfl) rfl (Nat.le_of_ble_eq_true rfl) (tX1_remember (by omega) M1 hO1) (fun _ M2 _ hO2 => ?_)
    refine q_aload_n 0 dX11_buy_24 rfl rfl ?_
    refine q_getx fl_X11_58 hO2 sh_0 rfl fx_0_6 dX11_buy_25 ?_
    refine q_iload_n 1 dX11_buy_28 rfl rfl ?_
    refine q_iload_n 2 dX11_buy_29 rfl rfl ?_
    refine q_callVv (As := [.inl x1, .inl x2]) hO2 mb_X1_keep mv_X1_keep ml_X11_293 sh_10 rfl dX11_buy_30 (fun _ => rfl) rfl (Nat.le_of_ble_eq_true rfl) rfl (Nat.le_of_ble_eq_true rfl) (tX1_keep x1 x2 M2 hO2) (fun _ M3 _ hO3 => ?_)
    refine q_iconst dX11_buy_33 ?_
    exact q_ret ⟨dX11_buy_34, by decide⟩ rfl
  · refine q_aload_n 0 dX11_buy_9 rfl rfl ?_
    refine q_iconst dX11_buy_10 ?_
    refine q_callVi (As := [.inl 2]) hO1 mb_X11_refuse mv_X11_refuse ml_X11_116 sh_0 rfl dX11_buy_11 (fun _ => rfl) rfl (Nat.le_of_ble_eq_true rfl) rfl (Nat.le_of_ble_eq_true rfl) (tX11_refuse 2 M1 hO1) (fun x22 M4 _ hO4 => ?_)
    refine q_pop dX11_buy_14 rfl ?_
    refine q_iconst dX11_buy_15 ?_
    exact q_ret ⟨dX11_buy_16, by decide⟩ rfl
def fX11_chance_31  : Nat → Int → Int → Int → q_Mem → Option (Int × q_Mem)
  | 0, _, _, _, _ => none
  | n + 1, x1, x2, x3, M => if q_w x3 < q_w x1 then (q_let (M.2 0 11).toNat fun r21 => q_bd (fX1_waitByChance r21 M) fun _ M2 => (fX11_chance_31 n x1 x2 (x3 + 1) M2)) else (q_bd (fX5_markClouds M) fun _ M1 => some (((M1.2 10 3) - x2), M1))
theorem tX11_chance_31 {d : Nat} (hd : 1 ≤ d) : ∀ (n : Nat) (x1 : Int) (x2 : Int) (x3 : Int) (M : q_Mem), q_Ok M → q_EX (d + 1) yX11_chance cX11_chance 4 (some .int) 31 [(0, .inr (.inr 0)), (1, .inl x1), (2, .inl x2), (3, .inl x3)] [] M (fX11_chance_31 n x1 x2 x3 M) := by
  intro n
  induction n with
  | zero => intro x1 x2 x3 M hO; exact q_none
  | succ n ih =>
    intro x1 x2 x3 M hO
    rw [fX11_chance_31]
    refine q_iload_n 3 dX11_chance_31 rfl rfl ?_
    refine q_iload_n 1 dX11_chance_32 rfl rfl ?_
    refine q_icmpge (tgt := 53) dX11_chance_33 (by decide) ?_ ?_
    · refine q_aload_n 0 dX11_chance_53 rfl rfl ?_
      refine q_getx fl_X11_102 hO sh_0 rfl fx_0_13 dX11_chance_54 ?_
      refine q_aload_n 0 dX11_chance_57 rfl rfl ?_
      refine q_getx fl_X11_58 hO sh_0 rfl fx_0_6 dX11_chance_58 ?_
      refine q_callVv (As := [.inr (.inr 10)]) hO mb_X5_markClouds mv_X5_markClouds ml_X11_138 sh_87 rfl dX11_chance_61 (fun _ => rfl) rfl (Nat.le_of_ble_eq_true rfl) rfl (Nat.le_of_ble_eq_true rfl) (tX5_markClouds (by omega) M hO) (fun _ M1 _ hO1 => ?_)
      refine q_aload_n 0 dX11_chance_64 rfl rfl ?_
      refine q_getx fl_X11_58 hO1 sh_0 rfl fx_0_6 dX11_chance_65 ?_
      refine q_geti fl_X11_154 sh_10 (q_inO hO1 sh_10) rfl dX11_chance_68 ?_
      refine q_iload_n 2 dX11_chance_71 rfl rfl ?_
      refine q_isub dX11_chance_72 ?_
      exact q_ret dX11_chance_73 rfl
    · refine q_aload_n 0 dX11_chance_36 rfl rfl ?_
      refine q_getx fl_X11_58 hO sh_0 rfl fx_0_6 dX11_chance_37 ?_
      refine q_aload_n 0 dX11_chance_40 rfl rfl ?_
      refine q_gettL fl_X11_90 hO sh_0 rfl tr_0_11 dX11_chance_41 (fun r21 _ hr21 => ?_)
      refine q_callVv (As := [.inr (.inr r21)]) hO mb_X1_waitByChance mv_X1_waitByChance ml_X11_297 sh_10 rfl dX11_chance_44 (fun _ => rfl) rfl (Nat.le_of_ble_eq_true rfl) rfl (Nat.le_of_ble_eq_true rfl) (tX1_waitByChance r21 M hO hr21) (fun _ M2 _ hO2 => ?_)
      refine q_iinc (ls' := [(3, .inl (x3 + 1)), (0, .inr (.inr 0)), (1, .inl x1), (2, .inl x2)]) 3 dX11_chance_47 rfl (by decide) rfl ?_
      refine q_goto (tgt := 31) dX11_chance_50 (by decide) ?_
      refine q_sub [1, 2, 3, 0] rfl ?_
      exact ih x1 x2 (x3 + 1) M2 hO2
def fX11_chance (x1 : Int) (M : q_Mem) : Option (Int × q_Mem) := q_bd (fX11_canWait x1 M) fun x21 M1 => if q_w x21 = 0 then (q_bd (fX11_refuse 3 M1) fun x23 M3 => some (x23, M3)) else (q_bd (fX1_remember M1) fun _ M2 => q_let (M2.2 10 3) fun x22 => (fX11_chance_31 q_FU x1 x22 0 M2))
theorem tX11_chance {d : Nat} (hd : 2 ≤ d) (x1 : Int) (M : q_Mem) (hO : q_Ok M) : q_EX d yX11_chance cX11_chance 4 (some .int) 0 (q_args 0 [.inr (.inr 0), .inl x1]) [] M (fX11_chance x1 M) := by
  obtain ⟨d, rfl⟩ : ∃ d', d = d' + 1 := ⟨d - 1, by omega⟩
  have hd : 1 ≤ d := by omega
  show q_EX _ _ _ _ _ 0 [(0, .inr (.inr 0)), (1, .inl x1)] [] M _
  unfold fX11_chance
  refine q_aload_n 0 dX11_chance_0 rfl rfl ?_
  refine q_iload_n 1 dX11_chance_1 rfl rfl ?_
  refine q_callVi (As := [.inl x1]) hO mb_X11_canWait mv_X11_canWait ml_X11_286 sh_0 rfl dX11_chance_2 (fun _ => rfl) rfl (Nat.le_of_ble_eq_true rfl) rfl (Nat.le_of_ble_eq_true rfl) (tX11_canWait x1 M hO) (fun x21 M1 _ hO1 => ?_)
  refine q_ifne (tgt := 14) dX11_chance_5 (by decide) ?_ ?_
  · refine q_aload_n 0 dX11_chance_14 rfl rfl ?_
    refine q_getx fl_X11_58 hO1 sh_0 rfl fx_0_6 dX11_chance_15 ?_
    refine q_callVv (As := []) hO1 mb_X1_remember mv_X1_remember ml_X11_283 sh_10 rfl dX11_chance_18 (fun _ => rfl) rfl (Nat.le_of_ble_eq_true rfl) rfl (Nat.le_of_ble_eq_true rfl) (tX1_remember (by omega) M1 hO1) (fun _ M2 _ hO2 => ?_)
    refine q_aload_n 0 dX11_chance_21 rfl rfl ?_
    refine q_getx fl_X11_58 hO2 sh_0 rfl fx_0_6 dX11_chance_22 ?_
    refine q_geti fl_X11_154 sh_10 (q_inO hO2 sh_10) rfl dX11_chance_25 ?_
    refine q_nameI (fun x22 _ => ?_)
    refine q_istore_n (ls' := [(2, .inl x22), (0, .inr (.inr 0)), (1, .inl x1)]) dX11_chance_28 rfl (by decide) rfl ?_
    refine q_iconst dX11_chance_29 ?_
    refine q_istore_n (ls' := [(3, .inl 0), (2, .inl x22), (0, .inr (.inr 0)), (1, .inl x1)]) dX11_chance_30 rfl (by decide) rfl ?_
    refine q_sub [2, 3, 1, 0] rfl ?_
    exact tX11_chance_31 hd q_FU x1 x22 0 M2 hO2
  · refine q_aload_n 0 dX11_chance_8 rfl rfl ?_
    refine q_iconst dX11_chance_9 ?_
    refine q_callVi (As := [.inl 3]) hO1 mb_X11_refuse mv_X11_refuse ml_X11_116 sh_0 rfl dX11_chance_10 (fun _ => rfl) rfl (Nat.le_of_ble_eq_true rfl) rfl (Nat.le_of_ble_eq_true rfl) (tX11_refuse 3 M1 hO1) (fun x23 M3 _ hO3 => ?_)
    exact q_ret dX11_chance_13 rfl
def fX11_undo (M : q_Mem) : Option (Int × q_Mem) := if q_w (M.2 10 11) = 0 then (q_bd (fX11_refuse 4 M) fun x21 M3 => some (0, M3)) else (q_bd (fX1_takeBack M) fun _ M1 => q_bd (fX5_markClouds M1) fun _ M2 => some (1, M2))
theorem tX11_undo {d : Nat} (hd : 2 ≤ d) (M : q_Mem) (hO : q_Ok M) : q_EX d yX11_undo cX11_undo 1 (some .boolean) 0 (q_args 0 [.inr (.inr 0)]) [] M (fX11_undo M) := by
  obtain ⟨d, rfl⟩ : ∃ d', d = d' + 1 := ⟨d - 1, by omega⟩
  have hd : 1 ≤ d := by omega
  show q_EX _ _ _ _ _ 0 [(0, .inr (.inr 0))] [] M _
  unfold fX11_undo
  refine q_aload_n 0 dX11_undo_0 rfl rfl ?_
  refine q_getx fl_X11_58 hO sh_0 rfl fx_0_6 dX11_undo_1 ?_
  refine q_geti fl_X11_176 sh_10 (q_inO hO sh_10) rfl dX11_undo_4 ?_
  refine q_ifne (tgt := 18) dX11_undo_7 (by decide) ?_ ?_
  · refine q_aload_n 0 dX11_undo_18 rfl rfl ?_
    refine q_getx fl_X11_58 hO sh_0 rfl fx_0_6 dX11_undo_19 ?_
    refine q_callVv (As := []) hO mb_X1_takeBack mv_X1_takeBack ml_X11_300 sh_10 rfl dX11_undo_22 (fun _ => rfl) rfl (Nat.le_of_ble_eq_true rfl) rfl (Nat.le_of_ble_eq_true rfl) (tX1_takeBack M hO) (fun _ M1 _ hO1 => ?_)
    refine q_aload_n 0 dX11_undo_25 rfl rfl ?_
    refine q_getx fl_X11_102 hO1 sh_0 rfl fx_0_13 dX11_undo_26 ?_
    refine q_aload_n 0 dX11_undo_29 rfl rfl ?_
    refine q_getx fl_X11_58 hO1 sh_0 rfl fx_0_6 dX11_undo_30 ?_
    refine q_callVv (As := [.inr (.inr 10)]) hO1 mb_X5_markClouds mv_X5_markClouds ml_X11_138 sh_87 rfl dX11_undo_33 (fun _ => rfl) rfl (Nat.le_of_ble_eq_true rfl) rfl (Nat.le_of_ble_eq_true rfl) (tX5_markClouds (by omega) M1 hO1) (fun _ M2 _ hO2 => ?_)
    refine q_iconst dX11_undo_36 ?_
    exact q_ret ⟨dX11_undo_37, by decide⟩ rfl
  · refine q_aload_n 0 dX11_undo_10 rfl rfl ?_
    refine q_iconst dX11_undo_11 ?_
    refine q_callVi (As := [.inl 4]) hO mb_X11_refuse mv_X11_refuse ml_X11_116 sh_0 rfl dX11_undo_12 (fun _ => rfl) rfl (Nat.le_of_ble_eq_true rfl) rfl (Nat.le_of_ble_eq_true rfl) (tX11_refuse 4 M hO) (fun x21 M3 _ hO3 => ?_)
    refine q_pop dX11_undo_15 rfl ?_
    refine q_iconst dX11_undo_16 ?_
    exact q_ret ⟨dX11_undo_17, by decide⟩ rfl
def fX11_seed (x1 : Int) (M : q_Mem) : Option (Int × q_Mem) := if q_w x1 < 0 then (q_bd (fX11_refuse 5 M) fun x21 M2 => some (0, M2)) else (q_let (q_up M 10 12 (q_w x1)) fun M1 => some (1, M1))
theorem tX11_seed {d : Nat} (hd : 1 ≤ d) (x1 : Int) (M : q_Mem) (hO : q_Ok M) : q_EX d yX11_seed cX11_seed 2 (some .boolean) 0 (q_args 0 [.inr (.inr 0), .inl x1]) [] M (fX11_seed x1 M) := by
  obtain ⟨d, rfl⟩ : ∃ d', d = d' + 1 := ⟨d - 1, by omega⟩
  have hd : 0 ≤ d := by omega
  show q_EX _ _ _ _ _ 0 [(0, .inr (.inr 0)), (1, .inl x1)] [] M _
  unfold fX11_seed
  refine q_iload_n 1 dX11_seed_0 rfl rfl ?_
  refine q_ifge (tgt := 12) dX11_seed_1 (by decide) ?_ ?_
  · refine q_aload_n 0 dX11_seed_12 rfl rfl ?_
    refine q_getx fl_X11_58 hO sh_0 rfl fx_0_6 dX11_seed_13 ?_
    refine q_iload_n 1 dX11_seed_16 rfl rfl ?_
    refine q_i2l dX11_seed_17 ?_
    refine q_putl fl_X11_303 sh_10 (q_inO hO sh_10) (fun h => q_Ok_put h sh_10 rfl) rfl dX11_seed_18 (fun M1 hM1 => ?_)
    have hO1 : q_Ok M1 := by rw [hM1]; exact q_Ok_put hO sh_10 rfl
    refine q_iconst dX11_seed_21 ?_
    exact q_ret ⟨dX11_seed_22, by decide⟩ rfl
  · refine q_aload_n 0 dX11_seed_4 rfl rfl ?_
    refine q_iconst dX11_seed_5 ?_
    refine q_callVi (As := [.inl 5]) hO mb_X11_refuse mv_X11_refuse ml_X11_116 sh_0 rfl dX11_seed_6 (fun _ => rfl) rfl (Nat.le_of_ble_eq_true rfl) rfl (Nat.le_of_ble_eq_true rfl) (tX11_refuse 5 M hO) (fun x21 M2 _ hO2 => ?_)
    refine q_pop dX11_seed_9 rfl ?_
    refine q_iconst dX11_seed_10 ?_
    exact q_ret ⟨dX11_seed_11, by decide⟩ rfl
def fX11_readQuestion_106 (x1 : Int) (M : q_Mem) : Option (Int × q_Mem) := if q_w (M.2 5 3) = 0 then (some (x1, M)) else (q_bd (fX8_fail 1 (M.2 5 1) M) fun _ M1 => some (x1, M1))
theorem tX11_readQuestion_106 {d : Nat} (hd : 72 ≤ d) (x1 : Int) (M : q_Mem) (hO : q_Ok M) : q_EX (d + 1) yX11_readQuestion cX11_readQuestion 2 (some .int) 106 [(0, .inr (.inr 0)), (1, .inl x1)] [] M (fX11_readQuestion_106 x1 M) := by
  unfold fX11_readQuestion_106
  refine q_aload_n 0 dX11_readQuestion_106 rfl rfl ?_
  refine q_getx fl_X11_26 hO sh_0 rfl fx_0_2 dX11_readQuestion_107 ?_
  refine q_geti fl_X11_345 sh_5 (q_inO hO sh_5) rfl dX11_readQuestion_110 ?_
  refine q_ifeq (tgt := 131) dX11_readQuestion_113 (by decide) ?_ ?_
  · refine q_iload_n 1 dX11_readQuestion_131 rfl rfl ?_
    exact q_ret dX11_readQuestion_132 rfl
  · refine q_aload_n 0 dX11_readQuestion_116 rfl rfl ?_
    refine q_getx fl_X11_26 hO sh_0 rfl fx_0_2 dX11_readQuestion_117 ?_
    refine q_iconst dX11_readQuestion_120 ?_
    refine q_aload_n 0 dX11_readQuestion_121 rfl rfl ?_
    refine q_getx fl_X11_26 hO sh_0 rfl fx_0_2 dX11_readQuestion_122 ?_
    refine q_geti fl_X11_351 sh_5 (q_inO hO sh_5) rfl dX11_readQuestion_125 ?_
    refine q_callVv (As := [.inl 1, .inl (M.2 5 1)]) hO mb_X8_fail mv_X8_fail ml_X11_354 sh_5 rfl dX11_readQuestion_128 (fun _ => rfl) rfl (Nat.le_of_ble_eq_true rfl) rfl (Nat.le_of_ble_eq_true rfl) (tX8_fail 1 (M.2 5 1) M hO) (fun _ M1 _ hO1 => ?_)
    refine q_iload_n 1 dX11_readQuestion_131 rfl rfl ?_
    exact q_ret dX11_readQuestion_132 rfl
def fX11_readQuestion_41 (s0 : Int) (M : q_Mem) : Option (Int × q_Mem) := if q_w s0 = q_w (-1) then (q_bd (fX8_fail 1 (M.2 5 1) M) fun _ M5 => some ((-1), M5)) else (q_bd (fX8_step M) fun _ M1 => q_bd (fX4_begin 6 2 M1) fun _ M2 => if q_w 27 < q_w s0 then (q_bd (fG q_GD 3 M2) fun _ M3 => (fX11_readQuestion_106 s0 M3)) else (q_bd (fG q_GD 0 M2) fun _ M4 => (fX11_readQuestion_106 s0 M4)))
theorem tX11_readQuestion_41 {d : Nat} (hd : 72 ≤ d) (s0 : Int) (M : q_Mem) (hO : q_Ok M) : q_EX (d + 1) yX11_readQuestion cX11_readQuestion 2 (some .int) 41 [(0, .inr (.inr 0))] [.inl s0] M (fX11_readQuestion_41 s0 M) := by
  unfold fX11_readQuestion_41
  refine q_istore_n (ls' := [(1, .inl s0), (0, .inr (.inr 0))]) dX11_readQuestion_41 rfl (by decide) rfl ?_
  refine q_iload_n 0 dX11_readQuestion_42 rfl rfl ?_
  refine q_iconst dX11_readQuestion_43 ?_
  refine q_icmpne (tgt := 64) dX11_readQuestion_44 (by decide) ?_ ?_
  · refine q_aload_n 1 dX11_readQuestion_64 rfl rfl ?_
    refine q_getx fl_X11_26 hO sh_0 rfl fx_0_2 dX11_readQuestion_65 ?_
    refine q_callVv (As := []) hO mb_X8_step mv_X8_step ml_X11_357 sh_5 rfl dX11_readQuestion_68 (fun _ => rfl) rfl (Nat.le_of_ble_eq_true rfl) rfl (Nat.le_of_ble_eq_true rfl) (tX8_step (by omega) M hO) (fun _ M1 _ hO1 => ?_)
    refine q_aload_n 1 dX11_readQuestion_71 rfl rfl ?_
    refine q_getx fl_X11_42 hO1 sh_0 rfl fx_0_4 dX11_readQuestion_72 ?_
    refine q_aload_n 1 dX11_readQuestion_75 rfl rfl ?_
    refine q_getx fl_X11_33 hO1 sh_0 rfl fx_0_3 dX11_readQuestion_76 ?_
    refine q_iconst dX11_readQuestion_79 ?_
    refine q_callVv (As := [.inr (.inr 6), .inl 2]) hO1 mb_X4_begin mv_X4_begin ml_X11_360 sh_8 rfl dX11_readQuestion_80 (fun _ => rfl) rfl (Nat.le_of_ble_eq_true rfl) rfl (Nat.le_of_ble_eq_true rfl) (tX4_begin 6 2 M1 hO1 sh_6) (fun _ M2 _ hO2 => ?_)
    refine q_iload_n 0 dX11_readQuestion_83 rfl rfl ?_
    refine q_bipush dX11_readQuestion_84 (by decide) ?_
    refine q_icmpgt (tgt := 99) dX11_readQuestion_86 (by decide) ?_ ?_
    · refine q_aload_n 1 dX11_readQuestion_99 rfl rfl ?_
      refine q_getx fl_X11_42 hO2 sh_0 rfl fx_0_4 dX11_readQuestion_100 ?_
      refine q_callNv (As := []) hO2 mb_X4_sum mv_X4_sum mn_X11_366 sh_8 rfl dX11_readQuestion_103 (fun _ => rfl) rfl (Nat.le_of_ble_eq_true rfl) rfl (Nat.le_of_ble_eq_true rfl) (tG (by omega) 3 M2 hO2) (fun _ M3 _ hO3 => ?_)
      refine q_sub [1, 0] rfl ?_
      exact tX11_readQuestion_106 hd s0 M3 hO3
    · refine q_aload_n 1 dX11_readQuestion_89 rfl rfl ?_
      refine q_getx fl_X11_42 hO2 sh_0 rfl fx_0_4 dX11_readQuestion_90 ?_
      refine q_callNv (As := []) hO2 mb_X4_test mv_X4_test mn_X11_363 sh_8 rfl dX11_readQuestion_93 (fun _ => rfl) rfl (Nat.le_of_ble_eq_true rfl) rfl (Nat.le_of_ble_eq_true rfl) (tG (by omega) 0 M2 hO2) (fun _ M4 _ hO4 => ?_)
      refine q_goto (tgt := 106) dX11_readQuestion_96 (by decide) ?_
      refine q_sub [1, 0] rfl ?_
      exact tX11_readQuestion_106 hd s0 M4 hO4
  · refine q_aload_n 1 dX11_readQuestion_47 rfl rfl ?_
    refine q_getx fl_X11_26 hO sh_0 rfl fx_0_2 dX11_readQuestion_48 ?_
    refine q_iconst dX11_readQuestion_51 ?_
    refine q_aload_n 1 dX11_readQuestion_52 rfl rfl ?_
    refine q_getx fl_X11_26 hO sh_0 rfl fx_0_2 dX11_readQuestion_53 ?_
    refine q_geti fl_X11_351 sh_5 (q_inO hO sh_5) rfl dX11_readQuestion_56 ?_
    refine q_callVv (As := [.inl 1, .inl (M.2 5 1)]) hO mb_X8_fail mv_X8_fail ml_X11_354 sh_5 rfl dX11_readQuestion_59 (fun _ => rfl) rfl (Nat.le_of_ble_eq_true rfl) rfl (Nat.le_of_ble_eq_true rfl) (tX8_fail 1 (M.2 5 1) M hO) (fun _ M5 _ hO5 => ?_)
    refine q_iconst dX11_readQuestion_62 ?_
    exact q_ret dX11_readQuestion_63 rfl
def fX11_readQuestion_40 (M : q_Mem) : Option (Int × q_Mem) := (fX11_readQuestion_41 (-1) M)
theorem tX11_readQuestion_40 {d : Nat} (hd : 72 ≤ d) (M : q_Mem) (hO : q_Ok M) : q_EX (d + 1) yX11_readQuestion cX11_readQuestion 2 (some .int) 40 [(0, .inr (.inr 0))] [] M (fX11_readQuestion_40 M) := by
  unfold fX11_readQuestion_40
  refine q_iconst dX11_readQuestion_40 ?_
  refine q_sub [0] rfl ?_
  exact tX11_readQuestion_41 hd (-1) M hO
def fX11_readQuestion (M : q_Mem) : Option (Int × q_Mem) := q_bd (fX8_begin M) fun _ M1 => if q_w (M1.2 5 3) = q_w 1 then (if q_w (M1.2 5 4) < q_w 25 then ((fX11_readQuestion_40 M1)) else ((fX11_readQuestion_41 (M1.2 5 4) M1))) else ((fX11_readQuestion_40 M1))
theorem tX11_readQuestion {d : Nat} (hd : 73 ≤ d) (M : q_Mem) (hO : q_Ok M) : q_EX d yX11_readQuestion cX11_readQuestion 2 (some .int) 0 (q_args 0 [.inr (.inr 0)]) [] M (fX11_readQuestion M) := by
  obtain ⟨d, rfl⟩ : ∃ d', d = d' + 1 := ⟨d - 1, by omega⟩
  have hd : 72 ≤ d := by omega
  show q_EX _ _ _ _ _ 0 [(0, .inr (.inr 0))] [] M _
  unfold fX11_readQuestion
  refine q_aload_n 0 dX11_readQuestion_0 rfl rfl ?_
  refine q_getx fl_X11_26 hO sh_0 rfl fx_0_2 dX11_readQuestion_1 ?_
  refine q_callVv (As := []) hO mb_X8_begin mv_X8_begin ml_X11_344 sh_5 rfl dX11_readQuestion_4 (fun _ => rfl) rfl (Nat.le_of_ble_eq_true rfl) rfl (Nat.le_of_ble_eq_true rfl) (tX8_begin (by omega) M hO) (fun _ M1 _ hO1 => ?_)
  refine q_aload_n 0 dX11_readQuestion_7 rfl rfl ?_
  refine q_getx fl_X11_26 hO1 sh_0 rfl fx_0_2 dX11_readQuestion_8 ?_
  refine q_geti fl_X11_345 sh_5 (q_inO hO1 sh_5) rfl dX11_readQuestion_11 ?_
  refine q_iconst dX11_readQuestion_14 ?_
  refine q_icmpne (tgt := 40) dX11_readQuestion_15 (by decide) ?_ ?_
  · refine q_sub [0] rfl ?_
    exact tX11_readQuestion_40 hd M1 hO1
  · refine q_aload_n 0 dX11_readQuestion_18 rfl rfl ?_
    refine q_getx fl_X11_26 hO1 sh_0 rfl fx_0_2 dX11_readQuestion_19 ?_
    refine q_geti fl_X11_348 sh_5 (q_inO hO1 sh_5) rfl dX11_readQuestion_22 ?_
    refine q_bipush dX11_readQuestion_25 (by decide) ?_
    refine q_icmplt (tgt := 40) dX11_readQuestion_27 (by decide) ?_ ?_
    · refine q_sub [0] rfl ?_
      exact tX11_readQuestion_40 hd M1 hO1
    · refine q_aload_n 0 dX11_readQuestion_30 rfl rfl ?_
      refine q_getx fl_X11_26 hO1 sh_0 rfl fx_0_2 dX11_readQuestion_31 ?_
      refine q_geti fl_X11_348 sh_5 (q_inO hO1 sh_5) rfl dX11_readQuestion_34 ?_
      refine q_goto (tgt := 41) dX11_readQuestion_37 (by decide) ?_
      refine q_sub [0] rfl ?_
      exact tX11_readQuestion_41 hd (M1.2 5 4) M1 hO1
def fX11_lookAt_183 (K86 : Int → Int → q_Mem → Option (Int × q_Mem)) (x1 : Int) (x2 : Int) (M : q_Mem) : Option (Int × q_Mem) := (K86 x1 (x2 + (-1)) M)
theorem tX11_lookAt_183 {d : Nat} (hd : 4 ≤ d) (K86 : Int → Int → q_Mem → Option (Int × q_Mem)) (hK86 : ∀ (x1 : Int) (x2 : Int) (M : q_Mem), q_Ok M → q_EX (d + 1) yX11_lookAt cX11_lookAt 3 none 86 [(0, .inr (.inr 0)), (1, .inl x1), (2, .inl x2)] [] M (K86 x1 x2 M)) (x1 : Int) (x2 : Int) (M : q_Mem) (hO : q_Ok M) : q_EX (d + 1) yX11_lookAt cX11_lookAt 3 none 183 [(0, .inr (.inr 0)), (1, .inl x1), (2, .inl x2)] [] M (fX11_lookAt_183 K86 x1 x2 M) := by
  unfold fX11_lookAt_183
  refine q_iinc (ls' := [(2, .inl (x2 + (-1))), (0, .inr (.inr 0)), (1, .inl x1)]) 2 dX11_lookAt_183 rfl (by decide) rfl ?_
  refine q_goto (tgt := 86) dX11_lookAt_186 (by decide) ?_
  refine q_sub [1, 2, 0] rfl ?_
  exact hK86 x1 (x2 + (-1)) M hO
def fX11_lookAt_147 (K86 : Int → Int → q_Mem → Option (Int × q_Mem)) (x1 : Int) (x2 : Int) (s0 : Int) (s1 : Int) (t2 : Nat) (M : q_Mem) : Option (Int × q_Mem) := (q_sto M t2 6 s1 s0).bind fun M1 => q_let (M1.2 0 11).toNat fun r21 => (q_ld M1 (q_fr r21 3) 6 x2).bind fun x21 => if q_w x21 = q_w (M1.2 10 1) then ((q_ld M1 (q_fr 52 11) 6 x2).bind fun x22 => q_let (q_up M1 52 9 x22) fun M2 => (fX11_lookAt_183 K86 x1 x2 M2)) else ((fX11_lookAt_183 K86 x1 x2 M1))
theorem tX11_lookAt_147 {d : Nat} (hd : 4 ≤ d) (K86 : Int → Int → q_Mem → Option (Int × q_Mem)) (hK86 : ∀ (x1 : Int) (x2 : Int) (M : q_Mem), q_Ok M → q_EX (d + 1) yX11_lookAt cX11_lookAt 3 none 86 [(0, .inr (.inr 0)), (1, .inl x1), (2, .inl x2)] [] M (K86 x1 x2 M)) (x1 : Int) (x2 : Int) (s0 : Int) (s1 : Int) (t2 : Nat) (M : q_Mem) (hO : q_Ok M) (ht2 : q_shp t2 = (1, 6)) : q_EX (d + 1) yX11_lookAt cX11_lookAt 3 none 147 [(0, .inr (.inr 0)), (1, .inl x1), (2, .inl x2)] [.inl s0, .inl s1, .inr (.inr t2)] M (fX11_lookAt_147 K86 x1 x2 s0 s1 t2 M) := by
  unfold fX11_lookAt_147
  refine q_iast ht2 (q_inA hO ht2 (by decide)) dX11_lookAt_147 (fun M1 _ _ hM1 => ?_)
  have hO1 : q_Ok M1 := by rw [hM1]; exact q_Ok_arr (t := 0) hO ht2 (by decide)
  refine q_aload_n 0 dX11_lookAt_148 rfl rfl ?_
  refine q_gettL fl_X11_90 hO1 sh_0 rfl tr_0_11 dX11_lookAt_149 (fun r21 _ hr21 => ?_)
  refine q_getx fl_X11_195 hO1 hr21 rfl (fs_2_3 hr21) dX11_lookAt_152 ?_
  refine q_iload_n 2 dX11_lookAt_155 rfl rfl ?_
  refine q_iald (ft_2_3 hr21) (q_inA hO1 (ft_2_3 hr21) (by decide)) dX11_lookAt_156 (fun x21 _ _ _ => ?_)
  refine q_aload_n 0 dX11_lookAt_157 rfl rfl ?_
  refine q_getx fl_X11_58 hO1 sh_0 rfl fx_0_6 dX11_lookAt_158 ?_
  refine q_geti fl_X11_158 sh_10 (q_inO hO1 sh_10) rfl dX11_lookAt_161 ?_
  refine q_icmpne (tgt := 183) dX11_lookAt_164 (by decide) ?_ ?_
  · refine q_sub [0, 1, 2] rfl ?_
    exact tX11_lookAt_183 hd K86 hK86 x1 x2 M1 hO1
  · refine q_aload_n 0 dX11_lookAt_167 rfl rfl ?_
    refine q_getx fl_X11_79 hO1 sh_0 rfl fx_0_9 dX11_lookAt_168 ?_
    refine q_aload_n 0 dX11_lookAt_171 rfl rfl ?_
    refine q_getx fl_X11_79 hO1 sh_0 rfl fx_0_9 dX11_lookAt_172 ?_
    refine q_getx fl_X11_388 hO1 sh_52 rfl (fs_7_11 sh_52) dX11_lookAt_175 ?_
    refine q_iload_n 2 dX11_lookAt_178 rfl rfl ?_
    refine q_iald (ft_7_11 sh_52) (q_inA hO1 (ft_7_11 sh_52) (by decide)) dX11_lookAt_179 (fun x22 _ _ _ => ?_)
    refine q_puti fl_X11_384 sh_52 (q_inO hO1 sh_52) (fun h => q_Ok_put h sh_52 rfl) rfl dX11_lookAt_180 (fun M2 hM2 => ?_)
    have hO2 : q_Ok M2 := by rw [hM2]; exact q_Ok_put hO1 sh_52 rfl
    refine q_sub [0, 1, 2] rfl ?_
    exact tX11_lookAt_183 hd K86 hK86 x1 x2 M2 hO2
def fX11_lookAt_86  : Nat → Int → Int → q_Mem → Option (Int × q_Mem)
  | 0, _, _, _ => none
  | n + 1, x1, x2, M => if q_w x2 < 0 then (some (0, M)) else (q_bd (fX5_lengthAt x1 x2 (M.2 10 0) M) fun x21 M1 => (q_sto M1 (q_fr 52 11) 6 x2 x21).bind fun M2 => q_bd (fX5_paysAt x1 x2 (M2.2 10 0) M2) fun x22 M3 => if q_w x22 = 0 then ((fX11_lookAt_147 (fX11_lookAt_86 n) x1 x2 0 x2 (q_fr 52 12) M3)) else ((fX11_lookAt_147 (fX11_lookAt_86 n) x1 x2 1 x2 (q_fr 52 12) M3)))
theorem tX11_lookAt_86 {d : Nat} (hd : 4 ≤ d) : ∀ (n : Nat) (x1 : Int) (x2 : Int) (M : q_Mem), q_Ok M → q_EX (d + 1) yX11_lookAt cX11_lookAt 3 none 86 [(0, .inr (.inr 0)), (1, .inl x1), (2, .inl x2)] [] M (fX11_lookAt_86 n x1 x2 M) := by
  intro n
  induction n with
  | zero => intro x1 x2 M hO; exact q_none
  | succ n ih =>
    intro x1 x2 M hO
    rw [fX11_lookAt_86]
    refine q_iload_n 2 dX11_lookAt_86 rfl rfl ?_
    refine q_iflt (tgt := 189) dX11_lookAt_87 (by decide) ?_ ?_
    · exact q_ret dX11_lookAt_189 rfl
    · refine q_aload_n 0 dX11_lookAt_90 rfl rfl ?_
      refine q_getx fl_X11_79 hO sh_0 rfl fx_0_9 dX11_lookAt_91 ?_
      refine q_getx fl_X11_388 hO sh_52 rfl (fs_7_11 sh_52) dX11_lookAt_94 ?_
      refine q_iload_n 2 dX11_lookAt_97 rfl rfl ?_
      refine q_aload_n 0 dX11_lookAt_98 rfl rfl ?_
      refine q_getx fl_X11_102 hO sh_0 rfl fx_0_13 dX11_lookAt_99 ?_
      refine q_iload_n 1 dX11_lookAt_102 rfl rfl ?_
      refine q_iload_n 2 dX11_lookAt_103 rfl rfl ?_
      refine q_aload_n 0 dX11_lookAt_104 rfl rfl ?_
      refine q_getx fl_X11_58 hO sh_0 rfl fx_0_6 dX11_lookAt_105 ?_
      refine q_geti fl_X11_155 sh_10 (q_inO hO sh_10) rfl dX11_lookAt_108 ?_
      refine q_callVi (As := [.inl x1, .inl x2, .inl (M.2 10 0)]) hO mb_X5_lengthAt mv_X5_lengthAt ml_X11_218 sh_87 rfl dX11_lookAt_111 (fun _ => rfl) rfl (Nat.le_of_ble_eq_true rfl) rfl (Nat.le_of_ble_eq_true rfl) (tX5_lengthAt (by omega) x1 x2 (M.2 10 0) M hO) (fun x21 M1 _ hO1 => ?_)
      refine q_iast (ft_7_11 sh_52) (q_inA hO1 (ft_7_11 sh_52) (by decide)) dX11_lookAt_114 (fun M2 _ _ hM2 => ?_)
      have hO2 : q_Ok M2 := by rw [hM2]; exact q_Ok_arr (t := 0) hO1 (ft_7_11 sh_52) (by decide)
      refine q_aload_n 0 dX11_lookAt_115 rfl rfl ?_
      refine q_getx fl_X11_79 hO2 sh_0 rfl fx_0_9 dX11_lookAt_116 ?_
      refine q_getx fl_X11_391 hO2 sh_52 rfl (fs_7_12 sh_52) dX11_lookAt_119 ?_
      refine q_iload_n 2 dX11_lookAt_122 rfl rfl ?_
      refine q_aload_n 0 dX11_lookAt_123 rfl rfl ?_
      refine q_getx fl_X11_102 hO2 sh_0 rfl fx_0_13 dX11_lookAt_124 ?_
      refine q_iload_n 1 dX11_lookAt_127 rfl rfl ?_
      refine q_iload_n 2 dX11_lookAt_128 rfl rfl ?_
      refine q_aload_n 0 dX11_lookAt_129 rfl rfl ?_
      refine q_getx fl_X11_58 hO2 sh_0 rfl fx_0_6 dX11_lookAt_130 ?_
      refine q_geti fl_X11_155 sh_10 (q_inO hO2 sh_10) rfl dX11_lookAt_133 ?_
      refine q_callVi (As := [.inl x1, .inl x2, .inl (M2.2 10 0)]) hO2 mb_X5_paysAt mv_X5_paysAt ml_X11_222 sh_87 rfl dX11_lookAt_136 (fun _ => rfl) rfl (Nat.le_of_ble_eq_true rfl) rfl (Nat.le_of_ble_eq_true rfl) (tX5_paysAt (by omega) x1 x2 (M2.2 10 0) M2 hO2) (fun x22 M3 _ hO3 => ?_)
      refine q_ifeq (tgt := 146) dX11_lookAt_139 (by decide) ?_ ?_
      · refine q_iconst dX11_lookAt_146 ?_
        refine q_sub [0, 1, 2] rfl ?_
        exact tX11_lookAt_147 hd (fX11_lookAt_86 n) ih x1 x2 0 x2 (q_fr 52 12) M3 hO3 (ft_7_12 sh_52)
      · refine q_iconst dX11_lookAt_142 ?_
        refine q_goto (tgt := 147) dX11_lookAt_143 (by decide) ?_
        refine q_sub [0, 1, 2] rfl ?_
        exact tX11_lookAt_147 hd (fX11_lookAt_86 n) ih x1 x2 1 x2 (q_fr 52 12) M3 hO3 (ft_7_12 sh_52)
def fX11_lookAt (x1 : Int) (M : q_Mem) : Option (Int × q_Mem) := q_let (q_up M 52 2 x1) fun M1 => q_let (M1.2 0 11).toNat fun r21 => (q_ld M1 (q_fr r21 9) 8 x1).bind fun x21 => q_let (q_up M1 52 3 x21) fun M2 => q_let (M2.2 0 11).toNat fun r22 => (q_ld M2 (q_fr r22 10) 8 x1).bind fun x22 => q_let (q_up M2 52 4 x22) fun M3 => q_let (q_up M3 52 6 (M3.2 10 0)) fun M4 => q_let (q_up M4 52 9 (-1)) fun M5 => q_let (M5.2 0 11).toNat fun r23 => q_let (q_up M5 52 10 (M5.2 r23 1)) fun M6 => q_let (M6.2 0 11).toNat fun r24 => q_let ((M6.2 r24 1) - 1) fun x23 => (fX11_lookAt_86 q_FU x1 x23 M6)
theorem tX11_lookAt {d : Nat} (hd : 5 ≤ d) (x1 : Int) (M : q_Mem) (hO : q_Ok M) : q_EX d yX11_lookAt cX11_lookAt 3 none 0 (q_args 0 [.inr (.inr 0), .inl x1]) [] M (fX11_lookAt x1 M) := by
  obtain ⟨d, rfl⟩ : ∃ d', d = d' + 1 := ⟨d - 1, by omega⟩
  have hd : 4 ≤ d := by omega
  show q_EX _ _ _ _ _ 0 [(0, .inr (.inr 0)), (1, .inl x1)] [] M _
  unfold fX11_lookAt
  refine q_aload_n 0 dX11_lookAt_0 rfl rfl ?_
  refine q_getx fl_X11_79 hO sh_0 rfl fx_0_9 dX11_lookAt_1 ?_
  refine q_iload_n 1 dX11_lookAt_4 rfl rfl ?_
  refine q_puti fl_X11_376 sh_52 (q_inO hO sh_52) (fun h => q_Ok_put h sh_52 rfl) rfl dX11_lookAt_5 (fun M1 hM1 => ?_)
  have hO1 : q_Ok M1 := by rw [hM1]; exact q_Ok_put hO sh_52 rfl
  refine q_aload_n 0 dX11_lookAt_8 rfl rfl ?_
  refine q_getx fl_X11_79 hO1 sh_0 rfl fx_0_9 dX11_lookAt_9 ?_
  refine q_aload_n 0 dX11_lookAt_12 rfl rfl ?_
  refine q_gettL fl_X11_90 hO1 sh_0 rfl tr_0_11 dX11_lookAt_13 (fun r21 _ hr21 => ?_)
  refine q_getx fl_X11_209 hO1 hr21 rfl (fs_2_9 hr21) dX11_lookAt_16 ?_
  refine q_iload_n 1 dX11_lookAt_19 rfl rfl ?_
  refine q_iald (ft_2_9 hr21) (q_inA hO1 (ft_2_9 hr21) (by decide)) dX11_lookAt_20 (fun x21 _ _ _ => ?_)
  refine q_puti fl_X11_379 sh_52 (q_inO hO1 sh_52) (fun h => q_Ok_put h sh_52 rfl) rfl dX11_lookAt_21 (fun M2 hM2 => ?_)
  have hO2 : q_Ok M2 := by rw [hM2]; exact q_Ok_put hO1 sh_52 rfl
  refine q_aload_n 0 dX11_lookAt_24 rfl rfl ?_
  refine q_getx fl_X11_79 hO2 sh_0 rfl fx_0_9 dX11_lookAt_25 ?_
  refine q_aload_n 0 dX11_lookAt_28 rfl rfl ?_
  refine q_gettL fl_X11_90 hO2 sh_0 rfl tr_0_11 dX11_lookAt_29 (fun r22 _ hr22 => ?_)
  refine q_getx fl_X11_212 hO2 hr22 rfl (fs_2_10 hr22) dX11_lookAt_32 ?_
  refine q_iload_n 1 dX11_lookAt_35 rfl rfl ?_
  refine q_iald (ft_2_10 hr22) (q_inA hO2 (ft_2_10 hr22) (by decide)) dX11_lookAt_36 (fun x22 _ _ _ => ?_)
  refine q_puti fl_X11_381 sh_52 (q_inO hO2 sh_52) (fun h => q_Ok_put h sh_52 rfl) rfl dX11_lookAt_37 (fun M3 hM3 => ?_)
  have hO3 : q_Ok M3 := by rw [hM3]; exact q_Ok_put hO2 sh_52 rfl
  refine q_aload_n 0 dX11_lookAt_40 rfl rfl ?_
  refine q_getx fl_X11_79 hO3 sh_0 rfl fx_0_9 dX11_lookAt_41 ?_
  refine q_aload_n 0 dX11_lookAt_44 rfl rfl ?_
  refine q_getx fl_X11_58 hO3 sh_0 rfl fx_0_6 dX11_lookAt_45 ?_
  refine q_geti fl_X11_155 sh_10 (q_inO hO3 sh_10) rfl dX11_lookAt_48 ?_
  refine q_puti fl_X11_383 sh_52 (q_inO hO3 sh_52) (fun h => q_Ok_put h sh_52 rfl) rfl dX11_lookAt_51 (fun M4 hM4 => ?_)
  have hO4 : q_Ok M4 := by rw [hM4]; exact q_Ok_put hO3 sh_52 rfl
  refine q_aload_n 0 dX11_lookAt_54 rfl rfl ?_
  refine q_getx fl_X11_79 hO4 sh_0 rfl fx_0_9 dX11_lookAt_55 ?_
  refine q_iconst dX11_lookAt_58 ?_
  refine q_puti fl_X11_384 sh_52 (q_inO hO4 sh_52) (fun h => q_Ok_put h sh_52 rfl) rfl dX11_lookAt_59 (fun M5 hM5 => ?_)
  have hO5 : q_Ok M5 := by rw [hM5]; exact q_Ok_put hO4 sh_52 rfl
  refine q_aload_n 0 dX11_lookAt_62 rfl rfl ?_
  refine q_getx fl_X11_79 hO5 sh_0 rfl fx_0_9 dX11_lookAt_63 ?_
  refine q_aload_n 0 dX11_lookAt_66 rfl rfl ?_
  refine q_gettL fl_X11_90 hO5 sh_0 rfl tr_0_11 dX11_lookAt_67 (fun r23 _ hr23 => ?_)
  refine q_geti fl_X11_145 hr23 (q_inO hO5 hr23) rfl dX11_lookAt_70 ?_
  refine q_puti fl_X11_387 sh_52 (q_inO hO5 sh_52) (fun h => q_Ok_put h sh_52 rfl) rfl dX11_lookAt_73 (fun M6 hM6 => ?_)
  have hO6 : q_Ok M6 := by rw [hM6]; exact q_Ok_put hO5 sh_52 rfl
  refine q_aload_n 0 dX11_lookAt_76 rfl rfl ?_
  refine q_gettL fl_X11_90 hO6 sh_0 rfl tr_0_11 dX11_lookAt_77 (fun r24 _ hr24 => ?_)
  refine q_geti fl_X11_145 hr24 (q_inO hO6 hr24) rfl dX11_lookAt_80 ?_
  refine q_iconst dX11_lookAt_83 ?_
  refine q_isub dX11_lookAt_84 ?_
  refine q_nameI (fun x23 _ => ?_)
  refine q_istore_n (ls' := [(2, .inl x23), (0, .inr (.inr 0)), (1, .inl x1)]) dX11_lookAt_85 rfl (by decide) rfl ?_
  refine q_sub [1, 2, 0] rfl ?_
  exact tX11_lookAt_86 hd q_FU x1 x23 M6 hO6
def fX11_answerTest_55 (K7 : Int → Int → Int → Int → q_Mem → Option (Int × q_Mem)) (x1 : Int) (x2 : Int) (x3 : Int) (x4 : Int) (M : q_Mem) : Option (Int × q_Mem) := (K7 x1 x2 x3 (x4 + 1) M)
theorem tX11_answerTest_55 {d : Nat} (hd : 5 ≤ d) (K7 : Int → Int → Int → Int → q_Mem → Option (Int × q_Mem)) (hK7 : ∀ (x1 : Int) (x2 : Int) (x3 : Int) (x4 : Int) (M : q_Mem), q_Ok M → q_EX (d + 1) yX11_answerTest cX11_answerTest 5 (some .long) 7 [(0, .inr (.inr 0)), (1, .inl x1), (2, .inl x2), (3, .inl x3), (4, .inl x4)] [] M (K7 x1 x2 x3 x4 M)) (x1 : Int) (x2 : Int) (x3 : Int) (x4 : Int) (M : q_Mem) (hO : q_Ok M) : q_EX (d + 1) yX11_answerTest cX11_answerTest 5 (some .long) 55 [(0, .inr (.inr 0)), (1, .inl x1), (2, .inl x2), (3, .inl x3), (4, .inl x4)] [] M (fX11_answerTest_55 K7 x1 x2 x3 x4 M) := by
  unfold fX11_answerTest_55
  refine q_iinc (ls' := [(4, .inl (x4 + 1)), (0, .inr (.inr 0)), (1, .inl x1), (2, .inl x2), (3, .inl x3)]) 4 dX11_answerTest_55 rfl (by decide) rfl ?_
  refine q_goto (tgt := 7) dX11_answerTest_58 (by decide) ?_
  refine q_sub [1, 2, 3, 4, 0] rfl ?_
  exact hK7 x1 x2 x3 (x4 + 1) M hO
def fX11_answerTest_7  : Nat → Int → Int → Int → Int → q_Mem → Option (Int × q_Mem)
  | 0, _, _, _, _, _ => none
  | n + 1, x1, x2, x3, x4, M => q_let (M.2 0 11).toNat fun r21 => if q_w x4 < q_w (M.2 r21 7) then (q_bd (fX11_lookAt x4 M) fun _ M1 => q_bd (fX7_run 52 6 M1) fun x21 M2 => if q_w x21 = 0 then ((fX11_answerTest_55 (fX11_answerTest_7 n) x1 x2 x3 x4 M2)) else (if q_w x1 = q_w 25 then (some ((q_w x4), M2)) else ((fX11_answerTest_55 (fX11_answerTest_7 n) x1 (x2 + 1) x4 x4 M2)))) else (if q_w x1 = q_w 27 then (some ((q_w x2), M)) else (some ((q_w x3), M)))
theorem tX11_answerTest_7 {d : Nat} (hd : 5 ≤ d) : ∀ (n : Nat) (x1 : Int) (x2 : Int) (x3 : Int) (x4 : Int) (M : q_Mem), q_Ok M → q_EX (d + 1) yX11_answerTest cX11_answerTest 5 (some .long) 7 [(0, .inr (.inr 0)), (1, .inl x1), (2, .inl x2), (3, .inl x3), (4, .inl x4)] [] M (fX11_answerTest_7 n x1 x2 x3 x4 M) := by
  intro n
  induction n with
  | zero => intro x1 x2 x3 x4 M hO; exact q_none
  | succ n ih =>
    intro x1 x2 x3 x4 M hO
    rw [fX11_answerTest_7]
    refine q_iload 4 dX11_answerTest_7 rfl ?_
    refine q_aload_n 0 dX11_answerTest_9 rfl rfl ?_
    refine q_gettL fl_X11_90 hO sh_0 rfl tr_0_11 dX11_answerTest_10 (fun r21 _ hr21 => ?_)
    refine q_geti fl_X11_148 hr21 (q_inO hO hr21) rfl dX11_answerTest_13 ?_
    refine q_icmpge (tgt := 61) dX11_answerTest_16 (by decide) ?_ ?_
    · refine q_iload_n 1 dX11_answerTest_61 rfl rfl ?_
      refine q_bipush dX11_answerTest_62 (by decide) ?_
      refine q_icmpne (tgt := 72) dX11_answerTest_64 (by decide) ?_ ?_
      · refine q_iload_n 3 dX11_answerTest_72 rfl rfl ?_
        refine q_i2l dX11_answerTest_73 ?_
        exact q_ret dX11_answerTest_74 rfl
      · refine q_iload_n 2 dX11_answerTest_67 rfl rfl ?_
        refine q_i2l dX11_answerTest_68 ?_
        refine q_goto (tgt := 74) dX11_answerTest_69 (by decide) ?_
        exact q_ret dX11_answerTest_74 rfl
    · refine q_aload_n 0 dX11_answerTest_19 rfl rfl ?_
      refine q_iload 4 dX11_answerTest_20 rfl ?_
      refine q_callVv (As := [.inl x4]) hO mb_X11_lookAt mv_X11_lookAt ml_X11_369 sh_0 rfl dX11_answerTest_22 (fun _ => rfl) rfl (Nat.le_of_ble_eq_true rfl) rfl (Nat.le_of_ble_eq_true rfl) (tX11_lookAt (by omega) x4 M hO) (fun _ M1 _ hO1 => ?_)
      refine q_aload_n 0 dX11_answerTest_25 rfl rfl ?_
      refine q_getx fl_X11_79 hO1 sh_0 rfl fx_0_9 dX11_answerTest_26 ?_
      refine q_aload_n 0 dX11_answerTest_29 rfl rfl ?_
      refine q_getx fl_X11_33 hO1 sh_0 rfl fx_0_3 dX11_answerTest_30 ?_
      refine q_callVi (As := [.inr (.inr 6)]) hO1 mb_X7_run mv_X7_run ml_X11_372 sh_52 rfl dX11_answerTest_33 (fun _ => rfl) rfl (Nat.le_of_ble_eq_true rfl) rfl (Nat.le_of_ble_eq_true rfl) (tX7_run (by omega) 52 6 M1 hO1 sh_52 sh_6) (fun x21 M2 _ hO2 => ?_)
      refine q_ifeq (tgt := 55) dX11_answerTest_36 (by decide) ?_ ?_
      · refine q_sub [0, 1, 2, 3, 4] rfl ?_
        exact tX11_answerTest_55 hd (fX11_answerTest_7 n) ih x1 x2 x3 x4 M2 hO2
      · refine q_iload_n 1 dX11_answerTest_39 rfl rfl ?_
        refine q_bipush dX11_answerTest_40 (by decide) ?_
        refine q_icmpne (tgt := 49) dX11_answerTest_42 (by decide) ?_ ?_
        · refine q_iinc (ls' := [(2, .inl (x2 + 1)), (0, .inr (.inr 0)), (1, .inl x1), (3, .inl x3), (4, .inl x4)]) 2 dX11_answerTest_49 rfl (by decide) rfl ?_
          refine q_iload 4 dX11_answerTest_52 rfl ?_
          refine q_istore_n (ls' := [(3, .inl x4), (2, .inl (x2 + 1)), (0, .inr (.inr 0)), (1, .inl x1), (4, .inl x4)]) dX11_answerTest_54 rfl (by decide) rfl ?_
          refine q_sub [2, 3, 1, 0, 4] rfl ?_
          exact tX11_answerTest_55 hd (fX11_answerTest_7 n) ih x1 (x2 + 1) x4 x4 M2 hO2
        · refine q_iload 4 dX11_answerTest_45 rfl ?_
          refine q_i2l dX11_answerTest_47 ?_
          exact q_ret dX11_answerTest_48 rfl
def fX11_answerTest (x1 : Int) (M : q_Mem) : Option (Int × q_Mem) := (fX11_answerTest_7 q_FU x1 0 (-1) 0 M)
theorem tX11_answerTest {d : Nat} (hd : 6 ≤ d) (x1 : Int) (M : q_Mem) (hO : q_Ok M) : q_EX d yX11_answerTest cX11_answerTest 5 (some .long) 0 (q_args 0 [.inr (.inr 0), .inl x1]) [] M (fX11_answerTest x1 M) := by
  obtain ⟨d, rfl⟩ : ∃ d', d = d' + 1 := ⟨d - 1, by omega⟩
  have hd : 5 ≤ d := by omega
  show q_EX _ _ _ _ _ 0 [(0, .inr (.inr 0)), (1, .inl x1)] [] M _
  unfold fX11_answerTest
  refine q_iconst dX11_answerTest_0 ?_
  refine q_istore_n (ls' := [(2, .inl 0), (0, .inr (.inr 0)), (1, .inl x1)]) dX11_answerTest_1 rfl (by decide) rfl ?_
  refine q_iconst dX11_answerTest_2 ?_
  refine q_istore_n (ls' := [(3, .inl (-1)), (2, .inl 0), (0, .inr (.inr 0)), (1, .inl x1)]) dX11_answerTest_3 rfl (by decide) rfl ?_
  refine q_iconst dX11_answerTest_4 ?_
  refine q_istore (ls' := [(4, .inl 0), (3, .inl (-1)), (2, .inl 0), (0, .inr (.inr 0)), (1, .inl x1)]) dX11_answerTest_5 (by decide) rfl ?_
  refine q_sub [3, 4, 2, 1, 0] rfl ?_
  exact tX11_answerTest_7 hd q_FU x1 0 (-1) 0 M hO
def fX11_answerSum_82 (K5 : Int → Int → Int → q_Mem → Option (Int × q_Mem)) (x1 : Int) (x2 : Int) (x4 : Int) (M : q_Mem) : Option (Int × q_Mem) := (K5 x1 x2 (x4 + 1) M)
theorem tX11_answerSum_82 {d : Nat} (hd : 5 ≤ d) (K5 : Int → Int → Int → q_Mem → Option (Int × q_Mem)) (hK5 : ∀ (x1 : Int) (x2 : Int) (x4 : Int) (M : q_Mem), q_Ok M → q_EX (d + 1) yX11_answerSum cX11_answerSum 7 (some .long) 5 [(0, .inr (.inr 0)), (1, .inl x1), (2, .inr (.inl x2)), (4, .inl x4)] [] M (K5 x1 x2 x4 M)) (x1 : Int) (x2 : Int) (x4 : Int) (M : q_Mem) (hO : q_Ok M) : q_EX (d + 1) yX11_answerSum cX11_answerSum 7 (some .long) 82 [(0, .inr (.inr 0)), (1, .inl x1), (2, .inr (.inl x2)), (4, .inl x4)] [] M (fX11_answerSum_82 K5 x1 x2 x4 M) := by
  unfold fX11_answerSum_82
  refine q_iinc (ls' := [(4, .inl (x4 + 1)), (0, .inr (.inr 0)), (1, .inl x1), (2, .inr (.inl x2))]) 3 dX11_answerSum_82 rfl (by decide) rfl ?_
  refine q_goto (tgt := 5) dX11_answerSum_85 (by decide) ?_
  refine q_sub [1, 2, 3, 0] rfl ?_
  exact hK5 x1 x2 (x4 + 1) M hO
def fX11_answerSum_79 (K5 : Int → Int → Int → q_Mem → Option (Int × q_Mem)) (x1 : Int) (x4 : Int) (x5 : Int) (M : q_Mem) : Option (Int × q_Mem) := (fX11_answerSum_82 K5 x1 x5 x4 M)
theorem tX11_answerSum_79 {d : Nat} (hd : 5 ≤ d) (K5 : Int → Int → Int → q_Mem → Option (Int × q_Mem)) (hK5 : ∀ (x1 : Int) (x2 : Int) (x4 : Int) (M : q_Mem), q_Ok M → q_EX (d + 1) yX11_answerSum cX11_answerSum 7 (some .long) 5 [(0, .inr (.inr 0)), (1, .inl x1), (2, .inr (.inl x2)), (4, .inl x4)] [] M (K5 x1 x2 x4 M)) (x1 : Int) (x4 : Int) (x5 : Int) (M : q_Mem) (hO : q_Ok M) : q_EX (d + 1) yX11_answerSum cX11_answerSum 7 (some .long) 79 [(0, .inr (.inr 0)), (1, .inl x1), (4, .inl x4), (5, .inr (.inl x5))] [] M (fX11_answerSum_79 K5 x1 x4 x5 M) := by
  unfold fX11_answerSum_79
  refine q_lload 3 dX11_answerSum_79 rfl ?_
  refine q_lstore_n (ls' := [(2, .inr (.inl x5)), (0, .inr (.inr 0)), (1, .inl x1), (4, .inl x4), (5, .inr (.inl x5))]) dX11_answerSum_81 rfl (by decide) rfl ?_
  refine q_sub [1, 2, 0, 3] rfl ?_
  exact tX11_answerSum_82 hd K5 hK5 x1 x5 x4 M hO
def fX11_answerSum_5  : Nat → Int → Int → Int → q_Mem → Option (Int × q_Mem)
  | 0, _, _, _, _ => none
  | n + 1, x1, x2, x4, M => q_let (M.2 0 11).toNat fun r21 => if q_w x4 < q_w (M.2 r21 7) then (q_bd (fX11_lookAt x4 M) fun _ M1 => q_bd (fX7_run 52 6 M1) fun x21 M2 => q_let (q_w x21) fun x22 => if q_w x1 = q_w 28 then (q_let (x2 + x22) fun x23 => (fX11_answerSum_82 (fX11_answerSum_5 n) x1 x23 x4 M2)) else (if q_w x4 = 0 then ((fX11_answerSum_79 (fX11_answerSum_5 n) x1 x4 x22 M2)) else (if q_w x1 = q_w 29 then (if 0 < q_w (q_lcmp x22 x2) then ((fX11_answerSum_79 (fX11_answerSum_5 n) x1 x4 x22 M2)) else ((fX11_answerSum_82 (fX11_answerSum_5 n) x1 x2 x4 M2))) else (if q_w (q_lcmp x22 x2) < 0 then ((fX11_answerSum_79 (fX11_answerSum_5 n) x1 x4 x22 M2)) else ((fX11_answerSum_82 (fX11_answerSum_5 n) x1 x2 x4 M2)))))) else (some (x2, M))
theorem tX11_answerSum_5 {d : Nat} (hd : 5 ≤ d) : ∀ (n : Nat) (x1 : Int) (x2 : Int) (x4 : Int) (M : q_Mem), q_Ok M → q_EX (d + 1) yX11_answerSum cX11_answerSum 7 (some .long) 5 [(0, .inr (.inr 0)), (1, .inl x1), (2, .inr (.inl x2)), (4, .inl x4)] [] M (fX11_answerSum_5 n x1 x2 x4 M) := by
  intro n
  induction n with
  | zero => intro x1 x2 x4 M hO; exact q_none
  | succ n ih =>
    intro x1 x2 x4 M hO
    rw [fX11_answerSum_5]
    refine q_iload 3 dX11_answerSum_5 rfl ?_
    refine q_aload_n 0 dX11_answerSum_7 rfl rfl ?_
    refine q_gettL fl_X11_90 hO sh_0 rfl tr_0_11 dX11_answerSum_8 (fun r21 _ hr21 => ?_)
    refine q_geti fl_X11_148 hr21 (q_inO hO hr21) rfl dX11_answerSum_11 ?_
    refine q_icmpge (tgt := 88) dX11_answerSum_14 (by decide) ?_ ?_
    · refine q_lload_n 2 dX11_answerSum_88 rfl rfl ?_
      exact q_ret dX11_answerSum_89 rfl
    · refine q_aload_n 0 dX11_answerSum_17 rfl rfl ?_
      refine q_iload 3 dX11_answerSum_18 rfl ?_
      refine q_callVv (As := [.inl x4]) hO mb_X11_lookAt mv_X11_lookAt ml_X11_369 sh_0 rfl dX11_answerSum_20 (fun _ => rfl) rfl (Nat.le_of_ble_eq_true rfl) rfl (Nat.le_of_ble_eq_true rfl) (tX11_lookAt (by omega) x4 M hO) (fun _ M1 _ hO1 => ?_)
      refine q_aload_n 0 dX11_answerSum_23 rfl rfl ?_
      refine q_getx fl_X11_79 hO1 sh_0 rfl fx_0_9 dX11_answerSum_24 ?_
      refine q_aload_n 0 dX11_answerSum_27 rfl rfl ?_
      refine q_getx fl_X11_33 hO1 sh_0 rfl fx_0_3 dX11_answerSum_28 ?_
      refine q_callVi (As := [.inr (.inr 6)]) hO1 mb_X7_run mv_X7_run ml_X11_372 sh_52 rfl dX11_answerSum_31 (fun _ => rfl) rfl (Nat.le_of_ble_eq_true rfl) rfl (Nat.le_of_ble_eq_true rfl) (tX7_run (by omega) 52 6 M1 hO1 sh_52 sh_6) (fun x21 M2 _ hO2 => ?_)
      refine q_i2l dX11_answerSum_34 ?_
      refine q_nameL (fun x22 _ => ?_)
      refine q_lstore (ls' := [(5, .inr (.inl x22)), (0, .inr (.inr 0)), (1, .inl x1), (2, .inr (.inl x2)), (4, .inl x4)]) dX11_answerSum_35 (by decide) rfl ?_
      refine q_iload_n 2 dX11_answerSum_37 rfl rfl ?_
      refine q_bipush dX11_answerSum_38 (by decide) ?_
      refine q_icmpne (tgt := 51) dX11_answerSum_40 (by decide) ?_ ?_
      · refine q_iload 4 dX11_answerSum_51 rfl ?_
        refine q_ifeq (tgt := 79) dX11_answerSum_53 (by decide) ?_ ?_
        · refine q_sub [1, 2, 4, 0] rfl ?_
          exact tX11_answerSum_79 hd (fX11_answerSum_5 n) ih x1 x4 x22 M2 hO2
        · refine q_iload_n 2 dX11_answerSum_56 rfl rfl ?_
          refine q_bipush dX11_answerSum_57 (by decide) ?_
          refine q_icmpne (tgt := 72) dX11_answerSum_59 (by decide) ?_ ?_
          · refine q_lload 0 dX11_answerSum_72 rfl ?_
            refine q_lload_n 3 dX11_answerSum_74 rfl rfl ?_
            refine q_lcmpR dX11_answerSum_75 ?_
            refine q_ifge (tgt := 82) dX11_answerSum_76 (by decide) ?_ ?_
            · refine q_sub [1, 2, 3, 4] rfl ?_
              exact tX11_answerSum_82 hd (fX11_answerSum_5 n) ih x1 x2 x4 M2 hO2
            · refine q_sub [1, 2, 4, 0] rfl ?_
              exact tX11_answerSum_79 hd (fX11_answerSum_5 n) ih x1 x4 x22 M2 hO2
          · refine q_lload 0 dX11_answerSum_62 rfl ?_
            refine q_lload_n 3 dX11_answerSum_64 rfl rfl ?_
            refine q_lcmpR dX11_answerSum_65 ?_
            refine q_ifle (tgt := 82) dX11_answerSum_66 (by decide) ?_ ?_
            · refine q_sub [1, 2, 3, 4] rfl ?_
              exact tX11_answerSum_82 hd (fX11_answerSum_5 n) ih x1 x2 x4 M2 hO2
            · refine q_goto (tgt := 79) dX11_answerSum_69 (by decide) ?_
              refine q_sub [1, 2, 4, 0] rfl ?_
              exact tX11_answerSum_79 hd (fX11_answerSum_5 n) ih x1 x4 x22 M2 hO2
      · refine q_lload_n 3 dX11_answerSum_43 rfl rfl ?_
        refine q_lload 0 dX11_answerSum_44 rfl ?_
        refine q_ladd dX11_answerSum_46 ?_
        refine q_nameL (fun x23 _ => ?_)
        refine q_lstore_n (ls' := [(2, .inr (.inl x23)), (5, .inr (.inl x22)), (0, .inr (.inr 0)), (1, .inl x1), (4, .inl x4)]) dX11_answerSum_47 rfl (by decide) rfl ?_
        refine q_goto (tgt := 82) dX11_answerSum_48 (by decide) ?_
        refine q_sub [2, 3, 0, 4] rfl ?_
        exact tX11_answerSum_82 hd (fX11_answerSum_5 n) ih x1 x23 x4 M2 hO2
def fX11_answerSum (x1 : Int) (M : q_Mem) : Option (Int × q_Mem) := (fX11_answerSum_5 q_FU x1 0 0 M)
theorem tX11_answerSum {d : Nat} (hd : 6 ≤ d) (x1 : Int) (M : q_Mem) (hO : q_Ok M) : q_EX d yX11_answerSum cX11_answerSum 7 (some .long) 0 (q_args 0 [.inr (.inr 0), .inl x1]) [] M (fX11_answerSum x1 M) := by
  obtain ⟨d, rfl⟩ : ∃ d', d = d' + 1 := ⟨d - 1, by omega⟩
  have hd : 5 ≤ d := by omega
  show q_EX _ _ _ _ _ 0 [(0, .inr (.inr 0)), (1, .inl x1)] [] M _
  unfold fX11_answerSum
  refine q_lconst (v := 0) dX11_answerSum_0 (by decide) ?_
  refine q_lstore_n (ls' := [(2, .inr (.inl 0)), (0, .inr (.inr 0)), (1, .inl x1)]) dX11_answerSum_1 rfl (by decide) rfl ?_
  refine q_iconst dX11_answerSum_2 ?_
  refine q_istore (ls' := [(4, .inl 0), (2, .inr (.inl 0)), (0, .inr (.inr 0)), (1, .inl x1)]) dX11_answerSum_3 (by decide) rfl ?_
  refine q_sub [2, 3, 1, 0] rfl ?_
  exact tX11_answerSum_5 hd q_FU x1 0 0 M hO
def fX11_ask (M : q_Mem) : Option (Int × q_Mem) := q_let (M.2 0 11).toNat fun r21 => if q_w (M.2 r21 0) = 0 then (q_let (q_up M 1 1 0) fun M6 => some ((-1000000000000000), M6)) else (q_bd (fX11_readQuestion M) fun x21 M1 => q_let (q_up M1 1 1 0) fun M2 => q_bd (fX11_noteFault M2) fun _ M3 => if q_w (M3.2 0 14) = 0 then (if q_w 27 < q_w x21 then (q_bd (fX11_answerSum x21 M3) fun x22 M4 => some (x22, M4)) else (q_bd (fX11_answerTest x21 M3) fun x23 M5 => some (x23, M5))) else (some ((-1000000000000000), M3)))
theorem tX11_ask {d : Nat} (hd : 74 ≤ d) (M : q_Mem) (hO : q_Ok M) : q_EX d yX11_ask cX11_ask 2 (some .long) 0 (q_args 0 [.inr (.inr 0)]) [] M (fX11_ask M) := by
  obtain ⟨d, rfl⟩ : ∃ d', d = d' + 1 := ⟨d - 1, by omega⟩
  have hd : 73 ≤ d := by omega
  show q_EX _ _ _ _ _ 0 [(0, .inr (.inr 0))] [] M _
  unfold fX11_ask
  refine q_aload_n 0 dX11_ask_0 rfl rfl ?_
  refine q_gettL fl_X11_90 hO sh_0 rfl tr_0_11 dX11_ask_1 (fun r21 _ hr21 => ?_)
  refine q_geti fl_X11_142 hr21 (q_inO hO hr21) rfl dX11_ask_4 ?_
  refine q_ifne (tgt := 22) dX11_ask_7 (by decide) ?_ ?_
  · refine q_aload_n 0 dX11_ask_22 rfl rfl ?_
    refine q_callVi (As := []) hO mb_X11_readQuestion mv_X11_readQuestion ml_X11_309 sh_0 rfl dX11_ask_23 (fun _ => rfl) rfl (Nat.le_of_ble_eq_true rfl) rfl (Nat.le_of_ble_eq_true rfl) (tX11_readQuestion (by omega) M hO) (fun x21 M1 _ hO1 => ?_)
    refine q_istore_n (ls' := [(1, .inl x21), (0, .inr (.inr 0))]) dX11_ask_26 rfl (by decide) rfl ?_
    refine q_aload_n 1 dX11_ask_27 rfl rfl ?_
    refine q_getx fl_X11_14 hO1 sh_0 rfl fx_0_0 dX11_ask_28 ?_
    refine q_iconst dX11_ask_31 ?_
    refine q_puti fl_X11_113 sh_1 (q_inO hO1 sh_1) (fun h => q_Ok_put h sh_1 rfl) rfl dX11_ask_32 (fun M2 hM2 => ?_)
    have hO2 : q_Ok M2 := by rw [hM2]; exact q_Ok_put hO1 sh_1 rfl
    refine q_aload_n 1 dX11_ask_35 rfl rfl ?_
    refine q_callVv (As := []) hO2 mb_X11_noteFault mv_X11_noteFault ml_X11_127 sh_0 rfl dX11_ask_36 (fun _ => rfl) rfl (Nat.le_of_ble_eq_true rfl) rfl (Nat.le_of_ble_eq_true rfl) (tX11_noteFault M2 hO2) (fun _ M3 _ hO3 => ?_)
    refine q_aload_n 1 dX11_ask_39 rfl rfl ?_
    refine q_geti fl_X11_106 sh_0 (q_inO hO3 sh_0) rfl dX11_ask_40 ?_
    refine q_ifeq (tgt := 50) dX11_ask_43 (by decide) ?_ ?_
    · refine q_iload_n 0 dX11_ask_50 rfl rfl ?_
      refine q_bipush dX11_ask_51 (by decide) ?_
      refine q_icmpgt (tgt := 64) dX11_ask_53 (by decide) ?_ ?_
      · refine q_aload_n 1 dX11_ask_64 rfl rfl ?_
        refine q_iload_n 0 dX11_ask_65 rfl rfl ?_
        refine q_callVl (As := [.inl x21]) hO3 mb_X11_answerSum mv_X11_answerSum ml_X11_316 sh_0 rfl dX11_ask_66 (fun _ => rfl) rfl (Nat.le_of_ble_eq_true rfl) rfl (Nat.le_of_ble_eq_true rfl) (tX11_answerSum (by omega) x21 M3 hO3) (fun x22 M4 _ hO4 => ?_)
        exact q_ret dX11_ask_69 rfl
      · refine q_aload_n 1 dX11_ask_56 rfl rfl ?_
        refine q_iload_n 0 dX11_ask_57 rfl rfl ?_
        refine q_callVl (As := [.inl x21]) hO3 mb_X11_answerTest mv_X11_answerTest ml_X11_312 sh_0 rfl dX11_ask_58 (fun _ => rfl) rfl (Nat.le_of_ble_eq_true rfl) rfl (Nat.le_of_ble_eq_true rfl) (tX11_answerTest (by omega) x21 M3 hO3) (fun x23 M5 _ hO5 => ?_)
        refine q_goto (tgt := 69) dX11_ask_61 (by decide) ?_
        exact q_ret dX11_ask_69 rfl
    · refine q_ldc2 dX11_ask_46 kl_X11_307 (n := (-1000000000000000)) rfl ?_
      exact q_ret dX11_ask_49 rfl
  · refine q_aload_n 0 dX11_ask_10 rfl rfl ?_
    refine q_getx fl_X11_14 hO sh_0 rfl fx_0_0 dX11_ask_11 ?_
    refine q_iconst dX11_ask_14 ?_
    refine q_puti fl_X11_113 sh_1 (q_inO hO sh_1) (fun h => q_Ok_put h sh_1 rfl) rfl dX11_ask_15 (fun M6 hM6 => ?_)
    have hO6 : q_Ok M6 := by rw [hM6]; exact q_Ok_put hO sh_1 rfl
    refine q_ldc2 dX11_ask_18 kl_X11_307 (n := (-1000000000000000)) rfl ?_
    exact q_ret dX11_ask_21 rfl
def fX11_image (M : q_Mem) : Option (Int × q_Mem) := q_bd (fX1_write 3 M) fun _ M1 => some ((M1.2 3 1), M1)
theorem tX11_image {d : Nat} (hd : 3 ≤ d) (M : q_Mem) (hO : q_Ok M) : q_EX d yX11_image cX11_image 1 (some .int) 0 (q_args 0 [.inr (.inr 0)]) [] M (fX11_image M) := by
  obtain ⟨d, rfl⟩ : ∃ d', d = d' + 1 := ⟨d - 1, by omega⟩
  have hd : 2 ≤ d := by omega
  show q_EX _ _ _ _ _ 0 [(0, .inr (.inr 0))] [] M _
  unfold fX11_image
  refine q_aload_n 0 dX11_image_0 rfl rfl ?_
  refine q_getx fl_X11_58 hO sh_0 rfl fx_0_6 dX11_image_1 ?_
  refine q_aload_n 0 dX11_image_4 rfl rfl ?_
  refine q_getx fl_X11_18 hO sh_0 rfl fx_0_1 dX11_image_5 ?_
  refine q_callVv (As := [.inr (.inr 3)]) hO mb_X1_write mv_X1_write ml_X11_319 sh_10 rfl dX11_image_8 (fun _ => rfl) rfl (Nat.le_of_ble_eq_true rfl) rfl (Nat.le_of_ble_eq_true rfl) (tX1_write (by omega) 3 M hO sh_3) (fun _ M1 _ hO1 => ?_)
  refine q_aload_n 0 dX11_image_11 rfl rfl ?_
  refine q_getx fl_X11_18 hO1 sh_0 rfl fx_0_1 dX11_image_12 ?_
  refine q_geti fl_X11_113 sh_3 (q_inO hO1 sh_3) rfl dX11_image_15 ?_
  exact q_ret dX11_image_18 rfl
def fX11_octet (x1 : Int) (M : q_Mem) : Option (Int × q_Mem) := q_bd (fX10_at 3 x1 M) fun x21 M1 => some (x21, M1)
theorem tX11_octet {d : Nat} (hd : 1 ≤ d) (x1 : Int) (M : q_Mem) (hO : q_Ok M) : q_EX d yX11_octet cX11_octet 2 (some .int) 0 (q_args 0 [.inr (.inr 0), .inl x1]) [] M (fX11_octet x1 M) := by
  obtain ⟨d, rfl⟩ : ∃ d', d = d' + 1 := ⟨d - 1, by omega⟩
  have hd : 0 ≤ d := by omega
  show q_EX _ _ _ _ _ 0 [(0, .inr (.inr 0)), (1, .inl x1)] [] M _
  unfold fX11_octet
  refine q_aload_n 0 dX11_octet_0 rfl rfl ?_
  refine q_getx fl_X11_18 hO sh_0 rfl fx_0_1 dX11_octet_1 ?_
  refine q_iload_n 1 dX11_octet_4 rfl rfl ?_
  refine q_callVi (As := [.inl x1]) hO mb_X10_at mv_X10_at ml_X11_322 sh_3 rfl dX11_octet_5 (fun _ => rfl) rfl (Nat.le_of_ble_eq_true rfl) rfl (Nat.le_of_ble_eq_true rfl) (tX10_at 3 x1 M hO sh_3) (fun x21 M1 _ hO1 => ?_)
  exact q_ret dX11_octet_8 rfl
def fX11_isImage_81  : Nat → Int → Int → q_Mem → Option (Int × q_Mem)
  | 0, _, _, _ => none
  | n + 1, x1, x2, M => if q_w x2 < q_w x1 then (q_bd (fX10_twoAt 1 (5 + (2 * x2)) M) fun x24 M4 => q_let (M4.2 0 11).toNat fun r23 => if q_w (M4.2 r23 0) < q_w x24 then (some (0, M4)) else ((fX11_isImage_81 n x1 (x2 + 1) M4))) else (q_bd (fX10_twoAt 1 0 M) fun x21 M1 => q_let (M1.2 0 11).toNat fun r21 => if q_w (M1.2 r21 0) < q_w x21 then (some (0, M1)) else (q_bd (fX10_at 1 2 M1) fun x22 M2 => if q_w 99 < q_w x22 then (some (0, M2)) else (q_bd (fX10_at 1 3 M2) fun x23 M3 => q_let (M3.2 0 11).toNat fun r22 => if q_w x23 < q_w (q_shl 1 (M3.2 r22 1)) then (some (1, M3)) else (some (0, M3)))))
theorem tX11_isImage_81 {d : Nat} (hd : 1 ≤ d) : ∀ (n : Nat) (x1 : Int) (x2 : Int) (M : q_Mem), q_Ok M → q_EX (d + 1) yX11_isImage cX11_isImage 3 (some .boolean) 81 [(0, .inr (.inr 0)), (1, .inl x1), (2, .inl x2)] [] M (fX11_isImage_81 n x1 x2 M) := by
  intro n
  induction n with
  | zero => intro x1 x2 M hO; exact q_none
  | succ n ih =>
    intro x1 x2 M hO
    rw [fX11_isImage_81]
    refine q_iload_n 2 dX11_isImage_81 rfl rfl ?_
    refine q_iload_n 1 dX11_isImage_82 rfl rfl ?_
    refine q_icmpge (tgt := 116) dX11_isImage_83 (by decide) ?_ ?_
    · refine q_aload_n 0 dX11_isImage_116 rfl rfl ?_
      refine q_getx fl_X11_14 hO sh_0 rfl fx_0_0 dX11_isImage_117 ?_
      refine q_iconst dX11_isImage_120 ?_
      refine q_callVi (As := [.inl 0]) hO mb_X10_twoAt mv_X10_twoAt ml_X11_341 sh_1 rfl dX11_isImage_121 (fun _ => rfl) rfl (Nat.le_of_ble_eq_true rfl) rfl (Nat.le_of_ble_eq_true rfl) (tX10_twoAt (by omega) 1 0 M hO sh_1) (fun x21 M1 _ hO1 => ?_)
      refine q_aload_n 0 dX11_isImage_124 rfl rfl ?_
      refine q_gettL fl_X11_90 hO1 sh_0 rfl tr_0_11 dX11_isImage_125 (fun r21 _ hr21 => ?_)
      refine q_geti fl_X11_142 hr21 (q_inO hO1 hr21) rfl dX11_isImage_128 ?_
      refine q_icmpgt (tgt := 171) dX11_isImage_131 (by decide) ?_ ?_
      · refine q_iconst dX11_isImage_171 ?_
        exact q_ret ⟨dX11_isImage_172, by decide⟩ rfl
      · refine q_aload_n 0 dX11_isImage_134 rfl rfl ?_
        refine q_getx fl_X11_14 hO1 sh_0 rfl fx_0_0 dX11_isImage_135 ?_
        refine q_iconst dX11_isImage_138 ?_
        refine q_callVi (As := [.inl 2]) hO1 mb_X10_at mv_X10_at ml_X11_322 sh_1 rfl dX11_isImage_139 (fun _ => rfl) rfl (Nat.le_of_ble_eq_true rfl) rfl (Nat.le_of_ble_eq_true rfl) (tX10_at 1 2 M1 hO1 sh_1) (fun x22 M2 _ hO2 => ?_)
        refine q_bipush dX11_isImage_142 (by decide) ?_
        refine q_icmpgt (tgt := 171) dX11_isImage_144 (by decide) ?_ ?_
        · refine q_iconst dX11_isImage_171 ?_
          exact q_ret ⟨dX11_isImage_172, by decide⟩ rfl
        · refine q_aload_n 0 dX11_isImage_147 rfl rfl ?_
          refine q_getx fl_X11_14 hO2 sh_0 rfl fx_0_0 dX11_isImage_148 ?_
          refine q_iconst dX11_isImage_151 ?_
          refine q_callVi (As := [.inl 3]) hO2 mb_X10_at mv_X10_at ml_X11_322 sh_1 rfl dX11_isImage_152 (fun _ => rfl) rfl (Nat.le_of_ble_eq_true rfl) rfl (Nat.le_of_ble_eq_true rfl) (tX10_at 1 3 M2 hO2 sh_1) (fun x23 M3 _ hO3 => ?_)
          refine q_iconst dX11_isImage_155 ?_
          refine q_aload_n 0 dX11_isImage_156 rfl rfl ?_
          refine q_gettL fl_X11_90 hO3 sh_0 rfl tr_0_11 dX11_isImage_157 (fun r22 _ hr22 => ?_)
          refine q_geti fl_X11_145 hr22 (q_inO hO3 hr22) rfl dX11_isImage_160 ?_
          refine q_ishl dX11_isImage_163 ?_
          refine q_icmpge (tgt := 171) dX11_isImage_164 (by decide) ?_ ?_
          · refine q_iconst dX11_isImage_171 ?_
            exact q_ret ⟨dX11_isImage_172, by decide⟩ rfl
          · refine q_iconst dX11_isImage_167 ?_
            refine q_goto (tgt := 172) dX11_isImage_168 (by decide) ?_
            exact q_ret ⟨dX11_isImage_172, by decide⟩ rfl
    · refine q_aload_n 0 dX11_isImage_86 rfl rfl ?_
      refine q_getx fl_X11_14 hO sh_0 rfl fx_0_0 dX11_isImage_87 ?_
      refine q_iconst dX11_isImage_90 ?_
      refine q_iconst dX11_isImage_91 ?_
      refine q_iload_n 2 dX11_isImage_92 rfl rfl ?_
      refine q_imul dX11_isImage_93 ?_
      refine q_iadd dX11_isImage_94 ?_
      refine q_callVi (As := [.inl (5 + (2 * x2))]) hO mb_X10_twoAt mv_X10_twoAt ml_X11_341 sh_1 rfl dX11_isImage_95 (fun _ => rfl) rfl (Nat.le_of_ble_eq_true rfl) rfl (Nat.le_of_ble_eq_true rfl) (tX10_twoAt (by omega) 1 (5 + (2 * x2)) M hO sh_1) (fun x24 M4 _ hO4 => ?_)
      refine q_aload_n 0 dX11_isImage_98 rfl rfl ?_
      refine q_gettL fl_X11_90 hO4 sh_0 rfl tr_0_11 dX11_isImage_99 (fun r23 _ hr23 => ?_)
      refine q_geti fl_X11_142 hr23 (q_inO hO4 hr23) rfl dX11_isImage_102 ?_
      refine q_icmple (tgt := 110) dX11_isImage_105 (by decide) ?_ ?_
      · refine q_iinc (ls' := [(2, .inl (x2 + 1)), (0, .inr (.inr 0)), (1, .inl x1)]) 2 dX11_isImage_110 rfl (by decide) rfl ?_
        refine q_goto (tgt := 81) dX11_isImage_113 (by decide) ?_
        refine q_sub [1, 2, 0] rfl ?_
        exact ih x1 (x2 + 1) M4 hO4
      · refine q_iconst dX11_isImage_108 ?_
        exact q_ret ⟨dX11_isImage_109, by decide⟩ rfl
def fX11_isImage (M : q_Mem) : Option (Int × q_Mem) := q_bd (fX10_at 1 4 M) fun x21 M1 => if q_w x21 = q_w (-1) then (some (0, M1)) else (q_bd (fX1_imageLength x21 M1) fun x22 M2 => if q_w (M1.2 1 1) = q_w x22 then (q_let (M2.2 0 11).toNat fun r21 => if q_w 16 < q_w ((M2.2 r21 11) + x21) then (some (0, M2)) else (q_bd (fX10_at 1 ((M2.2 1 1) - 1) M2) fun x23 M3 => q_bd (fX10_check 1 ((M3.2 1 1) - 1) M3) fun x24 M4 => if q_w x23 = q_w x24 then ((fX11_isImage_81 q_FU x21 0 M4)) else (some (0, M4)))) else (some (0, M2)))
theorem tX11_isImage {d : Nat} (hd : 2 ≤ d) (M : q_Mem) (hO : q_Ok M) : q_EX d yX11_isImage cX11_isImage 3 (some .boolean) 0 (q_args 0 [.inr (.inr 0)]) [] M (fX11_isImage M) := by
  obtain ⟨d, rfl⟩ : ∃ d', d = d' + 1 := ⟨d - 1, by omega⟩
  have hd : 1 ≤ d := by omega
  show q_EX _ _ _ _ _ 0 [(0, .inr (.inr 0))] [] M _
  unfold fX11_isImage
  refine q_aload_n 0 dX11_isImage_0 rfl rfl ?_
  refine q_getx fl_X11_14 hO sh_0 rfl fx_0_0 dX11_isImage_1 ?_
  refine q_iconst dX11_isImage_4 ?_
  refine q_callVi (As := [.inl 4]) hO mb_X10_at mv_X10_at ml_X11_322 sh_1 rfl dX11_isImage_5 (fun _ => rfl) rfl (Nat.le_of_ble_eq_true rfl) rfl (Nat.le_of_ble_eq_true rfl) (tX10_at 1 4 M hO sh_1) (fun x21 M1 _ hO1 => ?_)
  refine q_istore_n (ls' := [(1, .inl x21), (0, .inr (.inr 0))]) dX11_isImage_8 rfl (by decide) rfl ?_
  refine q_iload_n 0 dX11_isImage_9 rfl rfl ?_
  refine q_iconst dX11_isImage_10 ?_
  refine q_icmpeq (tgt := 77) dX11_isImage_11 (by decide) ?_ ?_
  · refine q_iconst dX11_isImage_77 ?_
    exact q_ret ⟨dX11_isImage_78, by decide⟩ rfl
  · refine q_aload_n 1 dX11_isImage_14 rfl rfl ?_
    refine q_getx fl_X11_14 hO1 sh_0 rfl fx_0_0 dX11_isImage_15 ?_
    refine q_geti fl_X11_113 sh_1 (q_inO hO1 sh_1) rfl dX11_isImage_18 ?_
    refine q_iload_n 0 dX11_isImage_21 rfl rfl ?_
    refine q_callSi (As := [.inl x21]) hO1 mb_X1_imageLength ms_X1_imageLength ml_X11_335 dX11_isImage_22 (fun _ => rfl) rfl (Nat.le_of_ble_eq_true rfl) rfl (Nat.le_of_ble_eq_true rfl) (tX1_imageLength x21 M1 hO1) (fun x22 M2 _ hO2 => ?_)
    refine q_icmpne (tgt := 77) dX11_isImage_25 (by decide) ?_ ?_
    · refine q_iconst dX11_isImage_77 ?_
      exact q_ret ⟨dX11_isImage_78, by decide⟩ rfl
    · refine q_aload_n 1 dX11_isImage_28 rfl rfl ?_
      refine q_gettL fl_X11_90 hO2 sh_0 rfl tr_0_11 dX11_isImage_29 (fun r21 _ hr21 => ?_)
      refine q_geti fl_X11_151 hr21 (q_inO hO2 hr21) rfl dX11_isImage_32 ?_
      refine q_iload_n 0 dX11_isImage_35 rfl rfl ?_
      refine q_iadd dX11_isImage_36 ?_
      refine q_bipush dX11_isImage_37 (by decide) ?_
      refine q_icmpgt (tgt := 77) dX11_isImage_39 (by decide) ?_ ?_
      · refine q_iconst dX11_isImage_77 ?_
        exact q_ret ⟨dX11_isImage_78, by decide⟩ rfl
      · refine q_aload_n 1 dX11_isImage_42 rfl rfl ?_
        refine q_getx fl_X11_14 hO2 sh_0 rfl fx_0_0 dX11_isImage_43 ?_
        refine q_aload_n 1 dX11_isImage_46 rfl rfl ?_
        refine q_getx fl_X11_14 hO2 sh_0 rfl fx_0_0 dX11_isImage_47 ?_
        refine q_geti fl_X11_113 sh_1 (q_inO hO2 sh_1) rfl dX11_isImage_50 ?_
        refine q_iconst dX11_isImage_53 ?_
        refine q_isub dX11_isImage_54 ?_
        refine q_callVi (As := [.inl ((M2.2 1 1) - 1)]) hO2 mb_X10_at mv_X10_at ml_X11_322 sh_1 rfl dX11_isImage_55 (fun _ => rfl) rfl (Nat.le_of_ble_eq_true rfl) rfl (Nat.le_of_ble_eq_true rfl) (tX10_at 1 ((M2.2 1 1) - 1) M2 hO2 sh_1) (fun x23 M3 _ hO3 => ?_)
        refine q_aload_n 1 dX11_isImage_58 rfl rfl ?_
        refine q_getx fl_X11_14 hO3 sh_0 rfl fx_0_0 dX11_isImage_59 ?_
        refine q_aload_n 1 dX11_isImage_62 rfl rfl ?_
        refine q_getx fl_X11_14 hO3 sh_0 rfl fx_0_0 dX11_isImage_63 ?_
        refine q_geti fl_X11_113 sh_1 (q_inO hO3 sh_1) rfl dX11_isImage_66 ?_
        refine q_iconst dX11_isImage_69 ?_
        refine q_isub dX11_isImage_70 ?_
        refine q_callVi (As := [.inl ((M3.2 1 1) - 1)]) hO3 mb_X10_check mv_X10_check ml_X11_338 sh_1 rfl dX11_isImage_71 (fun _ => rfl) rfl (Nat.le_of_ble_eq_true rfl) rfl (Nat.le_of_ble_eq_true rfl) (tX10_check (by omega) 1 ((M3.2 1 1) - 1) M3 hO3 sh_1) (fun x24 M4 _ hO4 => ?_)
        refine q_icmpeq (tgt := 79) dX11_isImage_74 (by decide) ?_ ?_
        · refine q_iconst dX11_isImage_79 ?_
          refine q_istore_n (ls' := [(2, .inl 0), (1, .inl x21), (0, .inr (.inr 0))]) dX11_isImage_80 rfl (by decide) rfl ?_
          refine q_sub [2, 1, 0] rfl ?_
          exact tX11_isImage_81 hd q_FU x21 0 M4 hO4
        · refine q_iconst dX11_isImage_77 ?_
          exact q_ret ⟨dX11_isImage_78, by decide⟩ rfl
def fX11_on_58 (x1 : Int) (M : q_Mem) : Option (Int × q_Mem) := q_let (q_up M 1 1 0) fun M1 => if x1 = 0 ∨ x1 = 1 then some (x1, M1) else none
theorem tX11_on_58 {d : Nat} (hd : 2 ≤ d) (x1 : Int) (M : q_Mem) (hO : q_Ok M) : q_EX (d + 1) yX11_on cX11_on 2 (some .boolean) 58 [(0, .inr (.inr 0)), (1, .inl x1)] [] M (fX11_on_58 x1 M) := by
  unfold fX11_on_58
  refine q_aload_n 0 dX11_on_58 rfl rfl ?_
  refine q_getx fl_X11_14 hO sh_0 rfl fx_0_0 dX11_on_59 ?_
  refine q_iconst dX11_on_62 ?_
  refine q_puti fl_X11_113 sh_1 (q_inO hO sh_1) (fun h => q_Ok_put h sh_1 rfl) rfl dX11_on_63 (fun M1 hM1 => ?_)
  have hO1 : q_Ok M1 := by rw [hM1]; exact q_Ok_put hO sh_1 rfl
  refine q_iload_n 1 dX11_on_66 rfl rfl ?_
  exact q_retz dX11_on_67 rfl
def fX11_on_22 (s0 : Int) (M : q_Mem) : Option (Int × q_Mem) := if q_w s0 = 0 then (q_bd (fX11_refuse 5 M) fun x21 M1 => (fX11_on_58 s0 M1)) else (q_bd (fX1_read 1 M) fun _ M2 => q_bd (fX5_markClouds M2) fun _ M3 => (fX11_on_58 s0 M3))
theorem tX11_on_22 {d : Nat} (hd : 2 ≤ d) (s0 : Int) (M : q_Mem) (hO : q_Ok M) : q_EX (d + 1) yX11_on cX11_on 2 (some .boolean) 22 [(0, .inr (.inr 0))] [.inl s0] M (fX11_on_22 s0 M) := by
  unfold fX11_on_22
  refine q_istore_n (ls' := [(1, .inl s0), (0, .inr (.inr 0))]) dX11_on_22 rfl (by decide) rfl ?_
  refine q_iload_n 0 dX11_on_23 rfl rfl ?_
  refine q_ifeq (tgt := 52) dX11_on_24 (by decide) ?_ ?_
  · refine q_aload_n 1 dX11_on_52 rfl rfl ?_
    refine q_iconst dX11_on_53 ?_
    refine q_callVi (As := [.inl 5]) hO mb_X11_refuse mv_X11_refuse ml_X11_116 sh_0 rfl dX11_on_54 (fun _ => rfl) rfl (Nat.le_of_ble_eq_true rfl) rfl (Nat.le_of_ble_eq_true rfl) (tX11_refuse 5 M hO) (fun x21 M1 _ hO1 => ?_)
    refine q_pop dX11_on_57 rfl ?_
    refine q_sub [1, 0] rfl ?_
    exact tX11_on_58 hd s0 M1 hO1
  · refine q_aload_n 1 dX11_on_27 rfl rfl ?_
    refine q_getx fl_X11_58 hO sh_0 rfl fx_0_6 dX11_on_28 ?_
    refine q_aload_n 1 dX11_on_31 rfl rfl ?_
    refine q_getx fl_X11_14 hO sh_0 rfl fx_0_0 dX11_on_32 ?_
    refine q_callVv (As := [.inr (.inr 1)]) hO mb_X1_read mv_X1_read ml_X11_329 sh_10 rfl dX11_on_35 (fun _ => rfl) rfl (Nat.le_of_ble_eq_true rfl) rfl (Nat.le_of_ble_eq_true rfl) (tX1_read (by omega) 1 M hO sh_1) (fun _ M2 _ hO2 => ?_)
    refine q_aload_n 1 dX11_on_38 rfl rfl ?_
    refine q_getx fl_X11_102 hO2 sh_0 rfl fx_0_13 dX11_on_39 ?_
    refine q_aload_n 1 dX11_on_42 rfl rfl ?_
    refine q_getx fl_X11_58 hO2 sh_0 rfl fx_0_6 dX11_on_43 ?_
    refine q_callVv (As := [.inr (.inr 10)]) hO2 mb_X5_markClouds mv_X5_markClouds ml_X11_138 sh_87 rfl dX11_on_46 (fun _ => rfl) rfl (Nat.le_of_ble_eq_true rfl) rfl (Nat.le_of_ble_eq_true rfl) (tX5_markClouds (by omega) M2 hO2) (fun _ M3 _ hO3 => ?_)
    refine q_goto (tgt := 58) dX11_on_49 (by decide) ?_
    refine q_sub [1, 0] rfl ?_
    exact tX11_on_58 hd s0 M3 hO3
def fX11_on_21 (M : q_Mem) : Option (Int × q_Mem) := (fX11_on_22 0 M)
theorem tX11_on_21 {d : Nat} (hd : 2 ≤ d) (M : q_Mem) (hO : q_Ok M) : q_EX (d + 1) yX11_on cX11_on 2 (some .boolean) 21 [(0, .inr (.inr 0))] [] M (fX11_on_21 M) := by
  unfold fX11_on_21
  refine q_iconst dX11_on_21 ?_
  refine q_sub [0] rfl ?_
  exact tX11_on_22 hd 0 M hO
def fX11_on (M : q_Mem) : Option (Int × q_Mem) := q_let (M.2 0 11).toNat fun r21 => if 0 < q_w (M.2 r21 0) then (q_bd (fX11_isImage M) fun x21 M1 => if q_w x21 = 0 then ((fX11_on_21 M1)) else ((fX11_on_22 1 M1))) else ((fX11_on_21 M))
theorem tX11_on {d : Nat} (hd : 3 ≤ d) (M : q_Mem) (hO : q_Ok M) : q_EX d yX11_on cX11_on 2 (some .boolean) 0 (q_args 0 [.inr (.inr 0)]) [] M (fX11_on M) := by
  obtain ⟨d, rfl⟩ : ∃ d', d = d' + 1 := ⟨d - 1, by omega⟩
  have hd : 2 ≤ d := by omega
  show q_EX _ _ _ _ _ 0 [(0, .inr (.inr 0))] [] M _
  unfold fX11_on
  refine q_aload_n 0 dX11_on_0 rfl rfl ?_
  refine q_gettL fl_X11_90 hO sh_0 rfl tr_0_11 dX11_on_1 (fun r21 _ hr21 => ?_)
  refine q_geti fl_X11_142 hr21 (q_inO hO hr21) rfl dX11_on_4 ?_
  refine q_ifle (tgt := 21) dX11_on_7 (by decide) ?_ ?_
  · refine q_sub [0] rfl ?_
    exact tX11_on_21 hd M hO
  · refine q_aload_n 0 dX11_on_10 rfl rfl ?_
    refine q_callVi (As := []) hO mb_X11_isImage mv_X11_isImage ml_X11_325 sh_0 rfl dX11_on_11 (fun _ => rfl) rfl (Nat.le_of_ble_eq_true rfl) rfl (Nat.le_of_ble_eq_true rfl) (tX11_isImage (by omega) M hO) (fun x21 M1 _ hO1 => ?_)
    refine q_ifeq (tgt := 21) dX11_on_14 (by decide) ?_ ?_
    · refine q_sub [0] rfl ?_
      exact tX11_on_21 hd M1 hO1
    · refine q_iconst dX11_on_17 ?_
      refine q_goto (tgt := 22) dX11_on_18 (by decide) ?_
      refine q_sub [0] rfl ?_
      exact tX11_on_22 hd 1 M1 hO1
def fX11_status (x1 : Int) (M : q_Mem) : Option (Int × q_Mem) := if q_w x1 < 0 then (some ((-1), M)) else (if q_w x1 < q_w 6 then ((q_ld M 56 6 x1).bind fun x21 => some (x21, M)) else (some ((-1), M)))
theorem tX11_status {d : Nat} (x1 : Int) (M : q_Mem) (hO : q_Ok M) : q_EX d yX11_status cX11_status 2 (some .int) 0 (q_args 0 [.inr (.inr 0), .inl x1]) [] M (fX11_status x1 M) := by
  show q_EX _ _ _ _ _ 0 [(0, .inr (.inr 0)), (1, .inl x1)] [] M _
  unfold fX11_status
  refine q_iload_n 1 dX11_status_0 rfl rfl ?_
  refine q_iflt (tgt := 19) dX11_status_1 (by decide) ?_ ?_
  · refine q_iconst dX11_status_19 ?_
    exact q_ret dX11_status_20 rfl
  · refine q_iload_n 1 dX11_status_4 rfl rfl ?_
    refine q_bipush dX11_status_5 (by decide) ?_
    refine q_icmpge (tgt := 19) dX11_status_7 (by decide) ?_ ?_
    · refine q_iconst dX11_status_19 ?_
      exact q_ret dX11_status_20 rfl
    · refine q_aload_n 0 dX11_status_10 rfl rfl ?_
      refine q_getx fl_X11_83 hO sh_0 rfl fx_0_10 dX11_status_11 ?_
      refine q_iload_n 1 dX11_status_14 rfl rfl ?_
      refine q_iald sh_56 (q_inA hO sh_56 (by decide)) dX11_status_15 (fun x21 _ _ _ => ?_)
      refine q_goto (tgt := 20) dX11_status_16 (by decide) ?_
      exact q_ret dX11_status_20 rfl
def fX12_isIn (x0 : Int) (x2 : Int) (x4 : Int) (M : q_Mem) : Option (Int × q_Mem) := if q_w (q_lcmp x0 x2) < 0 then (some (0, M)) else (if 0 < q_w (q_lcmp x0 x4) then (some (0, M)) else (some (1, M)))
theorem tX12_isIn {d : Nat} (x0 : Int) (x2 : Int) (x4 : Int) (M : q_Mem) (hO : q_Ok M) : q_EX d yX12_isIn cX12_isIn 6 (some .boolean) 0 (q_args 0 [.inr (.inl x0), .inr (.inl x2), .inr (.inl x4)]) [] M (fX12_isIn x0 x2 x4 M) := by
  show q_EX _ _ _ _ _ 0 [(0, .inr (.inl x0)), (2, .inr (.inl x2)), (4, .inr (.inl x4))] [] M _
  unfold fX12_isIn
  refine q_lload_n 0 dX12_isIn_0 rfl rfl ?_
  refine q_lload_n 1 dX12_isIn_1 rfl rfl ?_
  refine q_lcmpR dX12_isIn_2 ?_
  refine q_iflt (tgt := 17) dX12_isIn_3 (by decide) ?_ ?_
  · refine q_iconst dX12_isIn_17 ?_
    exact q_ret ⟨dX12_isIn_18, by decide⟩ rfl
  · refine q_lload_n 0 dX12_isIn_6 rfl rfl ?_
    refine q_lload 2 dX12_isIn_7 rfl ?_
    refine q_lcmpR dX12_isIn_9 ?_
    refine q_ifgt (tgt := 17) dX12_isIn_10 (by decide) ?_ ?_
    · refine q_iconst dX12_isIn_17 ?_
      exact q_ret ⟨dX12_isIn_18, by decide⟩ rfl
    · refine q_iconst dX12_isIn_13 ?_
      refine q_goto (tgt := 18) dX12_isIn_14 (by decide) ?_
      exact q_ret ⟨dX12_isIn_18, by decide⟩ rfl
def fX12_feed_81 (K28 : Int → Int → Int → Int → Int → Int → q_Mem → Option (Int × q_Mem)) (x1 : Int) (x2 : Int) (x3 : Int) (x4 : Int) (x5 : Int) (x6 : Int) (s0 : Int) (M : q_Mem) : Option (Int × q_Mem) := (q_sto M 95 1600 (M.2 94 1) (q_and (q_shr s0 (8 * (3 - (q_rem x6 4)))) 255)).bind fun M1 => q_let (q_up M1 94 1 ((M1.2 94 1) + 1)) fun M2 => (K28 x1 x2 x3 x4 x5 (x6 + 1) M2)
theorem tX12_feed_81 {d : Nat} (K28 : Int → Int → Int → Int → Int → Int → q_Mem → Option (Int × q_Mem)) (hK28 : ∀ (x1 : Int) (x2 : Int) (x3 : Int) (x4 : Int) (x5 : Int) (x6 : Int) (M : q_Mem), q_Ok M → q_EX d yX12_feed cX12_feed 8 (some .int) 28 [(0, .inr (.inr 94)), (1, .inl x1), (2, .inl x2), (3, .inl x3), (4, .inl x4), (5, .inl x5), (6, .inl x6)] [] M (K28 x1 x2 x3 x4 x5 x6 M)) (x1 : Int) (x2 : Int) (x3 : Int) (x4 : Int) (x5 : Int) (x6 : Int) (s0 : Int) (M : q_Mem) (hO : q_Ok M) : q_EX d yX12_feed cX12_feed 8 (some .int) 81 [(0, .inr (.inr 94)), (1, .inl x1), (2, .inl x2), (3, .inl x3), (4, .inl x4), (5, .inl x5), (6, .inl x6)] [.inl s0] M (fX12_feed_81 K28 x1 x2 x3 x4 x5 x6 s0 M) := by
  unfold fX12_feed_81
  refine q_istore (ls' := [(7, .inl s0), (0, .inr (.inr 94)), (1, .inl x1), (2, .inl x2), (3, .inl x3), (4, .inl x4), (5, .inl x5), (6, .inl x6)]) dX12_feed_81 (by decide) rfl ?_
  refine q_aload_n 1 dX12_feed_83 rfl rfl ?_
  refine q_getx fl_X12_7 hO sh_94 rfl fx_94_0 dX12_feed_84 ?_
  refine q_aload_n 1 dX12_feed_87 rfl rfl ?_
  refine q_geti fl_X12_234 sh_94 (q_inO hO sh_94) rfl dX12_feed_88 ?_
  refine q_iload 0 dX12_feed_91 rfl ?_
  refine q_bipush dX12_feed_93 (by decide) ?_
  refine q_iconst dX12_feed_95 ?_
  refine q_iload 7 dX12_feed_96 rfl ?_
  refine q_iconst dX12_feed_98 ?_
  refine q_irem dX12_feed_99 (by decide) ?_
  refine q_isub dX12_feed_100 ?_
  refine q_imul dX12_feed_101 ?_
  refine q_ishr dX12_feed_102 ?_
  refine q_sipush dX12_feed_103 (by decide) ?_
  refine q_iand dX12_feed_106 ?_
  refine q_iast sh_95 (q_inA hO sh_95 (by decide)) dX12_feed_107 (fun M1 _ _ hM1 => ?_)
  have hO1 : q_Ok M1 := by rw [hM1]; exact q_Ok_arr (t := 0) hO sh_95 (by decide)
  refine q_aload_n 1 dX12_feed_108 rfl rfl ?_
  refine q_dup dX12_feed_109 rfl ?_
  refine q_geti fl_X12_234 sh_94 (q_inO hO1 sh_94) rfl dX12_feed_110 ?_
  refine q_iconst dX12_feed_113 ?_
  refine q_iadd dX12_feed_114 ?_
  refine q_puti fl_X12_234 sh_94 (q_inO hO1 sh_94) (fun h => q_Ok_put h sh_94 rfl) rfl dX12_feed_115 (fun M2 hM2 => ?_)
  have hO2 : q_Ok M2 := by rw [hM2]; exact q_Ok_put hO1 sh_94 rfl
  refine q_iinc (ls' := [(6, .inl (x6 + 1)), (7, .inl s0), (0, .inr (.inr 94)), (1, .inl x1), (2, .inl x2), (3, .inl x3), (4, .inl x4), (5, .inl x5)]) 7 dX12_feed_118 rfl (by decide) rfl ?_
  refine q_goto (tgt := 28) dX12_feed_121 (by decide) ?_
  refine q_sub [2, 3, 4, 5, 6, 7, 0] rfl ?_
  exact hK28 x1 x2 x3 x4 x5 (x6 + 1) M2 hO2
def fX12_feed_28  : Nat → Int → Int → Int → Int → Int → Int → q_Mem → Option (Int × q_Mem)
  | 0, _, _, _, _, _, _, _ => none
  | n + 1, x1, x2, x3, x4, x5, x6, M => if q_w x6 < q_w 20 then (if q_w x6 < q_w 4 then ((fX12_feed_81 (fX12_feed_28 n) x1 x2 x3 x4 x5 x6 x1 M)) else (if q_w x6 < q_w 8 then ((fX12_feed_81 (fX12_feed_28 n) x1 x2 x3 x4 x5 x6 x2 M)) else (if q_w x6 < q_w 12 then ((fX12_feed_81 (fX12_feed_28 n) x1 x2 x3 x4 x5 x6 x3 M)) else (if q_w x6 < q_w 16 then ((fX12_feed_81 (fX12_feed_28 n) x1 x2 x3 x4 x5 x6 x4 M)) else ((fX12_feed_81 (fX12_feed_28 n) x1 x2 x3 x4 x5 x6 x5 M)))))) else (some ((M.2 94 1), M))
theorem tX12_feed_28 {d : Nat} : ∀ (n : Nat) (x1 : Int) (x2 : Int) (x3 : Int) (x4 : Int) (x5 : Int) (x6 : Int) (M : q_Mem), q_Ok M → q_EX d yX12_feed cX12_feed 8 (some .int) 28 [(0, .inr (.inr 94)), (1, .inl x1), (2, .inl x2), (3, .inl x3), (4, .inl x4), (5, .inl x5), (6, .inl x6)] [] M (fX12_feed_28 n x1 x2 x3 x4 x5 x6 M) := by
  intro n
  induction n with
  | zero => intro x1 x2 x3 x4 x5 x6 M hO; exact q_none
  | succ n ih =>
    intro x1 x2 x3 x4 x5 x6 M hO
    rw [fX12_feed_28]
    refine q_iload 6 dX12_feed_28 rfl ?_
    refine q_bipush dX12_feed_30 (by decide) ?_
    refine q_icmpge (tgt := 124) dX12_feed_32 (by decide) ?_ ?_
    · refine q_aload_n 0 dX12_feed_124 rfl rfl ?_
      refine q_geti fl_X12_234 sh_94 (q_inO hO sh_94) rfl dX12_feed_125 ?_
      exact q_ret dX12_feed_128 rfl
    · refine q_iload 6 dX12_feed_35 rfl ?_
      refine q_iconst dX12_feed_37 ?_
      refine q_icmpge (tgt := 45) dX12_feed_38 (by decide) ?_ ?_
      · refine q_iload 6 dX12_feed_45 rfl ?_
        refine q_bipush dX12_feed_47 (by decide) ?_
        refine q_icmpge (tgt := 56) dX12_feed_49 (by decide) ?_ ?_
        · refine q_iload 6 dX12_feed_56 rfl ?_
          refine q_bipush dX12_feed_58 (by decide) ?_
          refine q_icmpge (tgt := 67) dX12_feed_60 (by decide) ?_ ?_
          · refine q_iload 6 dX12_feed_67 rfl ?_
            refine q_bipush dX12_feed_69 (by decide) ?_
            refine q_icmpge (tgt := 79) dX12_feed_71 (by decide) ?_ ?_
            · refine q_iload 5 dX12_feed_79 rfl ?_
              refine q_sub [0, 1, 2, 3, 4, 5, 6] rfl ?_
              exact tX12_feed_81 (fX12_feed_28 n) ih x1 x2 x3 x4 x5 x6 x5 M hO
            · refine q_iload 4 dX12_feed_74 rfl ?_
              refine q_goto (tgt := 81) dX12_feed_76 (by decide) ?_
              refine q_sub [0, 1, 2, 3, 4, 5, 6] rfl ?_
              exact tX12_feed_81 (fX12_feed_28 n) ih x1 x2 x3 x4 x5 x6 x4 M hO
          · refine q_iload_n 3 dX12_feed_63 rfl rfl ?_
            refine q_goto (tgt := 81) dX12_feed_64 (by decide) ?_
            refine q_sub [0, 1, 2, 3, 4, 5, 6] rfl ?_
            exact tX12_feed_81 (fX12_feed_28 n) ih x1 x2 x3 x4 x5 x6 x3 M hO
        · refine q_iload_n 2 dX12_feed_52 rfl rfl ?_
          refine q_goto (tgt := 81) dX12_feed_53 (by decide) ?_
          refine q_sub [0, 1, 2, 3, 4, 5, 6] rfl ?_
          exact tX12_feed_81 (fX12_feed_28 n) ih x1 x2 x3 x4 x5 x6 x2 M hO
      · refine q_iload_n 1 dX12_feed_41 rfl rfl ?_
        refine q_goto (tgt := 81) dX12_feed_42 (by decide) ?_
        refine q_sub [0, 1, 2, 3, 4, 5, 6] rfl ?_
        exact tX12_feed_81 (fX12_feed_28 n) ih x1 x2 x3 x4 x5 x6 x1 M hO
def fX12_feed (x1 : Int) (x2 : Int) (x3 : Int) (x4 : Int) (x5 : Int) (M : q_Mem) : Option (Int × q_Mem) := if q_w 1600 < q_w ((M.2 94 1) + 20) then ((q_ld M 96 6 0).bind fun x21 => (q_sto M 96 6 0 (x21 + 1)).bind fun M1 => some ((-1), M1)) else ((fX12_feed_28 q_FU x1 x2 x3 x4 x5 0 M))
theorem tX12_feed {d : Nat} (x1 : Int) (x2 : Int) (x3 : Int) (x4 : Int) (x5 : Int) (M : q_Mem) (hO : q_Ok M) : q_EX d yX12_feed cX12_feed 8 (some .int) 0 (q_args 0 [.inr (.inr 94), .inl x1, .inl x2, .inl x3, .inl x4, .inl x5]) [] M (fX12_feed x1 x2 x3 x4 x5 M) := by
  show q_EX _ _ _ _ _ 0 [(0, .inr (.inr 94)), (1, .inl x1), (2, .inl x2), (3, .inl x3), (4, .inl x4), (5, .inl x5)] [] M _
  unfold fX12_feed
  refine q_aload_n 0 dX12_feed_0 rfl rfl ?_
  refine q_geti fl_X12_234 sh_94 (q_inO hO sh_94) rfl dX12_feed_1 ?_
  refine q_bipush dX12_feed_4 (by decide) ?_
  refine q_iadd dX12_feed_6 ?_
  refine q_sipush dX12_feed_7 (by decide) ?_
  refine q_icmple (tgt := 25) dX12_feed_10 (by decide) ?_ ?_
  · refine q_iconst dX12_feed_25 ?_
    refine q_istore (ls' := [(6, .inl 0), (0, .inr (.inr 94)), (1, .inl x1), (2, .inl x2), (3, .inl x3), (4, .inl x4), (5, .inl x5)]) dX12_feed_26 (by decide) rfl ?_
    refine q_sub [1, 2, 3, 4, 5, 6, 0] rfl ?_
    exact tX12_feed_28 q_FU x1 x2 x3 x4 x5 0 M hO
  · refine q_aload_n 0 dX12_feed_13 rfl rfl ?_
    refine q_getx fl_X12_17 hO sh_94 rfl fx_94_9 dX12_feed_14 ?_
    refine q_iconst dX12_feed_17 ?_
    refine q_dup2 dX12_feed_18 rfl rfl ?_
    refine q_iald sh_96 (q_inA hO sh_96 (by decide)) dX12_feed_19 (fun x21 _ _ _ => ?_)
    refine q_iconst dX12_feed_20 ?_
    refine q_iadd dX12_feed_21 ?_
    refine q_iast sh_96 (q_inA hO sh_96 (by decide)) dX12_feed_22 (fun M1 _ _ hM1 => ?_)
    have hO1 : q_Ok M1 := by rw [hM1]; exact q_Ok_arr (t := 0) hO sh_96 (by decide)
    refine q_iconst dX12_feed_23 ?_
    exact q_ret dX12_feed_24 rfl
def fX12_end_12 (M : q_Mem) : Option (Int × q_Mem) := (q_ld M 96 6 0).bind fun x21 => (q_sto M 96 6 0 (x21 + 1)).bind fun M1 => some (0, M1)
theorem tX12_end_12 {d : Nat} (M : q_Mem) (hO : q_Ok M) : q_EX d yX12_end cX12_end 2 (some .boolean) 12 [(0, .inr (.inr 94))] [] M (fX12_end_12 M) := by
  unfold fX12_end_12
  refine q_aload_n 0 dX12_end_12 rfl rfl ?_
  refine q_getx fl_X12_17 hO sh_94 rfl fx_94_9 dX12_end_13 ?_
  refine q_iconst dX12_end_16 ?_
  refine q_dup2 dX12_end_17 rfl rfl ?_
  refine q_iald sh_96 (q_inA hO sh_96 (by decide)) dX12_end_18 (fun x21 _ _ _ => ?_)
  refine q_iconst dX12_end_19 ?_
  refine q_iadd dX12_end_20 ?_
  refine q_iast sh_96 (q_inA hO sh_96 (by decide)) dX12_end_21 (fun M1 _ _ hM1 => ?_)
  have hO1 : q_Ok M1 := by rw [hM1]; exact q_Ok_arr (t := 0) hO sh_96 (by decide)
  refine q_iconst dX12_end_22 ?_
  exact q_ret ⟨dX12_end_23, by decide⟩ rfl
def fX12_end (x1 : Int) (M : q_Mem) : Option (Int × q_Mem) := if q_w x1 < 0 then ((fX12_end_12 M)) else (if q_w (M.2 94 1) < q_w x1 then ((fX12_end_12 M)) else (q_let (q_up M 94 1 x1) fun M1 => some (1, M1)))
theorem tX12_end {d : Nat} (x1 : Int) (M : q_Mem) (hO : q_Ok M) : q_EX d yX12_end cX12_end 2 (some .boolean) 0 (q_args 0 [.inr (.inr 94), .inl x1]) [] M (fX12_end x1 M) := by
  show q_EX _ _ _ _ _ 0 [(0, .inr (.inr 94)), (1, .inl x1)] [] M _
  unfold fX12_end
  refine q_iload_n 1 dX12_end_0 rfl rfl ?_
  refine q_iflt (tgt := 12) dX12_end_1 (by decide) ?_ ?_
  · refine q_sub [0] rfl ?_
    exact tX12_end_12 M hO
  · refine q_iload_n 1 dX12_end_4 rfl rfl ?_
    refine q_aload_n 0 dX12_end_5 rfl rfl ?_
    refine q_geti fl_X12_234 sh_94 (q_inO hO sh_94) rfl dX12_end_6 ?_
    refine q_icmple (tgt := 24) dX12_end_9 (by decide) ?_ ?_
    · refine q_aload_n 0 dX12_end_24 rfl rfl ?_
      refine q_iload_n 1 dX12_end_25 rfl rfl ?_
      refine q_puti fl_X12_234 sh_94 (q_inO hO sh_94) (fun h => q_Ok_put h sh_94 rfl) rfl dX12_end_26 (fun M1 hM1 => ?_)
      have hO1 : q_Ok M1 := by rw [hM1]; exact q_Ok_put hO sh_94 rfl
      refine q_iconst dX12_end_29 ?_
      exact q_ret ⟨dX12_end_30, by decide⟩ rfl
    · refine q_sub [0] rfl ?_
      exact tX12_end_12 M hO
def fX12_fail (x1 : Int) (x2 : Int) (M : q_Mem) : Option (Int × q_Mem) := if q_w (M.2 94 5) = 0 then (q_let (q_up M 94 5 x1) fun M1 => q_let (q_up M1 94 6 x2) fun M2 => some (0, M2)) else (some (0, M))
theorem tX12_fail {d : Nat} (x1 : Int) (x2 : Int) (M : q_Mem) (hO : q_Ok M) : q_EX d yX12_fail cX12_fail 3 none 0 (q_args 0 [.inr (.inr 94), .inl x1, .inl x2]) [] M (fX12_fail x1 x2 M) := by
  show q_EX _ _ _ _ _ 0 [(0, .inr (.inr 94)), (1, .inl x1), (2, .inl x2)] [] M _
  unfold fX12_fail
  refine q_aload_n 0 dX12_fail_0 rfl rfl ?_
  refine q_geti fl_X12_237 sh_94 (q_inO hO sh_94) rfl dX12_fail_1 ?_
  refine q_ifeq (tgt := 8) dX12_fail_4 (by decide) ?_ ?_
  · refine q_aload_n 0 dX12_fail_8 rfl rfl ?_
    refine q_iload_n 1 dX12_fail_9 rfl rfl ?_
    refine q_puti fl_X12_237 sh_94 (q_inO hO sh_94) (fun h => q_Ok_put h sh_94 rfl) rfl dX12_fail_10 (fun M1 hM1 => ?_)
    have hO1 : q_Ok M1 := by rw [hM1]; exact q_Ok_put hO sh_94 rfl
    refine q_aload_n 0 dX12_fail_13 rfl rfl ?_
    refine q_iload_n 2 dX12_fail_14 rfl rfl ?_
    refine q_puti fl_X12_240 sh_94 (q_inO hO1 sh_94) (fun h => q_Ok_put h sh_94 rfl) rfl dX12_fail_15 (fun M2 hM2 => ?_)
    have hO2 : q_Ok M2 := by rw [hM2]; exact q_Ok_put hO1 sh_94 rfl
    exact q_ret dX12_fail_18 rfl
  · exact q_ret dX12_fail_7 rfl
def fX12_isLetter (x0 : Int) (M : q_Mem) : Option (Int × q_Mem) := if q_w x0 < q_w 97 then (some (0, M)) else (if q_w 122 < q_w x0 then (some (0, M)) else (some (1, M)))
theorem tX12_isLetter {d : Nat} (x0 : Int) (M : q_Mem) (hO : q_Ok M) : q_EX d yX12_isLetter cX12_isLetter 1 (some .boolean) 0 (q_args 0 [.inl x0]) [] M (fX12_isLetter x0 M) := by
  show q_EX _ _ _ _ _ 0 [(0, .inl x0)] [] M _
  unfold fX12_isLetter
  refine q_iload_n 0 dX12_isLetter_0 rfl rfl ?_
  refine q_bipush dX12_isLetter_1 (by decide) ?_
  refine q_icmplt (tgt := 16) dX12_isLetter_3 (by decide) ?_ ?_
  · refine q_iconst dX12_isLetter_16 ?_
    exact q_ret ⟨dX12_isLetter_17, by decide⟩ rfl
  · refine q_iload_n 0 dX12_isLetter_6 rfl rfl ?_
    refine q_bipush dX12_isLetter_7 (by decide) ?_
    refine q_icmpgt (tgt := 16) dX12_isLetter_9 (by decide) ?_ ?_
    · refine q_iconst dX12_isLetter_16 ?_
      exact q_ret ⟨dX12_isLetter_17, by decide⟩ rfl
    · refine q_iconst dX12_isLetter_12 ?_
      refine q_goto (tgt := 17) dX12_isLetter_13 (by decide) ?_
      exact q_ret ⟨dX12_isLetter_17, by decide⟩ rfl
def fX12_isDigit (x0 : Int) (M : q_Mem) : Option (Int × q_Mem) := if q_w x0 < q_w 48 then (some (0, M)) else (if q_w 57 < q_w x0 then (some (0, M)) else (some (1, M)))
theorem tX12_isDigit {d : Nat} (x0 : Int) (M : q_Mem) (hO : q_Ok M) : q_EX d yX12_isDigit cX12_isDigit 1 (some .boolean) 0 (q_args 0 [.inl x0]) [] M (fX12_isDigit x0 M) := by
  show q_EX _ _ _ _ _ 0 [(0, .inl x0)] [] M _
  unfold fX12_isDigit
  refine q_iload_n 0 dX12_isDigit_0 rfl rfl ?_
  refine q_bipush dX12_isDigit_1 (by decide) ?_
  refine q_icmplt (tgt := 16) dX12_isDigit_3 (by decide) ?_ ?_
  · refine q_iconst dX12_isDigit_16 ?_
    exact q_ret ⟨dX12_isDigit_17, by decide⟩ rfl
  · refine q_iload_n 0 dX12_isDigit_6 rfl rfl ?_
    refine q_bipush dX12_isDigit_7 (by decide) ?_
    refine q_icmpgt (tgt := 16) dX12_isDigit_9 (by decide) ?_ ?_
    · refine q_iconst dX12_isDigit_16 ?_
      exact q_ret ⟨dX12_isDigit_17, by decide⟩ rfl
    · refine q_iconst dX12_isDigit_12 ?_
      refine q_goto (tgt := 17) dX12_isDigit_13 (by decide) ?_
      exact q_ret ⟨dX12_isDigit_17, by decide⟩ rfl
def fX12_look_39 (K0 : q_Mem → Option (Int × q_Mem)) (M : q_Mem) : Option (Int × q_Mem) := q_let (q_up M 94 2 ((M.2 94 2) + 1)) fun M1 => (K0 M1)
theorem tX12_look_39 {d : Nat} (K0 : q_Mem → Option (Int × q_Mem)) (hK0 : ∀  (M : q_Mem), q_Ok M → q_EX d yX12_look cX12_look 1 (some .int) 0 [(0, .inr (.inr 94))] [] M (K0 M)) (M : q_Mem) (hO : q_Ok M) : q_EX d yX12_look cX12_look 1 (some .int) 39 [(0, .inr (.inr 94))] [] M (fX12_look_39 K0 M) := by
  unfold fX12_look_39
  refine q_aload_n 0 dX12_look_39 rfl rfl ?_
  refine q_dup dX12_look_40 rfl ?_
  refine q_geti fl_X12_243 sh_94 (q_inO hO sh_94) rfl dX12_look_41 ?_
  refine q_iconst dX12_look_44 ?_
  refine q_iadd dX12_look_45 ?_
  refine q_puti fl_X12_243 sh_94 (q_inO hO sh_94) (fun h => q_Ok_put h sh_94 rfl) rfl dX12_look_46 (fun M1 hM1 => ?_)
  have hO1 : q_Ok M1 := by rw [hM1]; exact q_Ok_put hO sh_94 rfl
  refine q_goto (tgt := 0) dX12_look_49 (by decide) ?_
  refine q_sub [0] rfl ?_
  exact hK0 M1 hO1
def fX12_look_52 (M : q_Mem) : Option (Int × q_Mem) := if q_w (M.2 94 2) < q_w (M.2 94 3) then ((q_ld M 95 1600 (M.2 94 2)).bind fun x21 => some (x21, M)) else (some ((-1), M))
theorem tX12_look_52 {d : Nat} (M : q_Mem) (hO : q_Ok M) : q_EX d yX12_look cX12_look 1 (some .int) 52 [(0, .inr (.inr 94))] [] M (fX12_look_52 M) := by
  unfold fX12_look_52
  refine q_aload_n 0 dX12_look_52 rfl rfl ?_
  refine q_geti fl_X12_243 sh_94 (q_inO hO sh_94) rfl dX12_look_53 ?_
  refine q_aload_n 0 dX12_look_56 rfl rfl ?_
  refine q_geti fl_X12_246 sh_94 (q_inO hO sh_94) rfl dX12_look_57 ?_
  refine q_icmpge (tgt := 75) dX12_look_60 (by decide) ?_ ?_
  · refine q_iconst dX12_look_75 ?_
    exact q_ret dX12_look_76 rfl
  · refine q_aload_n 0 dX12_look_63 rfl rfl ?_
    refine q_getx fl_X12_7 hO sh_94 rfl fx_94_0 dX12_look_64 ?_
    refine q_aload_n 0 dX12_look_67 rfl rfl ?_
    refine q_geti fl_X12_243 sh_94 (q_inO hO sh_94) rfl dX12_look_68 ?_
    refine q_iald sh_95 (q_inA hO sh_95 (by decide)) dX12_look_71 (fun x21 _ _ _ => ?_)
    refine q_goto (tgt := 76) dX12_look_72 (by decide) ?_
    exact q_ret dX12_look_76 rfl
def fX12_look_0  : Nat → q_Mem → Option (Int × q_Mem)
  | 0, _ => none
  | n + 1, M => if q_w (M.2 94 2) < q_w (M.2 94 3) then ((q_ld M 95 1600 (M.2 94 2)).bind fun x21 => if q_w x21 = q_w 10 then ((fX12_look_39 (fX12_look_0 n) M)) else ((q_ld M 95 1600 (M.2 94 2)).bind fun x22 => if q_w x22 = q_w 32 then ((fX12_look_39 (fX12_look_0 n) M)) else ((fX12_look_52 M)))) else ((fX12_look_52 M))
theorem tX12_look_0 {d : Nat} : ∀ (n : Nat)  (M : q_Mem), q_Ok M → q_EX d yX12_look cX12_look 1 (some .int) 0 [(0, .inr (.inr 94))] [] M (fX12_look_0 n M) := by
  intro n
  induction n with
  | zero => intro M hO; exact q_none
  | succ n ih =>
    intro M hO
    rw [fX12_look_0]
    refine q_aload_n 0 dX12_look_0 rfl rfl ?_
    refine q_geti fl_X12_243 sh_94 (q_inO hO sh_94) rfl dX12_look_1 ?_
    refine q_aload_n 0 dX12_look_4 rfl rfl ?_
    refine q_geti fl_X12_246 sh_94 (q_inO hO sh_94) rfl dX12_look_5 ?_
    refine q_icmpge (tgt := 52) dX12_look_8 (by decide) ?_ ?_
    · refine q_sub [0] rfl ?_
      exact tX12_look_52 M hO
    · refine q_aload_n 0 dX12_look_11 rfl rfl ?_
      refine q_getx fl_X12_7 hO sh_94 rfl fx_94_0 dX12_look_12 ?_
      refine q_aload_n 0 dX12_look_15 rfl rfl ?_
      refine q_geti fl_X12_243 sh_94 (q_inO hO sh_94) rfl dX12_look_16 ?_
      refine q_iald sh_95 (q_inA hO sh_95 (by decide)) dX12_look_19 (fun x21 _ _ _ => ?_)
      refine q_bipush dX12_look_20 (by decide) ?_
      refine q_icmpeq (tgt := 39) dX12_look_22 (by decide) ?_ ?_
      · refine q_sub [0] rfl ?_
        exact tX12_look_39 (fX12_look_0 n) ih M hO
      · refine q_aload_n 0 dX12_look_25 rfl rfl ?_
        refine q_getx fl_X12_7 hO sh_94 rfl fx_94_0 dX12_look_26 ?_
        refine q_aload_n 0 dX12_look_29 rfl rfl ?_
        refine q_geti fl_X12_243 sh_94 (q_inO hO sh_94) rfl dX12_look_30 ?_
        refine q_iald sh_95 (q_inA hO sh_95 (by decide)) dX12_look_33 (fun x22 _ _ _ => ?_)
        refine q_bipush dX12_look_34 (by decide) ?_
        refine q_icmpne (tgt := 52) dX12_look_36 (by decide) ?_ ?_
        · refine q_sub [0] rfl ?_
          exact tX12_look_52 M hO
        · refine q_sub [0] rfl ?_
          exact tX12_look_39 (fX12_look_0 n) ih M hO
def fX12_look (M : q_Mem) : Option (Int × q_Mem) := (fX12_look_0 q_FU M)
theorem tX12_look {d : Nat} (M : q_Mem) (hO : q_Ok M) : q_EX d yX12_look cX12_look 1 (some .int) 0 (q_args 0 [.inr (.inr 94)]) [] M (fX12_look M) := by
  show q_EX _ _ _ _ _ 0 [(0, .inr (.inr 94))] [] M _
  unfold fX12_look
  refine q_sub [0] rfl ?_
  exact tX12_look_0 q_FU M hO
def fX12_isHere_76 (r1 n1 : Nat) : Nat → Int → q_Mem → Option (Int × q_Mem)
  | 0, _, _ => none
  | n + 1, x3, M => if q_w x3 < q_w ((n1 : Nat) : Int) then ((q_ld M 95 1600 ((M.2 94 2) + x3)).bind fun x21 => (q_ld M r1 n1 x3).bind fun x22 => if q_w x21 = q_w x22 then ((fX12_isHere_76 r1 n1 n (x3 + 1) M)) else (some (0, M))) else (some (1, M))
theorem tX12_isHere_76 {d : Nat} (hd : 0 ≤ d) (r1 n1 : Nat) (hr1 : q_shp r1 = (2, n1)) : ∀ (n : Nat) (x3 : Int) (M : q_Mem), q_Ok M → q_EX (d + 1) yX12_isHere cX12_isHere 4 (some .boolean) 76 [(0, .inr (.inr 94)), (1, .inr (.inr r1)), (3, .inl x3)] [] M (fX12_isHere_76 r1 n1 n x3 M) := by
  intro n
  induction n with
  | zero => intro x3 M hO; exact q_none
  | succ n ih =>
    intro x3 M hO
    rw [fX12_isHere_76]
    refine q_iload_n 2 dX12_isHere_76 rfl rfl ?_
    refine q_aload_n 1 dX12_isHere_77 rfl rfl ?_
    refine q_alen (t := 1) hr1 (by decide) (q_inA hO hr1 (by decide)) dX12_isHere_78 ?_
    refine q_icmpge (tgt := 107) dX12_isHere_79 (by decide) ?_ ?_
    · refine q_iconst dX12_isHere_107 ?_
      exact q_ret ⟨dX12_isHere_108, by decide⟩ rfl
    · refine q_aload_n 0 dX12_isHere_82 rfl rfl ?_
      refine q_getx fl_X12_7 hO sh_94 rfl fx_94_0 dX12_isHere_83 ?_
      refine q_aload_n 0 dX12_isHere_86 rfl rfl ?_
      refine q_geti fl_X12_243 sh_94 (q_inO hO sh_94) rfl dX12_isHere_87 ?_
      refine q_iload_n 2 dX12_isHere_90 rfl rfl ?_
      refine q_iadd dX12_isHere_91 ?_
      refine q_iald sh_95 (q_inA hO sh_95 (by decide)) dX12_isHere_92 (fun x21 _ _ _ => ?_)
      refine q_aload_n 1 dX12_isHere_93 rfl rfl ?_
      refine q_iload_n 2 dX12_isHere_94 rfl rfl ?_
      refine q_cald hr1 (q_inA hO hr1 (by decide)) dX12_isHere_95 (fun x22 _ _ _ => ?_)
      refine q_icmpeq (tgt := 101) dX12_isHere_96 (by decide) ?_ ?_
      · refine q_iinc (ls' := [(3, .inl (x3 + 1)), (0, .inr (.inr 94)), (1, .inr (.inr r1))]) 2 dX12_isHere_101 rfl (by decide) rfl ?_
        refine q_goto (tgt := 76) dX12_isHere_104 (by decide) ?_
        refine q_sub [1, 2, 0] rfl ?_
        exact ih (x3 + 1) M hO
      · refine q_iconst dX12_isHere_99 ?_
        exact q_ret ⟨dX12_isHere_100, by decide⟩ rfl
def fX12_isHere_61 (r1 n1 : Nat) (x2 : Int) (M : q_Mem) : Option (Int × q_Mem) := if q_w (x2 - (M.2 94 2)) = q_w ((n1 : Nat) : Int) then ((fX12_isHere_76 r1 n1 q_FU 0 M)) else (some (0, M))
theorem tX12_isHere_61 {d : Nat} (hd : 0 ≤ d) (r1 n1 : Nat) (hr1 : q_shp r1 = (2, n1)) (x2 : Int) (M : q_Mem) (hO : q_Ok M) : q_EX (d + 1) yX12_isHere cX12_isHere 4 (some .boolean) 61 [(0, .inr (.inr 94)), (1, .inr (.inr r1)), (2, .inl x2)] [] M (fX12_isHere_61 r1 n1 x2 M) := by
  unfold fX12_isHere_61
  refine q_iload_n 2 dX12_isHere_61 rfl rfl ?_
  refine q_aload_n 0 dX12_isHere_62 rfl rfl ?_
  refine q_geti fl_X12_243 sh_94 (q_inO hO sh_94) rfl dX12_isHere_63 ?_
  refine q_isub dX12_isHere_66 ?_
  refine q_aload_n 1 dX12_isHere_67 rfl rfl ?_
  refine q_alen (t := 1) hr1 (by decide) (q_inA hO hr1 (by decide)) dX12_isHere_68 ?_
  refine q_icmpeq (tgt := 74) dX12_isHere_69 (by decide) ?_ ?_
  · refine q_iconst dX12_isHere_74 ?_
    refine q_istore_n (ls' := [(3, .inl 0), (0, .inr (.inr 94)), (1, .inr (.inr r1)), (2, .inl x2)]) dX12_isHere_75 rfl (by decide) rfl ?_
    refine q_sub [1, 2, 0] rfl ?_
    exact tX12_isHere_76 hd r1 n1 hr1 q_FU 0 M hO
  · refine q_iconst dX12_isHere_72 ?_
    exact q_ret ⟨dX12_isHere_73, by decide⟩ rfl
def fX12_isHere_35 (r1 n1 : Nat) : Nat → Int → q_Mem → Option (Int × q_Mem)
  | 0, _, _ => none
  | n + 1, x2, M => if q_w x2 < q_w (M.2 94 3) then ((q_ld M 95 1600 x2).bind fun x21 => q_bd (fX12_isLetter x21 M) fun x22 M1 => if q_w x22 = 0 then ((fX12_isHere_61 r1 n1 x2 M1)) else ((fX12_isHere_35 r1 n1 n (x2 + 1) M1))) else ((fX12_isHere_61 r1 n1 x2 M))
theorem tX12_isHere_35 {d : Nat} (hd : 0 ≤ d) (r1 n1 : Nat) (hr1 : q_shp r1 = (2, n1)) : ∀ (n : Nat) (x2 : Int) (M : q_Mem), q_Ok M → q_EX (d + 1) yX12_isHere cX12_isHere 4 (some .boolean) 35 [(0, .inr (.inr 94)), (1, .inr (.inr r1)), (2, .inl x2)] [] M (fX12_isHere_35 r1 n1 n x2 M) := by
  intro n
  induction n with
  | zero => intro x2 M hO; exact q_none
  | succ n ih =>
    intro x2 M hO
    rw [fX12_isHere_35]
    refine q_iload_n 2 dX12_isHere_35 rfl rfl ?_
    refine q_aload_n 0 dX12_isHere_36 rfl rfl ?_
    refine q_geti fl_X12_246 sh_94 (q_inO hO sh_94) rfl dX12_isHere_37 ?_
    refine q_icmpge (tgt := 61) dX12_isHere_40 (by decide) ?_ ?_
    · refine q_sub [0, 1, 2] rfl ?_
      exact tX12_isHere_61 hd r1 n1 hr1 x2 M hO
    · refine q_aload_n 0 dX12_isHere_43 rfl rfl ?_
      refine q_getx fl_X12_7 hO sh_94 rfl fx_94_0 dX12_isHere_44 ?_
      refine q_iload_n 2 dX12_isHere_47 rfl rfl ?_
      refine q_iald sh_95 (q_inA hO sh_95 (by decide)) dX12_isHere_48 (fun x21 _ _ _ => ?_)
      refine q_callSi (As := [.inl x21]) hO mb_X12_isLetter ms_X12_isLetter ml_X12_253 dX12_isHere_49 (fun _ => rfl) rfl (Nat.le_of_ble_eq_true rfl) rfl (Nat.le_of_ble_eq_true rfl) (tX12_isLetter x21 M hO) (fun x22 M1 _ hO1 => ?_)
      refine q_ifeq (tgt := 61) dX12_isHere_52 (by decide) ?_ ?_
      · refine q_sub [0, 1, 2] rfl ?_
        exact tX12_isHere_61 hd r1 n1 hr1 x2 M1 hO1
      · refine q_iinc (ls' := [(2, .inl (x2 + 1)), (0, .inr (.inr 94)), (1, .inr (.inr r1))]) 2 dX12_isHere_55 rfl (by decide) rfl ?_
        refine q_goto (tgt := 35) dX12_isHere_58 (by decide) ?_
        refine q_sub [1, 2, 0] rfl ?_
        exact ih (x2 + 1) M1 hO1
def fX12_isHere (r1 : Nat) (n1 : Nat) (M : q_Mem) : Option (Int × q_Mem) := if q_w (M.2 94 5) = 0 then (q_bd (fX12_look M) fun x21 M1 => q_bd (fX12_isLetter x21 M1) fun x22 M2 => if q_w x22 = 0 then (some (0, M2)) else (if q_w (M2.2 94 2) = q_w (M2.2 94 4) then (some (0, M2)) else (q_let (M2.2 94 2) fun x23 => (fX12_isHere_35 r1 n1 q_FU x23 M2)))) else (some (0, M))
theorem tX12_isHere {d : Nat} (hd : 1 ≤ d) (r1 : Nat) (n1 : Nat) (M : q_Mem) (hO : q_Ok M) (hr1 : q_shp r1 = (2, n1)) : q_EX d yX12_isHere cX12_isHere 4 (some .boolean) 0 (q_args 0 [.inr (.inr 94), .inr (.inr r1)]) [] M (fX12_isHere r1 n1 M) := by
  obtain ⟨d, rfl⟩ : ∃ d', d = d' + 1 := ⟨d - 1, by omega⟩
  have hd : 0 ≤ d := by omega
  show q_EX _ _ _ _ _ 0 [(0, .inr (.inr 94)), (1, .inr (.inr r1))] [] M _
  unfold fX12_isHere
  refine q_aload_n 0 dX12_isHere_0 rfl rfl ?_
  refine q_geti fl_X12_237 sh_94 (q_inO hO sh_94) rfl dX12_isHere_1 ?_
  refine q_ifne (tgt := 28) dX12_isHere_4 (by decide) ?_ ?_
  · refine q_iconst dX12_isHere_28 ?_
    exact q_ret ⟨dX12_isHere_29, by decide⟩ rfl
  · refine q_aload_n 0 dX12_isHere_7 rfl rfl ?_
    refine q_callVi (As := []) hO mb_X12_look mv_X12_look ml_X12_249 sh_94 rfl dX12_isHere_8 (fun _ => rfl) rfl (Nat.le_of_ble_eq_true rfl) rfl (Nat.le_of_ble_eq_true rfl) (tX12_look M hO) (fun x21 M1 _ hO1 => ?_)
    refine q_callSi (As := [.inl x21]) hO1 mb_X12_isLetter ms_X12_isLetter ml_X12_253 dX12_isHere_11 (fun _ => rfl) rfl (Nat.le_of_ble_eq_true rfl) rfl (Nat.le_of_ble_eq_true rfl) (tX12_isLetter x21 M1 hO1) (fun x22 M2 _ hO2 => ?_)
    refine q_ifeq (tgt := 28) dX12_isHere_14 (by decide) ?_ ?_
    · refine q_iconst dX12_isHere_28 ?_
      exact q_ret ⟨dX12_isHere_29, by decide⟩ rfl
    · refine q_aload_n 0 dX12_isHere_17 rfl rfl ?_
      refine q_geti fl_X12_243 sh_94 (q_inO hO2 sh_94) rfl dX12_isHere_18 ?_
      refine q_aload_n 0 dX12_isHere_21 rfl rfl ?_
      refine q_geti fl_X12_257 sh_94 (q_inO hO2 sh_94) rfl dX12_isHere_22 ?_
      refine q_icmpne (tgt := 30) dX12_isHere_25 (by decide) ?_ ?_
      · refine q_aload_n 0 dX12_isHere_30 rfl rfl ?_
        refine q_geti fl_X12_243 sh_94 (q_inO hO2 sh_94) rfl dX12_isHere_31 ?_
        refine q_nameI (fun x23 _ => ?_)
        refine q_istore_n (ls' := [(2, .inl x23), (0, .inr (.inr 94)), (1, .inr (.inr r1))]) dX12_isHere_34 rfl (by decide) rfl ?_
        refine q_sub [1, 2, 0] rfl ?_
        exact tX12_isHere_35 hd r1 n1 hr1 q_FU x23 M2 hO2
      · refine q_iconst dX12_isHere_28 ?_
        exact q_ret ⟨dX12_isHere_29, by decide⟩ rfl
def fX12_takes (r1 : Nat) (n1 : Nat) (M : q_Mem) : Option (Int × q_Mem) := q_bd (fX12_isHere r1 n1 M) fun x21 M1 => if q_w x21 = 0 then (some (0, M1)) else (q_let (q_up M1 94 2 ((M1.2 94 2) + ((n1 : Nat) : Int))) fun M2 => q_let (q_up M2 94 4 (M2.2 94 2)) fun M3 => some (1, M3))
theorem tX12_takes {d : Nat} (hd : 2 ≤ d) (r1 : Nat) (n1 : Nat) (M : q_Mem) (hO : q_Ok M) (hr1 : q_shp r1 = (2, n1)) : q_EX d yX12_takes cX12_takes 2 (some .boolean) 0 (q_args 0 [.inr (.inr 94), .inr (.inr r1)]) [] M (fX12_takes r1 n1 M) := by
  obtain ⟨d, rfl⟩ : ∃ d', d = d' + 1 := ⟨d - 1, by omega⟩
  have hd : 1 ≤ d := by omega
  show q_EX _ _ _ _ _ 0 [(0, .inr (.inr 94)), (1, .inr (.inr r1))] [] M _
  unfold fX12_takes
  refine q_aload_n 0 dX12_takes_0 rfl rfl ?_
  refine q_aload_n 1 dX12_takes_1 rfl rfl ?_
  refine q_callVi (As := [.inr (.inr r1)]) hO mb_X12_isHere mv_X12_isHere ml_X12_260 sh_94 rfl dX12_takes_2 (fun _ => rfl) rfl (Nat.le_of_ble_eq_true rfl) rfl (Nat.le_of_ble_eq_true rfl) (tX12_isHere (by omega) r1 n1 M hO hr1) (fun x21 M1 _ hO1 => ?_)
  refine q_ifne (tgt := 10) dX12_takes_5 (by decide) ?_ ?_
  · refine q_aload_n 0 dX12_takes_10 rfl rfl ?_
    refine q_dup dX12_takes_11 rfl ?_
    refine q_geti fl_X12_243 sh_94 (q_inO hO1 sh_94) rfl dX12_takes_12 ?_
    refine q_aload_n 1 dX12_takes_15 rfl rfl ?_
    refine q_alen (t := 1) hr1 (by decide) (q_inA hO1 hr1 (by decide)) dX12_takes_16 ?_
    refine q_iadd dX12_takes_17 ?_
    refine q_puti fl_X12_243 sh_94 (q_inO hO1 sh_94) (fun h => q_Ok_put h sh_94 rfl) rfl dX12_takes_18 (fun M2 hM2 => ?_)
    have hO2 : q_Ok M2 := by rw [hM2]; exact q_Ok_put hO1 sh_94 rfl
    refine q_aload_n 0 dX12_takes_21 rfl rfl ?_
    refine q_aload_n 0 dX12_takes_22 rfl rfl ?_
    refine q_geti fl_X12_243 sh_94 (q_inO hO2 sh_94) rfl dX12_takes_23 ?_
    refine q_puti fl_X12_257 sh_94 (q_inO hO2 sh_94) (fun h => q_Ok_put h sh_94 rfl) rfl dX12_takes_26 (fun M3 hM3 => ?_)
    have hO3 : q_Ok M3 := by rw [hM3]; exact q_Ok_put hO2 sh_94 rfl
    refine q_iconst dX12_takes_29 ?_
    exact q_ret ⟨dX12_takes_30, by decide⟩ rfl
  · refine q_iconst dX12_takes_8 ?_
    exact q_ret ⟨dX12_takes_9, by decide⟩ rfl
def fX12_asks (r1 : Nat) (n1 : Nat) (M : q_Mem) : Option (Int × q_Mem) := if q_w (M.2 94 5) = 0 then (q_bd (fX12_takes r1 n1 M) fun x21 M1 => if q_w x21 = 0 then (q_bd (fX12_fail 1 (M1.2 94 2) M1) fun _ M2 => some (0, M2)) else (some (0, M1))) else (some (0, M))
theorem tX12_asks {d : Nat} (hd : 3 ≤ d) (r1 : Nat) (n1 : Nat) (M : q_Mem) (hO : q_Ok M) (hr1 : q_shp r1 = (2, n1)) : q_EX d yX12_asks cX12_asks 2 none 0 (q_args 0 [.inr (.inr 94), .inr (.inr r1)]) [] M (fX12_asks r1 n1 M) := by
  obtain ⟨d, rfl⟩ : ∃ d', d = d' + 1 := ⟨d - 1, by omega⟩
  have hd : 2 ≤ d := by omega
  show q_EX _ _ _ _ _ 0 [(0, .inr (.inr 94)), (1, .inr (.inr r1))] [] M _
  unfold fX12_asks
  refine q_aload_n 0 dX12_asks_0 rfl rfl ?_
  refine q_geti fl_X12_237 sh_94 (q_inO hO sh_94) rfl dX12_asks_1 ?_
  refine q_ifne (tgt := 24) dX12_asks_4 (by decide) ?_ ?_
  · exact q_ret dX12_asks_24 rfl
  · refine q_aload_n 0 dX12_asks_7 rfl rfl ?_
    refine q_aload_n 1 dX12_asks_8 rfl rfl ?_
    refine q_callVi (As := [.inr (.inr r1)]) hO mb_X12_takes mv_X12_takes ml_X12_264 sh_94 rfl dX12_asks_9 (fun _ => rfl) rfl (Nat.le_of_ble_eq_true rfl) rfl (Nat.le_of_ble_eq_true rfl) (tX12_takes (by omega) r1 n1 M hO hr1) (fun x21 M1 _ hO1 => ?_)
    refine q_ifne (tgt := 24) dX12_asks_12 (by decide) ?_ ?_
    · exact q_ret dX12_asks_24 rfl
    · refine q_aload_n 0 dX12_asks_15 rfl rfl ?_
      refine q_iconst dX12_asks_16 ?_
      refine q_aload_n 0 dX12_asks_17 rfl rfl ?_
      refine q_geti fl_X12_243 sh_94 (q_inO hO1 sh_94) rfl dX12_asks_18 ?_
      refine q_callVv (As := [.inl 1, .inl (M1.2 94 2)]) hO1 mb_X12_fail mv_X12_fail ml_X12_267 sh_94 rfl dX12_asks_21 (fun _ => rfl) rfl (Nat.le_of_ble_eq_true rfl) rfl (Nat.le_of_ble_eq_true rfl) (tX12_fail 1 (M1.2 94 2) M1 hO1) (fun _ M2 _ hO2 => ?_)
      exact q_ret dX12_asks_24 rfl
def fX12_takesSign (x1 : Int) (M : q_Mem) : Option (Int × q_Mem) := if q_w (M.2 94 5) = 0 then (q_bd (fX12_look M) fun x21 M1 => if q_w x21 = q_w x1 then (q_let (q_up M1 94 2 ((M1.2 94 2) + 1)) fun M2 => some (1, M2)) else (some (0, M1))) else (some (0, M))
theorem tX12_takesSign {d : Nat} (hd : 1 ≤ d) (x1 : Int) (M : q_Mem) (hO : q_Ok M) : q_EX d yX12_takesSign cX12_takesSign 2 (some .boolean) 0 (q_args 0 [.inr (.inr 94), .inl x1]) [] M (fX12_takesSign x1 M) := by
  obtain ⟨d, rfl⟩ : ∃ d', d = d' + 1 := ⟨d - 1, by omega⟩
  have hd : 0 ≤ d := by omega
  show q_EX _ _ _ _ _ 0 [(0, .inr (.inr 94)), (1, .inl x1)] [] M _
  unfold fX12_takesSign
  refine q_aload_n 0 dX12_takesSign_0 rfl rfl ?_
  refine q_geti fl_X12_237 sh_94 (q_inO hO sh_94) rfl dX12_takesSign_1 ?_
  refine q_ifne (tgt := 15) dX12_takesSign_4 (by decide) ?_ ?_
  · refine q_iconst dX12_takesSign_15 ?_
    exact q_ret ⟨dX12_takesSign_16, by decide⟩ rfl
  · refine q_aload_n 0 dX12_takesSign_7 rfl rfl ?_
    refine q_callVi (As := []) hO mb_X12_look mv_X12_look ml_X12_249 sh_94 rfl dX12_takesSign_8 (fun _ => rfl) rfl (Nat.le_of_ble_eq_true rfl) rfl (Nat.le_of_ble_eq_true rfl) (tX12_look M hO) (fun x21 M1 _ hO1 => ?_)
    refine q_iload_n 1 dX12_takesSign_11 rfl rfl ?_
    refine q_icmpeq (tgt := 17) dX12_takesSign_12 (by decide) ?_ ?_
    · refine q_aload_n 0 dX12_takesSign_17 rfl rfl ?_
      refine q_dup dX12_takesSign_18 rfl ?_
      refine q_geti fl_X12_243 sh_94 (q_inO hO1 sh_94) rfl dX12_takesSign_19 ?_
      refine q_iconst dX12_takesSign_22 ?_
      refine q_iadd dX12_takesSign_23 ?_
      refine q_puti fl_X12_243 sh_94 (q_inO hO1 sh_94) (fun h => q_Ok_put h sh_94 rfl) rfl dX12_takesSign_24 (fun M2 hM2 => ?_)
      have hO2 : q_Ok M2 := by rw [hM2]; exact q_Ok_put hO1 sh_94 rfl
      refine q_iconst dX12_takesSign_27 ?_
      exact q_ret ⟨dX12_takesSign_28, by decide⟩ rfl
    · refine q_iconst dX12_takesSign_15 ?_
      exact q_ret ⟨dX12_takesSign_16, by decide⟩ rfl
