def fX12_buys (x1 : Int) (x2 : Int) (x3 : Int) (M : q_Mem) : Option (Int × q_Mem) := q_bd (fX12_isCoin x1 M) fun x21 M1 => if q_w x21 = 0 then (some ((-1), M1)) else (q_bd (fX12_isStall (q_w x2) M1) fun x22 M2 => if q_w x22 = 0 then (some ((-1), M2)) else (q_bd (fX12_isMinute x3 M2) fun x23 M3 => if q_w x23 = 0 then (some ((-1), M3)) else (q_bd (fX12_doesBuy x1 x2 x3 M3) fun x24 M4 => if q_w x24 = 0 then (some (0, M4)) else (some (1, M4)))))
theorem tX12_buys {d : Nat} (hd : 5 ≤ d) (x1 : Int) (x2 : Int) (x3 : Int) (M : q_Mem) (hO : q_Ok M) : q_EX d yX12_buys cX12_buys 4 (some .int) 0 (q_args 0 [.inr (.inr 94), .inl x1, .inl x2, .inl x3]) [] M (fX12_buys x1 x2 x3 M) := by
  obtain ⟨d, rfl⟩ : ∃ d', d = d' + 1 := ⟨d - 1, by omega⟩
  have hd : 4 ≤ d := by omega
  show q_EX _ _ _ _ _ 0 [(0, .inr (.inr 94)), (1, .inl x1), (2, .inl x2), (3, .inl x3)] [] M _
  unfold fX12_buys
  refine q_aload_n 0 dX12_buys_0 rfl rfl ?_
  refine q_iload_n 1 dX12_buys_1 rfl rfl ?_
  refine q_callVi (As := [.inl x1]) hO mb_X12_isCoin mv_X12_isCoin ml_X12_450 sh_94 rfl dX12_buys_2 (fun _ => rfl) rfl (Nat.le_of_ble_eq_true rfl) rfl (Nat.le_of_ble_eq_true rfl) (tX12_isCoin (by omega) x1 M hO) (fun x21 M1 _ hO1 => ?_)
  refine q_ifeq (tgt := 25) dX12_buys_5 (by decide) ?_ ?_
  · refine q_iconst dX12_buys_25 ?_
    exact q_ret dX12_buys_26 rfl
  · refine q_aload_n 0 dX12_buys_8 rfl rfl ?_
    refine q_iload_n 2 dX12_buys_9 rfl rfl ?_
    refine q_i2l dX12_buys_10 ?_
    refine q_callVi (As := [.inr (.inl (q_w x2))]) hO1 mb_X12_isStall mv_X12_isStall ml_X12_441 sh_94 rfl dX12_buys_11 (fun _ => rfl) rfl (Nat.le_of_ble_eq_true rfl) rfl (Nat.le_of_ble_eq_true rfl) (tX12_isStall (by omega) (q_w x2) M1 hO1) (fun x22 M2 _ hO2 => ?_)
    refine q_ifeq (tgt := 25) dX12_buys_14 (by decide) ?_ ?_
    · refine q_iconst dX12_buys_25 ?_
      exact q_ret dX12_buys_26 rfl
    · refine q_aload_n 0 dX12_buys_17 rfl rfl ?_
      refine q_iload_n 3 dX12_buys_18 rfl rfl ?_
      refine q_callVi (As := [.inl x3]) hO2 mb_X12_isMinute mv_X12_isMinute ml_X12_453 sh_94 rfl dX12_buys_19 (fun _ => rfl) rfl (Nat.le_of_ble_eq_true rfl) rfl (Nat.le_of_ble_eq_true rfl) (tX12_isMinute (by omega) x3 M2 hO2) (fun x23 M3 _ hO3 => ?_)
      refine q_ifne (tgt := 27) dX12_buys_22 (by decide) ?_ ?_
      · refine q_aload_n 0 dX12_buys_27 rfl rfl ?_
        refine q_iload_n 1 dX12_buys_28 rfl rfl ?_
        refine q_iload_n 2 dX12_buys_29 rfl rfl ?_
        refine q_iload_n 3 dX12_buys_30 rfl rfl ?_
        refine q_callVi (As := [.inl x1, .inl x2, .inl x3]) hO3 mb_X12_doesBuy mv_X12_doesBuy ml_X12_433 sh_94 rfl dX12_buys_31 (fun _ => rfl) rfl (Nat.le_of_ble_eq_true rfl) rfl (Nat.le_of_ble_eq_true rfl) (tX12_doesBuy (by omega) x1 x2 x3 M3 hO3) (fun x24 M4 _ hO4 => ?_)
        refine q_ifeq (tgt := 41) dX12_buys_34 (by decide) ?_ ?_
        · refine q_iconst dX12_buys_41 ?_
          exact q_ret dX12_buys_42 rfl
        · refine q_iconst dX12_buys_37 ?_
          refine q_goto (tgt := 42) dX12_buys_38 (by decide) ?_
          exact q_ret dX12_buys_42 rfl
      · refine q_iconst dX12_buys_25 ?_
        exact q_ret dX12_buys_26 rfl
def fX12_kept (x1 : Int) (x2 : Int) (M : q_Mem) : Option (Int × q_Mem) := (q_ld M 131 141 20).bind fun x21 => q_bd (fX12_isIn (q_w x1) 0 (q_w (x21 - 1)) M) fun x22 M1 => if q_w x22 = 0 then (some ((-1), M1)) else (q_bd (fX12_isIn (q_w x2) 0 2 M1) fun x23 M2 => if q_w x23 = 0 then (some ((-1), M2)) else ((q_ld M2 131 141 ((21 + (3 * x1)) + x2)).bind fun x24 => some (x24, M2)))
theorem tX12_kept {d : Nat} (hd : 1 ≤ d) (x1 : Int) (x2 : Int) (M : q_Mem) (hO : q_Ok M) : q_EX d yX12_kept cX12_kept 3 (some .int) 0 (q_args 0 [.inr (.inr 94), .inl x1, .inl x2]) [] M (fX12_kept x1 x2 M) := by
  obtain ⟨d, rfl⟩ : ∃ d', d = d' + 1 := ⟨d - 1, by omega⟩
  have hd : 0 ≤ d := by omega
  show q_EX _ _ _ _ _ 0 [(0, .inr (.inr 94)), (1, .inl x1), (2, .inl x2)] [] M _
  unfold fX12_kept
  refine q_iload_n 1 dX12_kept_0 rfl rfl ?_
  refine q_i2l dX12_kept_1 ?_
  refine q_lconst (v := 0) dX12_kept_2 (by decide) ?_
  refine q_aload_n 0 dX12_kept_3 rfl rfl ?_
  refine q_getx fl_X12_124 hO sh_94 rfl fx_94_49 dX12_kept_4 ?_
  refine q_bipush dX12_kept_7 (by decide) ?_
  refine q_iald sh_131 (q_inA hO sh_131 (by decide)) dX12_kept_9 (fun x21 _ _ _ => ?_)
  refine q_iconst dX12_kept_10 ?_
  refine q_isub dX12_kept_11 ?_
  refine q_i2l dX12_kept_12 ?_
  refine q_callSi (As := [.inr (.inl (q_w x1)), .inr (.inl 0), .inr (.inl (q_w (x21 - 1)))]) hO mb_X12_isIn ms_X12_isIn ml_X12_277 dX12_kept_13 (fun _ => rfl) rfl (Nat.le_of_ble_eq_true rfl) rfl (Nat.le_of_ble_eq_true rfl) (tX12_isIn (q_w x1) 0 (q_w (x21 - 1)) M hO) (fun x22 M1 _ hO1 => ?_)
  refine q_ifeq (tgt := 47) dX12_kept_16 (by decide) ?_ ?_
  · refine q_iconst dX12_kept_47 ?_
    exact q_ret dX12_kept_48 rfl
  · refine q_iload_n 2 dX12_kept_19 rfl rfl ?_
    refine q_i2l dX12_kept_20 ?_
    refine q_lconst (v := 0) dX12_kept_21 (by decide) ?_
    refine q_ldc2 dX12_kept_22 kl_X12_456 (n := 2) rfl ?_
    refine q_callSi (As := [.inr (.inl (q_w x2)), .inr (.inl 0), .inr (.inl 2)]) hO1 mb_X12_isIn ms_X12_isIn ml_X12_277 dX12_kept_25 (fun _ => rfl) rfl (Nat.le_of_ble_eq_true rfl) rfl (Nat.le_of_ble_eq_true rfl) (tX12_isIn (q_w x2) 0 2 M1 hO1) (fun x23 M2 _ hO2 => ?_)
    refine q_ifeq (tgt := 47) dX12_kept_28 (by decide) ?_ ?_
    · refine q_iconst dX12_kept_47 ?_
      exact q_ret dX12_kept_48 rfl
    · refine q_aload_n 0 dX12_kept_31 rfl rfl ?_
      refine q_getx fl_X12_124 hO2 sh_94 rfl fx_94_49 dX12_kept_32 ?_
      refine q_bipush dX12_kept_35 (by decide) ?_
      refine q_iconst dX12_kept_37 ?_
      refine q_iload_n 1 dX12_kept_38 rfl rfl ?_
      refine q_imul dX12_kept_39 ?_
      refine q_iadd dX12_kept_40 ?_
      refine q_iload_n 2 dX12_kept_41 rfl rfl ?_
      refine q_iadd dX12_kept_42 ?_
      refine q_iald sh_131 (q_inA hO2 sh_131 (by decide)) dX12_kept_43 (fun x24 _ _ _ => ?_)
      refine q_goto (tgt := 48) dX12_kept_44 (by decide) ?_
      exact q_ret dX12_kept_48 rfl
def fX12_laysNexts_37 (K2 : Int → Int → q_Mem → Option (Int × q_Mem)) (K18 : Int → Int → Int → Int → q_Mem → Option (Int × q_Mem)) (x1 : Int) (x2 : Int) (x3 : Int) (x4 : Int) (M : q_Mem) : Option (Int × q_Mem) := (q_sto M 134 2412 ((402 * x2) + x4) x3).bind fun M1 => (K18 x1 x2 x3 (x4 + (-1)) M1)
theorem tX12_laysNexts_37 {d : Nat} (hd : 4 ≤ d) (K2 : Int → Int → q_Mem → Option (Int × q_Mem)) (hK2 : ∀ (x1 : Int) (x2 : Int) (M : q_Mem), q_Ok M → q_EX (d + 1) yX12_laysNexts cX12_laysNexts 5 none 2 [(0, .inr (.inr 94)), (1, .inl x1), (2, .inl x2)] [] M (K2 x1 x2 M)) (K18 : Int → Int → Int → Int → q_Mem → Option (Int × q_Mem)) (hK18 : ∀ (x1 : Int) (x2 : Int) (x3 : Int) (x4 : Int) (M : q_Mem), q_Ok M → q_EX (d + 1) yX12_laysNexts cX12_laysNexts 5 none 18 [(0, .inr (.inr 94)), (1, .inl x1), (2, .inl x2), (3, .inl x3), (4, .inl x4)] [] M (K18 x1 x2 x3 x4 M)) (x1 : Int) (x2 : Int) (x3 : Int) (x4 : Int) (M : q_Mem) (hO : q_Ok M) : q_EX (d + 1) yX12_laysNexts cX12_laysNexts 5 none 37 [(0, .inr (.inr 94)), (1, .inl x1), (2, .inl x2), (3, .inl x3), (4, .inl x4)] [] M (fX12_laysNexts_37 K2 K18 x1 x2 x3 x4 M) := by
  unfold fX12_laysNexts_37
  refine q_aload_n 0 dX12_laysNexts_37 rfl rfl ?_
  refine q_getx fl_X12_134 hO sh_94 rfl fx_94_56 dX12_laysNexts_38 ?_
  refine q_sipush dX12_laysNexts_41 (by decide) ?_
  refine q_iload_n 2 dX12_laysNexts_44 rfl rfl ?_
  refine q_imul dX12_laysNexts_45 ?_
  refine q_iload 4 dX12_laysNexts_46 rfl ?_
  refine q_iadd dX12_laysNexts_48 ?_
  refine q_iload_n 3 dX12_laysNexts_49 rfl rfl ?_
  refine q_iast sh_134 (q_inA hO sh_134 (by decide)) dX12_laysNexts_50 (fun M1 _ _ hM1 => ?_)
  have hO1 : q_Ok M1 := by rw [hM1]; exact q_Ok_arr (t := 0) hO sh_134 (by decide)
  refine q_iinc (ls' := [(4, .inl (x4 + (-1))), (0, .inr (.inr 94)), (1, .inl x1), (2, .inl x2), (3, .inl x3)]) 4 dX12_laysNexts_51 rfl (by decide) rfl ?_
  refine q_goto (tgt := 18) dX12_laysNexts_54 (by decide) ?_
  refine q_sub [1, 2, 3, 4, 0] rfl ?_
  exact hK18 x1 x2 x3 (x4 + (-1)) M1 hO1
def fX12_laysNexts_18 (K2 : Int → Int → q_Mem → Option (Int × q_Mem)) : Nat → Int → Int → Int → Int → q_Mem → Option (Int × q_Mem)
  | 0, _, _, _, _, _ => none
  | n + 1, x1, x2, x3, x4, M => if q_w x4 < 0 then ((K2 x1 (x2 + 1) M)) else (q_bd (fX12_doesBuy x1 x2 x4 M) fun x21 M1 => if q_w x21 = 0 then ((fX12_laysNexts_37 K2 (fX12_laysNexts_18 K2 n) x1 x2 x3 x4 M1)) else ((fX12_laysNexts_37 K2 (fX12_laysNexts_18 K2 n) x1 x2 x4 x4 M1)))
theorem tX12_laysNexts_18 {d : Nat} (hd : 4 ≤ d) (K2 : Int → Int → q_Mem → Option (Int × q_Mem)) (hK2 : ∀ (x1 : Int) (x2 : Int) (M : q_Mem), q_Ok M → q_EX (d + 1) yX12_laysNexts cX12_laysNexts 5 none 2 [(0, .inr (.inr 94)), (1, .inl x1), (2, .inl x2)] [] M (K2 x1 x2 M)) : ∀ (n : Nat) (x1 : Int) (x2 : Int) (x3 : Int) (x4 : Int) (M : q_Mem), q_Ok M → q_EX (d + 1) yX12_laysNexts cX12_laysNexts 5 none 18 [(0, .inr (.inr 94)), (1, .inl x1), (2, .inl x2), (3, .inl x3), (4, .inl x4)] [] M (fX12_laysNexts_18 K2 n x1 x2 x3 x4 M) := by
  intro n
  induction n with
  | zero => intro x1 x2 x3 x4 M hO; exact q_none
  | succ n ih =>
    intro x1 x2 x3 x4 M hO
    rw [fX12_laysNexts_18]
    refine q_iload 4 dX12_laysNexts_18 rfl ?_
    refine q_iflt (tgt := 57) dX12_laysNexts_20 (by decide) ?_ ?_
    · refine q_iinc (ls' := [(2, .inl (x2 + 1)), (0, .inr (.inr 94)), (1, .inl x1), (3, .inl x3), (4, .inl x4)]) 2 dX12_laysNexts_57 rfl (by decide) rfl ?_
      refine q_goto (tgt := 2) dX12_laysNexts_60 (by decide) ?_
      refine q_sub [1, 2, 0] rfl ?_
      exact hK2 x1 (x2 + 1) M hO
    · refine q_aload_n 0 dX12_laysNexts_23 rfl rfl ?_
      refine q_iload_n 1 dX12_laysNexts_24 rfl rfl ?_
      refine q_iload_n 2 dX12_laysNexts_25 rfl rfl ?_
      refine q_iload 4 dX12_laysNexts_26 rfl ?_
      refine q_callVi (As := [.inl x1, .inl x2, .inl x4]) hO mb_X12_doesBuy mv_X12_doesBuy ml_X12_433 sh_94 rfl dX12_laysNexts_28 (fun _ => rfl) rfl (Nat.le_of_ble_eq_true rfl) rfl (Nat.le_of_ble_eq_true rfl) (tX12_doesBuy (by omega) x1 x2 x4 M hO) (fun x21 M1 _ hO1 => ?_)
      refine q_ifeq (tgt := 37) dX12_laysNexts_31 (by decide) ?_ ?_
      · refine q_sub [0, 1, 2, 3, 4] rfl ?_
        exact tX12_laysNexts_37 hd K2 hK2 (fX12_laysNexts_18 K2 n) ih x1 x2 x3 x4 M1 hO1
      · refine q_iload 4 dX12_laysNexts_34 rfl ?_
        refine q_istore_n (ls' := [(3, .inl x4), (0, .inr (.inr 94)), (1, .inl x1), (2, .inl x2), (4, .inl x4)]) dX12_laysNexts_36 rfl (by decide) rfl ?_
        refine q_sub [1, 2, 3, 0, 4] rfl ?_
        exact tX12_laysNexts_37 hd K2 hK2 (fX12_laysNexts_18 K2 n) ih x1 x2 x4 x4 M1 hO1
def fX12_laysNexts_2  : Nat → Int → Int → q_Mem → Option (Int × q_Mem)
  | 0, _, _, _ => none
  | n + 1, x1, x2, M => q_bd (fX12_stallMany M) fun x21 M1 => if q_w x2 < q_w x21 then (q_bd (fX12_fairMinutes M1) fun x22 M2 => (fX12_laysNexts_18 (fX12_laysNexts_2 n) q_FU x1 x2 (-1) x22 M2)) else (some (0, M1))
theorem tX12_laysNexts_2 {d : Nat} (hd : 4 ≤ d) : ∀ (n : Nat) (x1 : Int) (x2 : Int) (M : q_Mem), q_Ok M → q_EX (d + 1) yX12_laysNexts cX12_laysNexts 5 none 2 [(0, .inr (.inr 94)), (1, .inl x1), (2, .inl x2)] [] M (fX12_laysNexts_2 n x1 x2 M) := by
  intro n
  induction n with
  | zero => intro x1 x2 M hO; exact q_none
  | succ n ih =>
    intro x1 x2 M hO
    rw [fX12_laysNexts_2]
    refine q_iload_n 2 dX12_laysNexts_2 rfl rfl ?_
    refine q_aload_n 0 dX12_laysNexts_3 rfl rfl ?_
    refine q_callVi (As := []) hO mb_X12_stallMany mv_X12_stallMany ml_X12_376 sh_94 rfl dX12_laysNexts_4 (fun _ => rfl) rfl (Nat.le_of_ble_eq_true rfl) rfl (Nat.le_of_ble_eq_true rfl) (tX12_stallMany M hO) (fun x21 M1 _ hO1 => ?_)
    refine q_icmpge (tgt := 63) dX12_laysNexts_7 (by decide) ?_ ?_
    · exact q_ret dX12_laysNexts_63 rfl
    · refine q_iconst dX12_laysNexts_10 ?_
      refine q_istore_n (ls' := [(3, .inl (-1)), (0, .inr (.inr 94)), (1, .inl x1), (2, .inl x2)]) dX12_laysNexts_11 rfl (by decide) rfl ?_
      refine q_aload_n 1 dX12_laysNexts_12 rfl rfl ?_
      refine q_callVi (As := []) hO1 mb_X12_fairMinutes mv_X12_fairMinutes ml_X12_382 sh_94 rfl dX12_laysNexts_13 (fun _ => rfl) rfl (Nat.le_of_ble_eq_true rfl) rfl (Nat.le_of_ble_eq_true rfl) (tX12_fairMinutes M1 hO1) (fun x22 M2 _ hO2 => ?_)
      refine q_istore (ls' := [(4, .inl x22), (3, .inl (-1)), (0, .inr (.inr 94)), (1, .inl x1), (2, .inl x2)]) dX12_laysNexts_16 (by decide) rfl ?_
      refine q_sub [2, 3, 4, 1, 0] rfl ?_
      exact tX12_laysNexts_18 hd (fX12_laysNexts_2 n) ih q_FU x1 x2 (-1) x22 M2 hO2
def fX12_laysNexts (x1 : Int) (M : q_Mem) : Option (Int × q_Mem) := (fX12_laysNexts_2 q_FU x1 0 M)
theorem tX12_laysNexts {d : Nat} (hd : 5 ≤ d) (x1 : Int) (M : q_Mem) (hO : q_Ok M) : q_EX d yX12_laysNexts cX12_laysNexts 5 none 0 (q_args 0 [.inr (.inr 94), .inl x1]) [] M (fX12_laysNexts x1 M) := by
  obtain ⟨d, rfl⟩ : ∃ d', d = d' + 1 := ⟨d - 1, by omega⟩
  have hd : 4 ≤ d := by omega
  show q_EX _ _ _ _ _ 0 [(0, .inr (.inr 94)), (1, .inl x1)] [] M _
  unfold fX12_laysNexts
  refine q_iconst dX12_laysNexts_0 ?_
  refine q_istore_n (ls' := [(2, .inl 0), (0, .inr (.inr 94)), (1, .inl x1)]) dX12_laysNexts_1 rfl (by decide) rfl ?_
  refine q_sub [1, 2, 0] rfl ?_
  exact tX12_laysNexts_2 hd q_FU x1 0 M hO
def fX12_when_74 (K40 : Int → Int → Int → Int → Int → q_Mem → Option (Int × q_Mem)) (x1 : Int) (x2 : Int) (x3 : Int) (x4 : Int) (x5 : Int) (M : q_Mem) : Option (Int × q_Mem) := (K40 x1 x2 x3 x4 (x5 + 1) M)
theorem tX12_when_74 {d : Nat} (hd : 4 ≤ d) (K40 : Int → Int → Int → Int → Int → q_Mem → Option (Int × q_Mem)) (hK40 : ∀ (x1 : Int) (x2 : Int) (x3 : Int) (x4 : Int) (x5 : Int) (M : q_Mem), q_Ok M → q_EX (d + 1) yX12_when cX12_when 6 (some .int) 40 [(0, .inr (.inr 94)), (1, .inl x1), (2, .inl x2), (3, .inl x3), (4, .inl x4), (5, .inl x5)] [] M (K40 x1 x2 x3 x4 x5 M)) (x1 : Int) (x2 : Int) (x3 : Int) (x4 : Int) (x5 : Int) (M : q_Mem) (hO : q_Ok M) : q_EX (d + 1) yX12_when cX12_when 6 (some .int) 74 [(0, .inr (.inr 94)), (1, .inl x1), (2, .inl x2), (3, .inl x3), (4, .inl x4), (5, .inl x5)] [] M (fX12_when_74 K40 x1 x2 x3 x4 x5 M) := by
  unfold fX12_when_74
  refine q_iinc (ls' := [(5, .inl (x5 + 1)), (0, .inr (.inr 94)), (1, .inl x1), (2, .inl x2), (3, .inl x3), (4, .inl x4)]) 5 dX12_when_74 rfl (by decide) rfl ?_
  refine q_goto (tgt := 40) dX12_when_77 (by decide) ?_
  refine q_sub [1, 2, 3, 4, 5, 0] rfl ?_
  exact hK40 x1 x2 x3 x4 (x5 + 1) M hO
def fX12_when_40  : Nat → Int → Int → Int → Int → Int → q_Mem → Option (Int × q_Mem)
  | 0, _, _, _, _, _, _ => none
  | n + 1, x1, x2, x3, x4, x5, M => q_bd (fX12_fairMinutes M) fun x21 M1 => if q_w x21 < q_w x5 then (some (x4, M1)) else (q_bd (fX12_doesBuy x1 x2 x5 M1) fun x22 M2 => if q_w x22 = 0 then ((fX12_when_74 (fX12_when_40 n) x1 x2 x3 x4 x5 M2)) else (if q_w x3 = 0 then (some (x5, M2)) else ((fX12_when_74 (fX12_when_40 n) x1 x2 x3 x5 x5 M2))))
theorem tX12_when_40 {d : Nat} (hd : 4 ≤ d) : ∀ (n : Nat) (x1 : Int) (x2 : Int) (x3 : Int) (x4 : Int) (x5 : Int) (M : q_Mem), q_Ok M → q_EX (d + 1) yX12_when cX12_when 6 (some .int) 40 [(0, .inr (.inr 94)), (1, .inl x1), (2, .inl x2), (3, .inl x3), (4, .inl x4), (5, .inl x5)] [] M (fX12_when_40 n x1 x2 x3 x4 x5 M) := by
  intro n
  induction n with
  | zero => intro x1 x2 x3 x4 x5 M hO; exact q_none
  | succ n ih =>
    intro x1 x2 x3 x4 x5 M hO
    rw [fX12_when_40]
    refine q_iload 5 dX12_when_40 rfl ?_
    refine q_aload_n 0 dX12_when_42 rfl rfl ?_
    refine q_callVi (As := []) hO mb_X12_fairMinutes mv_X12_fairMinutes ml_X12_382 sh_94 rfl dX12_when_43 (fun _ => rfl) rfl (Nat.le_of_ble_eq_true rfl) rfl (Nat.le_of_ble_eq_true rfl) (tX12_fairMinutes M hO) (fun x21 M1 _ hO1 => ?_)
    refine q_icmpgt (tgt := 80) dX12_when_46 (by decide) ?_ ?_
    · refine q_iload 4 dX12_when_80 rfl ?_
      exact q_ret dX12_when_82 rfl
    · refine q_aload_n 0 dX12_when_49 rfl rfl ?_
      refine q_iload_n 1 dX12_when_50 rfl rfl ?_
      refine q_iload_n 2 dX12_when_51 rfl rfl ?_
      refine q_iload 5 dX12_when_52 rfl ?_
      refine q_callVi (As := [.inl x1, .inl x2, .inl x5]) hO1 mb_X12_doesBuy mv_X12_doesBuy ml_X12_433 sh_94 rfl dX12_when_54 (fun _ => rfl) rfl (Nat.le_of_ble_eq_true rfl) rfl (Nat.le_of_ble_eq_true rfl) (tX12_doesBuy (by omega) x1 x2 x5 M1 hO1) (fun x22 M2 _ hO2 => ?_)
      refine q_ifne (tgt := 63) dX12_when_57 (by decide) ?_ ?_
      · refine q_iload 5 dX12_when_63 rfl ?_
        refine q_istore (ls' := [(4, .inl x5), (0, .inr (.inr 94)), (1, .inl x1), (2, .inl x2), (3, .inl x3), (5, .inl x5)]) dX12_when_65 (by decide) rfl ?_
        refine q_iload_n 4 dX12_when_67 rfl rfl ?_
        refine q_ifne (tgt := 74) dX12_when_68 (by decide) ?_ ?_
        · refine q_sub [1, 2, 3, 4, 0, 5] rfl ?_
          exact tX12_when_74 hd (fX12_when_40 n) ih x1 x2 x3 x5 x5 M2 hO2
        · refine q_iload 0 dX12_when_71 rfl ?_
          exact q_ret dX12_when_73 rfl
      · refine q_goto (tgt := 74) dX12_when_60 (by decide) ?_
        refine q_sub [0, 1, 2, 3, 4, 5] rfl ?_
        exact tX12_when_74 hd (fX12_when_40 n) ih x1 x2 x3 x4 x5 M2 hO2
def fX12_when (x1 : Int) (x2 : Int) (x3 : Int) (M : q_Mem) : Option (Int × q_Mem) := q_bd (fX12_isCoin x1 M) fun x21 M1 => if q_w x21 = 0 then (some ((-1), M1)) else (q_bd (fX12_isStall (q_w x2) M1) fun x22 M2 => if q_w x22 = 0 then (some ((-1), M2)) else (q_bd (fX12_isIn (q_w x3) 0 1 M2) fun x23 M3 => if q_w x23 = 0 then (some ((-1), M3)) else ((q_ld M3 131 141 0).bind fun x24 => (fX12_when_40 q_FU x1 x2 x3 (-1) x24 M3))))
theorem tX12_when {d : Nat} (hd : 5 ≤ d) (x1 : Int) (x2 : Int) (x3 : Int) (M : q_Mem) (hO : q_Ok M) : q_EX d yX12_when cX12_when 6 (some .int) 0 (q_args 0 [.inr (.inr 94), .inl x1, .inl x2, .inl x3]) [] M (fX12_when x1 x2 x3 M) := by
  obtain ⟨d, rfl⟩ : ∃ d', d = d' + 1 := ⟨d - 1, by omega⟩
  have hd : 4 ≤ d := by omega
  show q_EX _ _ _ _ _ 0 [(0, .inr (.inr 94)), (1, .inl x1), (2, .inl x2), (3, .inl x3)] [] M _
  unfold fX12_when
  refine q_aload_n 0 dX12_when_0 rfl rfl ?_
  refine q_iload_n 1 dX12_when_1 rfl rfl ?_
  refine q_callVi (As := [.inl x1]) hO mb_X12_isCoin mv_X12_isCoin ml_X12_450 sh_94 rfl dX12_when_2 (fun _ => rfl) rfl (Nat.le_of_ble_eq_true rfl) rfl (Nat.le_of_ble_eq_true rfl) (tX12_isCoin (by omega) x1 M hO) (fun x21 M1 _ hO1 => ?_)
  refine q_ifeq (tgt := 27) dX12_when_5 (by decide) ?_ ?_
  · refine q_iconst dX12_when_27 ?_
    exact q_ret dX12_when_28 rfl
  · refine q_aload_n 0 dX12_when_8 rfl rfl ?_
    refine q_iload_n 2 dX12_when_9 rfl rfl ?_
    refine q_i2l dX12_when_10 ?_
    refine q_callVi (As := [.inr (.inl (q_w x2))]) hO1 mb_X12_isStall mv_X12_isStall ml_X12_441 sh_94 rfl dX12_when_11 (fun _ => rfl) rfl (Nat.le_of_ble_eq_true rfl) rfl (Nat.le_of_ble_eq_true rfl) (tX12_isStall (by omega) (q_w x2) M1 hO1) (fun x22 M2 _ hO2 => ?_)
    refine q_ifeq (tgt := 27) dX12_when_14 (by decide) ?_ ?_
    · refine q_iconst dX12_when_27 ?_
      exact q_ret dX12_when_28 rfl
    · refine q_iload_n 3 dX12_when_17 rfl rfl ?_
      refine q_i2l dX12_when_18 ?_
      refine q_lconst (v := 0) dX12_when_19 (by decide) ?_
      refine q_lconst (v := 1) dX12_when_20 (by decide) ?_
      refine q_callSi (As := [.inr (.inl (q_w x3)), .inr (.inl 0), .inr (.inl 1)]) hO2 mb_X12_isIn ms_X12_isIn ml_X12_277 dX12_when_21 (fun _ => rfl) rfl (Nat.le_of_ble_eq_true rfl) rfl (Nat.le_of_ble_eq_true rfl) (tX12_isIn (q_w x3) 0 1 M2 hO2) (fun x23 M3 _ hO3 => ?_)
      refine q_ifne (tgt := 29) dX12_when_24 (by decide) ?_ ?_
      · refine q_iconst dX12_when_29 ?_
        refine q_istore (ls' := [(4, .inl (-1)), (0, .inr (.inr 94)), (1, .inl x1), (2, .inl x2), (3, .inl x3)]) dX12_when_30 (by decide) rfl ?_
        refine q_aload_n 1 dX12_when_32 rfl rfl ?_
        refine q_getx fl_X12_124 hO3 sh_94 rfl fx_94_49 dX12_when_33 ?_
        refine q_iconst dX12_when_36 ?_
        refine q_iald sh_131 (q_inA hO3 sh_131 (by decide)) dX12_when_37 (fun x24 _ _ _ => ?_)
        refine q_istore (ls' := [(5, .inl x24), (4, .inl (-1)), (0, .inr (.inr 94)), (1, .inl x1), (2, .inl x2), (3, .inl x3)]) dX12_when_38 (by decide) rfl ?_
        refine q_sub [2, 3, 4, 5, 1, 0] rfl ?_
        exact tX12_when_40 hd q_FU x1 x2 x3 (-1) x24 M3 hO3
      · refine q_iconst dX12_when_27 ?_
        exact q_ret dX12_when_28 rfl
def fX12_isNextOrder_107  : Nat → Int → Int → q_Mem → Option (Int × q_Mem)
  | 0, _, _, _ => none
  | n + 1, x4, x5, M => if q_w x4 < q_w x5 then ((q_ld M 135 6 x4).bind fun x21 => (q_ld M 135 6 x5).bind fun x22 => (q_sto M 135 6 x4 x22).bind fun M1 => (q_sto M1 135 6 x5 x21).bind fun M2 => (fX12_isNextOrder_107 n (x4 + 1) (x5 + (-1)) M2)) else (some (1, M))
theorem tX12_isNextOrder_107 {d : Nat} : ∀ (n : Nat) (x4 : Int) (x5 : Int) (M : q_Mem), q_Ok M → q_EX d yX12_isNextOrder cX12_isNextOrder 6 (some .boolean) 107 [(0, .inr (.inr 94)), (4, .inl x4), (5, .inl x5)] [] M (fX12_isNextOrder_107 n x4 x5 M) := by
  intro n
  induction n with
  | zero => intro x4 x5 M hO; exact q_none
  | succ n ih =>
    intro x4 x5 M hO
    rw [fX12_isNextOrder_107]
    refine q_iload 1 dX12_isNextOrder_107 rfl ?_
    refine q_iload 2 dX12_isNextOrder_109 rfl ?_
    refine q_icmpge (tgt := 153) dX12_isNextOrder_111 (by decide) ?_ ?_
    · refine q_iconst dX12_isNextOrder_153 ?_
      exact q_ret ⟨dX12_isNextOrder_154, by decide⟩ rfl
    · refine q_aload_n 0 dX12_isNextOrder_114 rfl rfl ?_
      refine q_getx fl_X12_137 hO sh_94 rfl fx_94_57 dX12_isNextOrder_115 ?_
      refine q_iload 1 dX12_isNextOrder_118 rfl ?_
      refine q_iald sh_135 (q_inA hO sh_135 (by decide)) dX12_isNextOrder_120 (fun x21 _ _ _ => ?_)
      refine q_istore_n (ls' := [(3, .inl x21), (0, .inr (.inr 94)), (4, .inl x4), (5, .inl x5)]) dX12_isNextOrder_121 rfl (by decide) rfl ?_
      refine q_aload_n 1 dX12_isNextOrder_122 rfl rfl ?_
      refine q_getx fl_X12_137 hO sh_94 rfl fx_94_57 dX12_isNextOrder_123 ?_
      refine q_iload 2 dX12_isNextOrder_126 rfl ?_
      refine q_aload_n 1 dX12_isNextOrder_128 rfl rfl ?_
      refine q_getx fl_X12_137 hO sh_94 rfl fx_94_57 dX12_isNextOrder_129 ?_
      refine q_iload 3 dX12_isNextOrder_132 rfl ?_
      refine q_iald sh_135 (q_inA hO sh_135 (by decide)) dX12_isNextOrder_134 (fun x22 _ _ _ => ?_)
      refine q_iast sh_135 (q_inA hO sh_135 (by decide)) dX12_isNextOrder_135 (fun M1 _ _ hM1 => ?_)
      have hO1 : q_Ok M1 := by rw [hM1]; exact q_Ok_arr (t := 0) hO sh_135 (by decide)
      refine q_aload_n 1 dX12_isNextOrder_136 rfl rfl ?_
      refine q_getx fl_X12_137 hO1 sh_94 rfl fx_94_57 dX12_isNextOrder_137 ?_
      refine q_iload 3 dX12_isNextOrder_140 rfl ?_
      refine q_iload_n 0 dX12_isNextOrder_142 rfl rfl ?_
      refine q_iast sh_135 (q_inA hO1 sh_135 (by decide)) dX12_isNextOrder_143 (fun M2 _ _ hM2 => ?_)
      have hO2 : q_Ok M2 := by rw [hM2]; exact q_Ok_arr (t := 0) hO1 sh_135 (by decide)
      refine q_iinc (ls' := [(4, .inl (x4 + 1)), (3, .inl x21), (0, .inr (.inr 94)), (5, .inl x5)]) 2 dX12_isNextOrder_144 rfl (by decide) rfl ?_
      refine q_iinc (ls' := [(5, .inl (x5 + (-1))), (4, .inl (x4 + 1)), (3, .inl x21), (0, .inr (.inr 94))]) 3 dX12_isNextOrder_147 rfl (by decide) rfl ?_
      refine q_goto (tgt := 107) dX12_isNextOrder_150 (by decide) ?_
      refine q_sub [3, 1, 0] rfl ?_
      exact ih (x4 + 1) (x5 + (-1)) M2 hO2
def fX12_isNextOrder_47  : Nat → Int → Int → q_Mem → Option (Int × q_Mem)
  | 0, _, _, _ => none
  | n + 1, x1, x2, M => (q_ld M 135 6 x2).bind fun x21 => (q_ld M 135 6 x1).bind fun x22 => if q_w x21 < q_w x22 then ((fX12_isNextOrder_47 n x1 (x2 + (-1)) M)) else ((q_ld M 135 6 x1).bind fun x23 => (q_ld M 135 6 x2).bind fun x24 => (q_sto M 135 6 x1 x24).bind fun M1 => (q_sto M1 135 6 x2 x23).bind fun M2 => q_let (x1 + 1) fun x25 => q_let ((M2.2 94 59) - 1) fun x26 => (fX12_isNextOrder_107 q_FU x25 x26 M2))
theorem tX12_isNextOrder_47 {d : Nat} : ∀ (n : Nat) (x1 : Int) (x2 : Int) (M : q_Mem), q_Ok M → q_EX d yX12_isNextOrder cX12_isNextOrder 6 (some .boolean) 47 [(0, .inr (.inr 94)), (1, .inl x1), (2, .inl x2)] [] M (fX12_isNextOrder_47 n x1 x2 M) := by
  intro n
  induction n with
  | zero => intro x1 x2 M hO; exact q_none
  | succ n ih =>
    intro x1 x2 M hO
    rw [fX12_isNextOrder_47]
    refine q_aload_n 0 dX12_isNextOrder_47 rfl rfl ?_
    refine q_getx fl_X12_137 hO sh_94 rfl fx_94_57 dX12_isNextOrder_48 ?_
    refine q_iload_n 2 dX12_isNextOrder_51 rfl rfl ?_
    refine q_iald sh_135 (q_inA hO sh_135 (by decide)) dX12_isNextOrder_52 (fun x21 _ _ _ => ?_)
    refine q_aload_n 0 dX12_isNextOrder_53 rfl rfl ?_
    refine q_getx fl_X12_137 hO sh_94 rfl fx_94_57 dX12_isNextOrder_54 ?_
    refine q_iload_n 1 dX12_isNextOrder_57 rfl rfl ?_
    refine q_iald sh_135 (q_inA hO sh_135 (by decide)) dX12_isNextOrder_58 (fun x22 _ _ _ => ?_)
    refine q_icmpge (tgt := 68) dX12_isNextOrder_59 (by decide) ?_ ?_
    · refine q_aload_n 0 dX12_isNextOrder_68 rfl rfl ?_
      refine q_getx fl_X12_137 hO sh_94 rfl fx_94_57 dX12_isNextOrder_69 ?_
      refine q_iload_n 1 dX12_isNextOrder_72 rfl rfl ?_
      refine q_iald sh_135 (q_inA hO sh_135 (by decide)) dX12_isNextOrder_73 (fun x23 _ _ _ => ?_)
      refine q_istore_n (ls' := [(3, .inl x23), (0, .inr (.inr 94)), (1, .inl x1), (2, .inl x2)]) dX12_isNextOrder_74 rfl (by decide) rfl ?_
      refine q_aload_n 1 dX12_isNextOrder_75 rfl rfl ?_
      refine q_getx fl_X12_137 hO sh_94 rfl fx_94_57 dX12_isNextOrder_76 ?_
      refine q_iload_n 2 dX12_isNextOrder_79 rfl rfl ?_
      refine q_aload_n 1 dX12_isNextOrder_80 rfl rfl ?_
      refine q_getx fl_X12_137 hO sh_94 rfl fx_94_57 dX12_isNextOrder_81 ?_
      refine q_iload_n 3 dX12_isNextOrder_84 rfl rfl ?_
      refine q_iald sh_135 (q_inA hO sh_135 (by decide)) dX12_isNextOrder_85 (fun x24 _ _ _ => ?_)
      refine q_iast sh_135 (q_inA hO sh_135 (by decide)) dX12_isNextOrder_86 (fun M1 _ _ hM1 => ?_)
      have hO1 : q_Ok M1 := by rw [hM1]; exact q_Ok_arr (t := 0) hO sh_135 (by decide)
      refine q_aload_n 1 dX12_isNextOrder_87 rfl rfl ?_
      refine q_getx fl_X12_137 hO1 sh_94 rfl fx_94_57 dX12_isNextOrder_88 ?_
      refine q_iload_n 3 dX12_isNextOrder_91 rfl rfl ?_
      refine q_iload_n 0 dX12_isNextOrder_92 rfl rfl ?_
      refine q_iast sh_135 (q_inA hO1 sh_135 (by decide)) dX12_isNextOrder_93 (fun M2 _ _ hM2 => ?_)
      have hO2 : q_Ok M2 := by rw [hM2]; exact q_Ok_arr (t := 0) hO1 sh_135 (by decide)
      refine q_iload_n 2 dX12_isNextOrder_94 rfl rfl ?_
      refine q_iconst dX12_isNextOrder_95 ?_
      refine q_iadd dX12_isNextOrder_96 ?_
      refine q_nameI (fun x25 _ => ?_)
      refine q_istore (ls' := [(4, .inl x25), (3, .inl x23), (0, .inr (.inr 94)), (1, .inl x1), (2, .inl x2)]) dX12_isNextOrder_97 (by decide) rfl ?_
      refine q_aload_n 2 dX12_isNextOrder_99 rfl rfl ?_
      refine q_geti fl_X12_458 sh_94 (q_inO hO2 sh_94) rfl dX12_isNextOrder_100 ?_
      refine q_iconst dX12_isNextOrder_103 ?_
      refine q_isub dX12_isNextOrder_104 ?_
      refine q_nameI (fun x26 _ => ?_)
      refine q_istore (ls' := [(5, .inl x26), (4, .inl x25), (3, .inl x23), (0, .inr (.inr 94)), (1, .inl x1), (2, .inl x2)]) dX12_isNextOrder_105 (by decide) rfl ?_
      refine q_sub [3, 1, 0] rfl ?_
      exact tX12_isNextOrder_107 q_FU x25 x26 M2 hO2
    · refine q_iinc (ls' := [(2, .inl (x2 + (-1))), (0, .inr (.inr 94)), (1, .inl x1)]) 2 dX12_isNextOrder_62 rfl (by decide) rfl ?_
      refine q_goto (tgt := 47) dX12_isNextOrder_65 (by decide) ?_
      refine q_sub [1, 2, 0] rfl ?_
      exact ih x1 (x2 + (-1)) M hO
def fX12_isNextOrder_34 (x1 : Int) (M : q_Mem) : Option (Int × q_Mem) := if q_w x1 < 0 then (some (0, M)) else (q_let ((M.2 94 59) - 1) fun x21 => (fX12_isNextOrder_47 q_FU x1 x21 M))
theorem tX12_isNextOrder_34 {d : Nat} (x1 : Int) (M : q_Mem) (hO : q_Ok M) : q_EX d yX12_isNextOrder cX12_isNextOrder 6 (some .boolean) 34 [(0, .inr (.inr 94)), (1, .inl x1)] [] M (fX12_isNextOrder_34 x1 M) := by
  unfold fX12_isNextOrder_34
  refine q_iload_n 1 dX12_isNextOrder_34 rfl rfl ?_
  refine q_ifge (tgt := 40) dX12_isNextOrder_35 (by decide) ?_ ?_
  · refine q_aload_n 0 dX12_isNextOrder_40 rfl rfl ?_
    refine q_geti fl_X12_458 sh_94 (q_inO hO sh_94) rfl dX12_isNextOrder_41 ?_
    refine q_iconst dX12_isNextOrder_44 ?_
    refine q_isub dX12_isNextOrder_45 ?_
    refine q_nameI (fun x21 _ => ?_)
    refine q_istore_n (ls' := [(2, .inl x21), (0, .inr (.inr 94)), (1, .inl x1)]) dX12_isNextOrder_46 rfl (by decide) rfl ?_
    refine q_sub [1, 2, 0] rfl ?_
    exact tX12_isNextOrder_47 q_FU x1 x21 M hO
  · refine q_iconst dX12_isNextOrder_38 ?_
    exact q_ret ⟨dX12_isNextOrder_39, by decide⟩ rfl
def fX12_isNextOrder_7  : Nat → Int → q_Mem → Option (Int × q_Mem)
  | 0, _, _ => none
  | n + 1, x1, M => if q_w x1 < 0 then ((fX12_isNextOrder_34 x1 M)) else ((q_ld M 135 6 x1).bind fun x21 => (q_ld M 135 6 (x1 + 1)).bind fun x22 => if q_w x22 < q_w x21 then ((fX12_isNextOrder_7 n (x1 + (-1)) M)) else ((fX12_isNextOrder_34 x1 M)))
theorem tX12_isNextOrder_7 {d : Nat} : ∀ (n : Nat) (x1 : Int) (M : q_Mem), q_Ok M → q_EX d yX12_isNextOrder cX12_isNextOrder 6 (some .boolean) 7 [(0, .inr (.inr 94)), (1, .inl x1)] [] M (fX12_isNextOrder_7 n x1 M) := by
  intro n
  induction n with
  | zero => intro x1 M hO; exact q_none
  | succ n ih =>
    intro x1 M hO
    rw [fX12_isNextOrder_7]
    refine q_iload_n 1 dX12_isNextOrder_7 rfl rfl ?_
    refine q_iflt (tgt := 34) dX12_isNextOrder_8 (by decide) ?_ ?_
    · refine q_sub [0, 1] rfl ?_
      exact tX12_isNextOrder_34 x1 M hO
    · refine q_aload_n 0 dX12_isNextOrder_11 rfl rfl ?_
      refine q_getx fl_X12_137 hO sh_94 rfl fx_94_57 dX12_isNextOrder_12 ?_
      refine q_iload_n 1 dX12_isNextOrder_15 rfl rfl ?_
      refine q_iald sh_135 (q_inA hO sh_135 (by decide)) dX12_isNextOrder_16 (fun x21 _ _ _ => ?_)
      refine q_aload_n 0 dX12_isNextOrder_17 rfl rfl ?_
      refine q_getx fl_X12_137 hO sh_94 rfl fx_94_57 dX12_isNextOrder_18 ?_
      refine q_iload_n 1 dX12_isNextOrder_21 rfl rfl ?_
      refine q_iconst dX12_isNextOrder_22 ?_
      refine q_iadd dX12_isNextOrder_23 ?_
      refine q_iald sh_135 (q_inA hO sh_135 (by decide)) dX12_isNextOrder_24 (fun x22 _ _ _ => ?_)
      refine q_icmple (tgt := 34) dX12_isNextOrder_25 (by decide) ?_ ?_
      · refine q_sub [0, 1] rfl ?_
        exact tX12_isNextOrder_34 x1 M hO
      · refine q_iinc (ls' := [(1, .inl (x1 + (-1))), (0, .inr (.inr 94))]) 1 dX12_isNextOrder_28 rfl (by decide) rfl ?_
        refine q_goto (tgt := 7) dX12_isNextOrder_31 (by decide) ?_
        refine q_sub [1, 0] rfl ?_
        exact ih (x1 + (-1)) M hO
def fX12_isNextOrder (M : q_Mem) : Option (Int × q_Mem) := q_let ((M.2 94 59) - 2) fun x21 => (fX12_isNextOrder_7 q_FU x21 M)
theorem tX12_isNextOrder {d : Nat} (M : q_Mem) (hO : q_Ok M) : q_EX d yX12_isNextOrder cX12_isNextOrder 6 (some .boolean) 0 (q_args 0 [.inr (.inr 94)]) [] M (fX12_isNextOrder M) := by
  show q_EX _ _ _ _ _ 0 [(0, .inr (.inr 94))] [] M _
  unfold fX12_isNextOrder
  refine q_aload_n 0 dX12_isNextOrder_0 rfl rfl ?_
  refine q_geti fl_X12_458 sh_94 (q_inO hO sh_94) rfl dX12_isNextOrder_1 ?_
  refine q_iconst dX12_isNextOrder_4 ?_
  refine q_isub dX12_isNextOrder_5 ?_
  refine q_nameI (fun x21 _ => ?_)
  refine q_istore_n (ls' := [(1, .inl x21), (0, .inr (.inr 94))]) dX12_isNextOrder_6 rfl (by decide) rfl ?_
  refine q_sub [1, 0] rfl ?_
  exact tX12_isNextOrder_7 q_FU x21 M hO
def fX12_apart (x0 : Int) (x1 : Int) (M : q_Mem) : Option (Int × q_Mem) := if q_w x0 < q_w x1 then (some ((x1 - x0), M)) else (some ((x0 - x1), M))
theorem tX12_apart {d : Nat} (x0 : Int) (x1 : Int) (M : q_Mem) (hO : q_Ok M) : q_EX d yX12_apart cX12_apart 2 (some .int) 0 (q_args 0 [.inl x0, .inl x1]) [] M (fX12_apart x0 x1 M) := by
  show q_EX _ _ _ _ _ 0 [(0, .inl x0), (1, .inl x1)] [] M _
  unfold fX12_apart
  refine q_iload_n 0 dX12_apart_0 rfl rfl ?_
  refine q_iload_n 1 dX12_apart_1 rfl rfl ?_
  refine q_icmpge (tgt := 11) dX12_apart_2 (by decide) ?_ ?_
  · refine q_iload_n 0 dX12_apart_11 rfl rfl ?_
    refine q_iload_n 1 dX12_apart_12 rfl rfl ?_
    refine q_isub dX12_apart_13 ?_
    exact q_ret dX12_apart_14 rfl
  · refine q_iload_n 1 dX12_apart_5 rfl rfl ?_
    refine q_iload_n 0 dX12_apart_6 rfl rfl ?_
    refine q_isub dX12_apart_7 ?_
    refine q_goto (tgt := 14) dX12_apart_8 (by decide) ?_
    exact q_ret dX12_apart_14 rfl
def fX12_orderEnds_16  : Nat → Int → Int → Int → q_Mem → Option (Int × q_Mem)
  | 0, _, _, _, _ => none
  | n + 1, x1, x2, x3, M => if q_w x3 < q_w (M.2 94 59) then ((q_ld M 135 6 x3).bind fun x21 => q_bd (fX12_placeOf x21 M) fun x22 M1 => q_bd (fX12_apart x2 x22 M1) fun x23 M2 => q_let (x1 + x23) fun x24 => q_bd (fX12_placeOf x21 M2) fun x25 M3 => q_bd (fX12_fairMinutes M3) fun x26 M4 => if q_w x26 < q_w x24 then (some ((-1), M4)) else ((q_ld M4 134 2412 ((402 * x21) + x24)).bind fun x27 => if q_w x27 = q_w (-1) then (some ((-1), M4)) else ((q_ld M4 134 2412 ((402 * x21) + x24)).bind fun x28 => (fX12_orderEnds_16 n x28 x25 (x3 + 1) M4)))) else (some (x1, M))
theorem tX12_orderEnds_16 {d : Nat} (hd : 0 ≤ d) : ∀ (n : Nat) (x1 : Int) (x2 : Int) (x3 : Int) (M : q_Mem), q_Ok M → q_EX (d + 1) yX12_orderEnds cX12_orderEnds 5 (some .int) 16 [(0, .inr (.inr 94)), (1, .inl x1), (2, .inl x2), (3, .inl x3)] [] M (fX12_orderEnds_16 n x1 x2 x3 M) := by
  intro n
  induction n with
  | zero => intro x1 x2 x3 M hO; exact q_none
  | succ n ih =>
    intro x1 x2 x3 M hO
    rw [fX12_orderEnds_16]
    refine q_iload_n 3 dX12_orderEnds_16 rfl rfl ?_
    refine q_aload_n 0 dX12_orderEnds_17 rfl rfl ?_
    refine q_geti fl_X12_458 sh_94 (q_inO hO sh_94) rfl dX12_orderEnds_18 ?_
    refine q_icmpge (tgt := 99) dX12_orderEnds_21 (by decide) ?_ ?_
    · refine q_iload_n 1 dX12_orderEnds_99 rfl rfl ?_
      exact q_ret dX12_orderEnds_100 rfl
    · refine q_aload_n 0 dX12_orderEnds_24 rfl rfl ?_
      refine q_getx fl_X12_137 hO sh_94 rfl fx_94_57 dX12_orderEnds_25 ?_
      refine q_iload_n 3 dX12_orderEnds_28 rfl rfl ?_
      refine q_iald sh_135 (q_inA hO sh_135 (by decide)) dX12_orderEnds_29 (fun x21 _ _ _ => ?_)
      refine q_istore (ls' := [(4, .inl x21), (0, .inr (.inr 94)), (1, .inl x1), (2, .inl x2), (3, .inl x3)]) dX12_orderEnds_30 (by decide) rfl ?_
      refine q_iload_n 2 dX12_orderEnds_32 rfl rfl ?_
      refine q_iload_n 3 dX12_orderEnds_33 rfl rfl ?_
      refine q_aload_n 1 dX12_orderEnds_34 rfl rfl ?_
      refine q_iload 0 dX12_orderEnds_35 rfl ?_
      refine q_callVi (As := [.inl x21]) hO mb_X12_placeOf mv_X12_placeOf ml_X12_430 sh_94 rfl dX12_orderEnds_37 (fun _ => rfl) rfl (Nat.le_of_ble_eq_true rfl) rfl (Nat.le_of_ble_eq_true rfl) (tX12_placeOf x21 M hO) (fun x22 M1 _ hO1 => ?_)
      refine q_callSi (As := [.inl x2, .inl x22]) hO1 mb_X12_apart ms_X12_apart ml_X12_461 dX12_orderEnds_40 (fun _ => rfl) rfl (Nat.le_of_ble_eq_true rfl) rfl (Nat.le_of_ble_eq_true rfl) (tX12_apart x2 x22 M1 hO1) (fun x23 M2 _ hO2 => ?_)
      refine q_iadd dX12_orderEnds_43 ?_
      refine q_nameI (fun x24 _ => ?_)
      refine q_istore_n (ls' := [(1, .inl x24), (4, .inl x21), (0, .inr (.inr 94)), (2, .inl x2), (3, .inl x3)]) dX12_orderEnds_44 rfl (by decide) rfl ?_
      refine q_aload_n 2 dX12_orderEnds_45 rfl rfl ?_
      refine q_iload 1 dX12_orderEnds_46 rfl ?_
      refine q_callVi (As := [.inl x21]) hO2 mb_X12_placeOf mv_X12_placeOf ml_X12_430 sh_94 rfl dX12_orderEnds_48 (fun _ => rfl) rfl (Nat.le_of_ble_eq_true rfl) rfl (Nat.le_of_ble_eq_true rfl) (tX12_placeOf x21 M2 hO2) (fun x25 M3 _ hO3 => ?_)
      refine q_istore_n (ls' := [(2, .inl x25), (1, .inl x24), (4, .inl x21), (0, .inr (.inr 94)), (3, .inl x3)]) dX12_orderEnds_51 rfl (by decide) rfl ?_
      refine q_iload_n 1 dX12_orderEnds_52 rfl rfl ?_
      refine q_aload_n 3 dX12_orderEnds_53 rfl rfl ?_
      refine q_callVi (As := []) hO3 mb_X12_fairMinutes mv_X12_fairMinutes ml_X12_382 sh_94 rfl dX12_orderEnds_54 (fun _ => rfl) rfl (Nat.le_of_ble_eq_true rfl) rfl (Nat.le_of_ble_eq_true rfl) (tX12_fairMinutes M3 hO3) (fun x26 M4 _ hO4 => ?_)
      refine q_icmpgt (tgt := 77) dX12_orderEnds_57 (by decide) ?_ ?_
      · refine q_iconst dX12_orderEnds_77 ?_
        exact q_ret dX12_orderEnds_78 rfl
      · refine q_aload_n 3 dX12_orderEnds_60 rfl rfl ?_
        refine q_getx fl_X12_134 hO4 sh_94 rfl fx_94_56 dX12_orderEnds_61 ?_
        refine q_sipush dX12_orderEnds_64 (by decide) ?_
        refine q_iload 2 dX12_orderEnds_67 rfl ?_
        refine q_imul dX12_orderEnds_69 ?_
        refine q_iload_n 1 dX12_orderEnds_70 rfl rfl ?_
        refine q_iadd dX12_orderEnds_71 ?_
        refine q_iald sh_134 (q_inA hO4 sh_134 (by decide)) dX12_orderEnds_72 (fun x27 _ _ _ => ?_)
        refine q_iconst dX12_orderEnds_73 ?_
        refine q_icmpne (tgt := 79) dX12_orderEnds_74 (by decide) ?_ ?_
        · refine q_aload_n 3 dX12_orderEnds_79 rfl rfl ?_
          refine q_getx fl_X12_134 hO4 sh_94 rfl fx_94_56 dX12_orderEnds_80 ?_
          refine q_sipush dX12_orderEnds_83 (by decide) ?_
          refine q_iload 2 dX12_orderEnds_86 rfl ?_
          refine q_imul dX12_orderEnds_88 ?_
          refine q_iload_n 1 dX12_orderEnds_89 rfl rfl ?_
          refine q_iadd dX12_orderEnds_90 ?_
          refine q_iald sh_134 (q_inA hO4 sh_134 (by decide)) dX12_orderEnds_91 (fun x28 _ _ _ => ?_)
          refine q_istore_n (ls' := [(1, .inl x28), (2, .inl x25), (4, .inl x21), (0, .inr (.inr 94)), (3, .inl x3)]) dX12_orderEnds_92 rfl (by decide) rfl ?_
          refine q_iinc (ls' := [(3, .inl (x3 + 1)), (1, .inl x28), (2, .inl x25), (4, .inl x21), (0, .inr (.inr 94))]) 4 dX12_orderEnds_93 rfl (by decide) rfl ?_
          refine q_goto (tgt := 16) dX12_orderEnds_96 (by decide) ?_
          refine q_sub [4, 1, 2, 0] rfl ?_
          exact ih x28 x25 (x3 + 1) M4 hO4
        · refine q_iconst dX12_orderEnds_77 ?_
          exact q_ret dX12_orderEnds_78 rfl
def fX12_orderEnds (M : q_Mem) : Option (Int × q_Mem) := (q_ld M 131 141 0).bind fun x21 => (q_ld M 131 141 1).bind fun x22 => (fX12_orderEnds_16 q_FU x21 x22 0 M)
theorem tX12_orderEnds {d : Nat} (hd : 1 ≤ d) (M : q_Mem) (hO : q_Ok M) : q_EX d yX12_orderEnds cX12_orderEnds 5 (some .int) 0 (q_args 0 [.inr (.inr 94)]) [] M (fX12_orderEnds M) := by
  obtain ⟨d, rfl⟩ : ∃ d', d = d' + 1 := ⟨d - 1, by omega⟩
  have hd : 0 ≤ d := by omega
  show q_EX _ _ _ _ _ 0 [(0, .inr (.inr 94))] [] M _
  unfold fX12_orderEnds
  refine q_aload_n 0 dX12_orderEnds_0 rfl rfl ?_
  refine q_getx fl_X12_124 hO sh_94 rfl fx_94_49 dX12_orderEnds_1 ?_
  refine q_iconst dX12_orderEnds_4 ?_
  refine q_iald sh_131 (q_inA hO sh_131 (by decide)) dX12_orderEnds_5 (fun x21 _ _ _ => ?_)
  refine q_istore_n (ls' := [(1, .inl x21), (0, .inr (.inr 94))]) dX12_orderEnds_6 rfl (by decide) rfl ?_
  refine q_aload_n 1 dX12_orderEnds_7 rfl rfl ?_
  refine q_getx fl_X12_124 hO sh_94 rfl fx_94_49 dX12_orderEnds_8 ?_
  refine q_iconst dX12_orderEnds_11 ?_
  refine q_iald sh_131 (q_inA hO sh_131 (by decide)) dX12_orderEnds_12 (fun x22 _ _ _ => ?_)
  refine q_istore_n (ls' := [(2, .inl x22), (1, .inl x21), (0, .inr (.inr 94))]) dX12_orderEnds_13 rfl (by decide) rfl ?_
  refine q_iconst dX12_orderEnds_14 ?_
  refine q_istore_n (ls' := [(3, .inl 0), (2, .inl x22), (1, .inl x21), (0, .inr (.inr 94))]) dX12_orderEnds_15 rfl (by decide) rfl ?_
  refine q_sub [3, 2, 1, 0] rfl ?_
  exact tX12_orderEnds_16 hd q_FU x21 x22 0 M hO
def fX12_laysRound_44 (K7 : Int → Int → q_Mem → Option (Int × q_Mem)) (x1 : Int) (x2 : Int) (M : q_Mem) : Option (Int × q_Mem) := (K7 x1 (x2 + 1) M)
theorem tX12_laysRound_44 {d : Nat} (hd : 1 ≤ d) (K7 : Int → Int → q_Mem → Option (Int × q_Mem)) (hK7 : ∀ (x1 : Int) (x2 : Int) (M : q_Mem), q_Ok M → q_EX (d + 1) yX12_laysRound cX12_laysRound 5 none 7 [(0, .inr (.inr 94)), (1, .inl x1), (2, .inl x2)] [] M (K7 x1 x2 M)) (x1 : Int) (x2 : Int) (M : q_Mem) (hO : q_Ok M) : q_EX (d + 1) yX12_laysRound cX12_laysRound 5 none 44 [(0, .inr (.inr 94)), (1, .inl x1), (2, .inl x2)] [] M (fX12_laysRound_44 K7 x1 x2 M) := by
  unfold fX12_laysRound_44
  refine q_iinc (ls' := [(2, .inl (x2 + 1)), (0, .inr (.inr 94)), (1, .inl x1)]) 2 dX12_laysRound_44 rfl (by decide) rfl ?_
  refine q_goto (tgt := 7) dX12_laysRound_47 (by decide) ?_
  refine q_sub [1, 2, 0] rfl ?_
  exact hK7 x1 (x2 + 1) M hO
def fX12_laysRound_124 (K57 : Int → q_Mem → Option (Int × q_Mem)) (M : q_Mem) : Option (Int × q_Mem) := q_bd (fX12_isNextOrder M) fun x21 M1 => (K57 x21 M1)
theorem tX12_laysRound_124 {d : Nat} (hd : 1 ≤ d) (K57 : Int → q_Mem → Option (Int × q_Mem)) (hK57 : ∀ (x2 : Int) (M : q_Mem), q_Ok M → q_EX (d + 1) yX12_laysRound cX12_laysRound 5 none 57 [(0, .inr (.inr 94)), (2, .inl x2)] [] M (K57 x2 M)) (M : q_Mem) (hO : q_Ok M) : q_EX (d + 1) yX12_laysRound cX12_laysRound 5 none 124 [(0, .inr (.inr 94))] [] M (fX12_laysRound_124 K57 M) := by
  unfold fX12_laysRound_124
  refine q_aload_n 0 dX12_laysRound_124 rfl rfl ?_
  refine q_callVi (As := []) hO mb_X12_isNextOrder mv_X12_isNextOrder ml_X12_470 sh_94 rfl dX12_laysRound_125 (fun _ => rfl) rfl (Nat.le_of_ble_eq_true rfl) rfl (Nat.le_of_ble_eq_true rfl) (tX12_isNextOrder M hO) (fun x21 M1 _ hO1 => ?_)
  refine q_istore_n (ls' := [(2, .inl x21), (0, .inr (.inr 94))]) dX12_laysRound_128 rfl (by decide) rfl ?_
  refine q_goto (tgt := 57) dX12_laysRound_129 (by decide) ?_
  refine q_sub [1, 0] rfl ?_
  exact hK57 x21 M1 hO1
def fX12_laysRound_95 (K57 : Int → q_Mem → Option (Int × q_Mem)) : Nat → Int → q_Mem → Option (Int × q_Mem)
  | 0, _, _ => none
  | n + 1, x4, M => if q_w x4 < q_w (M.2 94 59) then ((q_ld M 135 6 x4).bind fun x21 => (q_sto M 136 6 x4 x21).bind fun M1 => (fX12_laysRound_95 K57 n (x4 + 1) M1)) else ((fX12_laysRound_124 K57 M))
theorem tX12_laysRound_95 {d : Nat} (hd : 1 ≤ d) (K57 : Int → q_Mem → Option (Int × q_Mem)) (hK57 : ∀ (x2 : Int) (M : q_Mem), q_Ok M → q_EX (d + 1) yX12_laysRound cX12_laysRound 5 none 57 [(0, .inr (.inr 94)), (2, .inl x2)] [] M (K57 x2 M)) : ∀ (n : Nat) (x4 : Int) (M : q_Mem), q_Ok M → q_EX (d + 1) yX12_laysRound cX12_laysRound 5 none 95 [(0, .inr (.inr 94)), (4, .inl x4)] [] M (fX12_laysRound_95 K57 n x4 M) := by
  intro n
  induction n with
  | zero => intro x4 M hO; exact q_none
  | succ n ih =>
    intro x4 M hO
    rw [fX12_laysRound_95]
    refine q_iload 1 dX12_laysRound_95 rfl ?_
    refine q_aload_n 0 dX12_laysRound_97 rfl rfl ?_
    refine q_geti fl_X12_458 sh_94 (q_inO hO sh_94) rfl dX12_laysRound_98 ?_
    refine q_icmpge (tgt := 124) dX12_laysRound_101 (by decide) ?_ ?_
    · refine q_sub [0] rfl ?_
      exact tX12_laysRound_124 hd K57 hK57 M hO
    · refine q_aload_n 0 dX12_laysRound_104 rfl rfl ?_
      refine q_getx fl_X12_140 hO sh_94 rfl fx_94_58 dX12_laysRound_105 ?_
      refine q_iload 1 dX12_laysRound_108 rfl ?_
      refine q_aload_n 0 dX12_laysRound_110 rfl rfl ?_
      refine q_getx fl_X12_137 hO sh_94 rfl fx_94_57 dX12_laysRound_111 ?_
      refine q_iload 1 dX12_laysRound_114 rfl ?_
      refine q_iald sh_135 (q_inA hO sh_135 (by decide)) dX12_laysRound_116 (fun x21 _ _ _ => ?_)
      refine q_iast sh_136 (q_inA hO sh_136 (by decide)) dX12_laysRound_117 (fun M1 _ _ hM1 => ?_)
      have hO1 : q_Ok M1 := by rw [hM1]; exact q_Ok_arr (t := 0) hO sh_136 (by decide)
      refine q_iinc (ls' := [(4, .inl (x4 + 1)), (0, .inr (.inr 94))]) 1 dX12_laysRound_118 rfl (by decide) rfl ?_
      refine q_goto (tgt := 95) dX12_laysRound_121 (by decide) ?_
      refine q_sub [1, 0] rfl ?_
      exact ih (x4 + 1) M1 hO1
def fX12_laysRound_87 (K57 : Int → q_Mem → Option (Int × q_Mem)) (x3 : Int) (M : q_Mem) : Option (Int × q_Mem) := q_let (q_up M 94 60 x3) fun M1 => (fX12_laysRound_95 K57 q_FU 0 M1)
theorem tX12_laysRound_87 {d : Nat} (hd : 1 ≤ d) (K57 : Int → q_Mem → Option (Int × q_Mem)) (hK57 : ∀ (x2 : Int) (M : q_Mem), q_Ok M → q_EX (d + 1) yX12_laysRound cX12_laysRound 5 none 57 [(0, .inr (.inr 94)), (2, .inl x2)] [] M (K57 x2 M)) (x3 : Int) (M : q_Mem) (hO : q_Ok M) : q_EX (d + 1) yX12_laysRound cX12_laysRound 5 none 87 [(0, .inr (.inr 94)), (3, .inl x3)] [] M (fX12_laysRound_87 K57 x3 M) := by
  unfold fX12_laysRound_87
  refine q_aload_n 0 dX12_laysRound_87 rfl rfl ?_
  refine q_iload_n 1 dX12_laysRound_88 rfl rfl ?_
  refine q_puti fl_X12_464 sh_94 (q_inO hO sh_94) (fun h => q_Ok_put h sh_94 rfl) rfl dX12_laysRound_89 (fun M1 hM1 => ?_)
  have hO1 : q_Ok M1 := by rw [hM1]; exact q_Ok_put hO sh_94 rfl
  refine q_iconst dX12_laysRound_92 ?_
  refine q_istore (ls' := [(4, .inl 0), (0, .inr (.inr 94)), (3, .inl x3)]) dX12_laysRound_93 (by decide) rfl ?_
  refine q_sub [1, 0] rfl ?_
  exact tX12_laysRound_95 hd K57 hK57 q_FU 0 M1 hO1
def fX12_laysRound_57  : Nat → Int → q_Mem → Option (Int × q_Mem)
  | 0, _, _ => none
  | n + 1, x2, M => if q_w x2 = 0 then (some (0, M)) else (q_bd (fX12_orderEnds M) fun x21 M1 => if q_w x21 = q_w (-1) then ((fX12_laysRound_124 (fX12_laysRound_57 n) M1)) else (if q_w (M1.2 94 60) = q_w (-1) then ((fX12_laysRound_87 (fX12_laysRound_57 n) x21 M1)) else (if q_w x21 < q_w (M1.2 94 60) then ((fX12_laysRound_87 (fX12_laysRound_57 n) x21 M1)) else ((fX12_laysRound_124 (fX12_laysRound_57 n) M1)))))
theorem tX12_laysRound_57 {d : Nat} (hd : 1 ≤ d) : ∀ (n : Nat) (x2 : Int) (M : q_Mem), q_Ok M → q_EX (d + 1) yX12_laysRound cX12_laysRound 5 none 57 [(0, .inr (.inr 94)), (2, .inl x2)] [] M (fX12_laysRound_57 n x2 M) := by
  intro n
  induction n with
  | zero => intro x2 M hO; exact q_none
  | succ n ih =>
    intro x2 M hO
    rw [fX12_laysRound_57]
    refine q_iload_n 1 dX12_laysRound_57 rfl rfl ?_
    refine q_ifeq (tgt := 132) dX12_laysRound_58 (by decide) ?_ ?_
    · exact q_ret dX12_laysRound_132 rfl
    · refine q_aload_n 0 dX12_laysRound_61 rfl rfl ?_
      refine q_callVi (As := []) hO mb_X12_orderEnds mv_X12_orderEnds ml_X12_467 sh_94 rfl dX12_laysRound_62 (fun _ => rfl) rfl (Nat.le_of_ble_eq_true rfl) rfl (Nat.le_of_ble_eq_true rfl) (tX12_orderEnds (by omega) M hO) (fun x21 M1 _ hO1 => ?_)
      refine q_istore_n (ls' := [(3, .inl x21), (0, .inr (.inr 94)), (2, .inl x2)]) dX12_laysRound_65 rfl (by decide) rfl ?_
      refine q_iload_n 0 dX12_laysRound_66 rfl rfl ?_
      refine q_iconst dX12_laysRound_67 ?_
      refine q_icmpeq (tgt := 124) dX12_laysRound_68 (by decide) ?_ ?_
      · refine q_sub [1] rfl ?_
        exact tX12_laysRound_124 hd (fX12_laysRound_57 n) ih M1 hO1
      · refine q_aload_n 1 dX12_laysRound_71 rfl rfl ?_
        refine q_geti fl_X12_464 sh_94 (q_inO hO1 sh_94) rfl dX12_laysRound_72 ?_
        refine q_iconst dX12_laysRound_75 ?_
        refine q_icmpeq (tgt := 87) dX12_laysRound_76 (by decide) ?_ ?_
        · refine q_sub [1, 0] rfl ?_
          exact tX12_laysRound_87 hd (fX12_laysRound_57 n) ih x21 M1 hO1
        · refine q_iload_n 0 dX12_laysRound_79 rfl rfl ?_
          refine q_aload_n 1 dX12_laysRound_80 rfl rfl ?_
          refine q_geti fl_X12_464 sh_94 (q_inO hO1 sh_94) rfl dX12_laysRound_81 ?_
          refine q_icmpge (tgt := 124) dX12_laysRound_84 (by decide) ?_ ?_
          · refine q_sub [1] rfl ?_
            exact tX12_laysRound_124 hd (fX12_laysRound_57 n) ih M1 hO1
          · refine q_sub [1, 0] rfl ?_
            exact tX12_laysRound_87 hd (fX12_laysRound_57 n) ih x21 M1 hO1
def fX12_laysRound_7  : Nat → Int → Int → q_Mem → Option (Int × q_Mem)
  | 0, _, _, _ => none
  | n + 1, x1, x2, M => q_bd (fX12_stallMany M) fun x21 M1 => if q_w x2 < q_w x21 then (if q_w (q_and (q_shr x1 x2) 1) = q_w 1 then ((q_sto M1 135 6 (M1.2 94 59) x2).bind fun M3 => q_let (q_up M3 94 59 ((M3.2 94 59) + 1)) fun M4 => (fX12_laysRound_44 (fX12_laysRound_7 n) x1 x2 M4)) else ((fX12_laysRound_44 (fX12_laysRound_7 n) x1 x2 M1))) else (q_let (q_up M1 94 60 (-1)) fun M2 => (fX12_laysRound_57 q_FU 1 M2))
theorem tX12_laysRound_7 {d : Nat} (hd : 1 ≤ d) : ∀ (n : Nat) (x1 : Int) (x2 : Int) (M : q_Mem), q_Ok M → q_EX (d + 1) yX12_laysRound cX12_laysRound 5 none 7 [(0, .inr (.inr 94)), (1, .inl x1), (2, .inl x2)] [] M (fX12_laysRound_7 n x1 x2 M) := by
  intro n
  induction n with
  | zero => intro x1 x2 M hO; exact q_none
  | succ n ih =>
    intro x1 x2 M hO
    rw [fX12_laysRound_7]
    refine q_iload_n 2 dX12_laysRound_7 rfl rfl ?_
    refine q_aload_n 0 dX12_laysRound_8 rfl rfl ?_
    refine q_callVi (As := []) hO mb_X12_stallMany mv_X12_stallMany ml_X12_376 sh_94 rfl dX12_laysRound_9 (fun _ => rfl) rfl (Nat.le_of_ble_eq_true rfl) rfl (Nat.le_of_ble_eq_true rfl) (tX12_stallMany M hO) (fun x21 M1 _ hO1 => ?_)
    refine q_icmpge (tgt := 50) dX12_laysRound_12 (by decide) ?_ ?_
    · refine q_aload_n 0 dX12_laysRound_50 rfl rfl ?_
      refine q_iconst dX12_laysRound_51 ?_
      refine q_puti fl_X12_464 sh_94 (q_inO hO1 sh_94) (fun h => q_Ok_put h sh_94 rfl) rfl dX12_laysRound_52 (fun M2 hM2 => ?_)
      have hO2 : q_Ok M2 := by rw [hM2]; exact q_Ok_put hO1 sh_94 rfl
      refine q_iconst dX12_laysRound_55 ?_
      refine q_istore_n (ls' := [(2, .inl 1), (0, .inr (.inr 94)), (1, .inl x1)]) dX12_laysRound_56 rfl (by decide) rfl ?_
      refine q_sub [1, 0] rfl ?_
      exact tX12_laysRound_57 hd q_FU 1 M2 hO2
    · refine q_iload_n 1 dX12_laysRound_15 rfl rfl ?_
      refine q_iload_n 2 dX12_laysRound_16 rfl rfl ?_
      refine q_ishr dX12_laysRound_17 ?_
      refine q_iconst dX12_laysRound_18 ?_
      refine q_iand dX12_laysRound_19 ?_
      refine q_iconst dX12_laysRound_20 ?_
      refine q_icmpne (tgt := 44) dX12_laysRound_21 (by decide) ?_ ?_
      · refine q_sub [0, 1, 2] rfl ?_
        exact tX12_laysRound_44 hd (fX12_laysRound_7 n) ih x1 x2 M1 hO1
      · refine q_aload_n 0 dX12_laysRound_24 rfl rfl ?_
        refine q_getx fl_X12_137 hO1 sh_94 rfl fx_94_57 dX12_laysRound_25 ?_
        refine q_aload_n 0 dX12_laysRound_28 rfl rfl ?_
        refine q_geti fl_X12_458 sh_94 (q_inO hO1 sh_94) rfl dX12_laysRound_29 ?_
        refine q_iload_n 2 dX12_laysRound_32 rfl rfl ?_
        refine q_iast sh_135 (q_inA hO1 sh_135 (by decide)) dX12_laysRound_33 (fun M3 _ _ hM3 => ?_)
        have hO3 : q_Ok M3 := by rw [hM3]; exact q_Ok_arr (t := 0) hO1 sh_135 (by decide)
        refine q_aload_n 0 dX12_laysRound_34 rfl rfl ?_
        refine q_dup dX12_laysRound_35 rfl ?_
        refine q_geti fl_X12_458 sh_94 (q_inO hO3 sh_94) rfl dX12_laysRound_36 ?_
        refine q_iconst dX12_laysRound_39 ?_
        refine q_iadd dX12_laysRound_40 ?_
        refine q_puti fl_X12_458 sh_94 (q_inO hO3 sh_94) (fun h => q_Ok_put h sh_94 rfl) rfl dX12_laysRound_41 (fun M4 hM4 => ?_)
        have hO4 : q_Ok M4 := by rw [hM4]; exact q_Ok_put hO3 sh_94 rfl
        refine q_sub [0, 1, 2] rfl ?_
        exact tX12_laysRound_44 hd (fX12_laysRound_7 n) ih x1 x2 M4 hO4
def fX12_laysRound (x1 : Int) (M : q_Mem) : Option (Int × q_Mem) := q_let (q_up M 94 59 0) fun M1 => (fX12_laysRound_7 q_FU x1 0 M1)
theorem tX12_laysRound {d : Nat} (hd : 2 ≤ d) (x1 : Int) (M : q_Mem) (hO : q_Ok M) : q_EX d yX12_laysRound cX12_laysRound 5 none 0 (q_args 0 [.inr (.inr 94), .inl x1]) [] M (fX12_laysRound x1 M) := by
  obtain ⟨d, rfl⟩ : ∃ d', d = d' + 1 := ⟨d - 1, by omega⟩
  have hd : 1 ≤ d := by omega
  show q_EX _ _ _ _ _ 0 [(0, .inr (.inr 94)), (1, .inl x1)] [] M _
  unfold fX12_laysRound
  refine q_aload_n 0 dX12_laysRound_0 rfl rfl ?_
  refine q_iconst dX12_laysRound_1 ?_
  refine q_puti fl_X12_458 sh_94 (q_inO hO sh_94) (fun h => q_Ok_put h sh_94 rfl) rfl dX12_laysRound_2 (fun M1 hM1 => ?_)
  have hO1 : q_Ok M1 := by rw [hM1]; exact q_Ok_put hO sh_94 rfl
  refine q_iconst dX12_laysRound_5 ?_
  refine q_istore_n (ls' := [(2, .inl 0), (0, .inr (.inr 94)), (1, .inl x1)]) dX12_laysRound_6 rfl (by decide) rfl ?_
  refine q_sub [1, 2, 0] rfl ?_
  exact tX12_laysRound_7 hd q_FU x1 0 M1 hO1
def fX12_unbought (M : q_Mem) : Option (Int × q_Mem) := q_bd (fX12_stallMany M) fun x21 M1 => (q_ld M1 131 141 2).bind fun x22 => some ((q_and ((q_shl 1 x21) - 1) (q_xor x22 (-1))), M1)
theorem tX12_unbought {d : Nat} (hd : 1 ≤ d) (M : q_Mem) (hO : q_Ok M) : q_EX d yX12_unbought cX12_unbought 1 (some .int) 0 (q_args 0 [.inr (.inr 94)]) [] M (fX12_unbought M) := by
  obtain ⟨d, rfl⟩ : ∃ d', d = d' + 1 := ⟨d - 1, by omega⟩
  have hd : 0 ≤ d := by omega
  show q_EX _ _ _ _ _ 0 [(0, .inr (.inr 94))] [] M _
  unfold fX12_unbought
  refine q_iconst dX12_unbought_0 ?_
  refine q_aload_n 0 dX12_unbought_1 rfl rfl ?_
  refine q_callVi (As := []) hO mb_X12_stallMany mv_X12_stallMany ml_X12_376 sh_94 rfl dX12_unbought_2 (fun _ => rfl) rfl (Nat.le_of_ble_eq_true rfl) rfl (Nat.le_of_ble_eq_true rfl) (tX12_stallMany M hO) (fun x21 M1 _ hO1 => ?_)
  refine q_ishl dX12_unbought_5 ?_
  refine q_iconst dX12_unbought_6 ?_
  refine q_isub dX12_unbought_7 ?_
  refine q_aload_n 0 dX12_unbought_8 rfl rfl ?_
  refine q_getx fl_X12_124 hO1 sh_94 rfl fx_94_49 dX12_unbought_9 ?_
  refine q_iconst dX12_unbought_12 ?_
  refine q_iald sh_131 (q_inA hO1 sh_131 (by decide)) dX12_unbought_13 (fun x22 _ _ _ => ?_)
  refine q_iconst dX12_unbought_14 ?_
  refine q_ixor dX12_unbought_15 ?_
  refine q_iand dX12_unbought_16 ?_
  exact q_ret dX12_unbought_17 rfl
def fX12_round (x1 : Int) (x2 : Int) (M : q_Mem) : Option (Int × q_Mem) := q_bd (fX12_isCoin x1 M) fun x21 M1 => if q_w x21 = 0 then (some ((-1), M1)) else (q_bd (fX12_laysNexts x1 M1) fun _ M2 => q_bd (fX12_unbought M2) fun x22 M3 => q_bd (fX12_laysRound x22 M3) fun _ M4 => if q_w (M4.2 94 60) = q_w (-1) then (some ((-1), M4)) else (q_bd (fX12_isIn (q_w x2) (-1) (q_w ((M4.2 94 59) - 1)) M4) fun x23 M5 => if q_w x23 = 0 then (some ((-1), M5)) else (if q_w x2 = q_w (-1) then (some ((M5.2 94 60), M5)) else ((q_ld M5 136 6 x2).bind fun x24 => some (x24, M5)))))
theorem tX12_round {d : Nat} (hd : 6 ≤ d) (x1 : Int) (x2 : Int) (M : q_Mem) (hO : q_Ok M) : q_EX d yX12_round cX12_round 3 (some .int) 0 (q_args 0 [.inr (.inr 94), .inl x1, .inl x2]) [] M (fX12_round x1 x2 M) := by
  obtain ⟨d, rfl⟩ : ∃ d', d = d' + 1 := ⟨d - 1, by omega⟩
  have hd : 5 ≤ d := by omega
  show q_EX _ _ _ _ _ 0 [(0, .inr (.inr 94)), (1, .inl x1), (2, .inl x2)] [] M _
  unfold fX12_round
  refine q_aload_n 0 dX12_round_0 rfl rfl ?_
  refine q_iload_n 1 dX12_round_1 rfl rfl ?_
  refine q_callVi (As := [.inl x1]) hO mb_X12_isCoin mv_X12_isCoin ml_X12_450 sh_94 rfl dX12_round_2 (fun _ => rfl) rfl (Nat.le_of_ble_eq_true rfl) rfl (Nat.le_of_ble_eq_true rfl) (tX12_isCoin (by omega) x1 M hO) (fun x21 M1 _ hO1 => ?_)
  refine q_ifne (tgt := 10) dX12_round_5 (by decide) ?_ ?_
  · refine q_aload_n 0 dX12_round_10 rfl rfl ?_
    refine q_iload_n 1 dX12_round_11 rfl rfl ?_
    refine q_callVv (As := [.inl x1]) hO1 mb_X12_laysNexts mv_X12_laysNexts ml_X12_473 sh_94 rfl dX12_round_12 (fun _ => rfl) rfl (Nat.le_of_ble_eq_true rfl) rfl (Nat.le_of_ble_eq_true rfl) (tX12_laysNexts (by omega) x1 M1 hO1) (fun _ M2 _ hO2 => ?_)
    refine q_aload_n 0 dX12_round_15 rfl rfl ?_
    refine q_aload_n 0 dX12_round_16 rfl rfl ?_
    refine q_callVi (As := []) hO2 mb_X12_unbought mv_X12_unbought ml_X12_476 sh_94 rfl dX12_round_17 (fun _ => rfl) rfl (Nat.le_of_ble_eq_true rfl) rfl (Nat.le_of_ble_eq_true rfl) (tX12_unbought (by omega) M2 hO2) (fun x22 M3 _ hO3 => ?_)
    refine q_callVv (As := [.inl x22]) hO3 mb_X12_laysRound mv_X12_laysRound ml_X12_479 sh_94 rfl dX12_round_20 (fun _ => rfl) rfl (Nat.le_of_ble_eq_true rfl) rfl (Nat.le_of_ble_eq_true rfl) (tX12_laysRound (by omega) x22 M3 hO3) (fun _ M4 _ hO4 => ?_)
    refine q_aload_n 0 dX12_round_23 rfl rfl ?_
    refine q_geti fl_X12_464 sh_94 (q_inO hO4 sh_94) rfl dX12_round_24 ?_
    refine q_iconst dX12_round_27 ?_
    refine q_icmpeq (tgt := 49) dX12_round_28 (by decide) ?_ ?_
    · refine q_iconst dX12_round_49 ?_
      exact q_ret dX12_round_50 rfl
    · refine q_iload_n 2 dX12_round_31 rfl rfl ?_
      refine q_i2l dX12_round_32 ?_
      refine q_ldc2 dX12_round_33 kl_X12_482 (n := (-1)) rfl ?_
      refine q_aload_n 0 dX12_round_36 rfl rfl ?_
      refine q_geti fl_X12_458 sh_94 (q_inO hO4 sh_94) rfl dX12_round_37 ?_
      refine q_iconst dX12_round_40 ?_
      refine q_isub dX12_round_41 ?_
      refine q_i2l dX12_round_42 ?_
      refine q_callSi (As := [.inr (.inl (q_w x2)), .inr (.inl (-1)), .inr (.inl (q_w ((M4.2 94 59) - 1)))]) hO4 mb_X12_isIn ms_X12_isIn ml_X12_277 dX12_round_43 (fun _ => rfl) rfl (Nat.le_of_ble_eq_true rfl) rfl (Nat.le_of_ble_eq_true rfl) (tX12_isIn (q_w x2) (-1) (q_w ((M4.2 94 59) - 1)) M4 hO4) (fun x23 M5 _ hO5 => ?_)
      refine q_ifne (tgt := 51) dX12_round_46 (by decide) ?_ ?_
      · refine q_iload_n 2 dX12_round_51 rfl rfl ?_
        refine q_iconst dX12_round_52 ?_
        refine q_icmpne (tgt := 63) dX12_round_53 (by decide) ?_ ?_
        · refine q_aload_n 0 dX12_round_63 rfl rfl ?_
          refine q_getx fl_X12_140 hO5 sh_94 rfl fx_94_58 dX12_round_64 ?_
          refine q_iload_n 2 dX12_round_67 rfl rfl ?_
          refine q_iald sh_136 (q_inA hO5 sh_136 (by decide)) dX12_round_68 (fun x24 _ _ _ => ?_)
          exact q_ret dX12_round_69 rfl
        · refine q_aload_n 0 dX12_round_56 rfl rfl ?_
          refine q_geti fl_X12_464 sh_94 (q_inO hO5 sh_94) rfl dX12_round_57 ?_
          refine q_goto (tgt := 69) dX12_round_60 (by decide) ?_
          exact q_ret dX12_round_69 rfl
      · refine q_iconst dX12_round_49 ?_
        exact q_ret dX12_round_50 rfl
  · refine q_iconst dX12_round_8 ?_
    exact q_ret dX12_round_9 rfl
def fX12_blocked_86 (K25 : Int → Int → Int → q_Mem → Option (Int × q_Mem)) (x2 : Int) (x3 : Int) (x4 : Int) (M : q_Mem) : Option (Int × q_Mem) := (K25 x2 x3 (x4 + 1) M)
theorem tX12_blocked_86 {d : Nat} (hd : 5 ≤ d) (K25 : Int → Int → Int → q_Mem → Option (Int × q_Mem)) (hK25 : ∀ (x2 : Int) (x3 : Int) (x4 : Int) (M : q_Mem), q_Ok M → q_EX (d + 1) yX12_blocked cX12_blocked 5 (some .int) 25 [(0, .inr (.inr 94)), (2, .inl x2), (3, .inl x3), (4, .inl x4)] [] M (K25 x2 x3 x4 M)) (x2 : Int) (x3 : Int) (x4 : Int) (M : q_Mem) (hO : q_Ok M) : q_EX (d + 1) yX12_blocked cX12_blocked 5 (some .int) 86 [(0, .inr (.inr 94)), (2, .inl x2), (3, .inl x3), (4, .inl x4)] [] M (fX12_blocked_86 K25 x2 x3 x4 M) := by
  unfold fX12_blocked_86
  refine q_iinc (ls' := [(4, .inl (x4 + 1)), (0, .inr (.inr 94)), (2, .inl x2), (3, .inl x3)]) 3 dX12_blocked_86 rfl (by decide) rfl ?_
  refine q_goto (tgt := 25) dX12_blocked_89 (by decide) ?_
  refine q_sub [1, 2, 3, 0] rfl ?_
  exact hK25 x2 x3 (x4 + 1) M hO
def fX12_blocked_65 (K25 : Int → Int → Int → q_Mem → Option (Int × q_Mem)) (x2 : Int) (x3 : Int) (x4 : Int) (M : q_Mem) : Option (Int × q_Mem) := q_bd (fX12_laysRound (q_and x2 (q_xor x4 (-1))) M) fun _ M1 => if q_w (M1.2 94 60) = q_w (-1) then ((fX12_blocked_86 K25 x2 x3 x4 M1)) else ((fX12_blocked_86 K25 x2 x4 x4 M1))
theorem tX12_blocked_65 {d : Nat} (hd : 5 ≤ d) (K25 : Int → Int → Int → q_Mem → Option (Int × q_Mem)) (hK25 : ∀ (x2 : Int) (x3 : Int) (x4 : Int) (M : q_Mem), q_Ok M → q_EX (d + 1) yX12_blocked cX12_blocked 5 (some .int) 25 [(0, .inr (.inr 94)), (2, .inl x2), (3, .inl x3), (4, .inl x4)] [] M (K25 x2 x3 x4 M)) (x2 : Int) (x3 : Int) (x4 : Int) (M : q_Mem) (hO : q_Ok M) : q_EX (d + 1) yX12_blocked cX12_blocked 5 (some .int) 65 [(0, .inr (.inr 94)), (2, .inl x2), (3, .inl x3), (4, .inl x4)] [] M (fX12_blocked_65 K25 x2 x3 x4 M) := by
  unfold fX12_blocked_65
  refine q_aload_n 0 dX12_blocked_65 rfl rfl ?_
  refine q_iload_n 1 dX12_blocked_66 rfl rfl ?_
  refine q_iload 3 dX12_blocked_67 rfl ?_
  refine q_iconst dX12_blocked_69 ?_
  refine q_ixor dX12_blocked_70 ?_
  refine q_iand dX12_blocked_71 ?_
  refine q_callVv (As := [.inl (q_and x2 (q_xor x4 (-1)))]) hO mb_X12_laysRound mv_X12_laysRound ml_X12_479 sh_94 rfl dX12_blocked_72 (fun _ => rfl) rfl (Nat.le_of_ble_eq_true rfl) rfl (Nat.le_of_ble_eq_true rfl) (tX12_laysRound (by omega) (q_and x2 (q_xor x4 (-1))) M hO) (fun _ M1 _ hO1 => ?_)
  refine q_aload_n 0 dX12_blocked_75 rfl rfl ?_
  refine q_geti fl_X12_464 sh_94 (q_inO hO1 sh_94) rfl dX12_blocked_76 ?_
  refine q_iconst dX12_blocked_79 ?_
  refine q_icmpeq (tgt := 86) dX12_blocked_80 (by decide) ?_ ?_
  · refine q_sub [0, 1, 2, 3] rfl ?_
    exact tX12_blocked_86 hd K25 hK25 x2 x3 x4 M1 hO1
  · refine q_iload 3 dX12_blocked_83 rfl ?_
    refine q_istore_n (ls' := [(3, .inl x4), (0, .inr (.inr 94)), (2, .inl x2), (4, .inl x4)]) dX12_blocked_85 rfl (by decide) rfl ?_
    refine q_sub [1, 2, 0, 3] rfl ?_
    exact tX12_blocked_86 hd K25 hK25 x2 x4 x4 M1 hO1
def fX12_blocked_25  : Nat → Int → Int → Int → q_Mem → Option (Int × q_Mem)
  | 0, _, _, _, _ => none
  | n + 1, x2, x3, x4, M => q_bd (fX12_stallMany M) fun x21 M1 => if q_w x4 < q_w (q_shl 1 x21) then (if q_w (q_and x4 (q_xor x2 (-1))) = 0 then (if q_w x3 = q_w (-1) then ((fX12_blocked_65 (fX12_blocked_25 n) x2 x3 x4 M1)) else (q_bd (fX12_bits x4 M1) fun x22 M2 => q_bd (fX12_bits x3 M2) fun x23 M3 => if q_w x22 < q_w x23 then ((fX12_blocked_65 (fX12_blocked_25 n) x2 x3 x4 M3)) else ((fX12_blocked_86 (fX12_blocked_25 n) x2 x3 x4 M3)))) else ((fX12_blocked_86 (fX12_blocked_25 n) x2 x3 x4 M1))) else (some (x3, M1))
theorem tX12_blocked_25 {d : Nat} (hd : 5 ≤ d) : ∀ (n : Nat) (x2 : Int) (x3 : Int) (x4 : Int) (M : q_Mem), q_Ok M → q_EX (d + 1) yX12_blocked cX12_blocked 5 (some .int) 25 [(0, .inr (.inr 94)), (2, .inl x2), (3, .inl x3), (4, .inl x4)] [] M (fX12_blocked_25 n x2 x3 x4 M) := by
  intro n
  induction n with
  | zero => intro x2 x3 x4 M hO; exact q_none
  | succ n ih =>
    intro x2 x3 x4 M hO
    rw [fX12_blocked_25]
    refine q_iload 3 dX12_blocked_25 rfl ?_
    refine q_iconst dX12_blocked_27 ?_
    refine q_aload_n 0 dX12_blocked_28 rfl rfl ?_
    refine q_callVi (As := []) hO mb_X12_stallMany mv_X12_stallMany ml_X12_376 sh_94 rfl dX12_blocked_29 (fun _ => rfl) rfl (Nat.le_of_ble_eq_true rfl) rfl (Nat.le_of_ble_eq_true rfl) (tX12_stallMany M hO) (fun x21 M1 _ hO1 => ?_)
    refine q_ishl dX12_blocked_32 ?_
    refine q_icmpge (tgt := 92) dX12_blocked_33 (by decide) ?_ ?_
    · refine q_iload_n 2 dX12_blocked_92 rfl rfl ?_
      exact q_ret dX12_blocked_93 rfl
    · refine q_iload 3 dX12_blocked_36 rfl ?_
      refine q_iload_n 1 dX12_blocked_38 rfl rfl ?_
      refine q_iconst dX12_blocked_39 ?_
      refine q_ixor dX12_blocked_40 ?_
      refine q_iand dX12_blocked_41 ?_
      refine q_ifne (tgt := 86) dX12_blocked_42 (by decide) ?_ ?_
      · refine q_sub [0, 1, 2, 3] rfl ?_
        exact tX12_blocked_86 hd (fX12_blocked_25 n) ih x2 x3 x4 M1 hO1
      · refine q_iload_n 2 dX12_blocked_45 rfl rfl ?_
        refine q_iconst dX12_blocked_46 ?_
        refine q_icmpeq (tgt := 65) dX12_blocked_47 (by decide) ?_ ?_
        · refine q_sub [0, 1, 2, 3] rfl ?_
          exact tX12_blocked_65 hd (fX12_blocked_25 n) ih x2 x3 x4 M1 hO1
        · refine q_iload 3 dX12_blocked_50 rfl ?_
          refine q_callSi (As := [.inl x4]) hO1 mb_X12_bits ms_X12_bits ml_X12_436 dX12_blocked_52 (fun _ => rfl) rfl (Nat.le_of_ble_eq_true rfl) rfl (Nat.le_of_ble_eq_true rfl) (tX12_bits x4 M1 hO1) (fun x22 M2 _ hO2 => ?_)
          refine q_iload_n 2 dX12_blocked_55 rfl rfl ?_
          refine q_callSi (As := [.inl x3]) hO2 mb_X12_bits ms_X12_bits ml_X12_436 dX12_blocked_56 (fun _ => rfl) rfl (Nat.le_of_ble_eq_true rfl) rfl (Nat.le_of_ble_eq_true rfl) (tX12_bits x3 M2 hO2) (fun x23 M3 _ hO3 => ?_)
          refine q_icmplt (tgt := 65) dX12_blocked_59 (by decide) ?_ ?_
          · refine q_sub [0, 1, 2, 3] rfl ?_
            exact tX12_blocked_65 hd (fX12_blocked_25 n) ih x2 x3 x4 M3 hO3
          · refine q_goto (tgt := 86) dX12_blocked_62 (by decide) ?_
            refine q_sub [0, 1, 2, 3] rfl ?_
            exact tX12_blocked_86 hd (fX12_blocked_25 n) ih x2 x3 x4 M3 hO3
def fX12_blocked (x1 : Int) (M : q_Mem) : Option (Int × q_Mem) := q_bd (fX12_isCoin x1 M) fun x21 M1 => if q_w x21 = 0 then (some ((-1), M1)) else (q_bd (fX12_laysNexts x1 M1) fun _ M2 => q_bd (fX12_unbought M2) fun x22 M3 => (fX12_blocked_25 q_FU x22 (-1) 0 M3))
theorem tX12_blocked {d : Nat} (hd : 6 ≤ d) (x1 : Int) (M : q_Mem) (hO : q_Ok M) : q_EX d yX12_blocked cX12_blocked 5 (some .int) 0 (q_args 0 [.inr (.inr 94), .inl x1]) [] M (fX12_blocked x1 M) := by
  obtain ⟨d, rfl⟩ : ∃ d', d = d' + 1 := ⟨d - 1, by omega⟩
  have hd : 5 ≤ d := by omega
  show q_EX _ _ _ _ _ 0 [(0, .inr (.inr 94)), (1, .inl x1)] [] M _
  unfold fX12_blocked
  refine q_aload_n 0 dX12_blocked_0 rfl rfl ?_
  refine q_iload_n 1 dX12_blocked_1 rfl rfl ?_
  refine q_callVi (As := [.inl x1]) hO mb_X12_isCoin mv_X12_isCoin ml_X12_450 sh_94 rfl dX12_blocked_2 (fun _ => rfl) rfl (Nat.le_of_ble_eq_true rfl) rfl (Nat.le_of_ble_eq_true rfl) (tX12_isCoin (by omega) x1 M hO) (fun x21 M1 _ hO1 => ?_)
  refine q_ifne (tgt := 10) dX12_blocked_5 (by decide) ?_ ?_
  · refine q_aload_n 0 dX12_blocked_10 rfl rfl ?_
    refine q_iload_n 1 dX12_blocked_11 rfl rfl ?_
    refine q_callVv (As := [.inl x1]) hO1 mb_X12_laysNexts mv_X12_laysNexts ml_X12_473 sh_94 rfl dX12_blocked_12 (fun _ => rfl) rfl (Nat.le_of_ble_eq_true rfl) rfl (Nat.le_of_ble_eq_true rfl) (tX12_laysNexts (by omega) x1 M1 hO1) (fun _ M2 _ hO2 => ?_)
    refine q_aload_n 0 dX12_blocked_15 rfl rfl ?_
    refine q_callVi (As := []) hO2 mb_X12_unbought mv_X12_unbought ml_X12_476 sh_94 rfl dX12_blocked_16 (fun _ => rfl) rfl (Nat.le_of_ble_eq_true rfl) rfl (Nat.le_of_ble_eq_true rfl) (tX12_unbought (by omega) M2 hO2) (fun x22 M3 _ hO3 => ?_)
    refine q_istore_n (ls' := [(2, .inl x22), (0, .inr (.inr 94)), (1, .inl x1)]) dX12_blocked_19 rfl (by decide) rfl ?_
    refine q_iconst dX12_blocked_20 ?_
    refine q_istore_n (ls' := [(3, .inl (-1)), (2, .inl x22), (0, .inr (.inr 94)), (1, .inl x1)]) dX12_blocked_21 rfl (by decide) rfl ?_
    refine q_iconst dX12_blocked_22 ?_
    refine q_istore (ls' := [(4, .inl 0), (3, .inl (-1)), (2, .inl x22), (0, .inr (.inr 94)), (1, .inl x1)]) dX12_blocked_23 (by decide) rfl ?_
    refine q_sub [3, 2, 1, 0] rfl ?_
    exact tX12_blocked_25 hd q_FU x22 (-1) 0 M3 hO3
  · refine q_iconst dX12_blocked_8 ?_
    exact q_ret dX12_blocked_9 rfl
def fX12_doesBuyAnywhere_2  : Nat → Int → Int → Int → q_Mem → Option (Int × q_Mem)
  | 0, _, _, _, _ => none
  | n + 1, x1, x2, x3, M => q_bd (fX12_stallMany M) fun x21 M1 => if q_w x3 < q_w x21 then (q_bd (fX12_doesBuy x1 x3 x2 M1) fun x22 M2 => if q_w x22 = 0 then ((fX12_doesBuyAnywhere_2 n x1 x2 (x3 + 1) M2)) else (some (1, M2))) else (some (0, M1))
theorem tX12_doesBuyAnywhere_2 {d : Nat} (hd : 4 ≤ d) : ∀ (n : Nat) (x1 : Int) (x2 : Int) (x3 : Int) (M : q_Mem), q_Ok M → q_EX (d + 1) yX12_doesBuyAnywhere cX12_doesBuyAnywhere 4 (some .boolean) 2 [(0, .inr (.inr 94)), (1, .inl x1), (2, .inl x2), (3, .inl x3)] [] M (fX12_doesBuyAnywhere_2 n x1 x2 x3 M) := by
  intro n
  induction n with
  | zero => intro x1 x2 x3 M hO; exact q_none
  | succ n ih =>
    intro x1 x2 x3 M hO
    rw [fX12_doesBuyAnywhere_2]
    refine q_iload_n 3 dX12_doesBuyAnywhere_2 rfl rfl ?_
    refine q_aload_n 0 dX12_doesBuyAnywhere_3 rfl rfl ?_
    refine q_callVi (As := []) hO mb_X12_stallMany mv_X12_stallMany ml_X12_376 sh_94 rfl dX12_doesBuyAnywhere_4 (fun _ => rfl) rfl (Nat.le_of_ble_eq_true rfl) rfl (Nat.le_of_ble_eq_true rfl) (tX12_stallMany M hO) (fun x21 M1 _ hO1 => ?_)
    refine q_icmpge (tgt := 28) dX12_doesBuyAnywhere_7 (by decide) ?_ ?_
    · refine q_iconst dX12_doesBuyAnywhere_28 ?_
      exact q_ret ⟨dX12_doesBuyAnywhere_29, by decide⟩ rfl
    · refine q_aload_n 0 dX12_doesBuyAnywhere_10 rfl rfl ?_
      refine q_iload_n 1 dX12_doesBuyAnywhere_11 rfl rfl ?_
      refine q_iload_n 3 dX12_doesBuyAnywhere_12 rfl rfl ?_
      refine q_iload_n 2 dX12_doesBuyAnywhere_13 rfl rfl ?_
      refine q_callVi (As := [.inl x1, .inl x3, .inl x2]) hO1 mb_X12_doesBuy mv_X12_doesBuy ml_X12_433 sh_94 rfl dX12_doesBuyAnywhere_14 (fun _ => rfl) rfl (Nat.le_of_ble_eq_true rfl) rfl (Nat.le_of_ble_eq_true rfl) (tX12_doesBuy (by omega) x1 x3 x2 M1 hO1) (fun x22 M2 _ hO2 => ?_)
      refine q_ifeq (tgt := 22) dX12_doesBuyAnywhere_17 (by decide) ?_ ?_
      · refine q_iinc (ls' := [(3, .inl (x3 + 1)), (0, .inr (.inr 94)), (1, .inl x1), (2, .inl x2)]) 3 dX12_doesBuyAnywhere_22 rfl (by decide) rfl ?_
        refine q_goto (tgt := 2) dX12_doesBuyAnywhere_25 (by decide) ?_
        refine q_sub [1, 2, 3, 0] rfl ?_
        exact ih x1 x2 (x3 + 1) M2 hO2
      · refine q_iconst dX12_doesBuyAnywhere_20 ?_
        exact q_ret ⟨dX12_doesBuyAnywhere_21, by decide⟩ rfl
def fX12_doesBuyAnywhere (x1 : Int) (x2 : Int) (M : q_Mem) : Option (Int × q_Mem) := (fX12_doesBuyAnywhere_2 q_FU x1 x2 0 M)
theorem tX12_doesBuyAnywhere {d : Nat} (hd : 5 ≤ d) (x1 : Int) (x2 : Int) (M : q_Mem) (hO : q_Ok M) : q_EX d yX12_doesBuyAnywhere cX12_doesBuyAnywhere 4 (some .boolean) 0 (q_args 0 [.inr (.inr 94), .inl x1, .inl x2]) [] M (fX12_doesBuyAnywhere x1 x2 M) := by
  obtain ⟨d, rfl⟩ : ∃ d', d = d' + 1 := ⟨d - 1, by omega⟩
  have hd : 4 ≤ d := by omega
  show q_EX _ _ _ _ _ 0 [(0, .inr (.inr 94)), (1, .inl x1), (2, .inl x2)] [] M _
  unfold fX12_doesBuyAnywhere
  refine q_iconst dX12_doesBuyAnywhere_0 ?_
  refine q_istore_n (ls' := [(3, .inl 0), (0, .inr (.inr 94)), (1, .inl x1), (2, .inl x2)]) dX12_doesBuyAnywhere_1 rfl (by decide) rfl ?_
  refine q_sub [1, 2, 3, 0] rfl ?_
  exact tX12_doesBuyAnywhere_2 hd q_FU x1 x2 0 M hO
def fX12_strike_86 (K36 : Int → Int → Int → Int → Int → Int → q_Mem → Option (Int × q_Mem)) (x1 : Int) (x2 : Int) (x3 : Int) (x4 : Int) (x5 : Int) (x6 : Int) (M : q_Mem) : Option (Int × q_Mem) := (K36 x1 x2 x3 x4 x5 (x6 + 1) M)
theorem tX12_strike_86 {d : Nat} (hd : 5 ≤ d) (K36 : Int → Int → Int → Int → Int → Int → q_Mem → Option (Int × q_Mem)) (hK36 : ∀ (x1 : Int) (x2 : Int) (x3 : Int) (x4 : Int) (x5 : Int) (x6 : Int) (M : q_Mem), q_Ok M → q_EX (d + 1) yX12_strike cX12_strike 7 (some .int) 36 [(0, .inr (.inr 94)), (1, .inl x1), (2, .inl x2), (3, .inl x3), (4, .inl x4), (5, .inl x5), (6, .inl x6)] [] M (K36 x1 x2 x3 x4 x5 x6 M)) (x1 : Int) (x2 : Int) (x3 : Int) (x4 : Int) (x5 : Int) (x6 : Int) (M : q_Mem) (hO : q_Ok M) : q_EX (d + 1) yX12_strike cX12_strike 7 (some .int) 86 [(0, .inr (.inr 94)), (1, .inl x1), (2, .inl x2), (3, .inl x3), (4, .inl x4), (5, .inl x5), (6, .inl x6)] [] M (fX12_strike_86 K36 x1 x2 x3 x4 x5 x6 M) := by
  unfold fX12_strike_86
  refine q_iinc (ls' := [(6, .inl (x6 + 1)), (0, .inr (.inr 94)), (1, .inl x1), (2, .inl x2), (3, .inl x3), (4, .inl x4), (5, .inl x5)]) 6 dX12_strike_86 rfl (by decide) rfl ?_
  refine q_goto (tgt := 36) dX12_strike_89 (by decide) ?_
  refine q_sub [1, 2, 3, 4, 5, 6, 0] rfl ?_
  exact hK36 x1 x2 x3 x4 x5 (x6 + 1) M hO
def fX12_strike_63 (K36 : Int → Int → Int → Int → Int → Int → q_Mem → Option (Int × q_Mem)) (x1 : Int) (x2 : Int) (x3 : Int) (x4 : Int) (x6 : Int) (s0 : Int) (M : q_Mem) : Option (Int × q_Mem) := if q_w x3 < q_w s0 then (q_let ((x6 - s0) + 1) fun x21 => (fX12_strike_86 K36 x1 x2 s0 x21 s0 x6 M)) else ((fX12_strike_86 K36 x1 x2 x3 x4 s0 x6 M))
theorem tX12_strike_63 {d : Nat} (hd : 5 ≤ d) (K36 : Int → Int → Int → Int → Int → Int → q_Mem → Option (Int × q_Mem)) (hK36 : ∀ (x1 : Int) (x2 : Int) (x3 : Int) (x4 : Int) (x5 : Int) (x6 : Int) (M : q_Mem), q_Ok M → q_EX (d + 1) yX12_strike cX12_strike 7 (some .int) 36 [(0, .inr (.inr 94)), (1, .inl x1), (2, .inl x2), (3, .inl x3), (4, .inl x4), (5, .inl x5), (6, .inl x6)] [] M (K36 x1 x2 x3 x4 x5 x6 M)) (x1 : Int) (x2 : Int) (x3 : Int) (x4 : Int) (x6 : Int) (s0 : Int) (M : q_Mem) (hO : q_Ok M) : q_EX (d + 1) yX12_strike cX12_strike 7 (some .int) 63 [(0, .inr (.inr 94)), (1, .inl x1), (2, .inl x2), (3, .inl x3), (4, .inl x4), (6, .inl x6)] [.inl s0] M (fX12_strike_63 K36 x1 x2 x3 x4 x6 s0 M) := by
  unfold fX12_strike_63
  refine q_istore (ls' := [(5, .inl s0), (0, .inr (.inr 94)), (1, .inl x1), (2, .inl x2), (3, .inl x3), (4, .inl x4), (6, .inl x6)]) dX12_strike_63 (by decide) rfl ?_
  refine q_iload 0 dX12_strike_65 rfl ?_
  refine q_iload_n 4 dX12_strike_67 rfl rfl ?_
  refine q_icmpgt (tgt := 74) dX12_strike_68 (by decide) ?_ ?_
  · refine q_iload 0 dX12_strike_74 rfl ?_
    refine q_istore_n (ls' := [(3, .inl s0), (5, .inl s0), (0, .inr (.inr 94)), (1, .inl x1), (2, .inl x2), (4, .inl x4), (6, .inl x6)]) dX12_strike_76 rfl (by decide) rfl ?_
    refine q_iload 6 dX12_strike_77 rfl ?_
    refine q_iload 1 dX12_strike_79 rfl ?_
    refine q_isub dX12_strike_81 ?_
    refine q_iconst dX12_strike_82 ?_
    refine q_iadd dX12_strike_83 ?_
    refine q_nameI (fun x21 _ => ?_)
    refine q_istore (ls' := [(4, .inl x21), (3, .inl s0), (5, .inl s0), (0, .inr (.inr 94)), (1, .inl x1), (2, .inl x2), (6, .inl x6)]) dX12_strike_84 (by decide) rfl ?_
    refine q_sub [3, 4, 5, 1, 0, 2, 6] rfl ?_
    exact tX12_strike_86 hd K36 hK36 x1 x2 s0 x21 s0 x6 M hO
  · refine q_goto (tgt := 86) dX12_strike_71 (by decide) ?_
    refine q_sub [1, 2, 3, 4, 5, 0, 6] rfl ?_
    exact tX12_strike_86 hd K36 hK36 x1 x2 x3 x4 s0 x6 M hO
def fX12_strike_36  : Nat → Int → Int → Int → Int → Int → Int → q_Mem → Option (Int × q_Mem)
  | 0, _, _, _, _, _, _, _ => none
  | n + 1, x1, x2, x3, x4, x5, x6, M => q_bd (fX12_fairMinutes M) fun x21 M1 => if q_w x21 < q_w x6 then (if q_w x2 = 0 then (some (x3, M1)) else (some (x4, M1))) else (q_bd (fX12_doesBuyAnywhere x1 x6 M1) fun x22 M2 => if q_w x22 = 0 then ((fX12_strike_63 (fX12_strike_36 n) x1 x2 x3 x4 x6 (x5 + 1) M2)) else ((fX12_strike_63 (fX12_strike_36 n) x1 x2 x3 x4 x6 0 M2)))
theorem tX12_strike_36 {d : Nat} (hd : 5 ≤ d) : ∀ (n : Nat) (x1 : Int) (x2 : Int) (x3 : Int) (x4 : Int) (x5 : Int) (x6 : Int) (M : q_Mem), q_Ok M → q_EX (d + 1) yX12_strike cX12_strike 7 (some .int) 36 [(0, .inr (.inr 94)), (1, .inl x1), (2, .inl x2), (3, .inl x3), (4, .inl x4), (5, .inl x5), (6, .inl x6)] [] M (fX12_strike_36 n x1 x2 x3 x4 x5 x6 M) := by
  intro n
  induction n with
  | zero => intro x1 x2 x3 x4 x5 x6 M hO; exact q_none
  | succ n ih =>
    intro x1 x2 x3 x4 x5 x6 M hO
    rw [fX12_strike_36]
    refine q_iload 6 dX12_strike_36 rfl ?_
    refine q_aload_n 0 dX12_strike_38 rfl rfl ?_
    refine q_callVi (As := []) hO mb_X12_fairMinutes mv_X12_fairMinutes ml_X12_382 sh_94 rfl dX12_strike_39 (fun _ => rfl) rfl (Nat.le_of_ble_eq_true rfl) rfl (Nat.le_of_ble_eq_true rfl) (tX12_fairMinutes M hO) (fun x21 M1 _ hO1 => ?_)
    refine q_icmpgt (tgt := 92) dX12_strike_42 (by decide) ?_ ?_
    · refine q_iload_n 2 dX12_strike_92 rfl rfl ?_
      refine q_ifne (tgt := 100) dX12_strike_93 (by decide) ?_ ?_
      · refine q_iload 4 dX12_strike_100 rfl ?_
        exact q_ret dX12_strike_102 rfl
      · refine q_iload_n 3 dX12_strike_96 rfl rfl ?_
        refine q_goto (tgt := 102) dX12_strike_97 (by decide) ?_
        exact q_ret dX12_strike_102 rfl
    · refine q_aload_n 0 dX12_strike_45 rfl rfl ?_
      refine q_iload_n 1 dX12_strike_46 rfl rfl ?_
      refine q_iload 6 dX12_strike_47 rfl ?_
      refine q_callVi (As := [.inl x1, .inl x6]) hO1 mb_X12_doesBuyAnywhere mv_X12_doesBuyAnywhere ml_X12_484 sh_94 rfl dX12_strike_49 (fun _ => rfl) rfl (Nat.le_of_ble_eq_true rfl) rfl (Nat.le_of_ble_eq_true rfl) (tX12_doesBuyAnywhere (by omega) x1 x6 M1 hO1) (fun x22 M2 _ hO2 => ?_)
      refine q_ifeq (tgt := 59) dX12_strike_52 (by decide) ?_ ?_
      · refine q_iload 5 dX12_strike_59 rfl ?_
        refine q_iconst dX12_strike_61 ?_
        refine q_iadd dX12_strike_62 ?_
        refine q_sub [0, 1, 2, 3, 4, 6] rfl ?_
        exact tX12_strike_63 hd (fX12_strike_36 n) ih x1 x2 x3 x4 x6 (x5 + 1) M2 hO2
      · refine q_iconst dX12_strike_55 ?_
        refine q_goto (tgt := 63) dX12_strike_56 (by decide) ?_
        refine q_sub [0, 1, 2, 3, 4, 6] rfl ?_
        exact tX12_strike_63 hd (fX12_strike_36 n) ih x1 x2 x3 x4 x6 0 M2 hO2
def fX12_strike (x1 : Int) (x2 : Int) (M : q_Mem) : Option (Int × q_Mem) := q_bd (fX12_isCoin x1 M) fun x21 M1 => if q_w x21 = 0 then (some ((-1), M1)) else (q_bd (fX12_isIn (q_w x2) 0 1 M1) fun x22 M2 => if q_w x22 = 0 then (some ((-1), M2)) else ((q_ld M2 131 141 0).bind fun x23 => (fX12_strike_36 q_FU x1 x2 0 (-1) 0 x23 M2)))
theorem tX12_strike {d : Nat} (hd : 6 ≤ d) (x1 : Int) (x2 : Int) (M : q_Mem) (hO : q_Ok M) : q_EX d yX12_strike cX12_strike 7 (some .int) 0 (q_args 0 [.inr (.inr 94), .inl x1, .inl x2]) [] M (fX12_strike x1 x2 M) := by
  obtain ⟨d, rfl⟩ : ∃ d', d = d' + 1 := ⟨d - 1, by omega⟩
  have hd : 5 ≤ d := by omega
  show q_EX _ _ _ _ _ 0 [(0, .inr (.inr 94)), (1, .inl x1), (2, .inl x2)] [] M _
  unfold fX12_strike
  refine q_aload_n 0 dX12_strike_0 rfl rfl ?_
  refine q_iload_n 1 dX12_strike_1 rfl rfl ?_
  refine q_callVi (As := [.inl x1]) hO mb_X12_isCoin mv_X12_isCoin ml_X12_450 sh_94 rfl dX12_strike_2 (fun _ => rfl) rfl (Nat.le_of_ble_eq_true rfl) rfl (Nat.le_of_ble_eq_true rfl) (tX12_isCoin (by omega) x1 M hO) (fun x21 M1 _ hO1 => ?_)
  refine q_ifeq (tgt := 18) dX12_strike_5 (by decide) ?_ ?_
  · refine q_iconst dX12_strike_18 ?_
    exact q_ret dX12_strike_19 rfl
  · refine q_iload_n 2 dX12_strike_8 rfl rfl ?_
    refine q_i2l dX12_strike_9 ?_
    refine q_lconst (v := 0) dX12_strike_10 (by decide) ?_
    refine q_lconst (v := 1) dX12_strike_11 (by decide) ?_
    refine q_callSi (As := [.inr (.inl (q_w x2)), .inr (.inl 0), .inr (.inl 1)]) hO1 mb_X12_isIn ms_X12_isIn ml_X12_277 dX12_strike_12 (fun _ => rfl) rfl (Nat.le_of_ble_eq_true rfl) rfl (Nat.le_of_ble_eq_true rfl) (tX12_isIn (q_w x2) 0 1 M1 hO1) (fun x22 M2 _ hO2 => ?_)
    refine q_ifne (tgt := 20) dX12_strike_15 (by decide) ?_ ?_
    · refine q_iconst dX12_strike_20 ?_
      refine q_istore_n (ls' := [(3, .inl 0), (0, .inr (.inr 94)), (1, .inl x1), (2, .inl x2)]) dX12_strike_21 rfl (by decide) rfl ?_
      refine q_iconst dX12_strike_22 ?_
      refine q_istore (ls' := [(4, .inl (-1)), (3, .inl 0), (0, .inr (.inr 94)), (1, .inl x1), (2, .inl x2)]) dX12_strike_23 (by decide) rfl ?_
      refine q_iconst dX12_strike_25 ?_
      refine q_istore (ls' := [(5, .inl 0), (4, .inl (-1)), (3, .inl 0), (0, .inr (.inr 94)), (1, .inl x1), (2, .inl x2)]) dX12_strike_26 (by decide) rfl ?_
      refine q_aload_n 3 dX12_strike_28 rfl rfl ?_
      refine q_getx fl_X12_124 hO2 sh_94 rfl fx_94_49 dX12_strike_29 ?_
      refine q_iconst dX12_strike_32 ?_
      refine q_iald sh_131 (q_inA hO2 sh_131 (by decide)) dX12_strike_33 (fun x23 _ _ _ => ?_)
      refine q_istore (ls' := [(6, .inl x23), (5, .inl 0), (4, .inl (-1)), (3, .inl 0), (0, .inr (.inr 94)), (1, .inl x1), (2, .inl x2)]) dX12_strike_34 (by decide) rfl ?_
      refine q_sub [4, 5, 6, 3, 2, 1, 0] rfl ?_
      exact tX12_strike_36 hd q_FU x1 x2 0 (-1) 0 x23 M2 hO2
    · refine q_iconst dX12_strike_18 ?_
      exact q_ret dX12_strike_19 rfl
def fX12_handy_56 (K17 : Int → Int → Int → Int → q_Mem → Option (Int × q_Mem)) (K32 : Int → Int → Int → Int → Int → Int → q_Mem → Option (Int × q_Mem)) (x1 : Int) (x2 : Int) (x3 : Int) (x4 : Int) (x5 : Int) (x6 : Int) (M : q_Mem) : Option (Int × q_Mem) := (K32 x1 x2 x3 x4 x5 (x6 + 1) M)
theorem tX12_handy_56 {d : Nat} (hd : 4 ≤ d) (K17 : Int → Int → Int → Int → q_Mem → Option (Int × q_Mem)) (hK17 : ∀ (x1 : Int) (x2 : Int) (x3 : Int) (x4 : Int) (M : q_Mem), q_Ok M → q_EX (d + 1) yX12_handy cX12_handy 7 (some .int) 17 [(0, .inr (.inr 94)), (1, .inl x1), (2, .inl x2), (3, .inl x3), (4, .inl x4)] [] M (K17 x1 x2 x3 x4 M)) (K32 : Int → Int → Int → Int → Int → Int → q_Mem → Option (Int × q_Mem)) (hK32 : ∀ (x1 : Int) (x2 : Int) (x3 : Int) (x4 : Int) (x5 : Int) (x6 : Int) (M : q_Mem), q_Ok M → q_EX (d + 1) yX12_handy cX12_handy 7 (some .int) 32 [(0, .inr (.inr 94)), (1, .inl x1), (2, .inl x2), (3, .inl x3), (4, .inl x4), (5, .inl x5), (6, .inl x6)] [] M (K32 x1 x2 x3 x4 x5 x6 M)) (x1 : Int) (x2 : Int) (x3 : Int) (x4 : Int) (x5 : Int) (x6 : Int) (M : q_Mem) (hO : q_Ok M) : q_EX (d + 1) yX12_handy cX12_handy 7 (some .int) 56 [(0, .inr (.inr 94)), (1, .inl x1), (2, .inl x2), (3, .inl x3), (4, .inl x4), (5, .inl x5), (6, .inl x6)] [] M (fX12_handy_56 K17 K32 x1 x2 x3 x4 x5 x6 M) := by
  unfold fX12_handy_56
  refine q_iinc (ls' := [(6, .inl (x6 + 1)), (0, .inr (.inr 94)), (1, .inl x1), (2, .inl x2), (3, .inl x3), (4, .inl x4), (5, .inl x5)]) 6 dX12_handy_56 rfl (by decide) rfl ?_
  refine q_goto (tgt := 32) dX12_handy_59 (by decide) ?_
  refine q_sub [1, 2, 3, 4, 5, 6, 0] rfl ?_
  exact hK32 x1 x2 x3 x4 x5 (x6 + 1) M hO
def fX12_handy_82 (K17 : Int → Int → Int → Int → q_Mem → Option (Int × q_Mem)) (x1 : Int) (x2 : Int) (x3 : Int) (x4 : Int) (M : q_Mem) : Option (Int × q_Mem) := (K17 x1 x2 x3 (x4 + 1) M)
theorem tX12_handy_82 {d : Nat} (hd : 4 ≤ d) (K17 : Int → Int → Int → Int → q_Mem → Option (Int × q_Mem)) (hK17 : ∀ (x1 : Int) (x2 : Int) (x3 : Int) (x4 : Int) (M : q_Mem), q_Ok M → q_EX (d + 1) yX12_handy cX12_handy 7 (some .int) 17 [(0, .inr (.inr 94)), (1, .inl x1), (2, .inl x2), (3, .inl x3), (4, .inl x4)] [] M (K17 x1 x2 x3 x4 M)) (x1 : Int) (x2 : Int) (x3 : Int) (x4 : Int) (M : q_Mem) (hO : q_Ok M) : q_EX (d + 1) yX12_handy cX12_handy 7 (some .int) 82 [(0, .inr (.inr 94)), (1, .inl x1), (2, .inl x2), (3, .inl x3), (4, .inl x4)] [] M (fX12_handy_82 K17 x1 x2 x3 x4 M) := by
  unfold fX12_handy_82
  refine q_iinc (ls' := [(4, .inl (x4 + 1)), (0, .inr (.inr 94)), (1, .inl x1), (2, .inl x2), (3, .inl x3)]) 4 dX12_handy_82 rfl (by decide) rfl ?_
  refine q_goto (tgt := 17) dX12_handy_85 (by decide) ?_
  refine q_sub [1, 2, 3, 4, 0] rfl ?_
  exact hK17 x1 x2 x3 (x4 + 1) M hO
def fX12_handy_76 (K17 : Int → Int → Int → Int → q_Mem → Option (Int × q_Mem)) (x1 : Int) (x4 : Int) (x5 : Int) (M : q_Mem) : Option (Int × q_Mem) := (fX12_handy_82 K17 x1 x4 x5 x4 M)
theorem tX12_handy_76 {d : Nat} (hd : 4 ≤ d) (K17 : Int → Int → Int → Int → q_Mem → Option (Int × q_Mem)) (hK17 : ∀ (x1 : Int) (x2 : Int) (x3 : Int) (x4 : Int) (M : q_Mem), q_Ok M → q_EX (d + 1) yX12_handy cX12_handy 7 (some .int) 17 [(0, .inr (.inr 94)), (1, .inl x1), (2, .inl x2), (3, .inl x3), (4, .inl x4)] [] M (K17 x1 x2 x3 x4 M)) (x1 : Int) (x4 : Int) (x5 : Int) (M : q_Mem) (hO : q_Ok M) : q_EX (d + 1) yX12_handy cX12_handy 7 (some .int) 76 [(0, .inr (.inr 94)), (1, .inl x1), (4, .inl x4), (5, .inl x5)] [] M (fX12_handy_76 K17 x1 x4 x5 M) := by
  unfold fX12_handy_76
  refine q_iload 2 dX12_handy_76 rfl ?_
  refine q_istore_n (ls' := [(2, .inl x4), (0, .inr (.inr 94)), (1, .inl x1), (4, .inl x4), (5, .inl x5)]) dX12_handy_78 rfl (by decide) rfl ?_
  refine q_iload 4 dX12_handy_79 rfl ?_
  refine q_istore_n (ls' := [(3, .inl x5), (2, .inl x4), (0, .inr (.inr 94)), (1, .inl x1), (4, .inl x4), (5, .inl x5)]) dX12_handy_81 rfl (by decide) rfl ?_
  refine q_sub [2, 3, 1, 0, 4] rfl ?_
  exact tX12_handy_82 hd K17 hK17 x1 x4 x5 x4 M hO
def fX12_handy_32 (K17 : Int → Int → Int → Int → q_Mem → Option (Int × q_Mem)) : Nat → Int → Int → Int → Int → Int → Int → q_Mem → Option (Int × q_Mem)
  | 0, _, _, _, _, _, _, _ => none
  | n + 1, x1, x2, x3, x4, x5, x6, M => q_bd (fX12_stallMany M) fun x21 M1 => if q_w x6 < q_w x21 then (q_bd (fX12_doesBuy x4 x6 x1 M1) fun x22 M2 => if q_w x22 = 0 then ((fX12_handy_56 K17 (fX12_handy_32 K17 n) x1 x2 x3 x4 x5 x6 M2)) else ((fX12_handy_56 K17 (fX12_handy_32 K17 n) x1 x2 x3 x4 (x5 + 1) x6 M2))) else (if q_w x2 = q_w (-1) then ((fX12_handy_76 K17 x1 x4 x5 M1)) else (if q_w x3 < q_w x5 then ((fX12_handy_76 K17 x1 x4 x5 M1)) else ((fX12_handy_82 K17 x1 x2 x3 x4 M1))))
theorem tX12_handy_32 {d : Nat} (hd : 4 ≤ d) (K17 : Int → Int → Int → Int → q_Mem → Option (Int × q_Mem)) (hK17 : ∀ (x1 : Int) (x2 : Int) (x3 : Int) (x4 : Int) (M : q_Mem), q_Ok M → q_EX (d + 1) yX12_handy cX12_handy 7 (some .int) 17 [(0, .inr (.inr 94)), (1, .inl x1), (2, .inl x2), (3, .inl x3), (4, .inl x4)] [] M (K17 x1 x2 x3 x4 M)) : ∀ (n : Nat) (x1 : Int) (x2 : Int) (x3 : Int) (x4 : Int) (x5 : Int) (x6 : Int) (M : q_Mem), q_Ok M → q_EX (d + 1) yX12_handy cX12_handy 7 (some .int) 32 [(0, .inr (.inr 94)), (1, .inl x1), (2, .inl x2), (3, .inl x3), (4, .inl x4), (5, .inl x5), (6, .inl x6)] [] M (fX12_handy_32 K17 n x1 x2 x3 x4 x5 x6 M) := by
  intro n
  induction n with
  | zero => intro x1 x2 x3 x4 x5 x6 M hO; exact q_none
  | succ n ih =>
    intro x1 x2 x3 x4 x5 x6 M hO
    rw [fX12_handy_32]
    refine q_iload 6 dX12_handy_32 rfl ?_
    refine q_aload_n 0 dX12_handy_34 rfl rfl ?_
    refine q_callVi (As := []) hO mb_X12_stallMany mv_X12_stallMany ml_X12_376 sh_94 rfl dX12_handy_35 (fun _ => rfl) rfl (Nat.le_of_ble_eq_true rfl) rfl (Nat.le_of_ble_eq_true rfl) (tX12_stallMany M hO) (fun x21 M1 _ hO1 => ?_)
    refine q_icmpge (tgt := 62) dX12_handy_38 (by decide) ?_ ?_
    · refine q_iload_n 2 dX12_handy_62 rfl rfl ?_
      refine q_iconst dX12_handy_63 ?_
      refine q_icmpeq (tgt := 76) dX12_handy_64 (by decide) ?_ ?_
      · refine q_sub [0, 1, 4, 5] rfl ?_
        exact tX12_handy_76 hd K17 hK17 x1 x4 x5 M1 hO1
      · refine q_iload 5 dX12_handy_67 rfl ?_
        refine q_iload_n 3 dX12_handy_69 rfl rfl ?_
        refine q_icmpgt (tgt := 76) dX12_handy_70 (by decide) ?_ ?_
        · refine q_sub [0, 1, 4, 5] rfl ?_
          exact tX12_handy_76 hd K17 hK17 x1 x4 x5 M1 hO1
        · refine q_goto (tgt := 82) dX12_handy_73 (by decide) ?_
          refine q_sub [0, 1, 2, 3, 4] rfl ?_
          exact tX12_handy_82 hd K17 hK17 x1 x2 x3 x4 M1 hO1
    · refine q_aload_n 0 dX12_handy_41 rfl rfl ?_
      refine q_iload 4 dX12_handy_42 rfl ?_
      refine q_iload 6 dX12_handy_44 rfl ?_
      refine q_iload_n 1 dX12_handy_46 rfl rfl ?_
      refine q_callVi (As := [.inl x4, .inl x6, .inl x1]) hO1 mb_X12_doesBuy mv_X12_doesBuy ml_X12_433 sh_94 rfl dX12_handy_47 (fun _ => rfl) rfl (Nat.le_of_ble_eq_true rfl) rfl (Nat.le_of_ble_eq_true rfl) (tX12_doesBuy (by omega) x4 x6 x1 M1 hO1) (fun x22 M2 _ hO2 => ?_)
      refine q_ifeq (tgt := 56) dX12_handy_50 (by decide) ?_ ?_
      · refine q_sub [0, 1, 2, 3, 4, 5, 6] rfl ?_
        exact tX12_handy_56 hd K17 hK17 (fX12_handy_32 K17 n) ih x1 x2 x3 x4 x5 x6 M2 hO2
      · refine q_iinc (ls' := [(5, .inl (x5 + 1)), (0, .inr (.inr 94)), (1, .inl x1), (2, .inl x2), (3, .inl x3), (4, .inl x4), (6, .inl x6)]) 5 dX12_handy_53 rfl (by decide) rfl ?_
        refine q_sub [1, 2, 3, 4, 5, 0, 6] rfl ?_
        exact tX12_handy_56 hd K17 hK17 (fX12_handy_32 K17 n) ih x1 x2 x3 x4 (x5 + 1) x6 M2 hO2
def fX12_handy_17  : Nat → Int → Int → Int → Int → q_Mem → Option (Int × q_Mem)
  | 0, _, _, _, _, _ => none
  | n + 1, x1, x2, x3, x4, M => q_bd (fX12_coinMany M) fun x21 M1 => if q_w x4 < q_w x21 then ((fX12_handy_32 (fX12_handy_17 n) q_FU x1 x2 x3 x4 0 0 M1)) else (some (x2, M1))
theorem tX12_handy_17 {d : Nat} (hd : 4 ≤ d) : ∀ (n : Nat) (x1 : Int) (x2 : Int) (x3 : Int) (x4 : Int) (M : q_Mem), q_Ok M → q_EX (d + 1) yX12_handy cX12_handy 7 (some .int) 17 [(0, .inr (.inr 94)), (1, .inl x1), (2, .inl x2), (3, .inl x3), (4, .inl x4)] [] M (fX12_handy_17 n x1 x2 x3 x4 M) := by
  intro n
  induction n with
  | zero => intro x1 x2 x3 x4 M hO; exact q_none
  | succ n ih =>
    intro x1 x2 x3 x4 M hO
    rw [fX12_handy_17]
    refine q_iload 4 dX12_handy_17 rfl ?_
    refine q_aload_n 0 dX12_handy_19 rfl rfl ?_
    refine q_callVi (As := []) hO mb_X12_coinMany mv_X12_coinMany ml_X12_379 sh_94 rfl dX12_handy_20 (fun _ => rfl) rfl (Nat.le_of_ble_eq_true rfl) rfl (Nat.le_of_ble_eq_true rfl) (tX12_coinMany M hO) (fun x21 M1 _ hO1 => ?_)
    refine q_icmpge (tgt := 88) dX12_handy_23 (by decide) ?_ ?_
    · refine q_iload_n 2 dX12_handy_88 rfl rfl ?_
      exact q_ret dX12_handy_89 rfl
    · refine q_iconst dX12_handy_26 ?_
      refine q_istore (ls' := [(5, .inl 0), (0, .inr (.inr 94)), (1, .inl x1), (2, .inl x2), (3, .inl x3), (4, .inl x4)]) dX12_handy_27 (by decide) rfl ?_
      refine q_iconst dX12_handy_29 ?_
      refine q_istore (ls' := [(6, .inl 0), (5, .inl 0), (0, .inr (.inr 94)), (1, .inl x1), (2, .inl x2), (3, .inl x3), (4, .inl x4)]) dX12_handy_30 (by decide) rfl ?_
      refine q_sub [2, 3, 4, 5, 6, 1, 0] rfl ?_
      exact tX12_handy_32 hd (fX12_handy_17 n) ih q_FU x1 x2 x3 x4 0 0 M1 hO1
def fX12_handy (x1 : Int) (M : q_Mem) : Option (Int × q_Mem) := q_bd (fX12_isMinute x1 M) fun x21 M1 => if q_w x21 = 0 then (some ((-1), M1)) else ((fX12_handy_17 q_FU x1 (-1) 0 0 M1))
theorem tX12_handy {d : Nat} (hd : 5 ≤ d) (x1 : Int) (M : q_Mem) (hO : q_Ok M) : q_EX d yX12_handy cX12_handy 7 (some .int) 0 (q_args 0 [.inr (.inr 94), .inl x1]) [] M (fX12_handy x1 M) := by
  obtain ⟨d, rfl⟩ : ∃ d', d = d' + 1 := ⟨d - 1, by omega⟩
  have hd : 4 ≤ d := by omega
  show q_EX _ _ _ _ _ 0 [(0, .inr (.inr 94)), (1, .inl x1)] [] M _
  unfold fX12_handy
  refine q_aload_n 0 dX12_handy_0 rfl rfl ?_
  refine q_iload_n 1 dX12_handy_1 rfl rfl ?_
  refine q_callVi (As := [.inl x1]) hO mb_X12_isMinute mv_X12_isMinute ml_X12_453 sh_94 rfl dX12_handy_2 (fun _ => rfl) rfl (Nat.le_of_ble_eq_true rfl) rfl (Nat.le_of_ble_eq_true rfl) (tX12_isMinute (by omega) x1 M hO) (fun x21 M1 _ hO1 => ?_)
  refine q_ifne (tgt := 10) dX12_handy_5 (by decide) ?_ ?_
  · refine q_iconst dX12_handy_10 ?_
    refine q_istore_n (ls' := [(2, .inl (-1)), (0, .inr (.inr 94)), (1, .inl x1)]) dX12_handy_11 rfl (by decide) rfl ?_
    refine q_iconst dX12_handy_12 ?_
    refine q_istore_n (ls' := [(3, .inl 0), (2, .inl (-1)), (0, .inr (.inr 94)), (1, .inl x1)]) dX12_handy_13 rfl (by decide) rfl ?_
    refine q_iconst dX12_handy_14 ?_
    refine q_istore (ls' := [(4, .inl 0), (3, .inl 0), (2, .inl (-1)), (0, .inr (.inr 94)), (1, .inl x1)]) dX12_handy_15 (by decide) rfl ?_
    refine q_sub [3, 4, 2, 1, 0] rfl ?_
    exact tX12_handy_17 hd q_FU x1 (-1) 0 0 M1 hO1
  · refine q_iconst dX12_handy_8 ?_
    exact q_ret dX12_handy_9 rfl
def fX12_odd_75 (K41 : Int → Int → Int → Int → q_Mem → Option (Int × q_Mem)) (x1 : Int) (x2 : Int) (x3 : Int) (x4 : Int) (M : q_Mem) : Option (Int × q_Mem) := (K41 x1 x2 x3 (x4 + 1) M)
theorem tX12_odd_75 {d : Nat} (hd : 4 ≤ d) (K41 : Int → Int → Int → Int → q_Mem → Option (Int × q_Mem)) (hK41 : ∀ (x1 : Int) (x2 : Int) (x3 : Int) (x4 : Int) (M : q_Mem), q_Ok M → q_EX (d + 1) yX12_odd cX12_odd 5 (some .int) 41 [(0, .inr (.inr 94)), (1, .inl x1), (2, .inl x2), (3, .inl x3), (4, .inl x4)] [] M (K41 x1 x2 x3 x4 M)) (x1 : Int) (x2 : Int) (x3 : Int) (x4 : Int) (M : q_Mem) (hO : q_Ok M) : q_EX (d + 1) yX12_odd cX12_odd 5 (some .int) 75 [(0, .inr (.inr 94)), (1, .inl x1), (2, .inl x2), (3, .inl x3), (4, .inl x4)] [] M (fX12_odd_75 K41 x1 x2 x3 x4 M) := by
  unfold fX12_odd_75
  refine q_iinc (ls' := [(4, .inl (x4 + 1)), (0, .inr (.inr 94)), (1, .inl x1), (2, .inl x2), (3, .inl x3)]) 4 dX12_odd_75 rfl (by decide) rfl ?_
  refine q_goto (tgt := 41) dX12_odd_78 (by decide) ?_
  refine q_sub [1, 2, 3, 4, 0] rfl ?_
  exact hK41 x1 x2 x3 (x4 + 1) M hO
def fX12_odd_41  : Nat → Int → Int → Int → Int → q_Mem → Option (Int × q_Mem)
  | 0, _, _, _, _, _ => none
  | n + 1, x1, x2, x3, x4, M => q_bd (fX12_fairMinutes M) fun x21 M1 => if q_w x21 < q_w x4 then (some ((-1), M1)) else (q_bd (fX12_doesBuy x1 x2 x4 M1) fun x22 M2 => if q_w x22 = 0 then ((fX12_odd_75 (fX12_odd_41 n) x1 x2 x3 x4 M2)) else (q_bd (fX12_doesBuy x1 x3 x4 M2) fun x23 M3 => if q_w x23 = 0 then (some (x4, M3)) else ((fX12_odd_75 (fX12_odd_41 n) x1 x2 x3 x4 M3))))
theorem tX12_odd_41 {d : Nat} (hd : 4 ≤ d) : ∀ (n : Nat) (x1 : Int) (x2 : Int) (x3 : Int) (x4 : Int) (M : q_Mem), q_Ok M → q_EX (d + 1) yX12_odd cX12_odd 5 (some .int) 41 [(0, .inr (.inr 94)), (1, .inl x1), (2, .inl x2), (3, .inl x3), (4, .inl x4)] [] M (fX12_odd_41 n x1 x2 x3 x4 M) := by
  intro n
  induction n with
  | zero => intro x1 x2 x3 x4 M hO; exact q_none
  | succ n ih =>
    intro x1 x2 x3 x4 M hO
    rw [fX12_odd_41]
    refine q_iload 4 dX12_odd_41 rfl ?_
    refine q_aload_n 0 dX12_odd_43 rfl rfl ?_
    refine q_callVi (As := []) hO mb_X12_fairMinutes mv_X12_fairMinutes ml_X12_382 sh_94 rfl dX12_odd_44 (fun _ => rfl) rfl (Nat.le_of_ble_eq_true rfl) rfl (Nat.le_of_ble_eq_true rfl) (tX12_fairMinutes M hO) (fun x21 M1 _ hO1 => ?_)
    refine q_icmpgt (tgt := 81) dX12_odd_47 (by decide) ?_ ?_
    · refine q_iconst dX12_odd_81 ?_
      exact q_ret dX12_odd_82 rfl
    · refine q_aload_n 0 dX12_odd_50 rfl rfl ?_
      refine q_iload_n 1 dX12_odd_51 rfl rfl ?_
      refine q_iload_n 2 dX12_odd_52 rfl rfl ?_
      refine q_iload 4 dX12_odd_53 rfl ?_
      refine q_callVi (As := [.inl x1, .inl x2, .inl x4]) hO1 mb_X12_doesBuy mv_X12_doesBuy ml_X12_433 sh_94 rfl dX12_odd_55 (fun _ => rfl) rfl (Nat.le_of_ble_eq_true rfl) rfl (Nat.le_of_ble_eq_true rfl) (tX12_doesBuy (by omega) x1 x2 x4 M1 hO1) (fun x22 M2 _ hO2 => ?_)
      refine q_ifeq (tgt := 75) dX12_odd_58 (by decide) ?_ ?_
      · refine q_sub [0, 1, 2, 3, 4] rfl ?_
        exact tX12_odd_75 hd (fX12_odd_41 n) ih x1 x2 x3 x4 M2 hO2
      · refine q_aload_n 0 dX12_odd_61 rfl rfl ?_
        refine q_iload_n 1 dX12_odd_62 rfl rfl ?_
        refine q_iload_n 3 dX12_odd_63 rfl rfl ?_
        refine q_iload 4 dX12_odd_64 rfl ?_
        refine q_callVi (As := [.inl x1, .inl x3, .inl x4]) hO2 mb_X12_doesBuy mv_X12_doesBuy ml_X12_433 sh_94 rfl dX12_odd_66 (fun _ => rfl) rfl (Nat.le_of_ble_eq_true rfl) rfl (Nat.le_of_ble_eq_true rfl) (tX12_doesBuy (by omega) x1 x3 x4 M2 hO2) (fun x23 M3 _ hO3 => ?_)
        refine q_ifne (tgt := 75) dX12_odd_69 (by decide) ?_ ?_
        · refine q_sub [0, 1, 2, 3, 4] rfl ?_
          exact tX12_odd_75 hd (fX12_odd_41 n) ih x1 x2 x3 x4 M3 hO3
        · refine q_iload 4 dX12_odd_72 rfl ?_
          exact q_ret dX12_odd_74 rfl
def fX12_odd (x1 : Int) (x2 : Int) (x3 : Int) (M : q_Mem) : Option (Int × q_Mem) := q_bd (fX12_isCoin x1 M) fun x21 M1 => if q_w x21 = 0 then (some ((-1), M1)) else (q_bd (fX12_isStall (q_w x2) M1) fun x22 M2 => if q_w x22 = 0 then (some ((-1), M2)) else (q_bd (fX12_isStall (q_w x3) M2) fun x23 M3 => if q_w x23 = 0 then (some ((-1), M3)) else (if q_w x2 = q_w x3 then (some ((-1), M3)) else ((q_ld M3 131 141 0).bind fun x24 => (fX12_odd_41 q_FU x1 x2 x3 x24 M3)))))
theorem tX12_odd {d : Nat} (hd : 5 ≤ d) (x1 : Int) (x2 : Int) (x3 : Int) (M : q_Mem) (hO : q_Ok M) : q_EX d yX12_odd cX12_odd 5 (some .int) 0 (q_args 0 [.inr (.inr 94), .inl x1, .inl x2, .inl x3]) [] M (fX12_odd x1 x2 x3 M) := by
  obtain ⟨d, rfl⟩ : ∃ d', d = d' + 1 := ⟨d - 1, by omega⟩
  have hd : 4 ≤ d := by omega
  show q_EX _ _ _ _ _ 0 [(0, .inr (.inr 94)), (1, .inl x1), (2, .inl x2), (3, .inl x3)] [] M _
  unfold fX12_odd
  refine q_aload_n 0 dX12_odd_0 rfl rfl ?_
  refine q_iload_n 1 dX12_odd_1 rfl rfl ?_
  refine q_callVi (As := [.inl x1]) hO mb_X12_isCoin mv_X12_isCoin ml_X12_450 sh_94 rfl dX12_odd_2 (fun _ => rfl) rfl (Nat.le_of_ble_eq_true rfl) rfl (Nat.le_of_ble_eq_true rfl) (tX12_isCoin (by omega) x1 M hO) (fun x21 M1 _ hO1 => ?_)
  refine q_ifeq (tgt := 31) dX12_odd_5 (by decide) ?_ ?_
  · refine q_iconst dX12_odd_31 ?_
    exact q_ret dX12_odd_32 rfl
  · refine q_aload_n 0 dX12_odd_8 rfl rfl ?_
    refine q_iload_n 2 dX12_odd_9 rfl rfl ?_
    refine q_i2l dX12_odd_10 ?_
    refine q_callVi (As := [.inr (.inl (q_w x2))]) hO1 mb_X12_isStall mv_X12_isStall ml_X12_441 sh_94 rfl dX12_odd_11 (fun _ => rfl) rfl (Nat.le_of_ble_eq_true rfl) rfl (Nat.le_of_ble_eq_true rfl) (tX12_isStall (by omega) (q_w x2) M1 hO1) (fun x22 M2 _ hO2 => ?_)
    refine q_ifeq (tgt := 31) dX12_odd_14 (by decide) ?_ ?_
    · refine q_iconst dX12_odd_31 ?_
      exact q_ret dX12_odd_32 rfl
    · refine q_aload_n 0 dX12_odd_17 rfl rfl ?_
      refine q_iload_n 3 dX12_odd_18 rfl rfl ?_
      refine q_i2l dX12_odd_19 ?_
      refine q_callVi (As := [.inr (.inl (q_w x3))]) hO2 mb_X12_isStall mv_X12_isStall ml_X12_441 sh_94 rfl dX12_odd_20 (fun _ => rfl) rfl (Nat.le_of_ble_eq_true rfl) rfl (Nat.le_of_ble_eq_true rfl) (tX12_isStall (by omega) (q_w x3) M2 hO2) (fun x23 M3 _ hO3 => ?_)
      refine q_ifeq (tgt := 31) dX12_odd_23 (by decide) ?_ ?_
      · refine q_iconst dX12_odd_31 ?_
        exact q_ret dX12_odd_32 rfl
      · refine q_iload_n 2 dX12_odd_26 rfl rfl ?_
        refine q_iload_n 3 dX12_odd_27 rfl rfl ?_
        refine q_icmpne (tgt := 33) dX12_odd_28 (by decide) ?_ ?_
        · refine q_aload_n 0 dX12_odd_33 rfl rfl ?_
          refine q_getx fl_X12_124 hO3 sh_94 rfl fx_94_49 dX12_odd_34 ?_
          refine q_iconst dX12_odd_37 ?_
          refine q_iald sh_131 (q_inA hO3 sh_131 (by decide)) dX12_odd_38 (fun x24 _ _ _ => ?_)
          refine q_istore (ls' := [(4, .inl x24), (0, .inr (.inr 94)), (1, .inl x1), (2, .inl x2), (3, .inl x3)]) dX12_odd_39 (by decide) rfl ?_
          refine q_sub [1, 2, 3, 4, 0] rfl ?_
          exact tX12_odd_41 hd q_FU x1 x2 x3 x24 M3 hO3
        · refine q_iconst dX12_odd_31 ?_
          exact q_ret dX12_odd_32 rfl
def fX12_laysLengths_2  : Nat → Int → Int → Int → q_Mem → Option (Int × q_Mem)
  | 0, _, _, _, _ => none
  | n + 1, x1, x2, x3, M => q_bd (fX12_coinMany M) fun x21 M1 => if q_w x3 < q_w x21 then (q_bd (fX12_shadowOf x3 x1 x2 M1) fun x22 M2 => (q_sto M2 137 8 x3 x22).bind fun M3 => (fX12_laysLengths_2 n x1 x2 (x3 + 1) M3)) else (some (0, M1))
theorem tX12_laysLengths_2 {d : Nat} (hd : 3 ≤ d) : ∀ (n : Nat) (x1 : Int) (x2 : Int) (x3 : Int) (M : q_Mem), q_Ok M → q_EX (d + 1) yX12_laysLengths cX12_laysLengths 4 none 2 [(0, .inr (.inr 94)), (1, .inl x1), (2, .inl x2), (3, .inl x3)] [] M (fX12_laysLengths_2 n x1 x2 x3 M) := by
  intro n
  induction n with
  | zero => intro x1 x2 x3 M hO; exact q_none
  | succ n ih =>
    intro x1 x2 x3 M hO
    rw [fX12_laysLengths_2]
    refine q_iload_n 3 dX12_laysLengths_2 rfl rfl ?_
    refine q_aload_n 0 dX12_laysLengths_3 rfl rfl ?_
    refine q_callVi (As := []) hO mb_X12_coinMany mv_X12_coinMany ml_X12_379 sh_94 rfl dX12_laysLengths_4 (fun _ => rfl) rfl (Nat.le_of_ble_eq_true rfl) rfl (Nat.le_of_ble_eq_true rfl) (tX12_coinMany M hO) (fun x21 M1 _ hO1 => ?_)
    refine q_icmpge (tgt := 29) dX12_laysLengths_7 (by decide) ?_ ?_
    · exact q_ret dX12_laysLengths_29 rfl
    · refine q_aload_n 0 dX12_laysLengths_10 rfl rfl ?_
      refine q_getx fl_X12_143 hO1 sh_94 rfl fx_94_61 dX12_laysLengths_11 ?_
      refine q_iload_n 3 dX12_laysLengths_14 rfl rfl ?_
      refine q_aload_n 0 dX12_laysLengths_15 rfl rfl ?_
      refine q_iload_n 3 dX12_laysLengths_16 rfl rfl ?_
      refine q_iload_n 1 dX12_laysLengths_17 rfl rfl ?_
      refine q_iload_n 2 dX12_laysLengths_18 rfl rfl ?_
      refine q_callVi (As := [.inl x3, .inl x1, .inl x2]) hO1 mb_X12_shadowOf mv_X12_shadowOf ml_X12_417 sh_94 rfl dX12_laysLengths_19 (fun _ => rfl) rfl (Nat.le_of_ble_eq_true rfl) rfl (Nat.le_of_ble_eq_true rfl) (tX12_shadowOf (by omega) x3 x1 x2 M1 hO1) (fun x22 M2 _ hO2 => ?_)
      refine q_iast sh_137 (q_inA hO2 sh_137 (by decide)) dX12_laysLengths_22 (fun M3 _ _ hM3 => ?_)
      have hO3 : q_Ok M3 := by rw [hM3]; exact q_Ok_arr (t := 0) hO2 sh_137 (by decide)
      refine q_iinc (ls' := [(3, .inl (x3 + 1)), (0, .inr (.inr 94)), (1, .inl x1), (2, .inl x2)]) 3 dX12_laysLengths_23 rfl (by decide) rfl ?_
      refine q_goto (tgt := 2) dX12_laysLengths_26 (by decide) ?_
      refine q_sub [1, 2, 3, 0] rfl ?_
      exact ih x1 x2 (x3 + 1) M3 hO3
def fX12_laysLengths (x1 : Int) (x2 : Int) (M : q_Mem) : Option (Int × q_Mem) := (fX12_laysLengths_2 q_FU x1 x2 0 M)
theorem tX12_laysLengths {d : Nat} (hd : 4 ≤ d) (x1 : Int) (x2 : Int) (M : q_Mem) (hO : q_Ok M) : q_EX d yX12_laysLengths cX12_laysLengths 4 none 0 (q_args 0 [.inr (.inr 94), .inl x1, .inl x2]) [] M (fX12_laysLengths x1 x2 M) := by
  obtain ⟨d, rfl⟩ : ∃ d', d = d' + 1 := ⟨d - 1, by omega⟩
  have hd : 3 ≤ d := by omega
  show q_EX _ _ _ _ _ 0 [(0, .inr (.inr 94)), (1, .inl x1), (2, .inl x2)] [] M _
  unfold fX12_laysLengths
  refine q_iconst dX12_laysLengths_0 ?_
  refine q_istore_n (ls' := [(3, .inl 0), (0, .inr (.inr 94)), (1, .inl x1), (2, .inl x2)]) dX12_laysLengths_1 rfl (by decide) rfl ?_
  refine q_sub [1, 2, 3, 0] rfl ?_
  exact tX12_laysLengths_2 hd q_FU x1 x2 0 M hO
def fX12_bridge_99 (K30 : Int → Int → q_Mem → Option (Int × q_Mem)) (K67 : Int → Int → Int → Int → q_Mem → Option (Int × q_Mem)) (x3 : Int) (x4 : Int) (x5 : Int) (x6 : Int) (M : q_Mem) : Option (Int × q_Mem) := (K67 x3 x4 x5 (x6 + 1) M)
theorem tX12_bridge_99 {d : Nat} (hd : 4 ≤ d) (K30 : Int → Int → q_Mem → Option (Int × q_Mem)) (hK30 : ∀ (x3 : Int) (x4 : Int) (M : q_Mem), q_Ok M → q_EX (d + 1) yX12_bridge cX12_bridge 7 (some .int) 30 [(0, .inr (.inr 94)), (3, .inl x3), (4, .inl x4)] [] M (K30 x3 x4 M)) (K67 : Int → Int → Int → Int → q_Mem → Option (Int × q_Mem)) (hK67 : ∀ (x3 : Int) (x4 : Int) (x5 : Int) (x6 : Int) (M : q_Mem), q_Ok M → q_EX (d + 1) yX12_bridge cX12_bridge 7 (some .int) 67 [(0, .inr (.inr 94)), (3, .inl x3), (4, .inl x4), (5, .inl x5), (6, .inl x6)] [] M (K67 x3 x4 x5 x6 M)) (x3 : Int) (x4 : Int) (x5 : Int) (x6 : Int) (M : q_Mem) (hO : q_Ok M) : q_EX (d + 1) yX12_bridge cX12_bridge 7 (some .int) 99 [(0, .inr (.inr 94)), (3, .inl x3), (4, .inl x4), (5, .inl x5), (6, .inl x6)] [] M (fX12_bridge_99 K30 K67 x3 x4 x5 x6 M) := by
  unfold fX12_bridge_99
  refine q_iinc (ls' := [(6, .inl (x6 + 1)), (0, .inr (.inr 94)), (3, .inl x3), (4, .inl x4), (5, .inl x5)]) 4 dX12_bridge_99 rfl (by decide) rfl ?_
  refine q_goto (tgt := 67) dX12_bridge_102 (by decide) ?_
  refine q_sub [1, 2, 3, 4, 0] rfl ?_
  exact hK67 x3 x4 x5 (x6 + 1) M hO
def fX12_bridge_119 (K30 : Int → Int → q_Mem → Option (Int × q_Mem)) (x3 : Int) (x4 : Int) (M : q_Mem) : Option (Int × q_Mem) := (K30 x3 (x4 + 1) M)
theorem tX12_bridge_119 {d : Nat} (hd : 4 ≤ d) (K30 : Int → Int → q_Mem → Option (Int × q_Mem)) (hK30 : ∀ (x3 : Int) (x4 : Int) (M : q_Mem), q_Ok M → q_EX (d + 1) yX12_bridge cX12_bridge 7 (some .int) 30 [(0, .inr (.inr 94)), (3, .inl x3), (4, .inl x4)] [] M (K30 x3 x4 M)) (x3 : Int) (x4 : Int) (M : q_Mem) (hO : q_Ok M) : q_EX (d + 1) yX12_bridge cX12_bridge 7 (some .int) 119 [(0, .inr (.inr 94)), (3, .inl x3), (4, .inl x4)] [] M (fX12_bridge_119 K30 x3 x4 M) := by
  unfold fX12_bridge_119
  refine q_iinc (ls' := [(4, .inl (x4 + 1)), (0, .inr (.inr 94)), (3, .inl x3)]) 2 dX12_bridge_119 rfl (by decide) rfl ?_
  refine q_goto (tgt := 30) dX12_bridge_122 (by decide) ?_
  refine q_sub [1, 2, 0] rfl ?_
  exact hK30 x3 (x4 + 1) M hO
def fX12_bridge_67 (K30 : Int → Int → q_Mem → Option (Int × q_Mem)) : Nat → Int → Int → Int → Int → q_Mem → Option (Int × q_Mem)
  | 0, _, _, _, _, _ => none
  | n + 1, x3, x4, x5, x6, M => q_bd (fX12_coinMany M) fun x21 M1 => if q_w x6 < q_w x21 then (if q_w (q_and (q_shr x4 x6) 1) = q_w 1 then ((q_ld M1 137 8 x6).bind fun x23 => q_let (x5 + x23) fun x24 => (fX12_bridge_99 K30 (fX12_bridge_67 K30 n) x3 x4 x24 x6 M1)) else ((fX12_bridge_99 K30 (fX12_bridge_67 K30 n) x3 x4 x5 x6 M1))) else ((q_ld M1 122 6 4).bind fun x22 => if q_w x5 < q_w x22 then ((fX12_bridge_119 K30 x3 x4 M1)) else ((fX12_bridge_119 K30 x4 x4 M1)))
theorem tX12_bridge_67 {d : Nat} (hd : 4 ≤ d) (K30 : Int → Int → q_Mem → Option (Int × q_Mem)) (hK30 : ∀ (x3 : Int) (x4 : Int) (M : q_Mem), q_Ok M → q_EX (d + 1) yX12_bridge cX12_bridge 7 (some .int) 30 [(0, .inr (.inr 94)), (3, .inl x3), (4, .inl x4)] [] M (K30 x3 x4 M)) : ∀ (n : Nat) (x3 : Int) (x4 : Int) (x5 : Int) (x6 : Int) (M : q_Mem), q_Ok M → q_EX (d + 1) yX12_bridge cX12_bridge 7 (some .int) 67 [(0, .inr (.inr 94)), (3, .inl x3), (4, .inl x4), (5, .inl x5), (6, .inl x6)] [] M (fX12_bridge_67 K30 n x3 x4 x5 x6 M) := by
  intro n
  induction n with
  | zero => intro x3 x4 x5 x6 M hO; exact q_none
  | succ n ih =>
    intro x3 x4 x5 x6 M hO
    rw [fX12_bridge_67]
    refine q_iload 4 dX12_bridge_67 rfl ?_
    refine q_aload_n 0 dX12_bridge_69 rfl rfl ?_
    refine q_callVi (As := []) hO mb_X12_coinMany mv_X12_coinMany ml_X12_379 sh_94 rfl dX12_bridge_70 (fun _ => rfl) rfl (Nat.le_of_ble_eq_true rfl) rfl (Nat.le_of_ble_eq_true rfl) (tX12_coinMany M hO) (fun x21 M1 _ hO1 => ?_)
    refine q_icmpge (tgt := 105) dX12_bridge_73 (by decide) ?_ ?_
    · refine q_iload 3 dX12_bridge_105 rfl ?_
      refine q_aload_n 0 dX12_bridge_107 rfl rfl ?_
      refine q_getx fl_X12_96 hO1 sh_94 rfl fx_94_36 dX12_bridge_108 ?_
      refine q_iconst dX12_bridge_111 ?_
      refine q_iald sh_122 (q_inA hO1 sh_122 (by decide)) dX12_bridge_112 (fun x22 _ _ _ => ?_)
      refine q_icmplt (tgt := 119) dX12_bridge_113 (by decide) ?_ ?_
      · refine q_sub [0, 1, 2] rfl ?_
        exact tX12_bridge_119 hd K30 hK30 x3 x4 M1 hO1
      · refine q_iload 2 dX12_bridge_116 rfl ?_
        refine q_istore_n (ls' := [(3, .inl x4), (0, .inr (.inr 94)), (4, .inl x4), (5, .inl x5), (6, .inl x6)]) dX12_bridge_118 rfl (by decide) rfl ?_
        refine q_sub [1, 0, 2] rfl ?_
        exact tX12_bridge_119 hd K30 hK30 x4 x4 M1 hO1
    · refine q_iload 2 dX12_bridge_76 rfl ?_
      refine q_iload 4 dX12_bridge_78 rfl ?_
      refine q_ishr dX12_bridge_80 ?_
      refine q_iconst dX12_bridge_81 ?_
      refine q_iand dX12_bridge_82 ?_
      refine q_iconst dX12_bridge_83 ?_
      refine q_icmpne (tgt := 99) dX12_bridge_84 (by decide) ?_ ?_
      · refine q_sub [0, 1, 2, 3, 4] rfl ?_
        exact tX12_bridge_99 hd K30 hK30 (fX12_bridge_67 K30 n) ih x3 x4 x5 x6 M1 hO1
      · refine q_iload 3 dX12_bridge_87 rfl ?_
        refine q_aload_n 0 dX12_bridge_89 rfl rfl ?_
        refine q_getx fl_X12_143 hO1 sh_94 rfl fx_94_61 dX12_bridge_90 ?_
        refine q_iload 4 dX12_bridge_93 rfl ?_
        refine q_iald sh_137 (q_inA hO1 sh_137 (by decide)) dX12_bridge_95 (fun x23 _ _ _ => ?_)
        refine q_iadd dX12_bridge_96 ?_
        refine q_nameI (fun x24 _ => ?_)
        refine q_istore (ls' := [(5, .inl x24), (0, .inr (.inr 94)), (3, .inl x3), (4, .inl x4), (6, .inl x6)]) dX12_bridge_97 (by decide) rfl ?_
        refine q_sub [1, 2, 3, 0, 4] rfl ?_
        exact tX12_bridge_99 hd K30 hK30 (fX12_bridge_67 K30 n) ih x3 x4 x24 x6 M1 hO1
def fX12_bridge_61 (K30 : Int → Int → q_Mem → Option (Int × q_Mem)) (x3 : Int) (x4 : Int) (M : q_Mem) : Option (Int × q_Mem) := (fX12_bridge_67 K30 q_FU x3 x4 0 0 M)
theorem tX12_bridge_61 {d : Nat} (hd : 4 ≤ d) (K30 : Int → Int → q_Mem → Option (Int × q_Mem)) (hK30 : ∀ (x3 : Int) (x4 : Int) (M : q_Mem), q_Ok M → q_EX (d + 1) yX12_bridge cX12_bridge 7 (some .int) 30 [(0, .inr (.inr 94)), (3, .inl x3), (4, .inl x4)] [] M (K30 x3 x4 M)) (x3 : Int) (x4 : Int) (M : q_Mem) (hO : q_Ok M) : q_EX (d + 1) yX12_bridge cX12_bridge 7 (some .int) 61 [(0, .inr (.inr 94)), (3, .inl x3), (4, .inl x4)] [] M (fX12_bridge_61 K30 x3 x4 M) := by
  unfold fX12_bridge_61
  refine q_iconst dX12_bridge_61 ?_
  refine q_istore (ls' := [(5, .inl 0), (0, .inr (.inr 94)), (3, .inl x3), (4, .inl x4)]) dX12_bridge_62 (by decide) rfl ?_
  refine q_iconst dX12_bridge_64 ?_
  refine q_istore (ls' := [(6, .inl 0), (5, .inl 0), (0, .inr (.inr 94)), (3, .inl x3), (4, .inl x4)]) dX12_bridge_65 (by decide) rfl ?_
  refine q_sub [2, 3, 4, 1, 0] rfl ?_
  exact tX12_bridge_67 hd K30 hK30 q_FU x3 x4 0 0 M hO
def fX12_bridge_30  : Nat → Int → Int → q_Mem → Option (Int × q_Mem)
  | 0, _, _, _ => none
  | n + 1, x3, x4, M => q_bd (fX12_coinMany M) fun x21 M1 => if q_w x4 < q_w (q_shl 1 x21) then (if q_w x3 = q_w (-1) then ((fX12_bridge_61 (fX12_bridge_30 n) x3 x4 M1)) else (q_bd (fX12_bits x4 M1) fun x22 M2 => q_bd (fX12_bits x3 M2) fun x23 M3 => if q_w x22 < q_w x23 then ((fX12_bridge_61 (fX12_bridge_30 n) x3 x4 M3)) else ((fX12_bridge_119 (fX12_bridge_30 n) x3 x4 M3)))) else (some (x3, M1))
theorem tX12_bridge_30 {d : Nat} (hd : 4 ≤ d) : ∀ (n : Nat) (x3 : Int) (x4 : Int) (M : q_Mem), q_Ok M → q_EX (d + 1) yX12_bridge cX12_bridge 7 (some .int) 30 [(0, .inr (.inr 94)), (3, .inl x3), (4, .inl x4)] [] M (fX12_bridge_30 n x3 x4 M) := by
  intro n
  induction n with
  | zero => intro x3 x4 M hO; exact q_none
  | succ n ih =>
    intro x3 x4 M hO
    rw [fX12_bridge_30]
    refine q_iload 2 dX12_bridge_30 rfl ?_
    refine q_iconst dX12_bridge_32 ?_
    refine q_aload_n 0 dX12_bridge_33 rfl rfl ?_
    refine q_callVi (As := []) hO mb_X12_coinMany mv_X12_coinMany ml_X12_379 sh_94 rfl dX12_bridge_34 (fun _ => rfl) rfl (Nat.le_of_ble_eq_true rfl) rfl (Nat.le_of_ble_eq_true rfl) (tX12_coinMany M hO) (fun x21 M1 _ hO1 => ?_)
    refine q_ishl dX12_bridge_37 ?_
    refine q_icmpge (tgt := 125) dX12_bridge_38 (by decide) ?_ ?_
    · refine q_iload_n 1 dX12_bridge_125 rfl rfl ?_
      exact q_ret dX12_bridge_126 rfl
    · refine q_iload_n 1 dX12_bridge_41 rfl rfl ?_
      refine q_iconst dX12_bridge_42 ?_
      refine q_icmpeq (tgt := 61) dX12_bridge_43 (by decide) ?_ ?_
      · refine q_sub [0, 1, 2] rfl ?_
        exact tX12_bridge_61 hd (fX12_bridge_30 n) ih x3 x4 M1 hO1
      · refine q_iload 2 dX12_bridge_46 rfl ?_
        refine q_callSi (As := [.inl x4]) hO1 mb_X12_bits ms_X12_bits ml_X12_436 dX12_bridge_48 (fun _ => rfl) rfl (Nat.le_of_ble_eq_true rfl) rfl (Nat.le_of_ble_eq_true rfl) (tX12_bits x4 M1 hO1) (fun x22 M2 _ hO2 => ?_)
        refine q_iload_n 1 dX12_bridge_51 rfl rfl ?_
        refine q_callSi (As := [.inl x3]) hO2 mb_X12_bits ms_X12_bits ml_X12_436 dX12_bridge_52 (fun _ => rfl) rfl (Nat.le_of_ble_eq_true rfl) rfl (Nat.le_of_ble_eq_true rfl) (tX12_bits x3 M2 hO2) (fun x23 M3 _ hO3 => ?_)
        refine q_icmplt (tgt := 61) dX12_bridge_55 (by decide) ?_ ?_
        · refine q_sub [0, 1, 2] rfl ?_
          exact tX12_bridge_61 hd (fX12_bridge_30 n) ih x3 x4 M3 hO3
        · refine q_goto (tgt := 119) dX12_bridge_58 (by decide) ?_
          refine q_sub [0, 1, 2] rfl ?_
          exact tX12_bridge_119 hd (fX12_bridge_30 n) ih x3 x4 M3 hO3
def fX12_bridge (x1 : Int) (x2 : Int) (M : q_Mem) : Option (Int × q_Mem) := q_bd (fX12_isStall (q_w x1) M) fun x21 M1 => if q_w x21 = 0 then (some ((-1), M1)) else (q_bd (fX12_isMinute x2 M1) fun x22 M2 => if q_w x22 = 0 then (some ((-1), M2)) else (q_bd (fX12_laysLengths x1 x2 M2) fun _ M3 => (fX12_bridge_30 q_FU (-1) 0 M3)))
theorem tX12_bridge {d : Nat} (hd : 5 ≤ d) (x1 : Int) (x2 : Int) (M : q_Mem) (hO : q_Ok M) : q_EX d yX12_bridge cX12_bridge 7 (some .int) 0 (q_args 0 [.inr (.inr 94), .inl x1, .inl x2]) [] M (fX12_bridge x1 x2 M) := by
  obtain ⟨d, rfl⟩ : ∃ d', d = d' + 1 := ⟨d - 1, by omega⟩
  have hd : 4 ≤ d := by omega
  show q_EX _ _ _ _ _ 0 [(0, .inr (.inr 94)), (1, .inl x1), (2, .inl x2)] [] M _
  unfold fX12_bridge
  refine q_aload_n 0 dX12_bridge_0 rfl rfl ?_
  refine q_iload_n 1 dX12_bridge_1 rfl rfl ?_
  refine q_i2l dX12_bridge_2 ?_
  refine q_callVi (As := [.inr (.inl (q_w x1))]) hO mb_X12_isStall mv_X12_isStall ml_X12_441 sh_94 rfl dX12_bridge_3 (fun _ => rfl) rfl (Nat.le_of_ble_eq_true rfl) rfl (Nat.le_of_ble_eq_true rfl) (tX12_isStall (by omega) (q_w x1) M hO) (fun x21 M1 _ hO1 => ?_)
  refine q_ifeq (tgt := 17) dX12_bridge_6 (by decide) ?_ ?_
  · refine q_iconst dX12_bridge_17 ?_
    exact q_ret dX12_bridge_18 rfl
  · refine q_aload_n 0 dX12_bridge_9 rfl rfl ?_
    refine q_iload_n 2 dX12_bridge_10 rfl rfl ?_
    refine q_callVi (As := [.inl x2]) hO1 mb_X12_isMinute mv_X12_isMinute ml_X12_453 sh_94 rfl dX12_bridge_11 (fun _ => rfl) rfl (Nat.le_of_ble_eq_true rfl) rfl (Nat.le_of_ble_eq_true rfl) (tX12_isMinute (by omega) x2 M1 hO1) (fun x22 M2 _ hO2 => ?_)
    refine q_ifne (tgt := 19) dX12_bridge_14 (by decide) ?_ ?_
    · refine q_aload_n 0 dX12_bridge_19 rfl rfl ?_
      refine q_iload_n 1 dX12_bridge_20 rfl rfl ?_
      refine q_iload_n 2 dX12_bridge_21 rfl rfl ?_
      refine q_callVv (As := [.inl x1, .inl x2]) hO2 mb_X12_laysLengths mv_X12_laysLengths ml_X12_488 sh_94 rfl dX12_bridge_22 (fun _ => rfl) rfl (Nat.le_of_ble_eq_true rfl) rfl (Nat.le_of_ble_eq_true rfl) (tX12_laysLengths (by omega) x1 x2 M2 hO2) (fun _ M3 _ hO3 => ?_)
      refine q_iconst dX12_bridge_25 ?_
      refine q_istore_n (ls' := [(3, .inl (-1)), (0, .inr (.inr 94)), (1, .inl x1), (2, .inl x2)]) dX12_bridge_26 rfl (by decide) rfl ?_
      refine q_iconst dX12_bridge_27 ?_
      refine q_istore (ls' := [(4, .inl 0), (3, .inl (-1)), (0, .inr (.inr 94)), (1, .inl x1), (2, .inl x2)]) dX12_bridge_28 (by decide) rfl ?_
      refine q_sub [2, 1, 0] rfl ?_
      exact tX12_bridge_30 hd q_FU (-1) 0 M3 hO3
    · refine q_iconst dX12_bridge_17 ?_
      exact q_ret dX12_bridge_18 rfl
def fX12_change_106 (K47 : Int → Int → Int → q_Mem → Option (Int × q_Mem)) (K59 : Int → Int → Int → Int → q_Mem → Option (Int × q_Mem)) (x2 : Int) (x3 : Int) (x4 : Int) (x5 : Int) (M : q_Mem) : Option (Int × q_Mem) := (K59 x2 x3 x4 (x5 + 1) M)
theorem tX12_change_106 {d : Nat} (hd : 4 ≤ d) (K47 : Int → Int → Int → q_Mem → Option (Int × q_Mem)) (hK47 : ∀ (x2 : Int) (x3 : Int) (x4 : Int) (M : q_Mem), q_Ok M → q_EX (d + 1) yX12_change cX12_change 6 (some .int) 47 [(0, .inr (.inr 94)), (2, .inl x2), (3, .inl x3), (4, .inl x4)] [] M (K47 x2 x3 x4 M)) (K59 : Int → Int → Int → Int → q_Mem → Option (Int × q_Mem)) (hK59 : ∀ (x2 : Int) (x3 : Int) (x4 : Int) (x5 : Int) (M : q_Mem), q_Ok M → q_EX (d + 1) yX12_change cX12_change 6 (some .int) 59 [(0, .inr (.inr 94)), (2, .inl x2), (3, .inl x3), (4, .inl x4), (5, .inl x5)] [] M (K59 x2 x3 x4 x5 M)) (x2 : Int) (x3 : Int) (x4 : Int) (x5 : Int) (M : q_Mem) (hO : q_Ok M) : q_EX (d + 1) yX12_change cX12_change 6 (some .int) 106 [(0, .inr (.inr 94)), (2, .inl x2), (3, .inl x3), (4, .inl x4), (5, .inl x5)] [] M (fX12_change_106 K47 K59 x2 x3 x4 x5 M) := by
  unfold fX12_change_106
  refine q_iinc (ls' := [(5, .inl (x5 + 1)), (0, .inr (.inr 94)), (2, .inl x2), (3, .inl x3), (4, .inl x4)]) 4 dX12_change_106 rfl (by decide) rfl ?_
  refine q_goto (tgt := 59) dX12_change_109 (by decide) ?_
  refine q_sub [1, 2, 3, 4, 0] rfl ?_
  exact hK59 x2 x3 x4 (x5 + 1) M hO
def fX12_change_59 (K47 : Int → Int → Int → q_Mem → Option (Int × q_Mem)) : Nat → Int → Int → Int → Int → q_Mem → Option (Int × q_Mem)
  | 0, _, _, _, _, _ => none
  | n + 1, x2, x3, x4, x5, M => q_bd (fX12_coinMany M) fun x21 M1 => if q_w x5 < q_w x21 then (if q_w x4 = q_w x5 then ((fX12_change_106 K47 (fX12_change_59 K47 n) x2 x3 x4 x5 M1)) else ((q_ld M1 137 8 x4).bind fun x22 => (q_ld M1 137 8 x5).bind fun x23 => if q_w (x22 - x23) = q_w x2 then (if q_w x3 = 0 then (some (x4, M1)) else (some (x5, M1))) else ((fX12_change_106 K47 (fX12_change_59 K47 n) x2 x3 x4 x5 M1)))) else ((K47 x2 x3 (x4 + 1) M1))
theorem tX12_change_59 {d : Nat} (hd : 4 ≤ d) (K47 : Int → Int → Int → q_Mem → Option (Int × q_Mem)) (hK47 : ∀ (x2 : Int) (x3 : Int) (x4 : Int) (M : q_Mem), q_Ok M → q_EX (d + 1) yX12_change cX12_change 6 (some .int) 47 [(0, .inr (.inr 94)), (2, .inl x2), (3, .inl x3), (4, .inl x4)] [] M (K47 x2 x3 x4 M)) : ∀ (n : Nat) (x2 : Int) (x3 : Int) (x4 : Int) (x5 : Int) (M : q_Mem), q_Ok M → q_EX (d + 1) yX12_change cX12_change 6 (some .int) 59 [(0, .inr (.inr 94)), (2, .inl x2), (3, .inl x3), (4, .inl x4), (5, .inl x5)] [] M (fX12_change_59 K47 n x2 x3 x4 x5 M) := by
  intro n
  induction n with
  | zero => intro x2 x3 x4 x5 M hO; exact q_none
  | succ n ih =>
    intro x2 x3 x4 x5 M hO
    rw [fX12_change_59]
    refine q_iload 4 dX12_change_59 rfl ?_
    refine q_aload_n 0 dX12_change_61 rfl rfl ?_
    refine q_callVi (As := []) hO mb_X12_coinMany mv_X12_coinMany ml_X12_379 sh_94 rfl dX12_change_62 (fun _ => rfl) rfl (Nat.le_of_ble_eq_true rfl) rfl (Nat.le_of_ble_eq_true rfl) (tX12_coinMany M hO) (fun x21 M1 _ hO1 => ?_)
    refine q_icmpge (tgt := 112) dX12_change_65 (by decide) ?_ ?_
    · refine q_iinc (ls' := [(4, .inl (x4 + 1)), (0, .inr (.inr 94)), (2, .inl x2), (3, .inl x3), (5, .inl x5)]) 3 dX12_change_112 rfl (by decide) rfl ?_
      refine q_goto (tgt := 47) dX12_change_115 (by decide) ?_
      refine q_sub [1, 2, 3, 0] rfl ?_
      exact hK47 x2 x3 (x4 + 1) M1 hO1
    · refine q_iload 3 dX12_change_68 rfl ?_
      refine q_iload 4 dX12_change_70 rfl ?_
      refine q_icmpeq (tgt := 106) dX12_change_72 (by decide) ?_ ?_
      · refine q_sub [0, 1, 2, 3, 4] rfl ?_
        exact tX12_change_106 hd K47 hK47 (fX12_change_59 K47 n) ih x2 x3 x4 x5 M1 hO1
      · refine q_aload_n 0 dX12_change_75 rfl rfl ?_
        refine q_getx fl_X12_143 hO1 sh_94 rfl fx_94_61 dX12_change_76 ?_
        refine q_iload 3 dX12_change_79 rfl ?_
        refine q_iald sh_137 (q_inA hO1 sh_137 (by decide)) dX12_change_81 (fun x22 _ _ _ => ?_)
        refine q_aload_n 0 dX12_change_82 rfl rfl ?_
        refine q_getx fl_X12_143 hO1 sh_94 rfl fx_94_61 dX12_change_83 ?_
        refine q_iload 4 dX12_change_86 rfl ?_
        refine q_iald sh_137 (q_inA hO1 sh_137 (by decide)) dX12_change_88 (fun x23 _ _ _ => ?_)
        refine q_isub dX12_change_89 ?_
        refine q_iload_n 1 dX12_change_90 rfl rfl ?_
        refine q_icmpne (tgt := 106) dX12_change_91 (by decide) ?_ ?_
        · refine q_sub [0, 1, 2, 3, 4] rfl ?_
          exact tX12_change_106 hd K47 hK47 (fX12_change_59 K47 n) ih x2 x3 x4 x5 M1 hO1
        · refine q_iload_n 2 dX12_change_94 rfl rfl ?_
          refine q_ifne (tgt := 103) dX12_change_95 (by decide) ?_ ?_
          · refine q_iload 4 dX12_change_103 rfl ?_
            exact q_ret dX12_change_105 rfl
          · refine q_iload 3 dX12_change_98 rfl ?_
            refine q_goto (tgt := 105) dX12_change_100 (by decide) ?_
            exact q_ret dX12_change_105 rfl
def fX12_change_47  : Nat → Int → Int → Int → q_Mem → Option (Int × q_Mem)
  | 0, _, _, _, _ => none
  | n + 1, x2, x3, x4, M => q_bd (fX12_coinMany M) fun x21 M1 => if q_w x4 < q_w x21 then ((fX12_change_59 (fX12_change_47 n) q_FU x2 x3 x4 0 M1)) else (some ((-1), M1))
theorem tX12_change_47 {d : Nat} (hd : 4 ≤ d) : ∀ (n : Nat) (x2 : Int) (x3 : Int) (x4 : Int) (M : q_Mem), q_Ok M → q_EX (d + 1) yX12_change cX12_change 6 (some .int) 47 [(0, .inr (.inr 94)), (2, .inl x2), (3, .inl x3), (4, .inl x4)] [] M (fX12_change_47 n x2 x3 x4 M) := by
  intro n
  induction n with
  | zero => intro x2 x3 x4 M hO; exact q_none
  | succ n ih =>
    intro x2 x3 x4 M hO
    rw [fX12_change_47]
    refine q_iload 3 dX12_change_47 rfl ?_
    refine q_aload_n 0 dX12_change_49 rfl rfl ?_
    refine q_callVi (As := []) hO mb_X12_coinMany mv_X12_coinMany ml_X12_379 sh_94 rfl dX12_change_50 (fun _ => rfl) rfl (Nat.le_of_ble_eq_true rfl) rfl (Nat.le_of_ble_eq_true rfl) (tX12_coinMany M hO) (fun x21 M1 _ hO1 => ?_)
    refine q_icmpge (tgt := 118) dX12_change_53 (by decide) ?_ ?_
    · refine q_iconst dX12_change_118 ?_
      exact q_ret dX12_change_119 rfl
    · refine q_iconst dX12_change_56 ?_
      refine q_istore (ls' := [(5, .inl 0), (0, .inr (.inr 94)), (2, .inl x2), (3, .inl x3), (4, .inl x4)]) dX12_change_57 (by decide) rfl ?_
      refine q_sub [1, 2, 3, 4, 0] rfl ?_
      exact tX12_change_59 hd (fX12_change_47 n) ih q_FU x2 x3 x4 0 M1 hO1
def fX12_change (x1 : Int) (x2 : Int) (x3 : Int) (M : q_Mem) : Option (Int × q_Mem) := q_bd (fX12_isStall (q_w x1) M) fun x21 M1 => if q_w x21 = 0 then (some ((-1), M1)) else (q_bd (fX12_isIn (q_w x2) 0 999 M1) fun x22 M2 => if q_w x22 = 0 then (some ((-1), M2)) else (q_bd (fX12_isIn (q_w x3) 0 1 M2) fun x23 M3 => if q_w x23 = 0 then (some ((-1), M3)) else ((q_ld M3 131 141 0).bind fun x24 => q_bd (fX12_laysLengths x1 x24 M3) fun _ M4 => (fX12_change_47 q_FU x2 x3 0 M4))))
theorem tX12_change {d : Nat} (hd : 5 ≤ d) (x1 : Int) (x2 : Int) (x3 : Int) (M : q_Mem) (hO : q_Ok M) : q_EX d yX12_change cX12_change 6 (some .int) 0 (q_args 0 [.inr (.inr 94), .inl x1, .inl x2, .inl x3]) [] M (fX12_change x1 x2 x3 M) := by
  obtain ⟨d, rfl⟩ : ∃ d', d = d' + 1 := ⟨d - 1, by omega⟩
  have hd : 4 ≤ d := by omega
  show q_EX _ _ _ _ _ 0 [(0, .inr (.inr 94)), (1, .inl x1), (2, .inl x2), (3, .inl x3)] [] M _
  unfold fX12_change
  refine q_aload_n 0 dX12_change_0 rfl rfl ?_
  refine q_iload_n 1 dX12_change_1 rfl rfl ?_
  refine q_i2l dX12_change_2 ?_
  refine q_callVi (As := [.inr (.inl (q_w x1))]) hO mb_X12_isStall mv_X12_isStall ml_X12_441 sh_94 rfl dX12_change_3 (fun _ => rfl) rfl (Nat.le_of_ble_eq_true rfl) rfl (Nat.le_of_ble_eq_true rfl) (tX12_isStall (by omega) (q_w x1) M hO) (fun x21 M1 _ hO1 => ?_)
  refine q_ifeq (tgt := 31) dX12_change_6 (by decide) ?_ ?_
  · refine q_iconst dX12_change_31 ?_
    exact q_ret dX12_change_32 rfl
  · refine q_iload_n 2 dX12_change_9 rfl rfl ?_
    refine q_i2l dX12_change_10 ?_
    refine q_lconst (v := 0) dX12_change_11 (by decide) ?_
    refine q_ldc2 dX12_change_12 kl_X12_411 (n := 999) rfl ?_
    refine q_callSi (As := [.inr (.inl (q_w x2)), .inr (.inl 0), .inr (.inl 999)]) hO1 mb_X12_isIn ms_X12_isIn ml_X12_277 dX12_change_15 (fun _ => rfl) rfl (Nat.le_of_ble_eq_true rfl) rfl (Nat.le_of_ble_eq_true rfl) (tX12_isIn (q_w x2) 0 999 M1 hO1) (fun x22 M2 _ hO2 => ?_)
    refine q_ifeq (tgt := 31) dX12_change_18 (by decide) ?_ ?_
    · refine q_iconst dX12_change_31 ?_
      exact q_ret dX12_change_32 rfl
    · refine q_iload_n 3 dX12_change_21 rfl rfl ?_
      refine q_i2l dX12_change_22 ?_
      refine q_lconst (v := 0) dX12_change_23 (by decide) ?_
      refine q_lconst (v := 1) dX12_change_24 (by decide) ?_
      refine q_callSi (As := [.inr (.inl (q_w x3)), .inr (.inl 0), .inr (.inl 1)]) hO2 mb_X12_isIn ms_X12_isIn ml_X12_277 dX12_change_25 (fun _ => rfl) rfl (Nat.le_of_ble_eq_true rfl) rfl (Nat.le_of_ble_eq_true rfl) (tX12_isIn (q_w x3) 0 1 M2 hO2) (fun x23 M3 _ hO3 => ?_)
      refine q_ifne (tgt := 33) dX12_change_28 (by decide) ?_ ?_
      · refine q_aload_n 0 dX12_change_33 rfl rfl ?_
        refine q_iload_n 1 dX12_change_34 rfl rfl ?_
        refine q_aload_n 0 dX12_change_35 rfl rfl ?_
        refine q_getx fl_X12_124 hO3 sh_94 rfl fx_94_49 dX12_change_36 ?_
        refine q_iconst dX12_change_39 ?_
        refine q_iald sh_131 (q_inA hO3 sh_131 (by decide)) dX12_change_40 (fun x24 _ _ _ => ?_)
        refine q_callVv (As := [.inl x1, .inl x24]) hO3 mb_X12_laysLengths mv_X12_laysLengths ml_X12_488 sh_94 rfl dX12_change_41 (fun _ => rfl) rfl (Nat.le_of_ble_eq_true rfl) rfl (Nat.le_of_ble_eq_true rfl) (tX12_laysLengths (by omega) x1 x24 M3 hO3) (fun _ M4 _ hO4 => ?_)
        refine q_iconst dX12_change_44 ?_
        refine q_istore (ls' := [(4, .inl 0), (0, .inr (.inr 94)), (1, .inl x1), (2, .inl x2), (3, .inl x3)]) dX12_change_45 (by decide) rfl ?_
        refine q_sub [1, 3, 4, 0] rfl ?_
        exact tX12_change_47 hd q_FU x2 x3 0 M4 hO4
      · refine q_iconst dX12_change_31 ?_
        exact q_ret dX12_change_32 rfl
def fX12_chalked_104 (K47 : Int → Int → Int → Int → Int → Int → Int → q_Mem → Option (Int × q_Mem)) (K59 : Int → Int → Int → Int → Int → Int → Int → Int → q_Mem → Option (Int × q_Mem)) (x1 : Int) (x2 : Int) (x3 : Int) (x4 : Int) (x5 : Int) (x6 : Int) (x7 : Int) (x8 : Int) (M : q_Mem) : Option (Int × q_Mem) := (K59 x1 x2 x3 x4 x5 x6 x7 (x8 + 1) M)
theorem tX12_chalked_104 {d : Nat} (hd : 3 ≤ d) (K47 : Int → Int → Int → Int → Int → Int → Int → q_Mem → Option (Int × q_Mem)) (hK47 : ∀ (x1 : Int) (x2 : Int) (x3 : Int) (x4 : Int) (x5 : Int) (x6 : Int) (x7 : Int) (M : q_Mem), q_Ok M → q_EX (d + 1) yX12_chalked cX12_chalked 9 (some .int) 47 [(0, .inr (.inr 94)), (1, .inl x1), (2, .inl x2), (3, .inl x3), (4, .inl x4), (5, .inl x5), (6, .inl x6), (7, .inl x7)] [] M (K47 x1 x2 x3 x4 x5 x6 x7 M)) (K59 : Int → Int → Int → Int → Int → Int → Int → Int → q_Mem → Option (Int × q_Mem)) (hK59 : ∀ (x1 : Int) (x2 : Int) (x3 : Int) (x4 : Int) (x5 : Int) (x6 : Int) (x7 : Int) (x8 : Int) (M : q_Mem), q_Ok M → q_EX (d + 1) yX12_chalked cX12_chalked 9 (some .int) 59 [(0, .inr (.inr 94)), (1, .inl x1), (2, .inl x2), (3, .inl x3), (4, .inl x4), (5, .inl x5), (6, .inl x6), (7, .inl x7), (8, .inl x8)] [] M (K59 x1 x2 x3 x4 x5 x6 x7 x8 M)) (x1 : Int) (x2 : Int) (x3 : Int) (x4 : Int) (x5 : Int) (x6 : Int) (x7 : Int) (x8 : Int) (M : q_Mem) (hO : q_Ok M) : q_EX (d + 1) yX12_chalked cX12_chalked 9 (some .int) 104 [(0, .inr (.inr 94)), (1, .inl x1), (2, .inl x2), (3, .inl x3), (4, .inl x4), (5, .inl x5), (6, .inl x6), (7, .inl x7), (8, .inl x8)] [] M (fX12_chalked_104 K47 K59 x1 x2 x3 x4 x5 x6 x7 x8 M) := by
  unfold fX12_chalked_104
  refine q_iinc (ls' := [(8, .inl (x8 + 1)), (0, .inr (.inr 94)), (1, .inl x1), (2, .inl x2), (3, .inl x3), (4, .inl x4), (5, .inl x5), (6, .inl x6), (7, .inl x7)]) 8 dX12_chalked_104 rfl (by decide) rfl ?_
  refine q_goto (tgt := 59) dX12_chalked_107 (by decide) ?_
  refine q_sub [1, 2, 3, 4, 5, 6, 7, 8, 0] rfl ?_
  exact hK59 x1 x2 x3 x4 x5 x6 x7 (x8 + 1) M hO
def fX12_chalked_59 (K47 : Int → Int → Int → Int → Int → Int → Int → q_Mem → Option (Int × q_Mem)) : Nat → Int → Int → Int → Int → Int → Int → Int → Int → q_Mem → Option (Int × q_Mem)
  | 0, _, _, _, _, _, _, _, _, _ => none
  | n + 1, x1, x2, x3, x4, x5, x6, x7, x8, M => q_bd (fX12_coinMany M) fun x21 M1 => if q_w x8 < q_w x21 then (q_bd (fX12_shadowOf x8 x1 x7 M1) fun x22 M2 => if q_w x22 = q_w x2 then (if q_w x5 = q_w (-1) then ((fX12_chalked_104 K47 (fX12_chalked_59 K47 n) x1 x2 x3 (x4 + 1) x7 x8 x7 x8 M2)) else ((fX12_chalked_104 K47 (fX12_chalked_59 K47 n) x1 x2 x3 (x4 + 1) x5 x6 x7 x8 M2))) else ((fX12_chalked_104 K47 (fX12_chalked_59 K47 n) x1 x2 x3 x4 x5 x6 x7 x8 M2))) else ((K47 x1 x2 x3 x4 x5 x6 (x7 + 1) M1))
theorem tX12_chalked_59 {d : Nat} (hd : 3 ≤ d) (K47 : Int → Int → Int → Int → Int → Int → Int → q_Mem → Option (Int × q_Mem)) (hK47 : ∀ (x1 : Int) (x2 : Int) (x3 : Int) (x4 : Int) (x5 : Int) (x6 : Int) (x7 : Int) (M : q_Mem), q_Ok M → q_EX (d + 1) yX12_chalked cX12_chalked 9 (some .int) 47 [(0, .inr (.inr 94)), (1, .inl x1), (2, .inl x2), (3, .inl x3), (4, .inl x4), (5, .inl x5), (6, .inl x6), (7, .inl x7)] [] M (K47 x1 x2 x3 x4 x5 x6 x7 M)) : ∀ (n : Nat) (x1 : Int) (x2 : Int) (x3 : Int) (x4 : Int) (x5 : Int) (x6 : Int) (x7 : Int) (x8 : Int) (M : q_Mem), q_Ok M → q_EX (d + 1) yX12_chalked cX12_chalked 9 (some .int) 59 [(0, .inr (.inr 94)), (1, .inl x1), (2, .inl x2), (3, .inl x3), (4, .inl x4), (5, .inl x5), (6, .inl x6), (7, .inl x7), (8, .inl x8)] [] M (fX12_chalked_59 K47 n x1 x2 x3 x4 x5 x6 x7 x8 M) := by
  intro n
  induction n with
  | zero => intro x1 x2 x3 x4 x5 x6 x7 x8 M hO; exact q_none
  | succ n ih =>
    intro x1 x2 x3 x4 x5 x6 x7 x8 M hO
    rw [fX12_chalked_59]
    refine q_iload 8 dX12_chalked_59 rfl ?_
    refine q_aload_n 0 dX12_chalked_61 rfl rfl ?_
    refine q_callVi (As := []) hO mb_X12_coinMany mv_X12_coinMany ml_X12_379 sh_94 rfl dX12_chalked_62 (fun _ => rfl) rfl (Nat.le_of_ble_eq_true rfl) rfl (Nat.le_of_ble_eq_true rfl) (tX12_coinMany M hO) (fun x21 M1 _ hO1 => ?_)
    refine q_icmpge (tgt := 110) dX12_chalked_65 (by decide) ?_ ?_
    · refine q_iinc (ls' := [(7, .inl (x7 + 1)), (0, .inr (.inr 94)), (1, .inl x1), (2, .inl x2), (3, .inl x3), (4, .inl x4), (5, .inl x5), (6, .inl x6), (8, .inl x8)]) 7 dX12_chalked_110 rfl (by decide) rfl ?_
      refine q_goto (tgt := 47) dX12_chalked_113 (by decide) ?_
      refine q_sub [1, 2, 3, 4, 5, 6, 7, 0] rfl ?_
      exact hK47 x1 x2 x3 x4 x5 x6 (x7 + 1) M1 hO1
    · refine q_aload_n 0 dX12_chalked_68 rfl rfl ?_
      refine q_iload 8 dX12_chalked_69 rfl ?_
      refine q_iload_n 1 dX12_chalked_71 rfl rfl ?_
      refine q_iload 7 dX12_chalked_72 rfl ?_
      refine q_callVi (As := [.inl x8, .inl x1, .inl x7]) hO1 mb_X12_shadowOf mv_X12_shadowOf ml_X12_417 sh_94 rfl dX12_chalked_74 (fun _ => rfl) rfl (Nat.le_of_ble_eq_true rfl) rfl (Nat.le_of_ble_eq_true rfl) (tX12_shadowOf (by omega) x8 x1 x7 M1 hO1) (fun x22 M2 _ hO2 => ?_)
      refine q_iload_n 2 dX12_chalked_77 rfl rfl ?_
      refine q_icmpeq (tgt := 84) dX12_chalked_78 (by decide) ?_ ?_
      · refine q_iinc (ls' := [(4, .inl (x4 + 1)), (0, .inr (.inr 94)), (1, .inl x1), (2, .inl x2), (3, .inl x3), (5, .inl x5), (6, .inl x6), (7, .inl x7), (8, .inl x8)]) 4 dX12_chalked_84 rfl (by decide) rfl ?_
        refine q_iload 5 dX12_chalked_87 rfl ?_
        refine q_iconst dX12_chalked_89 ?_
        refine q_icmpeq (tgt := 96) dX12_chalked_90 (by decide) ?_ ?_
        · refine q_iload 7 dX12_chalked_96 rfl ?_
          refine q_istore (ls' := [(5, .inl x7), (4, .inl (x4 + 1)), (0, .inr (.inr 94)), (1, .inl x1), (2, .inl x2), (3, .inl x3), (6, .inl x6), (7, .inl x7), (8, .inl x8)]) dX12_chalked_98 (by decide) rfl ?_
          refine q_iload 8 dX12_chalked_100 rfl ?_
          refine q_istore (ls' := [(6, .inl x8), (5, .inl x7), (4, .inl (x4 + 1)), (0, .inr (.inr 94)), (1, .inl x1), (2, .inl x2), (3, .inl x3), (7, .inl x7), (8, .inl x8)]) dX12_chalked_102 (by decide) rfl ?_
          refine q_sub [3, 4, 5, 6, 2, 1, 0, 7, 8] rfl ?_
          exact tX12_chalked_104 hd K47 hK47 (fX12_chalked_59 K47 n) ih x1 x2 x3 (x4 + 1) x7 x8 x7 x8 M2 hO2
        · refine q_goto (tgt := 104) dX12_chalked_93 (by decide) ?_
          refine q_sub [1, 2, 3, 4, 0, 5, 6, 7, 8] rfl ?_
          exact tX12_chalked_104 hd K47 hK47 (fX12_chalked_59 K47 n) ih x1 x2 x3 (x4 + 1) x5 x6 x7 x8 M2 hO2
      · refine q_goto (tgt := 104) dX12_chalked_81 (by decide) ?_
        refine q_sub [0, 1, 2, 3, 4, 5, 6, 7, 8] rfl ?_
        exact tX12_chalked_104 hd K47 hK47 (fX12_chalked_59 K47 n) ih x1 x2 x3 x4 x5 x6 x7 x8 M2 hO2
def fX12_chalked_47  : Nat → Int → Int → Int → Int → Int → Int → Int → q_Mem → Option (Int × q_Mem)
  | 0, _, _, _, _, _, _, _, _ => none
  | n + 1, x1, x2, x3, x4, x5, x6, x7, M => q_bd (fX12_fairMinutes M) fun x21 M1 => if q_w x21 < q_w x7 then (if q_w x3 = 0 then (some (x4, M1)) else (if q_w x3 = q_w 1 then (some (x5, M1)) else (some (x6, M1)))) else ((fX12_chalked_59 (fX12_chalked_47 n) q_FU x1 x2 x3 x4 x5 x6 x7 0 M1))
theorem tX12_chalked_47 {d : Nat} (hd : 3 ≤ d) : ∀ (n : Nat) (x1 : Int) (x2 : Int) (x3 : Int) (x4 : Int) (x5 : Int) (x6 : Int) (x7 : Int) (M : q_Mem), q_Ok M → q_EX (d + 1) yX12_chalked cX12_chalked 9 (some .int) 47 [(0, .inr (.inr 94)), (1, .inl x1), (2, .inl x2), (3, .inl x3), (4, .inl x4), (5, .inl x5), (6, .inl x6), (7, .inl x7)] [] M (fX12_chalked_47 n x1 x2 x3 x4 x5 x6 x7 M) := by
  intro n
  induction n with
  | zero => intro x1 x2 x3 x4 x5 x6 x7 M hO; exact q_none
  | succ n ih =>
    intro x1 x2 x3 x4 x5 x6 x7 M hO
    rw [fX12_chalked_47]
    refine q_iload 7 dX12_chalked_47 rfl ?_
    refine q_aload_n 0 dX12_chalked_49 rfl rfl ?_
    refine q_callVi (As := []) hO mb_X12_fairMinutes mv_X12_fairMinutes ml_X12_382 sh_94 rfl dX12_chalked_50 (fun _ => rfl) rfl (Nat.le_of_ble_eq_true rfl) rfl (Nat.le_of_ble_eq_true rfl) (tX12_fairMinutes M hO) (fun x21 M1 _ hO1 => ?_)
    refine q_icmpgt (tgt := 116) dX12_chalked_53 (by decide) ?_ ?_
    · refine q_iload_n 3 dX12_chalked_116 rfl rfl ?_
      refine q_ifne (tgt := 125) dX12_chalked_117 (by decide) ?_ ?_
      · refine q_iload_n 3 dX12_chalked_125 rfl rfl ?_
        refine q_iconst dX12_chalked_126 ?_
        refine q_icmpne (tgt := 135) dX12_chalked_127 (by decide) ?_ ?_
        · refine q_iload 6 dX12_chalked_135 rfl ?_
          exact q_ret dX12_chalked_137 rfl
        · refine q_iload 5 dX12_chalked_130 rfl ?_
          refine q_goto (tgt := 137) dX12_chalked_132 (by decide) ?_
          exact q_ret dX12_chalked_137 rfl
      · refine q_iload 4 dX12_chalked_120 rfl ?_
        refine q_goto (tgt := 137) dX12_chalked_122 (by decide) ?_
        exact q_ret dX12_chalked_137 rfl
    · refine q_iconst dX12_chalked_56 ?_
      refine q_istore (ls' := [(8, .inl 0), (0, .inr (.inr 94)), (1, .inl x1), (2, .inl x2), (3, .inl x3), (4, .inl x4), (5, .inl x5), (6, .inl x6), (7, .inl x7)]) dX12_chalked_57 (by decide) rfl ?_
      refine q_sub [1, 2, 3, 4, 5, 6, 7, 8, 0] rfl ?_
      exact tX12_chalked_59 hd (fX12_chalked_47 n) ih q_FU x1 x2 x3 x4 x5 x6 x7 0 M1 hO1
def fX12_chalked (x1 : Int) (x2 : Int) (x3 : Int) (M : q_Mem) : Option (Int × q_Mem) := q_bd (fX12_isStall (q_w x1) M) fun x21 M1 => if q_w x21 = 0 then (some ((-1), M1)) else (q_bd (fX12_isIn (q_w x2) 0 999 M1) fun x22 M2 => if q_w x22 = 0 then (some ((-1), M2)) else (q_bd (fX12_isIn (q_w x3) 0 2 M2) fun x23 M3 => if q_w x23 = 0 then (some ((-1), M3)) else ((fX12_chalked_47 q_FU x1 x2 x3 0 (-1) (-1) 0 M3))))
theorem tX12_chalked {d : Nat} (hd : 4 ≤ d) (x1 : Int) (x2 : Int) (x3 : Int) (M : q_Mem) (hO : q_Ok M) : q_EX d yX12_chalked cX12_chalked 9 (some .int) 0 (q_args 0 [.inr (.inr 94), .inl x1, .inl x2, .inl x3]) [] M (fX12_chalked x1 x2 x3 M) := by
  obtain ⟨d, rfl⟩ : ∃ d', d = d' + 1 := ⟨d - 1, by omega⟩
  have hd : 3 ≤ d := by omega
  show q_EX _ _ _ _ _ 0 [(0, .inr (.inr 94)), (1, .inl x1), (2, .inl x2), (3, .inl x3)] [] M _
  unfold fX12_chalked
  refine q_aload_n 0 dX12_chalked_0 rfl rfl ?_
  refine q_iload_n 1 dX12_chalked_1 rfl rfl ?_
  refine q_i2l dX12_chalked_2 ?_
  refine q_callVi (As := [.inr (.inl (q_w x1))]) hO mb_X12_isStall mv_X12_isStall ml_X12_441 sh_94 rfl dX12_chalked_3 (fun _ => rfl) rfl (Nat.le_of_ble_eq_true rfl) rfl (Nat.le_of_ble_eq_true rfl) (tX12_isStall (by omega) (q_w x1) M hO) (fun x21 M1 _ hO1 => ?_)
  refine q_ifeq (tgt := 33) dX12_chalked_6 (by decide) ?_ ?_
  · refine q_iconst dX12_chalked_33 ?_
    exact q_ret dX12_chalked_34 rfl
  · refine q_iload_n 2 dX12_chalked_9 rfl rfl ?_
    refine q_i2l dX12_chalked_10 ?_
    refine q_lconst (v := 0) dX12_chalked_11 (by decide) ?_
    refine q_ldc2 dX12_chalked_12 kl_X12_411 (n := 999) rfl ?_
    refine q_callSi (As := [.inr (.inl (q_w x2)), .inr (.inl 0), .inr (.inl 999)]) hO1 mb_X12_isIn ms_X12_isIn ml_X12_277 dX12_chalked_15 (fun _ => rfl) rfl (Nat.le_of_ble_eq_true rfl) rfl (Nat.le_of_ble_eq_true rfl) (tX12_isIn (q_w x2) 0 999 M1 hO1) (fun x22 M2 _ hO2 => ?_)
    refine q_ifeq (tgt := 33) dX12_chalked_18 (by decide) ?_ ?_
    · refine q_iconst dX12_chalked_33 ?_
      exact q_ret dX12_chalked_34 rfl
    · refine q_iload_n 3 dX12_chalked_21 rfl rfl ?_
      refine q_i2l dX12_chalked_22 ?_
      refine q_lconst (v := 0) dX12_chalked_23 (by decide) ?_
      refine q_ldc2 dX12_chalked_24 kl_X12_456 (n := 2) rfl ?_
      refine q_callSi (As := [.inr (.inl (q_w x3)), .inr (.inl 0), .inr (.inl 2)]) hO2 mb_X12_isIn ms_X12_isIn ml_X12_277 dX12_chalked_27 (fun _ => rfl) rfl (Nat.le_of_ble_eq_true rfl) rfl (Nat.le_of_ble_eq_true rfl) (tX12_isIn (q_w x3) 0 2 M2 hO2) (fun x23 M3 _ hO3 => ?_)
      refine q_ifne (tgt := 35) dX12_chalked_30 (by decide) ?_ ?_
      · refine q_iconst dX12_chalked_35 ?_
        refine q_istore (ls' := [(4, .inl 0), (0, .inr (.inr 94)), (1, .inl x1), (2, .inl x2), (3, .inl x3)]) dX12_chalked_36 (by decide) rfl ?_
        refine q_iconst dX12_chalked_38 ?_
        refine q_istore (ls' := [(5, .inl (-1)), (4, .inl 0), (0, .inr (.inr 94)), (1, .inl x1), (2, .inl x2), (3, .inl x3)]) dX12_chalked_39 (by decide) rfl ?_
        refine q_iconst dX12_chalked_41 ?_
        refine q_istore (ls' := [(6, .inl (-1)), (5, .inl (-1)), (4, .inl 0), (0, .inr (.inr 94)), (1, .inl x1), (2, .inl x2), (3, .inl x3)]) dX12_chalked_42 (by decide) rfl ?_
        refine q_iconst dX12_chalked_44 ?_
        refine q_istore (ls' := [(7, .inl 0), (6, .inl (-1)), (5, .inl (-1)), (4, .inl 0), (0, .inr (.inr 94)), (1, .inl x1), (2, .inl x2), (3, .inl x3)]) dX12_chalked_45 (by decide) rfl ?_
        refine q_sub [4, 5, 6, 7, 3, 2, 1, 0] rfl ?_
        exact tX12_chalked_47 hd q_FU x1 x2 x3 0 (-1) (-1) 0 M3 hO3
      · refine q_iconst dX12_chalked_33 ?_
        exact q_ret dX12_chalked_34 rfl
