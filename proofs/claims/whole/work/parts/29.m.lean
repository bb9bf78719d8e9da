def fX12_refuses (x1 : Int) (M : q_Mem) : Option (Int × q_Mem) := (q_ld M 96 6 x1).bind fun x21 => (q_sto M 96 6 x1 (x21 + 1)).bind fun M1 => some ((-1), M1)
theorem tX12_refuses {d : Nat} (x1 : Int) (M : q_Mem) (hO : q_Ok M) : q_EX d yX12_refuses cX12_refuses 2 (some .int) 0 (q_args 0 [.inr (.inr 94), .inl x1]) [] M (fX12_refuses x1 M) := by
  show q_EX _ _ _ _ _ 0 [(0, .inr (.inr 94)), (1, .inl x1)] [] M _
  unfold fX12_refuses
  refine q_aload_n 0 dX12_refuses_0 rfl rfl ?_
  refine q_getx fl_X12_17 hO sh_94 rfl fx_94_9 dX12_refuses_1 ?_
  refine q_iload_n 1 dX12_refuses_4 rfl rfl ?_
  refine q_dup2 dX12_refuses_5 rfl rfl ?_
  refine q_iald sh_96 (q_inA hO sh_96 (by decide)) dX12_refuses_6 (fun x21 _ _ _ => ?_)
  refine q_iconst dX12_refuses_7 ?_
  refine q_iadd dX12_refuses_8 ?_
  refine q_iast sh_96 (q_inA hO sh_96 (by decide)) dX12_refuses_9 (fun M1 _ _ hM1 => ?_)
  have hO1 : q_Ok M1 := by rw [hM1]; exact q_Ok_arr (t := 0) hO sh_96 (by decide)
  refine q_iconst dX12_refuses_10 ?_
  exact q_ret dX12_refuses_11 rfl
def fX12_see_86 (K43 : Int → Int → Int → q_Mem → Option (Int × q_Mem)) (x1 : Int) (x3 : Int) (s0 : Int) (M : q_Mem) : Option (Int × q_Mem) := (K43 x1 s0 (x3 + 4) M)
theorem tX12_see_86 {d : Nat} (hd : 1 ≤ d) (K43 : Int → Int → Int → q_Mem → Option (Int × q_Mem)) (hK43 : ∀ (x1 : Int) (x2 : Int) (x3 : Int) (M : q_Mem), q_Ok M → q_EX (d + 1) yX12_see cX12_see 4 (some .int) 43 [(0, .inr (.inr 94)), (1, .inl x1), (2, .inl x2), (3, .inl x3)] [] M (K43 x1 x2 x3 M)) (x1 : Int) (x3 : Int) (s0 : Int) (M : q_Mem) (hO : q_Ok M) : q_EX (d + 1) yX12_see cX12_see 4 (some .int) 86 [(0, .inr (.inr 94)), (1, .inl x1), (3, .inl x3)] [.inl s0] M (fX12_see_86 K43 x1 x3 s0 M) := by
  unfold fX12_see_86
  refine q_istore_n (ls' := [(2, .inl s0), (0, .inr (.inr 94)), (1, .inl x1), (3, .inl x3)]) dX12_see_86 rfl (by decide) rfl ?_
  refine q_iinc (ls' := [(3, .inl (x3 + 4)), (2, .inl s0), (0, .inr (.inr 94)), (1, .inl x1)]) 3 dX12_see_87 rfl (by decide) rfl ?_
  refine q_goto (tgt := 43) dX12_see_90 (by decide) ?_
  refine q_sub [2, 3, 1, 0] rfl ?_
  exact hK43 x1 s0 (x3 + 4) M hO
def fX12_see_85 (K43 : Int → Int → Int → q_Mem → Option (Int × q_Mem)) (x1 : Int) (x3 : Int) (M : q_Mem) : Option (Int × q_Mem) := (fX12_see_86 K43 x1 x3 0 M)
theorem tX12_see_85 {d : Nat} (hd : 1 ≤ d) (K43 : Int → Int → Int → q_Mem → Option (Int × q_Mem)) (hK43 : ∀ (x1 : Int) (x2 : Int) (x3 : Int) (M : q_Mem), q_Ok M → q_EX (d + 1) yX12_see cX12_see 4 (some .int) 43 [(0, .inr (.inr 94)), (1, .inl x1), (2, .inl x2), (3, .inl x3)] [] M (K43 x1 x2 x3 M)) (x1 : Int) (x3 : Int) (M : q_Mem) (hO : q_Ok M) : q_EX (d + 1) yX12_see cX12_see 4 (some .int) 85 [(0, .inr (.inr 94)), (1, .inl x1), (3, .inl x3)] [] M (fX12_see_85 K43 x1 x3 M) := by
  unfold fX12_see_85
  refine q_iconst dX12_see_85 ?_
  refine q_sub [0, 1, 2] rfl ?_
  exact tX12_see_86 hd K43 hK43 x1 x3 0 M hO
def fX12_see_112  : Nat → Int → q_Mem → Option (Int × q_Mem)
  | 0, _, _ => none
  | n + 1, x3, M => if q_w x3 < q_w (M.2 94 62) then ((q_ld M 95 1600 (4 * x3)).bind fun x21 => (q_sto M 138 48 (3 * x3) x21).bind fun M1 => (q_ld M1 95 1600 ((4 * x3) + 1)).bind fun x22 => (q_sto M1 138 48 ((3 * x3) + 1) x22).bind fun M2 => (q_ld M2 95 1600 ((4 * x3) + 2)).bind fun x23 => (q_ld M2 95 1600 ((4 * x3) + 3)).bind fun x24 => (q_sto M2 138 48 ((3 * x3) + 2) ((256 * x23) + x24)).bind fun M3 => (fX12_see_112 n (x3 + 1) M3)) else (some ((M.2 94 62), M))
theorem tX12_see_112 {d : Nat} (hd : 1 ≤ d) : ∀ (n : Nat) (x3 : Int) (M : q_Mem), q_Ok M → q_EX (d + 1) yX12_see cX12_see 4 (some .int) 112 [(0, .inr (.inr 94)), (3, .inl x3)] [] M (fX12_see_112 n x3 M) := by
  intro n
  induction n with
  | zero => intro x3 M hO; exact q_none
  | succ n ih =>
    intro x3 M hO
    rw [fX12_see_112]
    refine q_iload_n 1 dX12_see_112 rfl rfl ?_
    refine q_aload_n 0 dX12_see_113 rfl rfl ?_
    refine q_geti fl_X12_373 sh_94 (q_inO hO sh_94) rfl dX12_see_114 ?_
    refine q_icmpge (tgt := 197) dX12_see_117 (by decide) ?_ ?_
    · refine q_aload_n 0 dX12_see_197 rfl rfl ?_
      refine q_geti fl_X12_373 sh_94 (q_inO hO sh_94) rfl dX12_see_198 ?_
      exact q_ret dX12_see_201 rfl
    · refine q_aload_n 0 dX12_see_120 rfl rfl ?_
      refine q_getx fl_X12_146 hO sh_94 rfl fx_94_63 dX12_see_121 ?_
      refine q_iconst dX12_see_124 ?_
      refine q_iload_n 1 dX12_see_125 rfl rfl ?_
      refine q_imul dX12_see_126 ?_
      refine q_aload_n 0 dX12_see_127 rfl rfl ?_
      refine q_getx fl_X12_7 hO sh_94 rfl fx_94_0 dX12_see_128 ?_
      refine q_iconst dX12_see_131 ?_
      refine q_iload_n 1 dX12_see_132 rfl rfl ?_
      refine q_imul dX12_see_133 ?_
      refine q_iald sh_95 (q_inA hO sh_95 (by decide)) dX12_see_134 (fun x21 _ _ _ => ?_)
      refine q_iast sh_138 (q_inA hO sh_138 (by decide)) dX12_see_135 (fun M1 _ _ hM1 => ?_)
      have hO1 : q_Ok M1 := by rw [hM1]; exact q_Ok_arr (t := 0) hO sh_138 (by decide)
      refine q_aload_n 0 dX12_see_136 rfl rfl ?_
      refine q_getx fl_X12_146 hO1 sh_94 rfl fx_94_63 dX12_see_137 ?_
      refine q_iconst dX12_see_140 ?_
      refine q_iload_n 1 dX12_see_141 rfl rfl ?_
      refine q_imul dX12_see_142 ?_
      refine q_iconst dX12_see_143 ?_
      refine q_iadd dX12_see_144 ?_
      refine q_aload_n 0 dX12_see_145 rfl rfl ?_
      refine q_getx fl_X12_7 hO1 sh_94 rfl fx_94_0 dX12_see_146 ?_
      refine q_iconst dX12_see_149 ?_
      refine q_iload_n 1 dX12_see_150 rfl rfl ?_
      refine q_imul dX12_see_151 ?_
      refine q_iconst dX12_see_152 ?_
      refine q_iadd dX12_see_153 ?_
      refine q_iald sh_95 (q_inA hO1 sh_95 (by decide)) dX12_see_154 (fun x22 _ _ _ => ?_)
      refine q_iast sh_138 (q_inA hO1 sh_138 (by decide)) dX12_see_155 (fun M2 _ _ hM2 => ?_)
      have hO2 : q_Ok M2 := by rw [hM2]; exact q_Ok_arr (t := 0) hO1 sh_138 (by decide)
      refine q_aload_n 0 dX12_see_156 rfl rfl ?_
      refine q_getx fl_X12_146 hO2 sh_94 rfl fx_94_63 dX12_see_157 ?_
      refine q_iconst dX12_see_160 ?_
      refine q_iload_n 1 dX12_see_161 rfl rfl ?_
      refine q_imul dX12_see_162 ?_
      refine q_iconst dX12_see_163 ?_
      refine q_iadd dX12_see_164 ?_
      refine q_sipush dX12_see_165 (by decide) ?_
      refine q_aload_n 0 dX12_see_168 rfl rfl ?_
      refine q_getx fl_X12_7 hO2 sh_94 rfl fx_94_0 dX12_see_169 ?_
      refine q_iconst dX12_see_172 ?_
      refine q_iload_n 1 dX12_see_173 rfl rfl ?_
      refine q_imul dX12_see_174 ?_
      refine q_iconst dX12_see_175 ?_
      refine q_iadd dX12_see_176 ?_
      refine q_iald sh_95 (q_inA hO2 sh_95 (by decide)) dX12_see_177 (fun x23 _ _ _ => ?_)
      refine q_imul dX12_see_178 ?_
      refine q_aload_n 0 dX12_see_179 rfl rfl ?_
      refine q_getx fl_X12_7 hO2 sh_94 rfl fx_94_0 dX12_see_180 ?_
      refine q_iconst dX12_see_183 ?_
      refine q_iload_n 1 dX12_see_184 rfl rfl ?_
      refine q_imul dX12_see_185 ?_
      refine q_iconst dX12_see_186 ?_
      refine q_iadd dX12_see_187 ?_
      refine q_iald sh_95 (q_inA hO2 sh_95 (by decide)) dX12_see_188 (fun x24 _ _ _ => ?_)
      refine q_iadd dX12_see_189 ?_
      refine q_iast sh_138 (q_inA hO2 sh_138 (by decide)) dX12_see_190 (fun M3 _ _ hM3 => ?_)
      have hO3 : q_Ok M3 := by rw [hM3]; exact q_Ok_arr (t := 0) hO2 sh_138 (by decide)
      refine q_iinc (ls' := [(3, .inl (x3 + 1)), (0, .inr (.inr 94))]) 1 dX12_see_191 rfl (by decide) rfl ?_
      refine q_goto (tgt := 112) dX12_see_194 (by decide) ?_
      refine q_sub [1, 0] rfl ?_
      exact ih (x3 + 1) M3 hO3
def fX12_see_93 (x1 : Int) (x2 : Int) (M : q_Mem) : Option (Int × q_Mem) := if q_w x2 = 0 then (q_bd (fX12_refuses 1 M) fun x21 M2 => some (x21, M2)) else (q_let (q_up M 94 62 (q_div x1 4)) fun M1 => (fX12_see_112 q_FU 0 M1))
theorem tX12_see_93 {d : Nat} (hd : 1 ≤ d) (x1 : Int) (x2 : Int) (M : q_Mem) (hO : q_Ok M) : q_EX (d + 1) yX12_see cX12_see 4 (some .int) 93 [(0, .inr (.inr 94)), (1, .inl x1), (2, .inl x2)] [] M (fX12_see_93 x1 x2 M) := by
  unfold fX12_see_93
  refine q_iload_n 2 dX12_see_93 rfl rfl ?_
  refine q_ifne (tgt := 103) dX12_see_94 (by decide) ?_ ?_
  · refine q_aload_n 0 dX12_see_103 rfl rfl ?_
    refine q_iload_n 1 dX12_see_104 rfl rfl ?_
    refine q_iconst dX12_see_105 ?_
    refine q_idiv dX12_see_106 (by decide) ?_
    refine q_puti fl_X12_373 sh_94 (q_inO hO sh_94) (fun h => q_Ok_put h sh_94 rfl) rfl dX12_see_107 (fun M1 hM1 => ?_)
    have hO1 : q_Ok M1 := by rw [hM1]; exact q_Ok_put hO sh_94 rfl
    refine q_iconst dX12_see_110 ?_
    refine q_istore_n (ls' := [(3, .inl 0), (0, .inr (.inr 94)), (1, .inl x1), (2, .inl x2)]) dX12_see_111 rfl (by decide) rfl ?_
    refine q_sub [1, 0] rfl ?_
    exact tX12_see_112 hd q_FU 0 M1 hO1
  · refine q_aload_n 0 dX12_see_97 rfl rfl ?_
    refine q_iconst dX12_see_98 ?_
    refine q_callVi (As := [.inl 1]) hO mb_X12_refuses mv_X12_refuses ml_X12_491 sh_94 rfl dX12_see_99 (fun _ => rfl) rfl (Nat.le_of_ble_eq_true rfl) rfl (Nat.le_of_ble_eq_true rfl) (tX12_refuses 1 M hO) (fun x21 M2 _ hO2 => ?_)
    exact q_ret dX12_see_102 rfl
def fX12_see_43  : Nat → Int → Int → Int → q_Mem → Option (Int × q_Mem)
  | 0, _, _, _, _ => none
  | n + 1, x1, x2, x3, M => if q_w x3 < q_w x1 then (if q_w x2 = 0 then ((fX12_see_93 x1 x2 M)) else ((q_ld M 95 1600 x3).bind fun x21 => q_bd (fX12_isCoin x21 M) fun x22 M1 => if q_w x22 = 0 then ((fX12_see_85 (fX12_see_43 n) x1 x3 M1)) else ((q_ld M1 95 1600 (x3 + 1)).bind fun x23 => q_bd (fX12_isStall (q_w x23) M1) fun x24 M2 => if q_w x24 = 0 then ((fX12_see_85 (fX12_see_43 n) x1 x3 M2)) else ((fX12_see_86 (fX12_see_43 n) x1 x3 1 M2))))) else ((fX12_see_93 x1 x2 M))
theorem tX12_see_43 {d : Nat} (hd : 1 ≤ d) : ∀ (n : Nat) (x1 : Int) (x2 : Int) (x3 : Int) (M : q_Mem), q_Ok M → q_EX (d + 1) yX12_see cX12_see 4 (some .int) 43 [(0, .inr (.inr 94)), (1, .inl x1), (2, .inl x2), (3, .inl x3)] [] M (fX12_see_43 n x1 x2 x3 M) := by
  intro n
  induction n with
  | zero => intro x1 x2 x3 M hO; exact q_none
  | succ n ih =>
    intro x1 x2 x3 M hO
    rw [fX12_see_43]
    refine q_iload_n 3 dX12_see_43 rfl rfl ?_
    refine q_iload_n 1 dX12_see_44 rfl rfl ?_
    refine q_icmpge (tgt := 93) dX12_see_45 (by decide) ?_ ?_
    · refine q_sub [0, 1, 2] rfl ?_
      exact tX12_see_93 hd x1 x2 M hO
    · refine q_iload_n 2 dX12_see_48 rfl rfl ?_
      refine q_ifeq (tgt := 93) dX12_see_49 (by decide) ?_ ?_
      · refine q_sub [0, 1, 2] rfl ?_
        exact tX12_see_93 hd x1 x2 M hO
      · refine q_aload_n 0 dX12_see_52 rfl rfl ?_
        refine q_aload_n 0 dX12_see_53 rfl rfl ?_
        refine q_getx fl_X12_7 hO sh_94 rfl fx_94_0 dX12_see_54 ?_
        refine q_iload_n 3 dX12_see_57 rfl rfl ?_
        refine q_iald sh_95 (q_inA hO sh_95 (by decide)) dX12_see_58 (fun x21 _ _ _ => ?_)
        refine q_callVi (As := [.inl x21]) hO mb_X12_isCoin mv_X12_isCoin ml_X12_450 sh_94 rfl dX12_see_59 (fun _ => rfl) rfl (Nat.le_of_ble_eq_true rfl) rfl (Nat.le_of_ble_eq_true rfl) (tX12_isCoin (by omega) x21 M hO) (fun x22 M1 _ hO1 => ?_)
        refine q_ifeq (tgt := 85) dX12_see_62 (by decide) ?_ ?_
        · refine q_sub [0, 1, 3] rfl ?_
          exact tX12_see_85 hd (fX12_see_43 n) ih x1 x3 M1 hO1
        · refine q_aload_n 0 dX12_see_65 rfl rfl ?_
          refine q_aload_n 0 dX12_see_66 rfl rfl ?_
          refine q_getx fl_X12_7 hO1 sh_94 rfl fx_94_0 dX12_see_67 ?_
          refine q_iload_n 3 dX12_see_70 rfl rfl ?_
          refine q_iconst dX12_see_71 ?_
          refine q_iadd dX12_see_72 ?_
          refine q_iald sh_95 (q_inA hO1 sh_95 (by decide)) dX12_see_73 (fun x23 _ _ _ => ?_)
          refine q_i2l dX12_see_74 ?_
          refine q_callVi (As := [.inr (.inl (q_w x23))]) hO1 mb_X12_isStall mv_X12_isStall ml_X12_441 sh_94 rfl dX12_see_75 (fun _ => rfl) rfl (Nat.le_of_ble_eq_true rfl) rfl (Nat.le_of_ble_eq_true rfl) (tX12_isStall (by omega) (q_w x23) M1 hO1) (fun x24 M2 _ hO2 => ?_)
          refine q_ifeq (tgt := 85) dX12_see_78 (by decide) ?_ ?_
          · refine q_sub [0, 1, 3] rfl ?_
            exact tX12_see_85 hd (fX12_see_43 n) ih x1 x3 M2 hO2
          · refine q_iconst dX12_see_81 ?_
            refine q_goto (tgt := 86) dX12_see_82 (by decide) ?_
            refine q_sub [0, 1, 3] rfl ?_
            exact tX12_see_86 hd (fX12_see_43 n) ih x1 x3 1 M2 hO2
def fX12_see_40 (x1 : Int) (s0 : Int) (M : q_Mem) : Option (Int × q_Mem) := (fX12_see_43 q_FU x1 s0 0 M)
theorem tX12_see_40 {d : Nat} (hd : 1 ≤ d) (x1 : Int) (s0 : Int) (M : q_Mem) (hO : q_Ok M) : q_EX (d + 1) yX12_see cX12_see 4 (some .int) 40 [(0, .inr (.inr 94)), (1, .inl x1)] [.inl s0] M (fX12_see_40 x1 s0 M) := by
  unfold fX12_see_40
  refine q_istore_n (ls' := [(2, .inl s0), (0, .inr (.inr 94)), (1, .inl x1)]) dX12_see_40 rfl (by decide) rfl ?_
  refine q_iconst dX12_see_41 ?_
  refine q_istore_n (ls' := [(3, .inl 0), (2, .inl s0), (0, .inr (.inr 94)), (1, .inl x1)]) dX12_see_42 rfl (by decide) rfl ?_
  refine q_sub [2, 3, 1, 0] rfl ?_
  exact tX12_see_43 hd q_FU x1 s0 0 M hO
def fX12_see_39 (x1 : Int) (M : q_Mem) : Option (Int × q_Mem) := (fX12_see_40 x1 0 M)
theorem tX12_see_39 {d : Nat} (hd : 1 ≤ d) (x1 : Int) (M : q_Mem) (hO : q_Ok M) : q_EX (d + 1) yX12_see cX12_see 4 (some .int) 39 [(0, .inr (.inr 94)), (1, .inl x1)] [] M (fX12_see_39 x1 M) := by
  unfold fX12_see_39
  refine q_iconst dX12_see_39 ?_
  refine q_sub [0, 1] rfl ?_
  exact tX12_see_40 hd x1 0 M hO
def fX12_see (M : q_Mem) : Option (Int × q_Mem) := q_let (M.2 94 1) fun x21 => q_let (q_up M 94 1 0) fun M1 => if q_w (M1.2 94 47) = 0 then ((fX12_see_39 x21 M1)) else (if 0 < q_w x21 then (if q_w (q_rem x21 4) = 0 then (if q_w 16 < q_w (q_div x21 4) then ((fX12_see_39 x21 M1)) else ((fX12_see_40 x21 1 M1))) else ((fX12_see_39 x21 M1))) else ((fX12_see_39 x21 M1)))
theorem tX12_see {d : Nat} (hd : 2 ≤ d) (M : q_Mem) (hO : q_Ok M) : q_EX d yX12_see cX12_see 4 (some .int) 0 (q_args 0 [.inr (.inr 94)]) [] M (fX12_see M) := by
  obtain ⟨d, rfl⟩ : ∃ d', d = d' + 1 := ⟨d - 1, by omega⟩
  have hd : 1 ≤ d := by omega
  show q_EX _ _ _ _ _ 0 [(0, .inr (.inr 94))] [] M _
  unfold fX12_see
  refine q_aload_n 0 dX12_see_0 rfl rfl ?_
  refine q_geti fl_X12_234 sh_94 (q_inO hO sh_94) rfl dX12_see_1 ?_
  refine q_nameI (fun x21 _ => ?_)
  refine q_istore_n (ls' := [(1, .inl x21), (0, .inr (.inr 94))]) dX12_see_4 rfl (by decide) rfl ?_
  refine q_aload_n 1 dX12_see_5 rfl rfl ?_
  refine q_iconst dX12_see_6 ?_
  refine q_puti fl_X12_234 sh_94 (q_inO hO sh_94) (fun h => q_Ok_put h sh_94 rfl) rfl dX12_see_7 (fun M1 hM1 => ?_)
  have hO1 : q_Ok M1 := by rw [hM1]; exact q_Ok_put hO sh_94 rfl
  refine q_aload_n 1 dX12_see_10 rfl rfl ?_
  refine q_geti fl_X12_366 sh_94 (q_inO hO1 sh_94) rfl dX12_see_11 ?_
  refine q_ifeq (tgt := 39) dX12_see_14 (by decide) ?_ ?_
  · refine q_sub [1, 0] rfl ?_
    exact tX12_see_39 hd x21 M1 hO1
  · refine q_iload_n 0 dX12_see_17 rfl rfl ?_
    refine q_ifle (tgt := 39) dX12_see_18 (by decide) ?_ ?_
    · refine q_sub [1, 0] rfl ?_
      exact tX12_see_39 hd x21 M1 hO1
    · refine q_iload_n 0 dX12_see_21 rfl rfl ?_
      refine q_iconst dX12_see_22 ?_
      refine q_irem dX12_see_23 (by decide) ?_
      refine q_ifne (tgt := 39) dX12_see_24 (by decide) ?_ ?_
      · refine q_sub [1, 0] rfl ?_
        exact tX12_see_39 hd x21 M1 hO1
      · refine q_iload_n 0 dX12_see_27 rfl rfl ?_
        refine q_iconst dX12_see_28 ?_
        refine q_idiv dX12_see_29 (by decide) ?_
        refine q_bipush dX12_see_30 (by decide) ?_
        refine q_icmpgt (tgt := 39) dX12_see_32 (by decide) ?_ ?_
        · refine q_sub [1, 0] rfl ?_
          exact tX12_see_39 hd x21 M1 hO1
        · refine q_iconst dX12_see_35 ?_
          refine q_goto (tgt := 40) dX12_see_36 (by decide) ?_
          refine q_sub [1, 0] rfl ?_
          exact tX12_see_40 hd x21 1 M1 hO1
def fX12_lampsIn_54 (K4 : Int → Int → Int → q_Mem → Option (Int × q_Mem)) (x1 : Int) (x2 : Int) (x3 : Int) (M : q_Mem) : Option (Int × q_Mem) := (K4 x1 x2 (x3 + 1) M)
theorem tX12_lampsIn_54 {d : Nat} (hd : 3 ≤ d) (K4 : Int → Int → Int → q_Mem → Option (Int × q_Mem)) (hK4 : ∀ (x1 : Int) (x2 : Int) (x3 : Int) (M : q_Mem), q_Ok M → q_EX (d + 1) yX12_lampsIn cX12_lampsIn 4 (some .int) 4 [(0, .inr (.inr 94)), (1, .inl x1), (2, .inl x2), (3, .inl x3)] [] M (K4 x1 x2 x3 M)) (x1 : Int) (x2 : Int) (x3 : Int) (M : q_Mem) (hO : q_Ok M) : q_EX (d + 1) yX12_lampsIn cX12_lampsIn 4 (some .int) 54 [(0, .inr (.inr 94)), (1, .inl x1), (2, .inl x2), (3, .inl x3)] [] M (fX12_lampsIn_54 K4 x1 x2 x3 M) := by
  unfold fX12_lampsIn_54
  refine q_iinc (ls' := [(3, .inl (x3 + 1)), (0, .inr (.inr 94)), (1, .inl x1), (2, .inl x2)]) 3 dX12_lampsIn_54 rfl (by decide) rfl ?_
  refine q_goto (tgt := 4) dX12_lampsIn_57 (by decide) ?_
  refine q_sub [1, 2, 3, 0] rfl ?_
  exact hK4 x1 x2 (x3 + 1) M hO
def fX12_lampsIn_4  : Nat → Int → Int → Int → q_Mem → Option (Int × q_Mem)
  | 0, _, _, _, _ => none
  | n + 1, x1, x2, x3, M => if q_w x3 < q_w (M.2 94 62) then ((q_ld M 138 48 (3 * x3)).bind fun x21 => (q_ld M 138 48 ((3 * x3) + 1)).bind fun x22 => q_bd (fX12_shadowOf x21 x22 x1 M) fun x23 M1 => (q_ld M1 138 48 ((3 * x3) + 2)).bind fun x24 => if q_w x23 = q_w x24 then ((fX12_lampsIn_54 (fX12_lampsIn_4 n) x1 x2 x3 M1)) else (q_let (q_or x2 (q_shl 1 x3)) fun x25 => (fX12_lampsIn_54 (fX12_lampsIn_4 n) x1 x25 x3 M1))) else (some (x2, M))
theorem tX12_lampsIn_4 {d : Nat} (hd : 3 ≤ d) : ∀ (n : Nat) (x1 : Int) (x2 : Int) (x3 : Int) (M : q_Mem), q_Ok M → q_EX (d + 1) yX12_lampsIn cX12_lampsIn 4 (some .int) 4 [(0, .inr (.inr 94)), (1, .inl x1), (2, .inl x2), (3, .inl x3)] [] M (fX12_lampsIn_4 n x1 x2 x3 M) := by
  intro n
  induction n with
  | zero => intro x1 x2 x3 M hO; exact q_none
  | succ n ih =>
    intro x1 x2 x3 M hO
    rw [fX12_lampsIn_4]
    refine q_iload_n 3 dX12_lampsIn_4 rfl rfl ?_
    refine q_aload_n 0 dX12_lampsIn_5 rfl rfl ?_
    refine q_geti fl_X12_373 sh_94 (q_inO hO sh_94) rfl dX12_lampsIn_6 ?_
    refine q_icmpge (tgt := 60) dX12_lampsIn_9 (by decide) ?_ ?_
    · refine q_iload_n 2 dX12_lampsIn_60 rfl rfl ?_
      exact q_ret dX12_lampsIn_61 rfl
    · refine q_aload_n 0 dX12_lampsIn_12 rfl rfl ?_
      refine q_aload_n 0 dX12_lampsIn_13 rfl rfl ?_
      refine q_getx fl_X12_146 hO sh_94 rfl fx_94_63 dX12_lampsIn_14 ?_
      refine q_iconst dX12_lampsIn_17 ?_
      refine q_iload_n 3 dX12_lampsIn_18 rfl rfl ?_
      refine q_imul dX12_lampsIn_19 ?_
      refine q_iald sh_138 (q_inA hO sh_138 (by decide)) dX12_lampsIn_20 (fun x21 _ _ _ => ?_)
      refine q_aload_n 0 dX12_lampsIn_21 rfl rfl ?_
      refine q_getx fl_X12_146 hO sh_94 rfl fx_94_63 dX12_lampsIn_22 ?_
      refine q_iconst dX12_lampsIn_25 ?_
      refine q_iload_n 3 dX12_lampsIn_26 rfl rfl ?_
      refine q_imul dX12_lampsIn_27 ?_
      refine q_iconst dX12_lampsIn_28 ?_
      refine q_iadd dX12_lampsIn_29 ?_
      refine q_iald sh_138 (q_inA hO sh_138 (by decide)) dX12_lampsIn_30 (fun x22 _ _ _ => ?_)
      refine q_iload_n 1 dX12_lampsIn_31 rfl rfl ?_
      refine q_callVi (As := [.inl x21, .inl x22, .inl x1]) hO mb_X12_shadowOf mv_X12_shadowOf ml_X12_417 sh_94 rfl dX12_lampsIn_32 (fun _ => rfl) rfl (Nat.le_of_ble_eq_true rfl) rfl (Nat.le_of_ble_eq_true rfl) (tX12_shadowOf (by omega) x21 x22 x1 M hO) (fun x23 M1 _ hO1 => ?_)
      refine q_aload_n 0 dX12_lampsIn_35 rfl rfl ?_
      refine q_getx fl_X12_146 hO1 sh_94 rfl fx_94_63 dX12_lampsIn_36 ?_
      refine q_iconst dX12_lampsIn_39 ?_
      refine q_iload_n 3 dX12_lampsIn_40 rfl rfl ?_
      refine q_imul dX12_lampsIn_41 ?_
      refine q_iconst dX12_lampsIn_42 ?_
      refine q_iadd dX12_lampsIn_43 ?_
      refine q_iald sh_138 (q_inA hO1 sh_138 (by decide)) dX12_lampsIn_44 (fun x24 _ _ _ => ?_)
      refine q_icmpeq (tgt := 54) dX12_lampsIn_45 (by decide) ?_ ?_
      · refine q_sub [0, 1, 2, 3] rfl ?_
        exact tX12_lampsIn_54 hd (fX12_lampsIn_4 n) ih x1 x2 x3 M1 hO1
      · refine q_iload_n 2 dX12_lampsIn_48 rfl rfl ?_
        refine q_iconst dX12_lampsIn_49 ?_
        refine q_iload_n 3 dX12_lampsIn_50 rfl rfl ?_
        refine q_ishl dX12_lampsIn_51 ?_
        refine q_ior dX12_lampsIn_52 ?_
        refine q_nameI (fun x25 _ => ?_)
        refine q_istore_n (ls' := [(2, .inl x25), (0, .inr (.inr 94)), (1, .inl x1), (3, .inl x3)]) dX12_lampsIn_53 rfl (by decide) rfl ?_
        refine q_sub [1, 2, 0, 3] rfl ?_
        exact tX12_lampsIn_54 hd (fX12_lampsIn_4 n) ih x1 x25 x3 M1 hO1
def fX12_lampsIn (x1 : Int) (M : q_Mem) : Option (Int × q_Mem) := (fX12_lampsIn_4 q_FU x1 0 0 M)
theorem tX12_lampsIn {d : Nat} (hd : 4 ≤ d) (x1 : Int) (M : q_Mem) (hO : q_Ok M) : q_EX d yX12_lampsIn cX12_lampsIn 4 (some .int) 0 (q_args 0 [.inr (.inr 94), .inl x1]) [] M (fX12_lampsIn x1 M) := by
  obtain ⟨d, rfl⟩ : ∃ d', d = d' + 1 := ⟨d - 1, by omega⟩
  have hd : 3 ≤ d := by omega
  show q_EX _ _ _ _ _ 0 [(0, .inr (.inr 94)), (1, .inl x1)] [] M _
  unfold fX12_lampsIn
  refine q_iconst dX12_lampsIn_0 ?_
  refine q_istore_n (ls' := [(2, .inl 0), (0, .inr (.inr 94)), (1, .inl x1)]) dX12_lampsIn_1 rfl (by decide) rfl ?_
  refine q_iconst dX12_lampsIn_2 ?_
  refine q_istore_n (ls' := [(3, .inl 0), (2, .inl 0), (0, .inr (.inr 94)), (1, .inl x1)]) dX12_lampsIn_3 rfl (by decide) rfl ?_
  refine q_sub [2, 3, 1, 0] rfl ?_
  exact tX12_lampsIn_4 hd q_FU x1 0 0 M hO
def fX12_minutes_67 (K31 : Int → Int → Int → Int → Int → q_Mem → Option (Int × q_Mem)) (x1 : Int) (x2 : Int) (x3 : Int) (x4 : Int) (x5 : Int) (M : q_Mem) : Option (Int × q_Mem) := (K31 x1 x2 x3 x4 (x5 + 1) M)
theorem tX12_minutes_67 {d : Nat} (hd : 4 ≤ d) (K31 : Int → Int → Int → Int → Int → q_Mem → Option (Int × q_Mem)) (hK31 : ∀ (x1 : Int) (x2 : Int) (x3 : Int) (x4 : Int) (x5 : Int) (M : q_Mem), q_Ok M → q_EX (d + 1) yX12_minutes cX12_minutes 6 (some .int) 31 [(0, .inr (.inr 94)), (1, .inl x1), (2, .inl x2), (3, .inl x3), (4, .inl x4), (5, .inl x5)] [] M (K31 x1 x2 x3 x4 x5 M)) (x1 : Int) (x2 : Int) (x3 : Int) (x4 : Int) (x5 : Int) (M : q_Mem) (hO : q_Ok M) : q_EX (d + 1) yX12_minutes cX12_minutes 6 (some .int) 67 [(0, .inr (.inr 94)), (1, .inl x1), (2, .inl x2), (3, .inl x3), (4, .inl x4), (5, .inl x5)] [] M (fX12_minutes_67 K31 x1 x2 x3 x4 x5 M) := by
  unfold fX12_minutes_67
  refine q_iinc (ls' := [(5, .inl (x5 + 1)), (0, .inr (.inr 94)), (1, .inl x1), (2, .inl x2), (3, .inl x3), (4, .inl x4)]) 5 dX12_minutes_67 rfl (by decide) rfl ?_
  refine q_goto (tgt := 31) dX12_minutes_70 (by decide) ?_
  refine q_sub [1, 2, 3, 4, 5, 0] rfl ?_
  exact hK31 x1 x2 x3 x4 (x5 + 1) M hO
def fX12_minutes_63 (K31 : Int → Int → Int → Int → Int → q_Mem → Option (Int × q_Mem)) (x1 : Int) (x2 : Int) (x3 : Int) (x5 : Int) (M : q_Mem) : Option (Int × q_Mem) := (fX12_minutes_67 K31 x1 x2 x3 x5 x5 M)
theorem tX12_minutes_63 {d : Nat} (hd : 4 ≤ d) (K31 : Int → Int → Int → Int → Int → q_Mem → Option (Int × q_Mem)) (hK31 : ∀ (x1 : Int) (x2 : Int) (x3 : Int) (x4 : Int) (x5 : Int) (M : q_Mem), q_Ok M → q_EX (d + 1) yX12_minutes cX12_minutes 6 (some .int) 31 [(0, .inr (.inr 94)), (1, .inl x1), (2, .inl x2), (3, .inl x3), (4, .inl x4), (5, .inl x5)] [] M (K31 x1 x2 x3 x4 x5 M)) (x1 : Int) (x2 : Int) (x3 : Int) (x5 : Int) (M : q_Mem) (hO : q_Ok M) : q_EX (d + 1) yX12_minutes cX12_minutes 6 (some .int) 63 [(0, .inr (.inr 94)), (1, .inl x1), (2, .inl x2), (3, .inl x3), (5, .inl x5)] [] M (fX12_minutes_63 K31 x1 x2 x3 x5 M) := by
  unfold fX12_minutes_63
  refine q_iload 4 dX12_minutes_63 rfl ?_
  refine q_istore (ls' := [(4, .inl x5), (0, .inr (.inr 94)), (1, .inl x1), (2, .inl x2), (3, .inl x3), (5, .inl x5)]) dX12_minutes_65 (by decide) rfl ?_
  refine q_sub [1, 2, 3, 4, 0, 5] rfl ?_
  exact tX12_minutes_67 hd K31 hK31 x1 x2 x3 x5 x5 M hO
def fX12_minutes_31  : Nat → Int → Int → Int → Int → Int → q_Mem → Option (Int × q_Mem)
  | 0, _, _, _, _, _, _ => none
  | n + 1, x1, x2, x3, x4, x5, M => q_bd (fX12_fairMinutes M) fun x21 M1 => if q_w x21 < q_w x5 then (if q_w x1 = 0 then (some (x2, M1)) else (if q_w x1 = q_w 1 then (some (x3, M1)) else (some (x4, M1)))) else (q_bd (fX12_lampsIn x5 M1) fun x22 M2 => if q_w x22 = 0 then (if q_w x3 = q_w (-1) then ((fX12_minutes_63 (fX12_minutes_31 n) x1 (x2 + 1) x5 x5 M2)) else ((fX12_minutes_63 (fX12_minutes_31 n) x1 (x2 + 1) x3 x5 M2))) else ((fX12_minutes_67 (fX12_minutes_31 n) x1 x2 x3 x4 x5 M2)))
theorem tX12_minutes_31 {d : Nat} (hd : 4 ≤ d) : ∀ (n : Nat) (x1 : Int) (x2 : Int) (x3 : Int) (x4 : Int) (x5 : Int) (M : q_Mem), q_Ok M → q_EX (d + 1) yX12_minutes cX12_minutes 6 (some .int) 31 [(0, .inr (.inr 94)), (1, .inl x1), (2, .inl x2), (3, .inl x3), (4, .inl x4), (5, .inl x5)] [] M (fX12_minutes_31 n x1 x2 x3 x4 x5 M) := by
  intro n
  induction n with
  | zero => intro x1 x2 x3 x4 x5 M hO; exact q_none
  | succ n ih =>
    intro x1 x2 x3 x4 x5 M hO
    rw [fX12_minutes_31]
    refine q_iload 5 dX12_minutes_31 rfl ?_
    refine q_aload_n 0 dX12_minutes_33 rfl rfl ?_
    refine q_callVi (As := []) hO mb_X12_fairMinutes mv_X12_fairMinutes ml_X12_382 sh_94 rfl dX12_minutes_34 (fun _ => rfl) rfl (Nat.le_of_ble_eq_true rfl) rfl (Nat.le_of_ble_eq_true rfl) (tX12_fairMinutes M hO) (fun x21 M1 _ hO1 => ?_)
    refine q_icmpgt (tgt := 73) dX12_minutes_37 (by decide) ?_ ?_
    · refine q_iload_n 1 dX12_minutes_73 rfl rfl ?_
      refine q_ifne (tgt := 81) dX12_minutes_74 (by decide) ?_ ?_
      · refine q_iload_n 1 dX12_minutes_81 rfl rfl ?_
        refine q_iconst dX12_minutes_82 ?_
        refine q_icmpne (tgt := 90) dX12_minutes_83 (by decide) ?_ ?_
        · refine q_iload 4 dX12_minutes_90 rfl ?_
          exact q_ret dX12_minutes_92 rfl
        · refine q_iload_n 3 dX12_minutes_86 rfl rfl ?_
          refine q_goto (tgt := 92) dX12_minutes_87 (by decide) ?_
          exact q_ret dX12_minutes_92 rfl
      · refine q_iload_n 2 dX12_minutes_77 rfl rfl ?_
        refine q_goto (tgt := 92) dX12_minutes_78 (by decide) ?_
        exact q_ret dX12_minutes_92 rfl
    · refine q_aload_n 0 dX12_minutes_40 rfl rfl ?_
      refine q_iload 5 dX12_minutes_41 rfl ?_
      refine q_callVi (As := [.inl x5]) hO1 mb_X12_lampsIn mv_X12_lampsIn ml_X12_494 sh_94 rfl dX12_minutes_43 (fun _ => rfl) rfl (Nat.le_of_ble_eq_true rfl) rfl (Nat.le_of_ble_eq_true rfl) (tX12_lampsIn (by omega) x5 M1 hO1) (fun x22 M2 _ hO2 => ?_)
      refine q_ifeq (tgt := 52) dX12_minutes_46 (by decide) ?_ ?_
      · refine q_iinc (ls' := [(2, .inl (x2 + 1)), (0, .inr (.inr 94)), (1, .inl x1), (3, .inl x3), (4, .inl x4), (5, .inl x5)]) 2 dX12_minutes_52 rfl (by decide) rfl ?_
        refine q_iload_n 3 dX12_minutes_55 rfl rfl ?_
        refine q_iconst dX12_minutes_56 ?_
        refine q_icmpne (tgt := 63) dX12_minutes_57 (by decide) ?_ ?_
        · refine q_sub [1, 2, 0, 3, 5] rfl ?_
          exact tX12_minutes_63 hd (fX12_minutes_31 n) ih x1 (x2 + 1) x3 x5 M2 hO2
        · refine q_iload 5 dX12_minutes_60 rfl ?_
          refine q_istore_n (ls' := [(3, .inl x5), (2, .inl (x2 + 1)), (0, .inr (.inr 94)), (1, .inl x1), (4, .inl x4), (5, .inl x5)]) dX12_minutes_62 rfl (by decide) rfl ?_
          refine q_sub [2, 3, 1, 0, 5] rfl ?_
          exact tX12_minutes_63 hd (fX12_minutes_31 n) ih x1 (x2 + 1) x5 x5 M2 hO2
      · refine q_goto (tgt := 67) dX12_minutes_49 (by decide) ?_
        refine q_sub [0, 1, 2, 3, 4, 5] rfl ?_
        exact tX12_minutes_67 hd (fX12_minutes_31 n) ih x1 x2 x3 x4 x5 M2 hO2
def fX12_minutes (x1 : Int) (M : q_Mem) : Option (Int × q_Mem) := if q_w (M.2 94 47) = 0 then (some ((-1), M)) else (q_bd (fX12_isIn (q_w x1) 0 2 M) fun x21 M1 => if q_w x21 = 0 then (some ((-1), M1)) else ((fX12_minutes_31 q_FU x1 0 (-1) (-1) 0 M1)))
theorem tX12_minutes {d : Nat} (hd : 5 ≤ d) (x1 : Int) (M : q_Mem) (hO : q_Ok M) : q_EX d yX12_minutes cX12_minutes 6 (some .int) 0 (q_args 0 [.inr (.inr 94), .inl x1]) [] M (fX12_minutes x1 M) := by
  obtain ⟨d, rfl⟩ : ∃ d', d = d' + 1 := ⟨d - 1, by omega⟩
  have hd : 4 ≤ d := by omega
  show q_EX _ _ _ _ _ 0 [(0, .inr (.inr 94)), (1, .inl x1)] [] M _
  unfold fX12_minutes
  refine q_aload_n 0 dX12_minutes_0 rfl rfl ?_
  refine q_geti fl_X12_366 sh_94 (q_inO hO sh_94) rfl dX12_minutes_1 ?_
  refine q_ifeq (tgt := 19) dX12_minutes_4 (by decide) ?_ ?_
  · refine q_iconst dX12_minutes_19 ?_
    exact q_ret dX12_minutes_20 rfl
  · refine q_iload_n 1 dX12_minutes_7 rfl rfl ?_
    refine q_i2l dX12_minutes_8 ?_
    refine q_lconst (v := 0) dX12_minutes_9 (by decide) ?_
    refine q_ldc2 dX12_minutes_10 kl_X12_456 (n := 2) rfl ?_
    refine q_callSi (As := [.inr (.inl (q_w x1)), .inr (.inl 0), .inr (.inl 2)]) hO mb_X12_isIn ms_X12_isIn ml_X12_277 dX12_minutes_13 (fun _ => rfl) rfl (Nat.le_of_ble_eq_true rfl) rfl (Nat.le_of_ble_eq_true rfl) (tX12_isIn (q_w x1) 0 2 M hO) (fun x21 M1 _ hO1 => ?_)
    refine q_ifne (tgt := 21) dX12_minutes_16 (by decide) ?_ ?_
    · refine q_iconst dX12_minutes_21 ?_
      refine q_istore_n (ls' := [(2, .inl 0), (0, .inr (.inr 94)), (1, .inl x1)]) dX12_minutes_22 rfl (by decide) rfl ?_
      refine q_iconst dX12_minutes_23 ?_
      refine q_istore_n (ls' := [(3, .inl (-1)), (2, .inl 0), (0, .inr (.inr 94)), (1, .inl x1)]) dX12_minutes_24 rfl (by decide) rfl ?_
      refine q_iconst dX12_minutes_25 ?_
      refine q_istore (ls' := [(4, .inl (-1)), (3, .inl (-1)), (2, .inl 0), (0, .inr (.inr 94)), (1, .inl x1)]) dX12_minutes_26 (by decide) rfl ?_
      refine q_iconst dX12_minutes_28 ?_
      refine q_istore (ls' := [(5, .inl 0), (4, .inl (-1)), (3, .inl (-1)), (2, .inl 0), (0, .inr (.inr 94)), (1, .inl x1)]) dX12_minutes_29 (by decide) rfl ?_
      refine q_sub [4, 5, 3, 2, 1, 0] rfl ?_
      exact tX12_minutes_31 hd q_FU x1 0 (-1) (-1) 0 M1 hO1
    · refine q_iconst dX12_minutes_19 ?_
      exact q_ret dX12_minutes_20 rfl
def fX12_lamps_71 (K28 : Int → Int → Int → Int → q_Mem → Option (Int × q_Mem)) (x1 : Int) (x2 : Int) (x3 : Int) (x4 : Int) (M : q_Mem) : Option (Int × q_Mem) := (K28 x1 x2 x3 (x4 + 1) M)
theorem tX12_lamps_71 {d : Nat} (hd : 4 ≤ d) (K28 : Int → Int → Int → Int → q_Mem → Option (Int × q_Mem)) (hK28 : ∀ (x1 : Int) (x2 : Int) (x3 : Int) (x4 : Int) (M : q_Mem), q_Ok M → q_EX (d + 1) yX12_lamps cX12_lamps 6 (some .int) 28 [(0, .inr (.inr 94)), (1, .inl x1), (2, .inl x2), (3, .inl x3), (4, .inl x4)] [] M (K28 x1 x2 x3 x4 M)) (x1 : Int) (x2 : Int) (x3 : Int) (x4 : Int) (M : q_Mem) (hO : q_Ok M) : q_EX (d + 1) yX12_lamps cX12_lamps 6 (some .int) 71 [(0, .inr (.inr 94)), (1, .inl x1), (2, .inl x2), (3, .inl x3), (4, .inl x4)] [] M (fX12_lamps_71 K28 x1 x2 x3 x4 M) := by
  unfold fX12_lamps_71
  refine q_iinc (ls' := [(4, .inl (x4 + 1)), (0, .inr (.inr 94)), (1, .inl x1), (2, .inl x2), (3, .inl x3)]) 4 dX12_lamps_71 rfl (by decide) rfl ?_
  refine q_goto (tgt := 28) dX12_lamps_74 (by decide) ?_
  refine q_sub [1, 2, 3, 4, 0] rfl ?_
  exact hK28 x1 x2 x3 (x4 + 1) M hO
def fX12_lamps_65 (K28 : Int → Int → Int → Int → q_Mem → Option (Int × q_Mem)) (x1 : Int) (x4 : Int) (x5 : Int) (M : q_Mem) : Option (Int × q_Mem) := (fX12_lamps_71 K28 x1 x5 x4 x4 M)
theorem tX12_lamps_65 {d : Nat} (hd : 4 ≤ d) (K28 : Int → Int → Int → Int → q_Mem → Option (Int × q_Mem)) (hK28 : ∀ (x1 : Int) (x2 : Int) (x3 : Int) (x4 : Int) (M : q_Mem), q_Ok M → q_EX (d + 1) yX12_lamps cX12_lamps 6 (some .int) 28 [(0, .inr (.inr 94)), (1, .inl x1), (2, .inl x2), (3, .inl x3), (4, .inl x4)] [] M (K28 x1 x2 x3 x4 M)) (x1 : Int) (x4 : Int) (x5 : Int) (M : q_Mem) (hO : q_Ok M) : q_EX (d + 1) yX12_lamps cX12_lamps 6 (some .int) 65 [(0, .inr (.inr 94)), (1, .inl x1), (4, .inl x4), (5, .inl x5)] [] M (fX12_lamps_65 K28 x1 x4 x5 M) := by
  unfold fX12_lamps_65
  refine q_iload 3 dX12_lamps_65 rfl ?_
  refine q_istore_n (ls' := [(2, .inl x5), (0, .inr (.inr 94)), (1, .inl x1), (4, .inl x4), (5, .inl x5)]) dX12_lamps_67 rfl (by decide) rfl ?_
  refine q_iload 3 dX12_lamps_68 rfl ?_
  refine q_istore_n (ls' := [(3, .inl x4), (2, .inl x5), (0, .inr (.inr 94)), (1, .inl x1), (4, .inl x4), (5, .inl x5)]) dX12_lamps_70 rfl (by decide) rfl ?_
  refine q_sub [2, 3, 1, 0, 4] rfl ?_
  exact tX12_lamps_71 hd K28 hK28 x1 x5 x4 x4 M hO
def fX12_lamps_28  : Nat → Int → Int → Int → Int → q_Mem → Option (Int × q_Mem)
  | 0, _, _, _, _, _ => none
  | n + 1, x1, x2, x3, x4, M => q_bd (fX12_fairMinutes M) fun x21 M1 => if q_w x21 < q_w x4 then (if q_w x1 = 0 then (q_bd (fX12_bits x2 M1) fun x22 M2 => some (x22, M2)) else (if q_w x1 = q_w 1 then (some (x2, M1)) else (some (x3, M1)))) else (q_bd (fX12_lampsIn x4 M1) fun x23 M3 => if q_w x2 = q_w (-1) then ((fX12_lamps_65 (fX12_lamps_28 n) x1 x4 x23 M3)) else (q_bd (fX12_bits x23 M3) fun x24 M4 => q_bd (fX12_bits x2 M4) fun x25 M5 => if q_w x24 < q_w x25 then ((fX12_lamps_65 (fX12_lamps_28 n) x1 x4 x23 M5)) else ((fX12_lamps_71 (fX12_lamps_28 n) x1 x2 x3 x4 M5))))
theorem tX12_lamps_28 {d : Nat} (hd : 4 ≤ d) : ∀ (n : Nat) (x1 : Int) (x2 : Int) (x3 : Int) (x4 : Int) (M : q_Mem), q_Ok M → q_EX (d + 1) yX12_lamps cX12_lamps 6 (some .int) 28 [(0, .inr (.inr 94)), (1, .inl x1), (2, .inl x2), (3, .inl x3), (4, .inl x4)] [] M (fX12_lamps_28 n x1 x2 x3 x4 M) := by
  intro n
  induction n with
  | zero => intro x1 x2 x3 x4 M hO; exact q_none
  | succ n ih =>
    intro x1 x2 x3 x4 M hO
    rw [fX12_lamps_28]
    refine q_iload 4 dX12_lamps_28 rfl ?_
    refine q_aload_n 0 dX12_lamps_30 rfl rfl ?_
    refine q_callVi (As := []) hO mb_X12_fairMinutes mv_X12_fairMinutes ml_X12_382 sh_94 rfl dX12_lamps_31 (fun _ => rfl) rfl (Nat.le_of_ble_eq_true rfl) rfl (Nat.le_of_ble_eq_true rfl) (tX12_fairMinutes M hO) (fun x21 M1 _ hO1 => ?_)
    refine q_icmpgt (tgt := 77) dX12_lamps_34 (by decide) ?_ ?_
    · refine q_iload_n 1 dX12_lamps_77 rfl rfl ?_
      refine q_ifne (tgt := 88) dX12_lamps_78 (by decide) ?_ ?_
      · refine q_iload_n 1 dX12_lamps_88 rfl rfl ?_
        refine q_iconst dX12_lamps_89 ?_
        refine q_icmpne (tgt := 97) dX12_lamps_90 (by decide) ?_ ?_
        · refine q_iload_n 3 dX12_lamps_97 rfl rfl ?_
          exact q_ret dX12_lamps_98 rfl
        · refine q_iload_n 2 dX12_lamps_93 rfl rfl ?_
          refine q_goto (tgt := 98) dX12_lamps_94 (by decide) ?_
          exact q_ret dX12_lamps_98 rfl
      · refine q_iload_n 2 dX12_lamps_81 rfl rfl ?_
        refine q_callSi (As := [.inl x2]) hO1 mb_X12_bits ms_X12_bits ml_X12_436 dX12_lamps_82 (fun _ => rfl) rfl (Nat.le_of_ble_eq_true rfl) rfl (Nat.le_of_ble_eq_true rfl) (tX12_bits x2 M1 hO1) (fun x22 M2 _ hO2 => ?_)
        refine q_goto (tgt := 98) dX12_lamps_85 (by decide) ?_
        exact q_ret dX12_lamps_98 rfl
    · refine q_aload_n 0 dX12_lamps_37 rfl rfl ?_
      refine q_iload 4 dX12_lamps_38 rfl ?_
      refine q_callVi (As := [.inl x4]) hO1 mb_X12_lampsIn mv_X12_lampsIn ml_X12_494 sh_94 rfl dX12_lamps_40 (fun _ => rfl) rfl (Nat.le_of_ble_eq_true rfl) rfl (Nat.le_of_ble_eq_true rfl) (tX12_lampsIn (by omega) x4 M1 hO1) (fun x23 M3 _ hO3 => ?_)
      refine q_istore (ls' := [(5, .inl x23), (0, .inr (.inr 94)), (1, .inl x1), (2, .inl x2), (3, .inl x3), (4, .inl x4)]) dX12_lamps_43 (by decide) rfl ?_
      refine q_iload_n 3 dX12_lamps_45 rfl rfl ?_
      refine q_iconst dX12_lamps_46 ?_
      refine q_icmpeq (tgt := 65) dX12_lamps_47 (by decide) ?_ ?_
      · refine q_sub [1, 2, 5, 0] rfl ?_
        exact tX12_lamps_65 hd (fX12_lamps_28 n) ih x1 x4 x23 M3 hO3
      · refine q_iload 0 dX12_lamps_50 rfl ?_
        refine q_callSi (As := [.inl x23]) hO3 mb_X12_bits ms_X12_bits ml_X12_436 dX12_lamps_52 (fun _ => rfl) rfl (Nat.le_of_ble_eq_true rfl) rfl (Nat.le_of_ble_eq_true rfl) (tX12_bits x23 M3 hO3) (fun x24 M4 _ hO4 => ?_)
        refine q_iload_n 3 dX12_lamps_55 rfl rfl ?_
        refine q_callSi (As := [.inl x2]) hO4 mb_X12_bits ms_X12_bits ml_X12_436 dX12_lamps_56 (fun _ => rfl) rfl (Nat.le_of_ble_eq_true rfl) rfl (Nat.le_of_ble_eq_true rfl) (tX12_bits x2 M4 hO4) (fun x25 M5 _ hO5 => ?_)
        refine q_icmplt (tgt := 65) dX12_lamps_59 (by decide) ?_ ?_
        · refine q_sub [1, 2, 5, 0] rfl ?_
          exact tX12_lamps_65 hd (fX12_lamps_28 n) ih x1 x4 x23 M5 hO5
        · refine q_goto (tgt := 71) dX12_lamps_62 (by decide) ?_
          refine q_sub [1, 2, 3, 4, 5] rfl ?_
          exact tX12_lamps_71 hd (fX12_lamps_28 n) ih x1 x2 x3 x4 M5 hO5
def fX12_lamps (x1 : Int) (M : q_Mem) : Option (Int × q_Mem) := if q_w (M.2 94 47) = 0 then (some ((-1), M)) else (q_bd (fX12_isIn (q_w x1) 0 2 M) fun x21 M1 => if q_w x21 = 0 then (some ((-1), M1)) else ((fX12_lamps_28 q_FU x1 (-1) (-1) 0 M1)))
theorem tX12_lamps {d : Nat} (hd : 5 ≤ d) (x1 : Int) (M : q_Mem) (hO : q_Ok M) : q_EX d yX12_lamps cX12_lamps 6 (some .int) 0 (q_args 0 [.inr (.inr 94), .inl x1]) [] M (fX12_lamps x1 M) := by
  obtain ⟨d, rfl⟩ : ∃ d', d = d' + 1 := ⟨d - 1, by omega⟩
  have hd : 4 ≤ d := by omega
  show q_EX _ _ _ _ _ 0 [(0, .inr (.inr 94)), (1, .inl x1)] [] M _
  unfold fX12_lamps
  refine q_aload_n 0 dX12_lamps_0 rfl rfl ?_
  refine q_geti fl_X12_366 sh_94 (q_inO hO sh_94) rfl dX12_lamps_1 ?_
  refine q_ifeq (tgt := 19) dX12_lamps_4 (by decide) ?_ ?_
  · refine q_iconst dX12_lamps_19 ?_
    exact q_ret dX12_lamps_20 rfl
  · refine q_iload_n 1 dX12_lamps_7 rfl rfl ?_
    refine q_i2l dX12_lamps_8 ?_
    refine q_lconst (v := 0) dX12_lamps_9 (by decide) ?_
    refine q_ldc2 dX12_lamps_10 kl_X12_456 (n := 2) rfl ?_
    refine q_callSi (As := [.inr (.inl (q_w x1)), .inr (.inl 0), .inr (.inl 2)]) hO mb_X12_isIn ms_X12_isIn ml_X12_277 dX12_lamps_13 (fun _ => rfl) rfl (Nat.le_of_ble_eq_true rfl) rfl (Nat.le_of_ble_eq_true rfl) (tX12_isIn (q_w x1) 0 2 M hO) (fun x21 M1 _ hO1 => ?_)
    refine q_ifne (tgt := 21) dX12_lamps_16 (by decide) ?_ ?_
    · refine q_iconst dX12_lamps_21 ?_
      refine q_istore_n (ls' := [(2, .inl (-1)), (0, .inr (.inr 94)), (1, .inl x1)]) dX12_lamps_22 rfl (by decide) rfl ?_
      refine q_iconst dX12_lamps_23 ?_
      refine q_istore_n (ls' := [(3, .inl (-1)), (2, .inl (-1)), (0, .inr (.inr 94)), (1, .inl x1)]) dX12_lamps_24 rfl (by decide) rfl ?_
      refine q_iconst dX12_lamps_25 ?_
      refine q_istore (ls' := [(4, .inl 0), (3, .inl (-1)), (2, .inl (-1)), (0, .inr (.inr 94)), (1, .inl x1)]) dX12_lamps_26 (by decide) rfl ?_
      refine q_sub [3, 4, 2, 1, 0] rfl ?_
      exact tX12_lamps_28 hd q_FU x1 (-1) (-1) 0 M1 hO1
    · refine q_iconst dX12_lamps_19 ?_
      exact q_ret dX12_lamps_20 rfl
def fX12_keeps_15  : Nat → Int → q_Mem → Option (Int × q_Mem)
  | 0, _, _ => none
  | n + 1, x1, M => if q_w x1 < q_w 141 then ((q_ld M 131 141 x1).bind fun x21 => (q_sto M 139 2820 ((141 * (M.2 94 66)) + x1) x21).bind fun M2 => (fX12_keeps_15 n (x1 + 1) M2)) else (if q_w (M.2 94 65) < q_w 20 then (q_let (q_up M 94 65 ((M.2 94 65) + 1)) fun M1 => some (0, M1)) else (some (0, M)))
theorem tX12_keeps_15 {d : Nat} : ∀ (n : Nat) (x1 : Int) (M : q_Mem), q_Ok M → q_EX d yX12_keeps cX12_keeps 2 none 15 [(0, .inr (.inr 94)), (1, .inl x1)] [] M (fX12_keeps_15 n x1 M) := by
  intro n
  induction n with
  | zero => intro x1 M hO; exact q_none
  | succ n ih =>
    intro x1 M hO
    rw [fX12_keeps_15]
    refine q_iload_n 1 dX12_keeps_15 rfl rfl ?_
    refine q_sipush dX12_keeps_16 (by decide) ?_
    refine q_icmpge (tgt := 49) dX12_keeps_19 (by decide) ?_ ?_
    · refine q_aload_n 0 dX12_keeps_49 rfl rfl ?_
      refine q_geti fl_X12_370 sh_94 (q_inO hO sh_94) rfl dX12_keeps_50 ?_
      refine q_bipush dX12_keeps_53 (by decide) ?_
      refine q_icmpge (tgt := 68) dX12_keeps_55 (by decide) ?_ ?_
      · exact q_ret dX12_keeps_68 rfl
      · refine q_aload_n 0 dX12_keeps_58 rfl rfl ?_
        refine q_dup dX12_keeps_59 rfl ?_
        refine q_geti fl_X12_370 sh_94 (q_inO hO sh_94) rfl dX12_keeps_60 ?_
        refine q_iconst dX12_keeps_63 ?_
        refine q_iadd dX12_keeps_64 ?_
        refine q_puti fl_X12_370 sh_94 (q_inO hO sh_94) (fun h => q_Ok_put h sh_94 rfl) rfl dX12_keeps_65 (fun M1 hM1 => ?_)
        have hO1 : q_Ok M1 := by rw [hM1]; exact q_Ok_put hO sh_94 rfl
        exact q_ret dX12_keeps_68 rfl
    · refine q_aload_n 0 dX12_keeps_22 rfl rfl ?_
      refine q_getx fl_X12_149 hO sh_94 rfl fx_94_64 dX12_keeps_23 ?_
      refine q_sipush dX12_keeps_26 (by decide) ?_
      refine q_aload_n 0 dX12_keeps_29 rfl rfl ?_
      refine q_geti fl_X12_497 sh_94 (q_inO hO sh_94) rfl dX12_keeps_30 ?_
      refine q_imul dX12_keeps_33 ?_
      refine q_iload_n 1 dX12_keeps_34 rfl rfl ?_
      refine q_iadd dX12_keeps_35 ?_
      refine q_aload_n 0 dX12_keeps_36 rfl rfl ?_
      refine q_getx fl_X12_124 hO sh_94 rfl fx_94_49 dX12_keeps_37 ?_
      refine q_iload_n 1 dX12_keeps_40 rfl rfl ?_
      refine q_iald sh_131 (q_inA hO sh_131 (by decide)) dX12_keeps_41 (fun x21 _ _ _ => ?_)
      refine q_iast sh_139 (q_inA hO sh_139 (by decide)) dX12_keeps_42 (fun M2 _ _ hM2 => ?_)
      have hO2 : q_Ok M2 := by rw [hM2]; exact q_Ok_arr (t := 0) hO sh_139 (by decide)
      refine q_iinc (ls' := [(1, .inl (x1 + 1)), (0, .inr (.inr 94))]) 1 dX12_keeps_43 rfl (by decide) rfl ?_
      refine q_goto (tgt := 15) dX12_keeps_46 (by decide) ?_
      refine q_sub [1, 0] rfl ?_
      exact ih (x1 + 1) M2 hO2
def fX12_keeps (M : q_Mem) : Option (Int × q_Mem) := q_let (q_up M 94 66 (q_rem ((M.2 94 66) + 1) 20)) fun M1 => (fX12_keeps_15 q_FU 0 M1)
theorem tX12_keeps {d : Nat} (M : q_Mem) (hO : q_Ok M) : q_EX d yX12_keeps cX12_keeps 2 none 0 (q_args 0 [.inr (.inr 94)]) [] M (fX12_keeps M) := by
  show q_EX _ _ _ _ _ 0 [(0, .inr (.inr 94))] [] M _
  unfold fX12_keeps
  refine q_aload_n 0 dX12_keeps_0 rfl rfl ?_
  refine q_aload_n 0 dX12_keeps_1 rfl rfl ?_
  refine q_geti fl_X12_497 sh_94 (q_inO hO sh_94) rfl dX12_keeps_2 ?_
  refine q_iconst dX12_keeps_5 ?_
  refine q_iadd dX12_keeps_6 ?_
  refine q_bipush dX12_keeps_7 (by decide) ?_
  refine q_irem dX12_keeps_9 (by decide) ?_
  refine q_puti fl_X12_497 sh_94 (q_inO hO sh_94) (fun h => q_Ok_put h sh_94 rfl) rfl dX12_keeps_10 (fun M1 hM1 => ?_)
  have hO1 : q_Ok M1 := by rw [hM1]; exact q_Ok_put hO sh_94 rfl
  refine q_iconst dX12_keeps_13 ?_
  refine q_istore_n (ls' := [(1, .inl 0), (0, .inr (.inr 94))]) dX12_keeps_14 rfl (by decide) rfl ?_
  refine q_sub [1, 0] rfl ?_
  exact tX12_keeps_15 q_FU 0 M1 hO1
def fX12_undo_21  : Nat → Int → q_Mem → Option (Int × q_Mem)
  | 0, _, _ => none
  | n + 1, x1, M => if q_w x1 < q_w 141 then ((q_ld M 139 2820 ((141 * (M.2 94 66)) + x1)).bind fun x21 => (q_sto M 131 141 x1 x21).bind fun M3 => (fX12_undo_21 n (x1 + 1) M3)) else (q_let (q_up M 94 66 (q_rem (((M.2 94 66) + 20) - 1) 20)) fun M1 => q_let (q_up M1 94 65 ((M1.2 94 65) - 1)) fun M2 => some (1, M2))
theorem tX12_undo_21 {d : Nat} : ∀ (n : Nat) (x1 : Int) (M : q_Mem), q_Ok M → q_EX d yX12_undo cX12_undo 2 (some .boolean) 21 [(0, .inr (.inr 94)), (1, .inl x1)] [] M (fX12_undo_21 n x1 M) := by
  intro n
  induction n with
  | zero => intro x1 M hO; exact q_none
  | succ n ih =>
    intro x1 M hO
    rw [fX12_undo_21]
    refine q_iload_n 1 dX12_undo_21 rfl rfl ?_
    refine q_sipush dX12_undo_22 (by decide) ?_
    refine q_icmpge (tgt := 55) dX12_undo_25 (by decide) ?_ ?_
    · refine q_aload_n 0 dX12_undo_55 rfl rfl ?_
      refine q_aload_n 0 dX12_undo_56 rfl rfl ?_
      refine q_geti fl_X12_497 sh_94 (q_inO hO sh_94) rfl dX12_undo_57 ?_
      refine q_bipush dX12_undo_60 (by decide) ?_
      refine q_iadd dX12_undo_62 ?_
      refine q_iconst dX12_undo_63 ?_
      refine q_isub dX12_undo_64 ?_
      refine q_bipush dX12_undo_65 (by decide) ?_
      refine q_irem dX12_undo_67 (by decide) ?_
      refine q_puti fl_X12_497 sh_94 (q_inO hO sh_94) (fun h => q_Ok_put h sh_94 rfl) rfl dX12_undo_68 (fun M1 hM1 => ?_)
      have hO1 : q_Ok M1 := by rw [hM1]; exact q_Ok_put hO sh_94 rfl
      refine q_aload_n 0 dX12_undo_71 rfl rfl ?_
      refine q_dup dX12_undo_72 rfl ?_
      refine q_geti fl_X12_370 sh_94 (q_inO hO1 sh_94) rfl dX12_undo_73 ?_
      refine q_iconst dX12_undo_76 ?_
      refine q_isub dX12_undo_77 ?_
      refine q_puti fl_X12_370 sh_94 (q_inO hO1 sh_94) (fun h => q_Ok_put h sh_94 rfl) rfl dX12_undo_78 (fun M2 hM2 => ?_)
      have hO2 : q_Ok M2 := by rw [hM2]; exact q_Ok_put hO1 sh_94 rfl
      refine q_iconst dX12_undo_81 ?_
      exact q_ret ⟨dX12_undo_82, by decide⟩ rfl
    · refine q_aload_n 0 dX12_undo_28 rfl rfl ?_
      refine q_getx fl_X12_124 hO sh_94 rfl fx_94_49 dX12_undo_29 ?_
      refine q_iload_n 1 dX12_undo_32 rfl rfl ?_
      refine q_aload_n 0 dX12_undo_33 rfl rfl ?_
      refine q_getx fl_X12_149 hO sh_94 rfl fx_94_64 dX12_undo_34 ?_
      refine q_sipush dX12_undo_37 (by decide) ?_
      refine q_aload_n 0 dX12_undo_40 rfl rfl ?_
      refine q_geti fl_X12_497 sh_94 (q_inO hO sh_94) rfl dX12_undo_41 ?_
      refine q_imul dX12_undo_44 ?_
      refine q_iload_n 1 dX12_undo_45 rfl rfl ?_
      refine q_iadd dX12_undo_46 ?_
      refine q_iald sh_139 (q_inA hO sh_139 (by decide)) dX12_undo_47 (fun x21 _ _ _ => ?_)
      refine q_iast sh_131 (q_inA hO sh_131 (by decide)) dX12_undo_48 (fun M3 _ _ hM3 => ?_)
      have hO3 : q_Ok M3 := by rw [hM3]; exact q_Ok_arr (t := 0) hO sh_131 (by decide)
      refine q_iinc (ls' := [(1, .inl (x1 + 1)), (0, .inr (.inr 94))]) 1 dX12_undo_49 rfl (by decide) rfl ?_
      refine q_goto (tgt := 21) dX12_undo_52 (by decide) ?_
      refine q_sub [1, 0] rfl ?_
      exact ih (x1 + 1) M3 hO3
def fX12_undo (M : q_Mem) : Option (Int × q_Mem) := if q_w (M.2 94 65) = 0 then ((q_ld M 96 6 4).bind fun x21 => (q_sto M 96 6 4 (x21 + 1)).bind fun M1 => some (0, M1)) else ((fX12_undo_21 q_FU 0 M))
theorem tX12_undo {d : Nat} (M : q_Mem) (hO : q_Ok M) : q_EX d yX12_undo cX12_undo 2 (some .boolean) 0 (q_args 0 [.inr (.inr 94)]) [] M (fX12_undo M) := by
  show q_EX _ _ _ _ _ 0 [(0, .inr (.inr 94))] [] M _
  unfold fX12_undo
  refine q_aload_n 0 dX12_undo_0 rfl rfl ?_
  refine q_geti fl_X12_370 sh_94 (q_inO hO sh_94) rfl dX12_undo_1 ?_
  refine q_ifne (tgt := 19) dX12_undo_4 (by decide) ?_ ?_
  · refine q_iconst dX12_undo_19 ?_
    refine q_istore_n (ls' := [(1, .inl 0), (0, .inr (.inr 94))]) dX12_undo_20 rfl (by decide) rfl ?_
    refine q_sub [1, 0] rfl ?_
    exact tX12_undo_21 q_FU 0 M hO
  · refine q_aload_n 0 dX12_undo_7 rfl rfl ?_
    refine q_getx fl_X12_17 hO sh_94 rfl fx_94_9 dX12_undo_8 ?_
    refine q_iconst dX12_undo_11 ?_
    refine q_dup2 dX12_undo_12 rfl rfl ?_
    refine q_iald sh_96 (q_inA hO sh_96 (by decide)) dX12_undo_13 (fun x21 _ _ _ => ?_)
    refine q_iconst dX12_undo_14 ?_
    refine q_iadd dX12_undo_15 ?_
    refine q_iast sh_96 (q_inA hO sh_96 (by decide)) dX12_undo_16 (fun M1 _ _ hM1 => ?_)
    have hO1 : q_Ok M1 := by rw [hM1]; exact q_Ok_arr (t := 0) hO sh_96 (by decide)
    refine q_iconst dX12_undo_17 ?_
    exact q_ret ⟨dX12_undo_18, by decide⟩ rfl
def fX12_walk_49 (M : q_Mem) : Option (Int × q_Mem) := q_bd (fX12_refuses 2 M) fun x21 M1 => some (x21, M1)
theorem tX12_walk_49 {d : Nat} (hd : 1 ≤ d) (M : q_Mem) (hO : q_Ok M) : q_EX (d + 1) yX12_walk cX12_walk 3 (some .int) 49 [(0, .inr (.inr 94))] [] M (fX12_walk_49 M) := by
  unfold fX12_walk_49
  refine q_aload_n 0 dX12_walk_49 rfl rfl ?_
  refine q_iconst dX12_walk_50 ?_
  refine q_callVi (As := [.inl 2]) hO mb_X12_refuses mv_X12_refuses ml_X12_491 sh_94 rfl dX12_walk_51 (fun _ => rfl) rfl (Nat.le_of_ble_eq_true rfl) rfl (Nat.le_of_ble_eq_true rfl) (tX12_refuses 2 M hO) (fun x21 M1 _ hO1 => ?_)
  exact q_ret dX12_walk_54 rfl
def fX12_walk (x1 : Int) (M : q_Mem) : Option (Int × q_Mem) := q_bd (fX12_isStall (q_w x1) M) fun x21 M1 => if q_w x21 = 0 then (q_bd (fX12_refuses 2 M1) fun x30 M9 => some (x30, M9)) else ((q_ld M1 131 141 1).bind fun x22 => q_bd (fX12_placeOf x1 M1) fun x23 M2 => q_bd (fX12_apart x22 x23 M2) fun x24 M3 => if q_w x24 = 0 then ((fX12_walk_49 M3)) else ((q_ld M3 131 141 0).bind fun x25 => q_bd (fX12_fairMinutes M3) fun x26 M4 => if q_w x26 < q_w (x25 + x24) then ((fX12_walk_49 M4)) else (q_bd (fX12_keeps M4) fun _ M5 => (q_ld M5 131 141 0).bind fun x27 => (q_sto M5 131 141 0 (x27 + x24)).bind fun M6 => q_bd (fX12_placeOf x1 M6) fun x28 M7 => (q_sto M7 131 141 1 x28).bind fun M8 => (q_ld M8 131 141 0).bind fun x29 => some (x29, M8))))
theorem tX12_walk {d : Nat} (hd : 2 ≤ d) (x1 : Int) (M : q_Mem) (hO : q_Ok M) : q_EX d yX12_walk cX12_walk 3 (some .int) 0 (q_args 0 [.inr (.inr 94), .inl x1]) [] M (fX12_walk x1 M) := by
  obtain ⟨d, rfl⟩ : ∃ d', d = d' + 1 := ⟨d - 1, by omega⟩
  have hd : 1 ≤ d := by omega
  show q_EX _ _ _ _ _ 0 [(0, .inr (.inr 94)), (1, .inl x1)] [] M _
  unfold fX12_walk
  refine q_aload_n 0 dX12_walk_0 rfl rfl ?_
  refine q_iload_n 1 dX12_walk_1 rfl rfl ?_
  refine q_i2l dX12_walk_2 ?_
  refine q_callVi (As := [.inr (.inl (q_w x1))]) hO mb_X12_isStall mv_X12_isStall ml_X12_441 sh_94 rfl dX12_walk_3 (fun _ => rfl) rfl (Nat.le_of_ble_eq_true rfl) rfl (Nat.le_of_ble_eq_true rfl) (tX12_isStall (by omega) (q_w x1) M hO) (fun x21 M1 _ hO1 => ?_)
  refine q_ifne (tgt := 15) dX12_walk_6 (by decide) ?_ ?_
  · refine q_aload_n 0 dX12_walk_15 rfl rfl ?_
    refine q_getx fl_X12_124 hO1 sh_94 rfl fx_94_49 dX12_walk_16 ?_
    refine q_iconst dX12_walk_19 ?_
    refine q_iald sh_131 (q_inA hO1 sh_131 (by decide)) dX12_walk_20 (fun x22 _ _ _ => ?_)
    refine q_aload_n 0 dX12_walk_21 rfl rfl ?_
    refine q_iload_n 1 dX12_walk_22 rfl rfl ?_
    refine q_callVi (As := [.inl x1]) hO1 mb_X12_placeOf mv_X12_placeOf ml_X12_430 sh_94 rfl dX12_walk_23 (fun _ => rfl) rfl (Nat.le_of_ble_eq_true rfl) rfl (Nat.le_of_ble_eq_true rfl) (tX12_placeOf x1 M1 hO1) (fun x23 M2 _ hO2 => ?_)
    refine q_callSi (As := [.inl x22, .inl x23]) hO2 mb_X12_apart ms_X12_apart ml_X12_461 dX12_walk_26 (fun _ => rfl) rfl (Nat.le_of_ble_eq_true rfl) rfl (Nat.le_of_ble_eq_true rfl) (tX12_apart x22 x23 M2 hO2) (fun x24 M3 _ hO3 => ?_)
    refine q_istore_n (ls' := [(2, .inl x24), (0, .inr (.inr 94)), (1, .inl x1)]) dX12_walk_29 rfl (by decide) rfl ?_
    refine q_iload_n 0 dX12_walk_30 rfl rfl ?_
    refine q_ifeq (tgt := 49) dX12_walk_31 (by decide) ?_ ?_
    · refine q_sub [1] rfl ?_
      exact tX12_walk_49 hd M3 hO3
    · refine q_aload_n 1 dX12_walk_34 rfl rfl ?_
      refine q_getx fl_X12_124 hO3 sh_94 rfl fx_94_49 dX12_walk_35 ?_
      refine q_iconst dX12_walk_38 ?_
      refine q_iald sh_131 (q_inA hO3 sh_131 (by decide)) dX12_walk_39 (fun x25 _ _ _ => ?_)
      refine q_iload_n 0 dX12_walk_40 rfl rfl ?_
      refine q_iadd dX12_walk_41 ?_
      refine q_aload_n 1 dX12_walk_42 rfl rfl ?_
      refine q_callVi (As := []) hO3 mb_X12_fairMinutes mv_X12_fairMinutes ml_X12_382 sh_94 rfl dX12_walk_43 (fun _ => rfl) rfl (Nat.le_of_ble_eq_true rfl) rfl (Nat.le_of_ble_eq_true rfl) (tX12_fairMinutes M3 hO3) (fun x26 M4 _ hO4 => ?_)
      refine q_icmple (tgt := 55) dX12_walk_46 (by decide) ?_ ?_
      · refine q_aload_n 1 dX12_walk_55 rfl rfl ?_
        refine q_callVv (As := []) hO4 mb_X12_keeps mv_X12_keeps ml_X12_500 sh_94 rfl dX12_walk_56 (fun _ => rfl) rfl (Nat.le_of_ble_eq_true rfl) rfl (Nat.le_of_ble_eq_true rfl) (tX12_keeps M4 hO4) (fun _ M5 _ hO5 => ?_)
        refine q_aload_n 1 dX12_walk_59 rfl rfl ?_
        refine q_getx fl_X12_124 hO5 sh_94 rfl fx_94_49 dX12_walk_60 ?_
        refine q_iconst dX12_walk_63 ?_
        refine q_dup2 dX12_walk_64 rfl rfl ?_
        refine q_iald sh_131 (q_inA hO5 sh_131 (by decide)) dX12_walk_65 (fun x27 _ _ _ => ?_)
        refine q_iload_n 0 dX12_walk_66 rfl rfl ?_
        refine q_iadd dX12_walk_67 ?_
        refine q_iast sh_131 (q_inA hO5 sh_131 (by decide)) dX12_walk_68 (fun M6 _ _ hM6 => ?_)
        have hO6 : q_Ok M6 := by rw [hM6]; exact q_Ok_arr (t := 0) hO5 sh_131 (by decide)
        refine q_aload_n 1 dX12_walk_69 rfl rfl ?_
        refine q_getx fl_X12_124 hO6 sh_94 rfl fx_94_49 dX12_walk_70 ?_
        refine q_iconst dX12_walk_73 ?_
        refine q_aload_n 1 dX12_walk_74 rfl rfl ?_
        refine q_iload_n 2 dX12_walk_75 rfl rfl ?_
        refine q_callVi (As := [.inl x1]) hO6 mb_X12_placeOf mv_X12_placeOf ml_X12_430 sh_94 rfl dX12_walk_76 (fun _ => rfl) rfl (Nat.le_of_ble_eq_true rfl) rfl (Nat.le_of_ble_eq_true rfl) (tX12_placeOf x1 M6 hO6) (fun x28 M7 _ hO7 => ?_)
        refine q_iast sh_131 (q_inA hO7 sh_131 (by decide)) dX12_walk_79 (fun M8 _ _ hM8 => ?_)
        have hO8 : q_Ok M8 := by rw [hM8]; exact q_Ok_arr (t := 0) hO7 sh_131 (by decide)
        refine q_aload_n 1 dX12_walk_80 rfl rfl ?_
        refine q_getx fl_X12_124 hO8 sh_94 rfl fx_94_49 dX12_walk_81 ?_
        refine q_iconst dX12_walk_84 ?_
        refine q_iald sh_131 (q_inA hO8 sh_131 (by decide)) dX12_walk_85 (fun x29 _ _ _ => ?_)
        exact q_ret dX12_walk_86 rfl
      · refine q_sub [1] rfl ?_
        exact tX12_walk_49 hd M4 hO4
  · refine q_aload_n 0 dX12_walk_9 rfl rfl ?_
    refine q_iconst dX12_walk_10 ?_
    refine q_callVi (As := [.inl 2]) hO1 mb_X12_refuses mv_X12_refuses ml_X12_491 sh_94 rfl dX12_walk_11 (fun _ => rfl) rfl (Nat.le_of_ble_eq_true rfl) rfl (Nat.le_of_ble_eq_true rfl) (tX12_refuses 2 M1 hO1) (fun x30 M9 _ hO9 => ?_)
    exact q_ret dX12_walk_14 rfl
def fX12_canWait (x1 : Int) (M : q_Mem) : Option (Int × q_Mem) := if q_w (M.2 94 47) = 0 then (some (0, M)) else (q_bd (fX12_isIn (q_w x1) 1 400 M) fun x21 M1 => if q_w x21 = 0 then (some (0, M1)) else ((q_ld M1 131 141 0).bind fun x22 => q_bd (fX12_fairMinutes M1) fun x23 M2 => if q_w x23 < q_w (x22 + x1) then (some (0, M2)) else (some (1, M2))))
theorem tX12_canWait {d : Nat} (hd : 1 ≤ d) (x1 : Int) (M : q_Mem) (hO : q_Ok M) : q_EX d yX12_canWait cX12_canWait 2 (some .boolean) 0 (q_args 0 [.inr (.inr 94), .inl x1]) [] M (fX12_canWait x1 M) := by
  obtain ⟨d, rfl⟩ : ∃ d', d = d' + 1 := ⟨d - 1, by omega⟩
  have hd : 0 ≤ d := by omega
  show q_EX _ _ _ _ _ 0 [(0, .inr (.inr 94)), (1, .inl x1)] [] M _
  unfold fX12_canWait
  refine q_aload_n 0 dX12_canWait_0 rfl rfl ?_
  refine q_geti fl_X12_366 sh_94 (q_inO hO sh_94) rfl dX12_canWait_1 ?_
  refine q_ifeq (tgt := 38) dX12_canWait_4 (by decide) ?_ ?_
  · refine q_iconst dX12_canWait_38 ?_
    exact q_ret ⟨dX12_canWait_39, by decide⟩ rfl
  · refine q_iload_n 1 dX12_canWait_7 rfl rfl ?_
    refine q_i2l dX12_canWait_8 ?_
    refine q_lconst (v := 1) dX12_canWait_9 (by decide) ?_
    refine q_ldc2 dX12_canWait_10 kl_X12_503 (n := 400) rfl ?_
    refine q_callSi (As := [.inr (.inl (q_w x1)), .inr (.inl 1), .inr (.inl 400)]) hO mb_X12_isIn ms_X12_isIn ml_X12_277 dX12_canWait_13 (fun _ => rfl) rfl (Nat.le_of_ble_eq_true rfl) rfl (Nat.le_of_ble_eq_true rfl) (tX12_isIn (q_w x1) 1 400 M hO) (fun x21 M1 _ hO1 => ?_)
    refine q_ifeq (tgt := 38) dX12_canWait_16 (by decide) ?_ ?_
    · refine q_iconst dX12_canWait_38 ?_
      exact q_ret ⟨dX12_canWait_39, by decide⟩ rfl
    · refine q_aload_n 0 dX12_canWait_19 rfl rfl ?_
      refine q_getx fl_X12_124 hO1 sh_94 rfl fx_94_49 dX12_canWait_20 ?_
      refine q_iconst dX12_canWait_23 ?_
      refine q_iald sh_131 (q_inA hO1 sh_131 (by decide)) dX12_canWait_24 (fun x22 _ _ _ => ?_)
      refine q_iload_n 1 dX12_canWait_25 rfl rfl ?_
      refine q_iadd dX12_canWait_26 ?_
      refine q_aload_n 0 dX12_canWait_27 rfl rfl ?_
      refine q_callVi (As := []) hO1 mb_X12_fairMinutes mv_X12_fairMinutes ml_X12_382 sh_94 rfl dX12_canWait_28 (fun _ => rfl) rfl (Nat.le_of_ble_eq_true rfl) rfl (Nat.le_of_ble_eq_true rfl) (tX12_fairMinutes M1 hO1) (fun x23 M2 _ hO2 => ?_)
      refine q_icmpgt (tgt := 38) dX12_canWait_31 (by decide) ?_ ?_
      · refine q_iconst dX12_canWait_38 ?_
        exact q_ret ⟨dX12_canWait_39, by decide⟩ rfl
      · refine q_iconst dX12_canWait_34 ?_
        refine q_goto (tgt := 39) dX12_canWait_35 (by decide) ?_
        exact q_ret ⟨dX12_canWait_39, by decide⟩ rfl
def fX12_pause (x1 : Int) (M : q_Mem) : Option (Int × q_Mem) := q_bd (fX12_canWait x1 M) fun x21 M1 => if q_w x21 = 0 then ((q_ld M1 96 6 3).bind fun x23 => (q_sto M1 96 6 3 (x23 + 1)).bind fun M4 => some (0, M4)) else (q_bd (fX12_keeps M1) fun _ M2 => (q_ld M2 131 141 0).bind fun x22 => (q_sto M2 131 141 0 (x22 + x1)).bind fun M3 => some (1, M3))
theorem tX12_pause {d : Nat} (hd : 2 ≤ d) (x1 : Int) (M : q_Mem) (hO : q_Ok M) : q_EX d yX12_pause cX12_pause 2 (some .boolean) 0 (q_args 0 [.inr (.inr 94), .inl x1]) [] M (fX12_pause x1 M) := by
  obtain ⟨d, rfl⟩ : ∃ d', d = d' + 1 := ⟨d - 1, by omega⟩
  have hd : 1 ≤ d := by omega
  show q_EX _ _ _ _ _ 0 [(0, .inr (.inr 94)), (1, .inl x1)] [] M _
  unfold fX12_pause
  refine q_aload_n 0 dX12_pause_0 rfl rfl ?_
  refine q_iload_n 1 dX12_pause_1 rfl rfl ?_
  refine q_callVi (As := [.inl x1]) hO mb_X12_canWait mv_X12_canWait ml_X12_505 sh_94 rfl dX12_pause_2 (fun _ => rfl) rfl (Nat.le_of_ble_eq_true rfl) rfl (Nat.le_of_ble_eq_true rfl) (tX12_canWait (by omega) x1 M hO) (fun x21 M1 _ hO1 => ?_)
  refine q_ifne (tgt := 20) dX12_pause_5 (by decide) ?_ ?_
  · refine q_aload_n 0 dX12_pause_20 rfl rfl ?_
    refine q_callVv (As := []) hO1 mb_X12_keeps mv_X12_keeps ml_X12_500 sh_94 rfl dX12_pause_21 (fun _ => rfl) rfl (Nat.le_of_ble_eq_true rfl) rfl (Nat.le_of_ble_eq_true rfl) (tX12_keeps M1 hO1) (fun _ M2 _ hO2 => ?_)
    refine q_aload_n 0 dX12_pause_24 rfl rfl ?_
    refine q_getx fl_X12_124 hO2 sh_94 rfl fx_94_49 dX12_pause_25 ?_
    refine q_iconst dX12_pause_28 ?_
    refine q_dup2 dX12_pause_29 rfl rfl ?_
    refine q_iald sh_131 (q_inA hO2 sh_131 (by decide)) dX12_pause_30 (fun x22 _ _ _ => ?_)
    refine q_iload_n 1 dX12_pause_31 rfl rfl ?_
    refine q_iadd dX12_pause_32 ?_
    refine q_iast sh_131 (q_inA hO2 sh_131 (by decide)) dX12_pause_33 (fun M3 _ _ hM3 => ?_)
    have hO3 : q_Ok M3 := by rw [hM3]; exact q_Ok_arr (t := 0) hO2 sh_131 (by decide)
    refine q_iconst dX12_pause_34 ?_
    exact q_ret ⟨dX12_pause_35, by decide⟩ rfl
  · refine q_aload_n 0 dX12_pause_8 rfl rfl ?_
    refine q_getx fl_X12_17 hO1 sh_94 rfl fx_94_9 dX12_pause_9 ?_
    refine q_iconst dX12_pause_12 ?_
    refine q_dup2 dX12_pause_13 rfl rfl ?_
    refine q_iald sh_96 (q_inA hO1 sh_96 (by decide)) dX12_pause_14 (fun x23 _ _ _ => ?_)
    refine q_iconst dX12_pause_15 ?_
    refine q_iadd dX12_pause_16 ?_
    refine q_iast sh_96 (q_inA hO1 sh_96 (by decide)) dX12_pause_17 (fun M4 _ _ hM4 => ?_)
    have hO4 : q_Ok M4 := by rw [hM4]; exact q_Ok_arr (t := 0) hO1 sh_96 (by decide)
    refine q_iconst dX12_pause_18 ?_
    exact q_ret ⟨dX12_pause_19, by decide⟩ rfl
def fX12_isKept_56 (x1 : Int) (x2 : Int) (M : q_Mem) : Option (Int × q_Mem) := (q_ld M 131 141 20).bind fun x21 => q_let ((21 + (3 * x21)) - 3) fun x22 => (q_ld M 131 141 0).bind fun x23 => (q_sto M 131 141 x22 x23).bind fun M1 => (q_sto M1 131 141 (x22 + 1) x1).bind fun M2 => (q_sto M2 131 141 (x22 + 2) x2).bind fun M3 => some (0, M3)
theorem tX12_isKept_56 {d : Nat} (x1 : Int) (x2 : Int) (M : q_Mem) (hO : q_Ok M) : q_EX d yX12_isKept cX12_isKept 4 none 56 [(0, .inr (.inr 94)), (1, .inl x1), (2, .inl x2)] [] M (fX12_isKept_56 x1 x2 M) := by
  unfold fX12_isKept_56
  refine q_bipush dX12_isKept_56 (by decide) ?_
  refine q_iconst dX12_isKept_58 ?_
  refine q_aload_n 0 dX12_isKept_59 rfl rfl ?_
  refine q_getx fl_X12_124 hO sh_94 rfl fx_94_49 dX12_isKept_60 ?_
  refine q_bipush dX12_isKept_63 (by decide) ?_
  refine q_iald sh_131 (q_inA hO sh_131 (by decide)) dX12_isKept_65 (fun x21 _ _ _ => ?_)
  refine q_imul dX12_isKept_66 ?_
  refine q_iadd dX12_isKept_67 ?_
  refine q_iconst dX12_isKept_68 ?_
  refine q_isub dX12_isKept_69 ?_
  refine q_nameI (fun x22 _ => ?_)
  refine q_istore_n (ls' := [(3, .inl x22), (0, .inr (.inr 94)), (1, .inl x1), (2, .inl x2)]) dX12_isKept_70 rfl (by decide) rfl ?_
  refine q_aload_n 1 dX12_isKept_71 rfl rfl ?_
  refine q_getx fl_X12_124 hO sh_94 rfl fx_94_49 dX12_isKept_72 ?_
  refine q_iload_n 0 dX12_isKept_75 rfl rfl ?_
  refine q_aload_n 1 dX12_isKept_76 rfl rfl ?_
  refine q_getx fl_X12_124 hO sh_94 rfl fx_94_49 dX12_isKept_77 ?_
  refine q_iconst dX12_isKept_80 ?_
  refine q_iald sh_131 (q_inA hO sh_131 (by decide)) dX12_isKept_81 (fun x23 _ _ _ => ?_)
  refine q_iast sh_131 (q_inA hO sh_131 (by decide)) dX12_isKept_82 (fun M1 _ _ hM1 => ?_)
  have hO1 : q_Ok M1 := by rw [hM1]; exact q_Ok_arr (t := 0) hO sh_131 (by decide)
  refine q_aload_n 1 dX12_isKept_83 rfl rfl ?_
  refine q_getx fl_X12_124 hO1 sh_94 rfl fx_94_49 dX12_isKept_84 ?_
  refine q_iload_n 0 dX12_isKept_87 rfl rfl ?_
  refine q_iconst dX12_isKept_88 ?_
  refine q_iadd dX12_isKept_89 ?_
  refine q_iload_n 2 dX12_isKept_90 rfl rfl ?_
  refine q_iast sh_131 (q_inA hO1 sh_131 (by decide)) dX12_isKept_91 (fun M2 _ _ hM2 => ?_)
  have hO2 : q_Ok M2 := by rw [hM2]; exact q_Ok_arr (t := 0) hO1 sh_131 (by decide)
  refine q_aload_n 1 dX12_isKept_92 rfl rfl ?_
  refine q_getx fl_X12_124 hO2 sh_94 rfl fx_94_49 dX12_isKept_93 ?_
  refine q_iload_n 0 dX12_isKept_96 rfl rfl ?_
  refine q_iconst dX12_isKept_97 ?_
  refine q_iadd dX12_isKept_98 ?_
  refine q_iload_n 3 dX12_isKept_99 rfl rfl ?_
  refine q_iast sh_131 (q_inA hO2 sh_131 (by decide)) dX12_isKept_100 (fun M3 _ _ hM3 => ?_)
  have hO3 : q_Ok M3 := by rw [hM3]; exact q_Ok_arr (t := 0) hO2 sh_131 (by decide)
  exact q_ret dX12_isKept_101 rfl
def fX12_isKept_15  : Nat → Int → Int → Int → q_Mem → Option (Int × q_Mem)
  | 0, _, _, _, _ => none
  | n + 1, x1, x2, x3, M => if q_w x3 < q_w 138 then ((q_ld M 131 141 (x3 + 3)).bind fun x21 => (q_sto M 131 141 x3 x21).bind fun M1 => (fX12_isKept_15 n x1 x2 (x3 + 1) M1)) else ((fX12_isKept_56 x1 x2 M))
theorem tX12_isKept_15 {d : Nat} : ∀ (n : Nat) (x1 : Int) (x2 : Int) (x3 : Int) (M : q_Mem), q_Ok M → q_EX d yX12_isKept cX12_isKept 4 none 15 [(0, .inr (.inr 94)), (1, .inl x1), (2, .inl x2), (3, .inl x3)] [] M (fX12_isKept_15 n x1 x2 x3 M) := by
  intro n
  induction n with
  | zero => intro x1 x2 x3 M hO; exact q_none
  | succ n ih =>
    intro x1 x2 x3 M hO
    rw [fX12_isKept_15]
    refine q_iload_n 3 dX12_isKept_15 rfl rfl ?_
    refine q_sipush dX12_isKept_16 (by decide) ?_
    refine q_icmpge (tgt := 42) dX12_isKept_19 (by decide) ?_ ?_
    · refine q_goto (tgt := 56) dX12_isKept_42 (by decide) ?_
      refine q_sub [0, 1, 2] rfl ?_
      exact tX12_isKept_56 x1 x2 M hO
    · refine q_aload_n 0 dX12_isKept_22 rfl rfl ?_
      refine q_getx fl_X12_124 hO sh_94 rfl fx_94_49 dX12_isKept_23 ?_
      refine q_iload_n 3 dX12_isKept_26 rfl rfl ?_
      refine q_aload_n 0 dX12_isKept_27 rfl rfl ?_
      refine q_getx fl_X12_124 hO sh_94 rfl fx_94_49 dX12_isKept_28 ?_
      refine q_iload_n 3 dX12_isKept_31 rfl rfl ?_
      refine q_iconst dX12_isKept_32 ?_
      refine q_iadd dX12_isKept_33 ?_
      refine q_iald sh_131 (q_inA hO sh_131 (by decide)) dX12_isKept_34 (fun x21 _ _ _ => ?_)
      refine q_iast sh_131 (q_inA hO sh_131 (by decide)) dX12_isKept_35 (fun M1 _ _ hM1 => ?_)
      have hO1 : q_Ok M1 := by rw [hM1]; exact q_Ok_arr (t := 0) hO sh_131 (by decide)
      refine q_iinc (ls' := [(3, .inl (x3 + 1)), (0, .inr (.inr 94)), (1, .inl x1), (2, .inl x2)]) 3 dX12_isKept_36 rfl (by decide) rfl ?_
      refine q_goto (tgt := 15) dX12_isKept_39 (by decide) ?_
      refine q_sub [1, 2, 3, 0] rfl ?_
      exact ih x1 x2 (x3 + 1) M1 hO1
def fX12_isKept (x1 : Int) (x2 : Int) (M : q_Mem) : Option (Int × q_Mem) := (q_ld M 131 141 20).bind fun x21 => if q_w x21 = q_w 40 then ((fX12_isKept_15 q_FU x1 x2 21 M)) else ((q_ld M 131 141 20).bind fun x22 => (q_sto M 131 141 20 (x22 + 1)).bind fun M1 => (fX12_isKept_56 x1 x2 M1))
theorem tX12_isKept {d : Nat} (x1 : Int) (x2 : Int) (M : q_Mem) (hO : q_Ok M) : q_EX d yX12_isKept cX12_isKept 4 none 0 (q_args 0 [.inr (.inr 94), .inl x1, .inl x2]) [] M (fX12_isKept x1 x2 M) := by
  show q_EX _ _ _ _ _ 0 [(0, .inr (.inr 94)), (1, .inl x1), (2, .inl x2)] [] M _
  unfold fX12_isKept
  refine q_aload_n 0 dX12_isKept_0 rfl rfl ?_
  refine q_getx fl_X12_124 hO sh_94 rfl fx_94_49 dX12_isKept_1 ?_
  refine q_bipush dX12_isKept_4 (by decide) ?_
  refine q_iald sh_131 (q_inA hO sh_131 (by decide)) dX12_isKept_6 (fun x21 _ _ _ => ?_)
  refine q_bipush dX12_isKept_7 (by decide) ?_
  refine q_icmpne (tgt := 45) dX12_isKept_9 (by decide) ?_ ?_
  · refine q_aload_n 0 dX12_isKept_45 rfl rfl ?_
    refine q_getx fl_X12_124 hO sh_94 rfl fx_94_49 dX12_isKept_46 ?_
    refine q_bipush dX12_isKept_49 (by decide) ?_
    refine q_dup2 dX12_isKept_51 rfl rfl ?_
    refine q_iald sh_131 (q_inA hO sh_131 (by decide)) dX12_isKept_52 (fun x22 _ _ _ => ?_)
    refine q_iconst dX12_isKept_53 ?_
    refine q_iadd dX12_isKept_54 ?_
    refine q_iast sh_131 (q_inA hO sh_131 (by decide)) dX12_isKept_55 (fun M1 _ _ hM1 => ?_)
    have hO1 : q_Ok M1 := by rw [hM1]; exact q_Ok_arr (t := 0) hO sh_131 (by decide)
    refine q_sub [0, 1, 2] rfl ?_
    exact tX12_isKept_56 x1 x2 M1 hO1
  · refine q_bipush dX12_isKept_12 (by decide) ?_
    refine q_istore_n (ls' := [(3, .inl 21), (0, .inr (.inr 94)), (1, .inl x1), (2, .inl x2)]) dX12_isKept_14 rfl (by decide) rfl ?_
    refine q_sub [1, 2, 3, 0] rfl ?_
    exact tX12_isKept_15 q_FU x1 x2 21 M hO
def fX12_buy_54 (M : q_Mem) : Option (Int × q_Mem) := (q_ld M 96 6 2).bind fun x21 => (q_sto M 96 6 2 (x21 + 1)).bind fun M1 => some (0, M1)
theorem tX12_buy_54 {d : Nat} (hd : 4 ≤ d) (M : q_Mem) (hO : q_Ok M) : q_EX (d + 1) yX12_buy cX12_buy 3 (some .boolean) 54 [(0, .inr (.inr 94))] [] M (fX12_buy_54 M) := by
  unfold fX12_buy_54
  refine q_aload_n 0 dX12_buy_54 rfl rfl ?_
  refine q_getx fl_X12_17 hO sh_94 rfl fx_94_9 dX12_buy_55 ?_
  refine q_iconst dX12_buy_58 ?_
  refine q_dup2 dX12_buy_59 rfl rfl ?_
  refine q_iald sh_96 (q_inA hO sh_96 (by decide)) dX12_buy_60 (fun x21 _ _ _ => ?_)
  refine q_iconst dX12_buy_61 ?_
  refine q_iadd dX12_buy_62 ?_
  refine q_iast sh_96 (q_inA hO sh_96 (by decide)) dX12_buy_63 (fun M1 _ _ hM1 => ?_)
  have hO1 : q_Ok M1 := by rw [hM1]; exact q_Ok_arr (t := 0) hO sh_96 (by decide)
  refine q_iconst dX12_buy_64 ?_
  exact q_ret ⟨dX12_buy_65, by decide⟩ rfl
def fX12_buy (x1 : Int) (x2 : Int) (M : q_Mem) : Option (Int × q_Mem) := q_bd (fX12_isCoin x1 M) fun x21 M1 => if q_w x21 = 0 then ((fX12_buy_54 M1)) else (q_bd (fX12_isStall (q_w x2) M1) fun x22 M2 => if q_w x22 = 0 then ((fX12_buy_54 M2)) else (q_bd (fX12_placeOf x2 M2) fun x23 M3 => (q_ld M3 131 141 1).bind fun x24 => if q_w x23 = q_w x24 then (q_bd (fX12_isBought x2 M3) fun x25 M4 => if q_w x25 = 0 then ((q_ld M4 131 141 0).bind fun x26 => q_bd (fX12_doesBuy x1 x2 x26 M4) fun x27 M5 => if q_w x27 = 0 then ((fX12_buy_54 M5)) else (q_bd (fX12_keeps M5) fun _ M6 => (q_ld M6 131 141 2).bind fun x28 => (q_sto M6 131 141 2 (q_or x28 (q_shl 1 x2))).bind fun M7 => q_bd (fX12_isKept x2 x1 M7) fun _ M8 => some (1, M8))) else ((fX12_buy_54 M4))) else ((fX12_buy_54 M3))))
theorem tX12_buy {d : Nat} (hd : 5 ≤ d) (x1 : Int) (x2 : Int) (M : q_Mem) (hO : q_Ok M) : q_EX d yX12_buy cX12_buy 3 (some .boolean) 0 (q_args 0 [.inr (.inr 94), .inl x1, .inl x2]) [] M (fX12_buy x1 x2 M) := by
  obtain ⟨d, rfl⟩ : ∃ d', d = d' + 1 := ⟨d - 1, by omega⟩
  have hd : 4 ≤ d := by omega
  show q_EX _ _ _ _ _ 0 [(0, .inr (.inr 94)), (1, .inl x1), (2, .inl x2)] [] M _
  unfold fX12_buy
  refine q_aload_n 0 dX12_buy_0 rfl rfl ?_
  refine q_iload_n 1 dX12_buy_1 rfl rfl ?_
  refine q_callVi (As := [.inl x1]) hO mb_X12_isCoin mv_X12_isCoin ml_X12_450 sh_94 rfl dX12_buy_2 (fun _ => rfl) rfl (Nat.le_of_ble_eq_true rfl) rfl (Nat.le_of_ble_eq_true rfl) (tX12_isCoin (by omega) x1 M hO) (fun x21 M1 _ hO1 => ?_)
  refine q_ifeq (tgt := 54) dX12_buy_5 (by decide) ?_ ?_
  · refine q_sub [0] rfl ?_
    exact tX12_buy_54 hd M1 hO1
  · refine q_aload_n 0 dX12_buy_8 rfl rfl ?_
    refine q_iload_n 2 dX12_buy_9 rfl rfl ?_
    refine q_i2l dX12_buy_10 ?_
    refine q_callVi (As := [.inr (.inl (q_w x2))]) hO1 mb_X12_isStall mv_X12_isStall ml_X12_441 sh_94 rfl dX12_buy_11 (fun _ => rfl) rfl (Nat.le_of_ble_eq_true rfl) rfl (Nat.le_of_ble_eq_true rfl) (tX12_isStall (by omega) (q_w x2) M1 hO1) (fun x22 M2 _ hO2 => ?_)
    refine q_ifeq (tgt := 54) dX12_buy_14 (by decide) ?_ ?_
    · refine q_sub [0] rfl ?_
      exact tX12_buy_54 hd M2 hO2
    · refine q_aload_n 0 dX12_buy_17 rfl rfl ?_
      refine q_iload_n 2 dX12_buy_18 rfl rfl ?_
      refine q_callVi (As := [.inl x2]) hO2 mb_X12_placeOf mv_X12_placeOf ml_X12_430 sh_94 rfl dX12_buy_19 (fun _ => rfl) rfl (Nat.le_of_ble_eq_true rfl) rfl (Nat.le_of_ble_eq_true rfl) (tX12_placeOf x2 M2 hO2) (fun x23 M3 _ hO3 => ?_)
      refine q_aload_n 0 dX12_buy_22 rfl rfl ?_
      refine q_getx fl_X12_124 hO3 sh_94 rfl fx_94_49 dX12_buy_23 ?_
      refine q_iconst dX12_buy_26 ?_
      refine q_iald sh_131 (q_inA hO3 sh_131 (by decide)) dX12_buy_27 (fun x24 _ _ _ => ?_)
      refine q_icmpne (tgt := 54) dX12_buy_28 (by decide) ?_ ?_
      · refine q_sub [0] rfl ?_
        exact tX12_buy_54 hd M3 hO3
      · refine q_aload_n 0 dX12_buy_31 rfl rfl ?_
        refine q_iload_n 2 dX12_buy_32 rfl rfl ?_
        refine q_callVi (As := [.inl x2]) hO3 mb_X12_isBought mv_X12_isBought ml_X12_447 sh_94 rfl dX12_buy_33 (fun _ => rfl) rfl (Nat.le_of_ble_eq_true rfl) rfl (Nat.le_of_ble_eq_true rfl) (tX12_isBought x2 M3 hO3) (fun x25 M4 _ hO4 => ?_)
        refine q_ifne (tgt := 54) dX12_buy_36 (by decide) ?_ ?_
        · refine q_sub [0] rfl ?_
          exact tX12_buy_54 hd M4 hO4
        · refine q_aload_n 0 dX12_buy_39 rfl rfl ?_
          refine q_iload_n 1 dX12_buy_40 rfl rfl ?_
          refine q_iload_n 2 dX12_buy_41 rfl rfl ?_
          refine q_aload_n 0 dX12_buy_42 rfl rfl ?_
          refine q_getx fl_X12_124 hO4 sh_94 rfl fx_94_49 dX12_buy_43 ?_
          refine q_iconst dX12_buy_46 ?_
          refine q_iald sh_131 (q_inA hO4 sh_131 (by decide)) dX12_buy_47 (fun x26 _ _ _ => ?_)
          refine q_callVi (As := [.inl x1, .inl x2, .inl x26]) hO4 mb_X12_doesBuy mv_X12_doesBuy ml_X12_433 sh_94 rfl dX12_buy_48 (fun _ => rfl) rfl (Nat.le_of_ble_eq_true rfl) rfl (Nat.le_of_ble_eq_true rfl) (tX12_doesBuy (by omega) x1 x2 x26 M4 hO4) (fun x27 M5 _ hO5 => ?_)
          refine q_ifne (tgt := 66) dX12_buy_51 (by decide) ?_ ?_
          · refine q_aload_n 0 dX12_buy_66 rfl rfl ?_
            refine q_callVv (As := []) hO5 mb_X12_keeps mv_X12_keeps ml_X12_500 sh_94 rfl dX12_buy_67 (fun _ => rfl) rfl (Nat.le_of_ble_eq_true rfl) rfl (Nat.le_of_ble_eq_true rfl) (tX12_keeps M5 hO5) (fun _ M6 _ hO6 => ?_)
            refine q_aload_n 0 dX12_buy_70 rfl rfl ?_
            refine q_getx fl_X12_124 hO6 sh_94 rfl fx_94_49 dX12_buy_71 ?_
            refine q_iconst dX12_buy_74 ?_
            refine q_dup2 dX12_buy_75 rfl rfl ?_
            refine q_iald sh_131 (q_inA hO6 sh_131 (by decide)) dX12_buy_76 (fun x28 _ _ _ => ?_)
            refine q_iconst dX12_buy_77 ?_
            refine q_iload_n 2 dX12_buy_78 rfl rfl ?_
            refine q_ishl dX12_buy_79 ?_
            refine q_ior dX12_buy_80 ?_
            refine q_iast sh_131 (q_inA hO6 sh_131 (by decide)) dX12_buy_81 (fun M7 _ _ hM7 => ?_)
            have hO7 : q_Ok M7 := by rw [hM7]; exact q_Ok_arr (t := 0) hO6 sh_131 (by decide)
            refine q_aload_n 0 dX12_buy_82 rfl rfl ?_
            refine q_iload_n 2 dX12_buy_83 rfl rfl ?_
            refine q_iload_n 1 dX12_buy_84 rfl rfl ?_
            refine q_callVv (As := [.inl x2, .inl x1]) hO7 mb_X12_isKept mv_X12_isKept ml_X12_508 sh_94 rfl dX12_buy_85 (fun _ => rfl) rfl (Nat.le_of_ble_eq_true rfl) rfl (Nat.le_of_ble_eq_true rfl) (tX12_isKept x2 x1 M7 hO7) (fun _ M8 _ hO8 => ?_)
            refine q_iconst dX12_buy_88 ?_
            exact q_ret ⟨dX12_buy_89, by decide⟩ rfl
          · refine q_sub [0] rfl ?_
            exact tX12_buy_54 hd M5 hO5
def fX12_seed (x1 : Int) (M : q_Mem) : Option (Int × q_Mem) := if q_w x1 < 0 then ((q_ld M 96 6 5).bind fun x21 => (q_sto M 96 6 5 (x21 + 1)).bind fun M2 => some (0, M2)) else (q_let (q_up M 94 67 (q_w x1)) fun M1 => some (1, M1))
theorem tX12_seed {d : Nat} (x1 : Int) (M : q_Mem) (hO : q_Ok M) : q_EX d yX12_seed cX12_seed 2 (some .boolean) 0 (q_args 0 [.inr (.inr 94), .inl x1]) [] M (fX12_seed x1 M) := by
  show q_EX _ _ _ _ _ 0 [(0, .inr (.inr 94)), (1, .inl x1)] [] M _
  unfold fX12_seed
  refine q_iload_n 1 dX12_seed_0 rfl rfl ?_
  refine q_ifge (tgt := 16) dX12_seed_1 (by decide) ?_ ?_
  · refine q_aload_n 0 dX12_seed_16 rfl rfl ?_
    refine q_iload_n 1 dX12_seed_17 rfl rfl ?_
    refine q_i2l dX12_seed_18 ?_
    refine q_putl fl_X12_152 sh_94 (q_inO hO sh_94) (fun h => q_Ok_put h sh_94 rfl) rfl dX12_seed_19 (fun M1 hM1 => ?_)
    have hO1 : q_Ok M1 := by rw [hM1]; exact q_Ok_put hO sh_94 rfl
    refine q_iconst dX12_seed_22 ?_
    exact q_ret ⟨dX12_seed_23, by decide⟩ rfl
  · refine q_aload_n 0 dX12_seed_4 rfl rfl ?_
    refine q_getx fl_X12_17 hO sh_94 rfl fx_94_9 dX12_seed_5 ?_
    refine q_iconst dX12_seed_8 ?_
    refine q_dup2 dX12_seed_9 rfl rfl ?_
    refine q_iald sh_96 (q_inA hO sh_96 (by decide)) dX12_seed_10 (fun x21 _ _ _ => ?_)
    refine q_iconst dX12_seed_11 ?_
    refine q_iadd dX12_seed_12 ?_
    refine q_iast sh_96 (q_inA hO sh_96 (by decide)) dX12_seed_13 (fun M2 _ _ hM2 => ?_)
    have hO2 : q_Ok M2 := by rw [hM2]; exact q_Ok_arr (t := 0) hO sh_96 (by decide)
    refine q_iconst dX12_seed_14 ?_
    exact q_ret ⟨dX12_seed_15, by decide⟩ rfl
def fX12_drawOf (x1 : Int) (M : q_Mem) : Option (Int × q_Mem) := q_let (q_up M 94 67 (q_lrem ((1103515245 * (M.2 94 67)) + 12345) 2147483648)) fun M1 => if q_wl (q_w x1) = 0 then none else some ((q_lrem (q_ldiv (M1.2 94 67) 64) (q_w x1)), M1)
theorem tX12_drawOf {d : Nat} (x1 : Int) (M : q_Mem) (hO : q_Ok M) : q_EX d yX12_drawOf cX12_drawOf 2 (some .int) 0 (q_args 0 [.inr (.inr 94), .inl x1]) [] M (fX12_drawOf x1 M) := by
  show q_EX _ _ _ _ _ 0 [(0, .inr (.inr 94)), (1, .inl x1)] [] M _
  unfold fX12_drawOf
  refine q_aload_n 0 dX12_drawOf_0 rfl rfl ?_
  refine q_ldc2 dX12_drawOf_1 kl_X12_511 (n := 1103515245) rfl ?_
  refine q_aload_n 0 dX12_drawOf_4 rfl rfl ?_
  refine q_getl fl_X12_152 sh_94 (q_inO hO sh_94) rfl dX12_drawOf_5 ?_
  refine q_lmul dX12_drawOf_8 ?_
  refine q_ldc2 dX12_drawOf_9 kl_X12_513 (n := 12345) rfl ?_
  refine q_ladd dX12_drawOf_12 ?_
  refine q_ldc2 dX12_drawOf_13 kl_X12_515 (n := 2147483648) rfl ?_
  refine q_lremR dX12_drawOf_16 (by decide) ?_
  refine q_putl fl_X12_152 sh_94 (q_inO hO sh_94) (fun h => q_Ok_put h sh_94 rfl) rfl dX12_drawOf_17 (fun M1 hM1 => ?_)
  have hO1 : q_Ok M1 := by rw [hM1]; exact q_Ok_put hO sh_94 rfl
  refine q_aload_n 0 dX12_drawOf_20 rfl rfl ?_
  refine q_getl fl_X12_152 sh_94 (q_inO hO1 sh_94) rfl dX12_drawOf_21 ?_
  refine q_ldc2 dX12_drawOf_24 kl_X12_517 (n := 64) rfl ?_
  refine q_ldivR dX12_drawOf_27 (by decide) ?_
  refine q_iload_n 1 dX12_drawOf_28 rfl rfl ?_
  refine q_i2l dX12_drawOf_29 ?_
  refine q_ifnone (fun h1 => ?_)
  refine q_lremR dX12_drawOf_30 h1 ?_
  refine q_l2i dX12_drawOf_31 ?_
  exact q_ret dX12_drawOf_32 rfl
def fX12_chance_104 (K22 : Int → Int → Int → q_Mem → Option (Int × q_Mem)) (x1 : Int) (x2 : Int) (x3 : Int) (M : q_Mem) : Option (Int × q_Mem) := (q_ld M 131 141 0).bind fun x21 => (q_sto M 131 141 0 (x21 + 1)).bind fun M1 => (K22 x1 x2 (x3 + 1) M1)
theorem tX12_chance_104 {d : Nat} (hd : 1 ≤ d) (K22 : Int → Int → Int → q_Mem → Option (Int × q_Mem)) (hK22 : ∀ (x1 : Int) (x2 : Int) (x3 : Int) (M : q_Mem), q_Ok M → q_EX (d + 1) yX12_chance cX12_chance 5 (some .int) 22 [(0, .inr (.inr 94)), (1, .inl x1), (2, .inl x2), (3, .inl x3)] [] M (K22 x1 x2 x3 M)) (x1 : Int) (x2 : Int) (x3 : Int) (M : q_Mem) (hO : q_Ok M) : q_EX (d + 1) yX12_chance cX12_chance 5 (some .int) 104 [(0, .inr (.inr 94)), (1, .inl x1), (2, .inl x2), (3, .inl x3)] [] M (fX12_chance_104 K22 x1 x2 x3 M) := by
  unfold fX12_chance_104
  refine q_aload_n 0 dX12_chance_104 rfl rfl ?_
  refine q_getx fl_X12_124 hO sh_94 rfl fx_94_49 dX12_chance_105 ?_
  refine q_iconst dX12_chance_108 ?_
  refine q_dup2 dX12_chance_109 rfl rfl ?_
  refine q_iald sh_131 (q_inA hO sh_131 (by decide)) dX12_chance_110 (fun x21 _ _ _ => ?_)
  refine q_iconst dX12_chance_111 ?_
  refine q_iadd dX12_chance_112 ?_
  refine q_iast sh_131 (q_inA hO sh_131 (by decide)) dX12_chance_113 (fun M1 _ _ hM1 => ?_)
  have hO1 : q_Ok M1 := by rw [hM1]; exact q_Ok_arr (t := 0) hO sh_131 (by decide)
  refine q_iinc (ls' := [(3, .inl (x3 + 1)), (0, .inr (.inr 94)), (1, .inl x1), (2, .inl x2)]) 3 dX12_chance_114 rfl (by decide) rfl ?_
  refine q_goto (tgt := 22) dX12_chance_117 (by decide) ?_
  refine q_sub [1, 2, 3, 0] rfl ?_
  exact hK22 x1 x2 (x3 + 1) M1 hO1
def fX12_chance_47 (K22 : Int → Int → Int → q_Mem → Option (Int × q_Mem)) (x1 : Int) (x2 : Int) (x3 : Int) (s0 : Int) (M : q_Mem) : Option (Int × q_Mem) := if q_w s0 = 0 then ((fX12_chance_104 K22 x1 x2 x3 M)) else ((q_ld M 123 6 5).bind fun x21 => (q_ld M 131 141 3).bind fun x22 => if q_w (x21 + x22) < q_w 16 then ((q_ld M 131 141 3).bind fun x23 => (q_ld M 131 141 0).bind fun x24 => (q_sto M 131 141 (4 + x23) x24).bind fun M1 => (q_ld M1 131 141 3).bind fun x25 => (q_sto M1 131 141 3 (x25 + 1)).bind fun M2 => (fX12_chance_104 K22 x1 (x2 + 1) x3 M2)) else ((fX12_chance_104 K22 x1 x2 x3 M)))
theorem tX12_chance_47 {d : Nat} (hd : 1 ≤ d) (K22 : Int → Int → Int → q_Mem → Option (Int × q_Mem)) (hK22 : ∀ (x1 : Int) (x2 : Int) (x3 : Int) (M : q_Mem), q_Ok M → q_EX (d + 1) yX12_chance cX12_chance 5 (some .int) 22 [(0, .inr (.inr 94)), (1, .inl x1), (2, .inl x2), (3, .inl x3)] [] M (K22 x1 x2 x3 M)) (x1 : Int) (x2 : Int) (x3 : Int) (s0 : Int) (M : q_Mem) (hO : q_Ok M) : q_EX (d + 1) yX12_chance cX12_chance 5 (some .int) 47 [(0, .inr (.inr 94)), (1, .inl x1), (2, .inl x2), (3, .inl x3)] [.inl s0] M (fX12_chance_47 K22 x1 x2 x3 s0 M) := by
  unfold fX12_chance_47
  refine q_istore (ls' := [(4, .inl s0), (0, .inr (.inr 94)), (1, .inl x1), (2, .inl x2), (3, .inl x3)]) dX12_chance_47 (by decide) rfl ?_
  refine q_iload 0 dX12_chance_49 rfl ?_
  refine q_ifeq (tgt := 104) dX12_chance_51 (by decide) ?_ ?_
  · refine q_sub [1, 2, 3, 4] rfl ?_
    exact tX12_chance_104 hd K22 hK22 x1 x2 x3 M hO
  · refine q_aload_n 1 dX12_chance_54 rfl rfl ?_
    refine q_getx fl_X12_99 hO sh_94 rfl fx_94_37 dX12_chance_55 ?_
    refine q_iconst dX12_chance_58 ?_
    refine q_iald sh_123 (q_inA hO sh_123 (by decide)) dX12_chance_59 (fun x21 _ _ _ => ?_)
    refine q_aload_n 1 dX12_chance_60 rfl rfl ?_
    refine q_getx fl_X12_124 hO sh_94 rfl fx_94_49 dX12_chance_61 ?_
    refine q_iconst dX12_chance_64 ?_
    refine q_iald sh_131 (q_inA hO sh_131 (by decide)) dX12_chance_65 (fun x22 _ _ _ => ?_)
    refine q_iadd dX12_chance_66 ?_
    refine q_bipush dX12_chance_67 (by decide) ?_
    refine q_icmpge (tgt := 104) dX12_chance_69 (by decide) ?_ ?_
    · refine q_sub [1, 2, 3, 4] rfl ?_
      exact tX12_chance_104 hd K22 hK22 x1 x2 x3 M hO
    · refine q_aload_n 1 dX12_chance_72 rfl rfl ?_
      refine q_getx fl_X12_124 hO sh_94 rfl fx_94_49 dX12_chance_73 ?_
      refine q_iconst dX12_chance_76 ?_
      refine q_aload_n 1 dX12_chance_77 rfl rfl ?_
      refine q_getx fl_X12_124 hO sh_94 rfl fx_94_49 dX12_chance_78 ?_
      refine q_iconst dX12_chance_81 ?_
      refine q_iald sh_131 (q_inA hO sh_131 (by decide)) dX12_chance_82 (fun x23 _ _ _ => ?_)
      refine q_iadd dX12_chance_83 ?_
      refine q_aload_n 1 dX12_chance_84 rfl rfl ?_
      refine q_getx fl_X12_124 hO sh_94 rfl fx_94_49 dX12_chance_85 ?_
      refine q_iconst dX12_chance_88 ?_
      refine q_iald sh_131 (q_inA hO sh_131 (by decide)) dX12_chance_89 (fun x24 _ _ _ => ?_)
      refine q_iast sh_131 (q_inA hO sh_131 (by decide)) dX12_chance_90 (fun M1 _ _ hM1 => ?_)
      have hO1 : q_Ok M1 := by rw [hM1]; exact q_Ok_arr (t := 0) hO sh_131 (by decide)
      refine q_aload_n 1 dX12_chance_91 rfl rfl ?_
      refine q_getx fl_X12_124 hO1 sh_94 rfl fx_94_49 dX12_chance_92 ?_
      refine q_iconst dX12_chance_95 ?_
      refine q_dup2 dX12_chance_96 rfl rfl ?_
      refine q_iald sh_131 (q_inA hO1 sh_131 (by decide)) dX12_chance_97 (fun x25 _ _ _ => ?_)
      refine q_iconst dX12_chance_98 ?_
      refine q_iadd dX12_chance_99 ?_
      refine q_iast sh_131 (q_inA hO1 sh_131 (by decide)) dX12_chance_100 (fun M2 _ _ hM2 => ?_)
      have hO2 : q_Ok M2 := by rw [hM2]; exact q_Ok_arr (t := 0) hO1 sh_131 (by decide)
      refine q_iinc (ls' := [(2, .inl (x2 + 1)), (4, .inl s0), (0, .inr (.inr 94)), (1, .inl x1), (3, .inl x3)]) 3 dX12_chance_101 rfl (by decide) rfl ?_
      refine q_sub [2, 3, 0, 4] rfl ?_
      exact tX12_chance_104 hd K22 hK22 x1 (x2 + 1) x3 M2 hO2
def fX12_chance_22  : Nat → Int → Int → Int → q_Mem → Option (Int × q_Mem)
  | 0, _, _, _, _ => none
  | n + 1, x1, x2, x3, M => if q_w x3 < q_w x1 then (q_bd (fX12_drawOf 100 M) fun x21 M1 => (q_ld M1 122 6 5).bind fun x22 => if q_w x21 < q_w x22 then ((fX12_chance_47 (fX12_chance_22 n) x1 x2 x3 1 M1)) else ((fX12_chance_47 (fX12_chance_22 n) x1 x2 x3 0 M1))) else (some (x2, M))
theorem tX12_chance_22 {d : Nat} (hd : 1 ≤ d) : ∀ (n : Nat) (x1 : Int) (x2 : Int) (x3 : Int) (M : q_Mem), q_Ok M → q_EX (d + 1) yX12_chance cX12_chance 5 (some .int) 22 [(0, .inr (.inr 94)), (1, .inl x1), (2, .inl x2), (3, .inl x3)] [] M (fX12_chance_22 n x1 x2 x3 M) := by
  intro n
  induction n with
  | zero => intro x1 x2 x3 M hO; exact q_none
  | succ n ih =>
    intro x1 x2 x3 M hO
    rw [fX12_chance_22]
    refine q_iload_n 3 dX12_chance_22 rfl rfl ?_
    refine q_iload_n 1 dX12_chance_23 rfl rfl ?_
    refine q_icmpge (tgt := 120) dX12_chance_24 (by decide) ?_ ?_
    · refine q_iload_n 2 dX12_chance_120 rfl rfl ?_
      exact q_ret dX12_chance_121 rfl
    · refine q_aload_n 0 dX12_chance_27 rfl rfl ?_
      refine q_bipush dX12_chance_28 (by decide) ?_
      refine q_callVi (As := [.inl 100]) hO mb_X12_drawOf mv_X12_drawOf ml_X12_519 sh_94 rfl dX12_chance_30 (fun _ => rfl) rfl (Nat.le_of_ble_eq_true rfl) rfl (Nat.le_of_ble_eq_true rfl) (tX12_drawOf 100 M hO) (fun x21 M1 _ hO1 => ?_)
      refine q_aload_n 0 dX12_chance_33 rfl rfl ?_
      refine q_getx fl_X12_96 hO1 sh_94 rfl fx_94_36 dX12_chance_34 ?_
      refine q_iconst dX12_chance_37 ?_
      refine q_iald sh_122 (q_inA hO1 sh_122 (by decide)) dX12_chance_38 (fun x22 _ _ _ => ?_)
      refine q_icmpge (tgt := 46) dX12_chance_39 (by decide) ?_ ?_
      · refine q_iconst dX12_chance_46 ?_
        refine q_sub [0, 1, 2, 3] rfl ?_
        exact tX12_chance_47 hd (fX12_chance_22 n) ih x1 x2 x3 0 M1 hO1
      · refine q_iconst dX12_chance_42 ?_
        refine q_goto (tgt := 47) dX12_chance_43 (by decide) ?_
        refine q_sub [0, 1, 2, 3] rfl ?_
        exact tX12_chance_47 hd (fX12_chance_22 n) ih x1 x2 x3 1 M1 hO1
def fX12_chance (x1 : Int) (M : q_Mem) : Option (Int × q_Mem) := q_bd (fX12_canWait x1 M) fun x21 M1 => if q_w x21 = 0 then (q_bd (fX12_refuses 3 M1) fun x22 M3 => some (x22, M3)) else (q_bd (fX12_keeps M1) fun _ M2 => (fX12_chance_22 q_FU x1 0 0 M2))
theorem tX12_chance {d : Nat} (hd : 2 ≤ d) (x1 : Int) (M : q_Mem) (hO : q_Ok M) : q_EX d yX12_chance cX12_chance 5 (some .int) 0 (q_args 0 [.inr (.inr 94), .inl x1]) [] M (fX12_chance x1 M) := by
  obtain ⟨d, rfl⟩ : ∃ d', d = d' + 1 := ⟨d - 1, by omega⟩
  have hd : 1 ≤ d := by omega
  show q_EX _ _ _ _ _ 0 [(0, .inr (.inr 94)), (1, .inl x1)] [] M _
  unfold fX12_chance
  refine q_aload_n 0 dX12_chance_0 rfl rfl ?_
  refine q_iload_n 1 dX12_chance_1 rfl rfl ?_
  refine q_callVi (As := [.inl x1]) hO mb_X12_canWait mv_X12_canWait ml_X12_505 sh_94 rfl dX12_chance_2 (fun _ => rfl) rfl (Nat.le_of_ble_eq_true rfl) rfl (Nat.le_of_ble_eq_true rfl) (tX12_canWait (by omega) x1 M hO) (fun x21 M1 _ hO1 => ?_)
  refine q_ifne (tgt := 14) dX12_chance_5 (by decide) ?_ ?_
  · refine q_aload_n 0 dX12_chance_14 rfl rfl ?_
    refine q_callVv (As := []) hO1 mb_X12_keeps mv_X12_keeps ml_X12_500 sh_94 rfl dX12_chance_15 (fun _ => rfl) rfl (Nat.le_of_ble_eq_true rfl) rfl (Nat.le_of_ble_eq_true rfl) (tX12_keeps M1 hO1) (fun _ M2 _ hO2 => ?_)
    refine q_iconst dX12_chance_18 ?_
    refine q_istore_n (ls' := [(2, .inl 0), (0, .inr (.inr 94)), (1, .inl x1)]) dX12_chance_19 rfl (by decide) rfl ?_
    refine q_iconst dX12_chance_20 ?_
    refine q_istore_n (ls' := [(3, .inl 0), (2, .inl 0), (0, .inr (.inr 94)), (1, .inl x1)]) dX12_chance_21 rfl (by decide) rfl ?_
    refine q_sub [2, 3, 1, 0] rfl ?_
    exact tX12_chance_22 hd q_FU x1 0 0 M2 hO2
  · refine q_aload_n 0 dX12_chance_8 rfl rfl ?_
    refine q_iconst dX12_chance_9 ?_
    refine q_callVi (As := [.inl 3]) hO1 mb_X12_refuses mv_X12_refuses ml_X12_491 sh_94 rfl dX12_chance_10 (fun _ => rfl) rfl (Nat.le_of_ble_eq_true rfl) rfl (Nat.le_of_ble_eq_true rfl) (tX12_refuses 3 M1 hO1) (fun x22 M3 _ hO3 => ?_)
    exact q_ret dX12_chance_13 rfl
def fX12_qOf (x1 : Int) (x2 : Int) (x4 : Int) (M : q_Mem) : Option (Int × q_Mem) := if q_w x1 = 0 then q_bd (fX12_isStall x2 M) fun x21 M1 => if q_w x21 = 0 then (some (0, M1)) else ((q_ld M1 132 48 ((6 * x4) + x2)).bind fun x22 => some ((q_w x22), M1)) else (q_bd (fX12_isStall x2 M) fun x23 M2 => if q_w x23 = 0 then (some (0, M2)) else ((q_ld M2 133 48 ((6 * x4) + x2)).bind fun x24 => if q_w x24 = 0 then (some (0, M2)) else (some (1, M2))))
theorem tX12_qOf {d : Nat} (hd : 2 ≤ d) (x1 : Int) (x2 : Int) (x4 : Int) (M : q_Mem) (hO : q_Ok M) : q_EX d yX12_qOf cX12_qOf 5 (some .long) 0 (q_args 0 [.inr (.inr 94), .inl x1, .inr (.inl x2), .inl x4]) [] M (fX12_qOf x1 x2 x4 M) := by
  obtain ⟨d, rfl⟩ : ∃ d', d = d' + 1 := ⟨d - 1, by omega⟩
  have hd : 1 ≤ d := by omega
  show q_EX _ _ _ _ _ 0 [(0, .inr (.inr 94)), (1, .inl x1), (2, .inr (.inl x2)), (4, .inl x4)] [] M _
  unfold fX12_qOf
  refine q_iload_n 1 dX12_qOf_0 rfl rfl ?_
  refine q_case (fun h1 => ?_) (fun h1 => ?_)
  · refine q_lsw (tgt := 20) (off := 19) dX12_qOf_1 (by decide) (by first | (rw [h1]; rfl) | rw [h1]) (by decide) ?_
    refine q_aload_n 0 dX12_qOf_20 rfl rfl ?_
    refine q_lload_n 2 dX12_qOf_21 rfl rfl ?_
    refine q_callVi (As := [.inr (.inl x2)]) hO mb_X12_isStall mv_X12_isStall ml_X12_441 sh_94 rfl dX12_qOf_22 (fun _ => rfl) rfl (Nat.le_of_ble_eq_true rfl) rfl (Nat.le_of_ble_eq_true rfl) (tX12_isStall (by omega) x2 M hO) (fun x21 M1 _ hO1 => ?_)
    refine q_ifeq (tgt := 45) dX12_qOf_25 (by decide) ?_ ?_
    · refine q_lconst (v := 0) dX12_qOf_45 (by decide) ?_
      exact q_ret dX12_qOf_46 rfl
    · refine q_aload_n 0 dX12_qOf_28 rfl rfl ?_
      refine q_getx fl_X12_127 hO1 sh_94 rfl fx_94_54 dX12_qOf_29 ?_
      refine q_bipush dX12_qOf_32 (by decide) ?_
      refine q_iload 3 dX12_qOf_34 rfl ?_
      refine q_imul dX12_qOf_36 ?_
      refine q_lload_n 2 dX12_qOf_37 rfl rfl ?_
      refine q_l2i dX12_qOf_38 ?_
      refine q_iadd dX12_qOf_39 ?_
      refine q_iald sh_132 (q_inA hO1 sh_132 (by decide)) dX12_qOf_40 (fun x22 _ _ _ => ?_)
      refine q_i2l dX12_qOf_41 ?_
      refine q_goto (tgt := 46) dX12_qOf_42 (by decide) ?_
      exact q_ret dX12_qOf_46 rfl
  · refine q_lsw (tgt := 47) (off := 46) dX12_qOf_1 (by decide) (by simp only [if_neg (Ne.symm h1), Op.lookupswitch.offset_cons]; rfl) (by decide) ?_
    refine q_aload_n 0 dX12_qOf_47 rfl rfl ?_
    refine q_lload_n 2 dX12_qOf_48 rfl rfl ?_
    refine q_callVi (As := [.inr (.inl x2)]) hO mb_X12_isStall mv_X12_isStall ml_X12_441 sh_94 rfl dX12_qOf_49 (fun _ => rfl) rfl (Nat.le_of_ble_eq_true rfl) rfl (Nat.le_of_ble_eq_true rfl) (tX12_isStall (by omega) x2 M hO) (fun x23 M2 _ hO2 => ?_)
    refine q_ifeq (tgt := 75) dX12_qOf_52 (by decide) ?_ ?_
    · refine q_lconst (v := 0) dX12_qOf_75 (by decide) ?_
      exact q_ret dX12_qOf_76 rfl
    · refine q_aload_n 0 dX12_qOf_55 rfl rfl ?_
      refine q_getx fl_X12_130 hO2 sh_94 rfl fx_94_55 dX12_qOf_56 ?_
      refine q_bipush dX12_qOf_59 (by decide) ?_
      refine q_iload 3 dX12_qOf_61 rfl ?_
      refine q_imul dX12_qOf_63 ?_
      refine q_lload_n 2 dX12_qOf_64 rfl rfl ?_
      refine q_l2i dX12_qOf_65 ?_
      refine q_iadd dX12_qOf_66 ?_
      refine q_zald sh_133 (q_inA hO2 sh_133 (by decide)) dX12_qOf_67 (fun x24 _ _ _ => ?_)
      refine q_ifeq (tgt := 75) dX12_qOf_68 (by decide) ?_ ?_
      · refine q_lconst (v := 0) dX12_qOf_75 (by decide) ?_
        exact q_ret dX12_qOf_76 rfl
      · refine q_lconst (v := 1) dX12_qOf_71 (by decide) ?_
        refine q_goto (tgt := 76) dX12_qOf_72 (by decide) ?_
        exact q_ret dX12_qOf_76 rfl
def fX12_qTold_162 (K7 : Int → Int → q_Mem → Option (Int × q_Mem)) (x1 : Int) (x2 : Int) (M : q_Mem) : Option (Int × q_Mem) := (K7 x1 (x2 + 1) M)
theorem tX12_qTold_162 {d : Nat} (hd : 2 ≤ d) (K7 : Int → Int → q_Mem → Option (Int × q_Mem)) (hK7 : ∀ (x1 : Int) (x2 : Int) (M : q_Mem), q_Ok M → q_EX (d + 1) yX12_qTold cX12_qTold 4 (some .long) 7 [(0, .inr (.inr 94)), (1, .inl x1), (2, .inl x2)] [] M (K7 x1 x2 M)) (x1 : Int) (x2 : Int) (M : q_Mem) (hO : q_Ok M) : q_EX (d + 1) yX12_qTold cX12_qTold 4 (some .long) 162 [(0, .inr (.inr 94)), (1, .inl x1), (2, .inl x2)] [] M (fX12_qTold_162 K7 x1 x2 M) := by
  unfold fX12_qTold_162
  refine q_iinc (ls' := [(2, .inl (x2 + 1)), (0, .inr (.inr 94)), (1, .inl x1)]) 2 dX12_qTold_162 rfl (by decide) rfl ?_
  refine q_goto (tgt := 7) dX12_qTold_165 (by decide) ?_
  refine q_sub [1, 2, 0] rfl ?_
  exact hK7 x1 (x2 + 1) M hO
def fX12_qTold_7  : Nat → Int → Int → q_Mem → Option (Int × q_Mem)
  | 0, _, _, _ => none
  | n + 1, x1, x2, M => if q_w x2 < q_w (M.2 94 91) then ((q_ld M 162 1700 x2).bind fun x22 => if q_w x22 < q_w 1000 then (if q_w x22 < q_w 60 then (if q_w x22 < q_w 40 then (if q_w x22 = q_w 13 then (q_bd (fX12_qPuts 1 M) fun _ M3 => (fX12_qTold_162 (fX12_qTold_7 n) x1 x2 M3)) else (if q_w x22 = q_w 12 then ((q_ld M 164 1700 ((M.2 94 97) - 1)).bind fun x23 => (q_sto M 164 1700 ((M.2 94 97) - 1) (1 - x23)).bind fun M2 => (fX12_qTold_162 (fX12_qTold_7 n) x1 x2 M2)) else (q_bd (fX12_qJoins x22 M) fun _ M1 => (fX12_qTold_162 (fX12_qTold_7 n) x1 x2 M1)))) else (q_bd (fX12_qPartOf (x22 - 40) x1 M) fun x24 M4 => q_bd (fX12_qClip x24 M4) fun x25 M5 => q_bd (fX12_qPuts x25 M5) fun _ M6 => (fX12_qTold_162 (fX12_qTold_7 n) x1 x2 M6))) else ((q_ld M 164 1700 ((M.2 94 97) - 1)).bind fun x26 => q_bd (fX12_qOf (x22 - 60) x26 x1 M) fun x27 M7 => q_bd (fX12_qClip x27 M7) fun x28 M8 => (q_sto M8 164 1700 ((M.2 94 97) - 1) x28).bind fun M9 => (fX12_qTold_162 (fX12_qTold_7 n) x1 x2 M9))) else (q_bd (fX12_qPuts (q_w (x22 - 1000)) M) fun _ M10 => (fX12_qTold_162 (fX12_qTold_7 n) x1 x2 M10))) else ((q_ld M 164 1700 0).bind fun x21 => some (x21, M))
theorem tX12_qTold_7 {d : Nat} (hd : 2 ≤ d) : ∀ (n : Nat) (x1 : Int) (x2 : Int) (M : q_Mem), q_Ok M → q_EX (d + 1) yX12_qTold cX12_qTold 4 (some .long) 7 [(0, .inr (.inr 94)), (1, .inl x1), (2, .inl x2)] [] M (fX12_qTold_7 n x1 x2 M) := by
  intro n
  induction n with
  | zero => intro x1 x2 M hO; exact q_none
  | succ n ih =>
    intro x1 x2 M hO
    rw [fX12_qTold_7]
    refine q_iload_n 2 dX12_qTold_7 rfl rfl ?_
    refine q_aload_n 0 dX12_qTold_8 rfl rfl ?_
    refine q_geti fl_X12_318 sh_94 (q_inO hO sh_94) rfl dX12_qTold_9 ?_
    refine q_icmpge (tgt := 168) dX12_qTold_12 (by decide) ?_ ?_
    · refine q_aload_n 0 dX12_qTold_168 rfl rfl ?_
      refine q_getx fl_X12_228 hO sh_94 rfl fx_94_96 dX12_qTold_169 ?_
      refine q_iconst dX12_qTold_172 ?_
      refine q_lald sh_164 (q_inA hO sh_164 (by decide)) dX12_qTold_173 (fun x21 _ _ _ => ?_)
      exact q_ret dX12_qTold_174 rfl
    · refine q_aload_n 0 dX12_qTold_15 rfl rfl ?_
      refine q_getx fl_X12_222 hO sh_94 rfl fx_94_90 dX12_qTold_16 ?_
      refine q_iload_n 2 dX12_qTold_19 rfl rfl ?_
      refine q_iald sh_162 (q_inA hO sh_162 (by decide)) dX12_qTold_20 (fun x22 _ _ _ => ?_)
      refine q_istore_n (ls' := [(3, .inl x22), (0, .inr (.inr 94)), (1, .inl x1), (2, .inl x2)]) dX12_qTold_21 rfl (by decide) rfl ?_
      refine q_iload_n 0 dX12_qTold_22 rfl rfl ?_
      refine q_sipush dX12_qTold_23 (by decide) ?_
      refine q_icmplt (tgt := 42) dX12_qTold_26 (by decide) ?_ ?_
      · refine q_iload_n 0 dX12_qTold_42 rfl rfl ?_
        refine q_bipush dX12_qTold_43 (by decide) ?_
        refine q_icmplt (tgt := 85) dX12_qTold_45 (by decide) ?_ ?_
        · refine q_iload_n 0 dX12_qTold_85 rfl rfl ?_
          refine q_bipush dX12_qTold_86 (by decide) ?_
          refine q_icmplt (tgt := 110) dX12_qTold_88 (by decide) ?_ ?_
          · refine q_iload_n 0 dX12_qTold_110 rfl rfl ?_
            refine q_bipush dX12_qTold_111 (by decide) ?_
            refine q_icmpne (tgt := 124) dX12_qTold_113 (by decide) ?_ ?_
            · refine q_iload_n 0 dX12_qTold_124 rfl rfl ?_
              refine q_bipush dX12_qTold_125 (by decide) ?_
              refine q_icmpne (tgt := 157) dX12_qTold_127 (by decide) ?_ ?_
              · refine q_aload_n 1 dX12_qTold_157 rfl rfl ?_
                refine q_iload_n 0 dX12_qTold_158 rfl rfl ?_
                refine q_callVv (As := [.inl x22]) hO mb_X12_qJoins mv_X12_qJoins ml_X12_396 sh_94 rfl dX12_qTold_159 (fun _ => rfl) rfl (Nat.le_of_ble_eq_true rfl) rfl (Nat.le_of_ble_eq_true rfl) (tX12_qJoins (by omega) x22 M hO) (fun _ M1 _ hO1 => ?_)
                refine q_sub [1, 2, 3] rfl ?_
                exact tX12_qTold_162 hd (fX12_qTold_7 n) ih x1 x2 M1 hO1
              · refine q_aload_n 1 dX12_qTold_130 rfl rfl ?_
                refine q_getx fl_X12_228 hO sh_94 rfl fx_94_96 dX12_qTold_131 ?_
                refine q_aload_n 1 dX12_qTold_134 rfl rfl ?_
                refine q_geti fl_X12_385 sh_94 (q_inO hO sh_94) rfl dX12_qTold_135 ?_
                refine q_iconst dX12_qTold_138 ?_
                refine q_isub dX12_qTold_139 ?_
                refine q_lconst (v := 1) dX12_qTold_140 (by decide) ?_
                refine q_aload_n 1 dX12_qTold_141 rfl rfl ?_
                refine q_getx fl_X12_228 hO sh_94 rfl fx_94_96 dX12_qTold_142 ?_
                refine q_aload_n 1 dX12_qTold_145 rfl rfl ?_
                refine q_geti fl_X12_385 sh_94 (q_inO hO sh_94) rfl dX12_qTold_146 ?_
                refine q_iconst dX12_qTold_149 ?_
                refine q_isub dX12_qTold_150 ?_
                refine q_lald sh_164 (q_inA hO sh_164 (by decide)) dX12_qTold_151 (fun x23 _ _ _ => ?_)
                refine q_lsub dX12_qTold_152 ?_
                refine q_last sh_164 (q_inA hO sh_164 (by decide)) dX12_qTold_153 (fun M2 _ _ hM2 => ?_)
                have hO2 : q_Ok M2 := by rw [hM2]; exact q_Ok_arr (t := 3) hO sh_164 (by decide)
                refine q_goto (tgt := 162) dX12_qTold_154 (by decide) ?_
                refine q_sub [1, 2, 3] rfl ?_
                exact tX12_qTold_162 hd (fX12_qTold_7 n) ih x1 x2 M2 hO2
            · refine q_aload_n 1 dX12_qTold_116 rfl rfl ?_
              refine q_lconst (v := 1) dX12_qTold_117 (by decide) ?_
              refine q_callVv (As := [.inr (.inl 1)]) hO mb_X12_qPuts mv_X12_qPuts ml_X12_388 sh_94 rfl dX12_qTold_118 (fun _ => rfl) rfl (Nat.le_of_ble_eq_true rfl) rfl (Nat.le_of_ble_eq_true rfl) (tX12_qPuts 1 M hO) (fun _ M3 _ hO3 => ?_)
              refine q_goto (tgt := 162) dX12_qTold_121 (by decide) ?_
              refine q_sub [1, 2, 3] rfl ?_
              exact tX12_qTold_162 hd (fX12_qTold_7 n) ih x1 x2 M3 hO3
          · refine q_aload_n 1 dX12_qTold_91 rfl rfl ?_
            refine q_aload_n 1 dX12_qTold_92 rfl rfl ?_
            refine q_iload_n 0 dX12_qTold_93 rfl rfl ?_
            refine q_bipush dX12_qTold_94 (by decide) ?_
            refine q_isub dX12_qTold_96 ?_
            refine q_iload_n 2 dX12_qTold_97 rfl rfl ?_
            refine q_callVl (As := [.inl (x22 - 40), .inl x1]) hO mb_X12_qPartOf mv_X12_qPartOf ml_X12_392 sh_94 rfl dX12_qTold_98 (fun _ => rfl) rfl (Nat.le_of_ble_eq_true rfl) rfl (Nat.le_of_ble_eq_true rfl) (tX12_qPartOf (by omega) (x22 - 40) x1 M hO) (fun x24 M4 _ hO4 => ?_)
            refine q_callSl (As := [.inr (.inl x24)]) hO4 mb_X12_qClip ms_X12_qClip ml_X12_580 dX12_qTold_101 (fun _ => rfl) rfl (Nat.le_of_ble_eq_true rfl) rfl (Nat.le_of_ble_eq_true rfl) (tX12_qClip x24 M4 hO4) (fun x25 M5 _ hO5 => ?_)
            refine q_callVv (As := [.inr (.inl x25)]) hO5 mb_X12_qPuts mv_X12_qPuts ml_X12_388 sh_94 rfl dX12_qTold_104 (fun _ => rfl) rfl (Nat.le_of_ble_eq_true rfl) rfl (Nat.le_of_ble_eq_true rfl) (tX12_qPuts x25 M5 hO5) (fun _ M6 _ hO6 => ?_)
            refine q_goto (tgt := 162) dX12_qTold_107 (by decide) ?_
            refine q_sub [1, 2, 3] rfl ?_
            exact tX12_qTold_162 hd (fX12_qTold_7 n) ih x1 x2 M6 hO6
        · refine q_aload_n 1 dX12_qTold_48 rfl rfl ?_
          refine q_getx fl_X12_228 hO sh_94 rfl fx_94_96 dX12_qTold_49 ?_
          refine q_aload_n 1 dX12_qTold_52 rfl rfl ?_
          refine q_geti fl_X12_385 sh_94 (q_inO hO sh_94) rfl dX12_qTold_53 ?_
          refine q_iconst dX12_qTold_56 ?_
          refine q_isub dX12_qTold_57 ?_
          refine q_aload_n 1 dX12_qTold_58 rfl rfl ?_
          refine q_iload_n 0 dX12_qTold_59 rfl rfl ?_
          refine q_bipush dX12_qTold_60 (by decide) ?_
          refine q_isub dX12_qTold_62 ?_
          refine q_aload_n 1 dX12_qTold_63 rfl rfl ?_
          refine q_getx fl_X12_228 hO sh_94 rfl fx_94_96 dX12_qTold_64 ?_
          refine q_aload_n 1 dX12_qTold_67 rfl rfl ?_
          refine q_geti fl_X12_385 sh_94 (q_inO hO sh_94) rfl dX12_qTold_68 ?_
          refine q_iconst dX12_qTold_71 ?_
          refine q_isub dX12_qTold_72 ?_
          refine q_lald sh_164 (q_inA hO sh_164 (by decide)) dX12_qTold_73 (fun x26 _ _ _ => ?_)
          refine q_iload_n 2 dX12_qTold_74 rfl rfl ?_
          refine q_callVl (As := [.inl (x22 - 60), .inr (.inl x26), .inl x1]) hO mb_X12_qOf mv_X12_qOf ml_X12_591 sh_94 rfl dX12_qTold_75 (fun _ => rfl) rfl (Nat.le_of_ble_eq_true rfl) rfl (Nat.le_of_ble_eq_true rfl) (tX12_qOf (by omega) (x22 - 60) x26 x1 M hO) (fun x27 M7 _ hO7 => ?_)
          refine q_callSl (As := [.inr (.inl x27)]) hO7 mb_X12_qClip ms_X12_qClip ml_X12_580 dX12_qTold_78 (fun _ => rfl) rfl (Nat.le_of_ble_eq_true rfl) rfl (Nat.le_of_ble_eq_true rfl) (tX12_qClip x27 M7 hO7) (fun x28 M8 _ hO8 => ?_)
          refine q_last sh_164 (q_inA hO8 sh_164 (by decide)) dX12_qTold_81 (fun M9 _ _ hM9 => ?_)
          have hO9 : q_Ok M9 := by rw [hM9]; exact q_Ok_arr (t := 3) hO8 sh_164 (by decide)
          refine q_goto (tgt := 162) dX12_qTold_82 (by decide) ?_
          refine q_sub [1, 2, 3] rfl ?_
          exact tX12_qTold_162 hd (fX12_qTold_7 n) ih x1 x2 M9 hO9
      · refine q_aload_n 1 dX12_qTold_29 rfl rfl ?_
        refine q_iload_n 0 dX12_qTold_30 rfl rfl ?_
        refine q_sipush dX12_qTold_31 (by decide) ?_
        refine q_isub dX12_qTold_34 ?_
        refine q_i2l dX12_qTold_35 ?_
        refine q_callVv (As := [.inr (.inl (q_w (x22 - 1000)))]) hO mb_X12_qPuts mv_X12_qPuts ml_X12_388 sh_94 rfl dX12_qTold_36 (fun _ => rfl) rfl (Nat.le_of_ble_eq_true rfl) rfl (Nat.le_of_ble_eq_true rfl) (tX12_qPuts (q_w (x22 - 1000)) M hO) (fun _ M10 _ hO10 => ?_)
        refine q_goto (tgt := 162) dX12_qTold_39 (by decide) ?_
        refine q_sub [1, 2, 3] rfl ?_
        exact tX12_qTold_162 hd (fX12_qTold_7 n) ih x1 x2 M10 hO10
def fX12_qTold (x1 : Int) (M : q_Mem) : Option (Int × q_Mem) := q_let (q_up M 94 97 0) fun M1 => (fX12_qTold_7 q_FU x1 0 M1)
theorem tX12_qTold {d : Nat} (hd : 3 ≤ d) (x1 : Int) (M : q_Mem) (hO : q_Ok M) : q_EX d yX12_qTold cX12_qTold 4 (some .long) 0 (q_args 0 [.inr (.inr 94), .inl x1]) [] M (fX12_qTold x1 M) := by
  obtain ⟨d, rfl⟩ : ∃ d', d = d' + 1 := ⟨d - 1, by omega⟩
  have hd : 2 ≤ d := by omega
  show q_EX _ _ _ _ _ 0 [(0, .inr (.inr 94)), (1, .inl x1)] [] M _
  unfold fX12_qTold
  refine q_aload_n 0 dX12_qTold_0 rfl rfl ?_
  refine q_iconst dX12_qTold_1 ?_
  refine q_puti fl_X12_385 sh_94 (q_inO hO sh_94) (fun h => q_Ok_put h sh_94 rfl) rfl dX12_qTold_2 (fun M1 hM1 => ?_)
  have hO1 : q_Ok M1 := by rw [hM1]; exact q_Ok_put hO sh_94 rfl
  refine q_iconst dX12_qTold_5 ?_
  refine q_istore_n (ls' := [(2, .inl 0), (0, .inr (.inr 94)), (1, .inl x1)]) dX12_qTold_6 rfl (by decide) rfl ?_
  refine q_sub [1, 2, 0] rfl ?_
  exact tX12_qTold_7 hd q_FU x1 0 M1 hO1
def fX12_qKind_76 (s0 : Int) (M : q_Mem) : Option (Int × q_Mem) := if q_w s0 = q_w 5 then (q_bd (fX12_asks 145 5 M) fun _ M1 => some (s0, M1)) else (some (s0, M))
theorem tX12_qKind_76 {d : Nat} (hd : 3 ≤ d) (s0 : Int) (M : q_Mem) (hO : q_Ok M) : q_EX (d + 1) yX12_qKind cX12_qKind 2 (some .int) 76 [(0, .inr (.inr 94))] [.inl s0] M (fX12_qKind_76 s0 M) := by
  unfold fX12_qKind_76
  refine q_istore_n (ls' := [(1, .inl s0), (0, .inr (.inr 94))]) dX12_qKind_76 rfl (by decide) rfl ?_
  refine q_iload_n 0 dX12_qKind_77 rfl rfl ?_
  refine q_iconst dX12_qKind_78 ?_
  refine q_icmpne (tgt := 90) dX12_qKind_79 (by decide) ?_ ?_
  · refine q_iload_n 0 dX12_qKind_90 rfl rfl ?_
    exact q_ret dX12_qKind_91 rfl
  · refine q_aload_n 1 dX12_qKind_82 rfl rfl ?_
    refine q_aload_n 1 dX12_qKind_83 rfl rfl ?_
    refine q_getx fl_X12_171 hO sh_94 rfl fx_94_73 dX12_qKind_84 ?_
    refine q_callVv (As := [.inr (.inr 145)]) hO mb_X12_asks mv_X12_asks ml_X12_299 sh_94 rfl dX12_qKind_87 (fun _ => rfl) rfl (Nat.le_of_ble_eq_true rfl) rfl (Nat.le_of_ble_eq_true rfl) (tX12_asks (by omega) 145 5 M hO sh_145) (fun _ M1 _ hO1 => ?_)
    refine q_iload_n 0 dX12_qKind_90 rfl rfl ?_
    exact q_ret dX12_qKind_91 rfl
def fX12_qKind (M : q_Mem) : Option (Int × q_Mem) := q_bd (fX12_takes 140 5 M) fun x21 M1 => if q_w x21 = 0 then (q_bd (fX12_takes 141 4 M1) fun x22 M2 => if q_w x22 = 0 then (q_bd (fX12_takes 142 5 M2) fun x23 M3 => if q_w x23 = 0 then (q_bd (fX12_takes 143 5 M3) fun x24 M4 => if q_w x24 = 0 then (q_bd (fX12_takes 144 4 M4) fun x25 M5 => if q_w x25 = 0 then ((fX12_qKind_76 5 M5)) else ((fX12_qKind_76 4 M5))) else ((fX12_qKind_76 3 M4))) else ((fX12_qKind_76 2 M3))) else ((fX12_qKind_76 1 M2))) else ((fX12_qKind_76 0 M1))
theorem tX12_qKind {d : Nat} (hd : 4 ≤ d) (M : q_Mem) (hO : q_Ok M) : q_EX d yX12_qKind cX12_qKind 2 (some .int) 0 (q_args 0 [.inr (.inr 94)]) [] M (fX12_qKind M) := by
  obtain ⟨d, rfl⟩ : ∃ d', d = d' + 1 := ⟨d - 1, by omega⟩
  have hd : 3 ≤ d := by omega
  show q_EX _ _ _ _ _ 0 [(0, .inr (.inr 94))] [] M _
  unfold fX12_qKind
  refine q_aload_n 0 dX12_qKind_0 rfl rfl ?_
  refine q_aload_n 0 dX12_qKind_1 rfl rfl ?_
  refine q_getx fl_X12_156 hO sh_94 rfl fx_94_68 dX12_qKind_2 ?_
  refine q_callVi (As := [.inr (.inr 140)]) hO mb_X12_takes mv_X12_takes ml_X12_264 sh_94 rfl dX12_qKind_5 (fun _ => rfl) rfl (Nat.le_of_ble_eq_true rfl) rfl (Nat.le_of_ble_eq_true rfl) (tX12_takes (by omega) 140 5 M hO sh_140) (fun x21 M1 _ hO1 => ?_)
  refine q_ifeq (tgt := 15) dX12_qKind_8 (by decide) ?_ ?_
  · refine q_aload_n 0 dX12_qKind_15 rfl rfl ?_
    refine q_aload_n 0 dX12_qKind_16 rfl rfl ?_
    refine q_getx fl_X12_159 hO1 sh_94 rfl fx_94_69 dX12_qKind_17 ?_
    refine q_callVi (As := [.inr (.inr 141)]) hO1 mb_X12_takes mv_X12_takes ml_X12_264 sh_94 rfl dX12_qKind_20 (fun _ => rfl) rfl (Nat.le_of_ble_eq_true rfl) rfl (Nat.le_of_ble_eq_true rfl) (tX12_takes (by omega) 141 4 M1 hO1 sh_141) (fun x22 M2 _ hO2 => ?_)
    refine q_ifeq (tgt := 30) dX12_qKind_23 (by decide) ?_ ?_
    · refine q_aload_n 0 dX12_qKind_30 rfl rfl ?_
      refine q_aload_n 0 dX12_qKind_31 rfl rfl ?_
      refine q_getx fl_X12_162 hO2 sh_94 rfl fx_94_70 dX12_qKind_32 ?_
      refine q_callVi (As := [.inr (.inr 142)]) hO2 mb_X12_takes mv_X12_takes ml_X12_264 sh_94 rfl dX12_qKind_35 (fun _ => rfl) rfl (Nat.le_of_ble_eq_true rfl) rfl (Nat.le_of_ble_eq_true rfl) (tX12_takes (by omega) 142 5 M2 hO2 sh_142) (fun x23 M3 _ hO3 => ?_)
      refine q_ifeq (tgt := 45) dX12_qKind_38 (by decide) ?_ ?_
      · refine q_aload_n 0 dX12_qKind_45 rfl rfl ?_
        refine q_aload_n 0 dX12_qKind_46 rfl rfl ?_
        refine q_getx fl_X12_165 hO3 sh_94 rfl fx_94_71 dX12_qKind_47 ?_
        refine q_callVi (As := [.inr (.inr 143)]) hO3 mb_X12_takes mv_X12_takes ml_X12_264 sh_94 rfl dX12_qKind_50 (fun _ => rfl) rfl (Nat.le_of_ble_eq_true rfl) rfl (Nat.le_of_ble_eq_true rfl) (tX12_takes (by omega) 143 5 M3 hO3 sh_143) (fun x24 M4 _ hO4 => ?_)
        refine q_ifeq (tgt := 60) dX12_qKind_53 (by decide) ?_ ?_
        · refine q_aload_n 0 dX12_qKind_60 rfl rfl ?_
          refine q_aload_n 0 dX12_qKind_61 rfl rfl ?_
          refine q_getx fl_X12_168 hO4 sh_94 rfl fx_94_72 dX12_qKind_62 ?_
          refine q_callVi (As := [.inr (.inr 144)]) hO4 mb_X12_takes mv_X12_takes ml_X12_264 sh_94 rfl dX12_qKind_65 (fun _ => rfl) rfl (Nat.le_of_ble_eq_true rfl) rfl (Nat.le_of_ble_eq_true rfl) (tX12_takes (by omega) 144 4 M4 hO4 sh_144) (fun x25 M5 _ hO5 => ?_)
          refine q_ifeq (tgt := 75) dX12_qKind_68 (by decide) ?_ ?_
          · refine q_iconst dX12_qKind_75 ?_
            refine q_sub [0] rfl ?_
            exact tX12_qKind_76 hd 5 M5 hO5
          · refine q_iconst dX12_qKind_71 ?_
            refine q_goto (tgt := 76) dX12_qKind_72 (by decide) ?_
            refine q_sub [0] rfl ?_
            exact tX12_qKind_76 hd 4 M5 hO5
        · refine q_iconst dX12_qKind_56 ?_
          refine q_goto (tgt := 76) dX12_qKind_57 (by decide) ?_
          refine q_sub [0] rfl ?_
          exact tX12_qKind_76 hd 3 M4 hO4
      · refine q_iconst dX12_qKind_41 ?_
        refine q_goto (tgt := 76) dX12_qKind_42 (by decide) ?_
        refine q_sub [0] rfl ?_
        exact tX12_qKind_76 hd 2 M3 hO3
    · refine q_iconst dX12_qKind_26 ?_
      refine q_goto (tgt := 76) dX12_qKind_27 (by decide) ?_
      refine q_sub [0] rfl ?_
      exact tX12_qKind_76 hd 1 M2 hO2
  · refine q_iconst dX12_qKind_11 ?_
    refine q_goto (tgt := 76) dX12_qKind_12 (by decide) ?_
    refine q_sub [0] rfl ?_
    exact tX12_qKind_76 hd 0 M1 hO1
def fX12_qTakes_133 (M : q_Mem) : Option (Int × q_Mem) := q_let (q_up M 94 99 0) fun M1 => some (0, M1)
theorem tX12_qTakes_133 {d : Nat} (M : q_Mem) (hO : q_Ok M) : q_EX d yX12_qTakes cX12_qTakes 6 none 133 [(0, .inr (.inr 94))] [] M (fX12_qTakes_133 M) := by
  unfold fX12_qTakes_133
  refine q_aload_n 0 dX12_qTakes_133 rfl rfl ?_
  refine q_iconst dX12_qTakes_134 ?_
  refine q_putz fl_X12_598 sh_94 (q_inO hO sh_94) (fun h => q_Ok_put h sh_94 rfl) rfl (by decide) dX12_qTakes_135 (fun M1 hM1 => ?_)
  have hO1 : q_Ok M1 := by rw [hM1]; exact q_Ok_put hO sh_94 rfl
  exact q_ret dX12_qTakes_138 rfl
def fX12_qTakes_128 (x2 : Int) (M : q_Mem) : Option (Int × q_Mem) := q_let (q_up M 94 98 x2) fun M1 => (fX12_qTakes_133 M1)
theorem tX12_qTakes_128 {d : Nat} (x2 : Int) (M : q_Mem) (hO : q_Ok M) : q_EX d yX12_qTakes cX12_qTakes 6 none 128 [(0, .inr (.inr 94)), (2, .inr (.inl x2))] [] M (fX12_qTakes_128 x2 M) := by
  unfold fX12_qTakes_128
  refine q_aload_n 0 dX12_qTakes_128 rfl rfl ?_
  refine q_lload_n 1 dX12_qTakes_129 rfl rfl ?_
  refine q_putl fl_X12_595 sh_94 (q_inO hO sh_94) (fun h => q_Ok_put h sh_94 rfl) rfl dX12_qTakes_130 (fun M1 hM1 => ?_)
  have hO1 : q_Ok M1 := by rw [hM1]; exact q_Ok_put hO sh_94 rfl
  refine q_sub [0] rfl ?_
  exact tX12_qTakes_133 M1 hO1
def fX12_qTakes_90 (x1 : Int) (x2 : Int) (M : q_Mem) : Option (Int × q_Mem) := if q_w 3 < q_w x1 then (if q_w (M.2 94 99) = 0 then (if q_w x1 = q_w 4 then (if 0 < q_w (q_lcmp x2 (M.2 94 98)) then ((fX12_qTakes_128 x2 M)) else ((fX12_qTakes_133 M))) else (if q_w (q_lcmp x2 (M.2 94 98)) < 0 then ((fX12_qTakes_128 x2 M)) else ((fX12_qTakes_133 M)))) else ((fX12_qTakes_128 x2 M))) else ((fX12_qTakes_133 M))
theorem tX12_qTakes_90 {d : Nat} (x1 : Int) (x2 : Int) (M : q_Mem) (hO : q_Ok M) : q_EX d yX12_qTakes cX12_qTakes 6 none 90 [(0, .inr (.inr 94)), (1, .inl x1), (2, .inr (.inl x2))] [] M (fX12_qTakes_90 x1 x2 M) := by
  unfold fX12_qTakes_90
  refine q_iload_n 1 dX12_qTakes_90 rfl rfl ?_
  refine q_iconst dX12_qTakes_91 ?_
  refine q_icmple (tgt := 133) dX12_qTakes_92 (by decide) ?_ ?_
  · refine q_sub [0] rfl ?_
    exact tX12_qTakes_133 M hO
  · refine q_aload_n 0 dX12_qTakes_95 rfl rfl ?_
    refine q_geti fl_X12_598 sh_94 (q_inO hO sh_94) rfl dX12_qTakes_96 ?_
    refine q_ifne (tgt := 128) dX12_qTakes_99 (by decide) ?_ ?_
    · refine q_sub [0, 2] rfl ?_
      exact tX12_qTakes_128 x2 M hO
    · refine q_iload_n 1 dX12_qTakes_102 rfl rfl ?_
      refine q_iconst dX12_qTakes_103 ?_
      refine q_icmpne (tgt := 119) dX12_qTakes_104 (by decide) ?_ ?_
      · refine q_lload_n 2 dX12_qTakes_119 rfl rfl ?_
        refine q_aload_n 0 dX12_qTakes_120 rfl rfl ?_
        refine q_getl fl_X12_595 sh_94 (q_inO hO sh_94) rfl dX12_qTakes_121 ?_
        refine q_lcmpR dX12_qTakes_124 ?_
        refine q_ifge (tgt := 133) dX12_qTakes_125 (by decide) ?_ ?_
        · refine q_sub [0] rfl ?_
          exact tX12_qTakes_133 M hO
        · refine q_sub [0, 2] rfl ?_
          exact tX12_qTakes_128 x2 M hO
      · refine q_lload_n 2 dX12_qTakes_107 rfl rfl ?_
        refine q_aload_n 0 dX12_qTakes_108 rfl rfl ?_
        refine q_getl fl_X12_595 sh_94 (q_inO hO sh_94) rfl dX12_qTakes_109 ?_
        refine q_lcmpR dX12_qTakes_112 ?_
        refine q_ifle (tgt := 133) dX12_qTakes_113 (by decide) ?_ ?_
        · refine q_sub [0] rfl ?_
          exact tX12_qTakes_133 M hO
        · refine q_goto (tgt := 128) dX12_qTakes_116 (by decide) ?_
          refine q_sub [0, 2] rfl ?_
          exact tX12_qTakes_128 x2 M hO
def fX12_qTakes_75 (x1 : Int) (x2 : Int) (M : q_Mem) : Option (Int × q_Mem) := if q_w x1 = q_w 3 then (q_let (q_up M 94 98 ((M.2 94 98) + x2)) fun M1 => (fX12_qTakes_90 x1 x2 M1)) else ((fX12_qTakes_90 x1 x2 M))
theorem tX12_qTakes_75 {d : Nat} (x1 : Int) (x2 : Int) (M : q_Mem) (hO : q_Ok M) : q_EX d yX12_qTakes cX12_qTakes 6 none 75 [(0, .inr (.inr 94)), (1, .inl x1), (2, .inr (.inl x2))] [] M (fX12_qTakes_75 x1 x2 M) := by
  unfold fX12_qTakes_75
  refine q_iload_n 1 dX12_qTakes_75 rfl rfl ?_
  refine q_iconst dX12_qTakes_76 ?_
  refine q_icmpne (tgt := 90) dX12_qTakes_77 (by decide) ?_ ?_
  · refine q_sub [0, 1, 2] rfl ?_
    exact tX12_qTakes_90 x1 x2 M hO
  · refine q_aload_n 0 dX12_qTakes_80 rfl rfl ?_
    refine q_dup dX12_qTakes_81 rfl ?_
    refine q_getl fl_X12_595 sh_94 (q_inO hO sh_94) rfl dX12_qTakes_82 ?_
    refine q_lload_n 2 dX12_qTakes_85 rfl rfl ?_
    refine q_ladd dX12_qTakes_86 ?_
    refine q_putl fl_X12_595 sh_94 (q_inO hO sh_94) (fun h => q_Ok_put h sh_94 rfl) rfl dX12_qTakes_87 (fun M1 hM1 => ?_)
    have hO1 : q_Ok M1 := by rw [hM1]; exact q_Ok_put hO sh_94 rfl
    refine q_sub [0, 1, 2] rfl ?_
    exact tX12_qTakes_90 x1 x2 M1 hO1
def fX12_qTakes_55 (x1 : Int) (x2 : Int) (x5 : Int) (M : q_Mem) : Option (Int × q_Mem) := if q_w x1 = q_w 2 then (if q_w x5 = 0 then ((fX12_qTakes_75 x1 x2 M)) else (q_let (q_up M 94 98 ((M.2 94 98) + 1)) fun M1 => (fX12_qTakes_75 x1 x2 M1))) else ((fX12_qTakes_75 x1 x2 M))
theorem tX12_qTakes_55 {d : Nat} (x1 : Int) (x2 : Int) (x5 : Int) (M : q_Mem) (hO : q_Ok M) : q_EX d yX12_qTakes cX12_qTakes 6 none 55 [(0, .inr (.inr 94)), (1, .inl x1), (2, .inr (.inl x2)), (5, .inl x5)] [] M (fX12_qTakes_55 x1 x2 x5 M) := by
  unfold fX12_qTakes_55
  refine q_iload_n 1 dX12_qTakes_55 rfl rfl ?_
  refine q_iconst dX12_qTakes_56 ?_
  refine q_icmpne (tgt := 75) dX12_qTakes_57 (by decide) ?_ ?_
  · refine q_sub [0, 1, 2] rfl ?_
    exact tX12_qTakes_75 x1 x2 M hO
  · refine q_iload 3 dX12_qTakes_60 rfl ?_
    refine q_ifeq (tgt := 75) dX12_qTakes_62 (by decide) ?_ ?_
    · refine q_sub [0, 1, 2] rfl ?_
      exact tX12_qTakes_75 x1 x2 M hO
    · refine q_aload_n 0 dX12_qTakes_65 rfl rfl ?_
      refine q_dup dX12_qTakes_66 rfl ?_
      refine q_getl fl_X12_595 sh_94 (q_inO hO sh_94) rfl dX12_qTakes_67 ?_
      refine q_lconst (v := 1) dX12_qTakes_70 (by decide) ?_
      refine q_ladd dX12_qTakes_71 ?_
      refine q_putl fl_X12_595 sh_94 (q_inO hO sh_94) (fun h => q_Ok_put h sh_94 rfl) rfl dX12_qTakes_72 (fun M1 hM1 => ?_)
      have hO1 : q_Ok M1 := by rw [hM1]; exact q_Ok_put hO sh_94 rfl
      refine q_sub [0, 1, 2] rfl ?_
      exact tX12_qTakes_75 x1 x2 M1 hO1
def fX12_qTakes_48 (x1 : Int) (x2 : Int) (x4 : Int) (x5 : Int) (M : q_Mem) : Option (Int × q_Mem) := q_let (q_up M 94 98 (q_w x4)) fun M1 => (fX12_qTakes_55 x1 x2 x5 M1)
theorem tX12_qTakes_48 {d : Nat} (x1 : Int) (x2 : Int) (x4 : Int) (x5 : Int) (M : q_Mem) (hO : q_Ok M) : q_EX d yX12_qTakes cX12_qTakes 6 none 48 [(0, .inr (.inr 94)), (1, .inl x1), (2, .inr (.inl x2)), (4, .inl x4), (5, .inl x5)] [] M (fX12_qTakes_48 x1 x2 x4 x5 M) := by
  unfold fX12_qTakes_48
  refine q_aload_n 0 dX12_qTakes_48 rfl rfl ?_
  refine q_iload 3 dX12_qTakes_49 rfl ?_
  refine q_i2l dX12_qTakes_51 ?_
  refine q_putl fl_X12_595 sh_94 (q_inO hO sh_94) (fun h => q_Ok_put h sh_94 rfl) rfl dX12_qTakes_52 (fun M1 hM1 => ?_)
  have hO1 : q_Ok M1 := by rw [hM1]; exact q_Ok_put hO sh_94 rfl
  refine q_sub [0, 1, 2, 4] rfl ?_
  exact tX12_qTakes_55 x1 x2 x5 M1 hO1
def fX12_qTakes_38 (x1 : Int) (x2 : Int) (x4 : Int) (x5 : Int) (M : q_Mem) : Option (Int × q_Mem) := if q_w x1 = q_w 1 then (if q_w x5 = 0 then ((fX12_qTakes_55 x1 x2 x5 M)) else ((fX12_qTakes_48 x1 x2 x4 x5 M))) else ((fX12_qTakes_55 x1 x2 x5 M))
theorem tX12_qTakes_38 {d : Nat} (x1 : Int) (x2 : Int) (x4 : Int) (x5 : Int) (M : q_Mem) (hO : q_Ok M) : q_EX d yX12_qTakes cX12_qTakes 6 none 38 [(0, .inr (.inr 94)), (1, .inl x1), (2, .inr (.inl x2)), (4, .inl x4), (5, .inl x5)] [] M (fX12_qTakes_38 x1 x2 x4 x5 M) := by
  unfold fX12_qTakes_38
  refine q_iload_n 1 dX12_qTakes_38 rfl rfl ?_
  refine q_iconst dX12_qTakes_39 ?_
  refine q_icmpne (tgt := 55) dX12_qTakes_40 (by decide) ?_ ?_
  · refine q_sub [0, 1, 2, 4] rfl ?_
    exact tX12_qTakes_55 x1 x2 x5 M hO
  · refine q_iload 4 dX12_qTakes_43 rfl ?_
    refine q_ifeq (tgt := 55) dX12_qTakes_45 (by decide) ?_ ?_
    · refine q_sub [0, 1, 2, 4] rfl ?_
      exact tX12_qTakes_55 x1 x2 x5 M hO
    · refine q_sub [0, 1, 2, 3, 4] rfl ?_
      exact tX12_qTakes_48 x1 x2 x4 x5 M hO
def fX12_qTakes_16 (x1 : Int) (x2 : Int) (x4 : Int) (s0 : Int) (M : q_Mem) : Option (Int × q_Mem) := if q_w x1 = 0 then (if q_w s0 = 0 then ((fX12_qTakes_38 x1 x2 x4 s0 M)) else (if q_w (q_lcmp (M.2 94 98) (-1)) = 0 then ((fX12_qTakes_48 x1 x2 x4 s0 M)) else ((fX12_qTakes_38 x1 x2 x4 s0 M)))) else ((fX12_qTakes_38 x1 x2 x4 s0 M))
theorem tX12_qTakes_16 {d : Nat} (x1 : Int) (x2 : Int) (x4 : Int) (s0 : Int) (M : q_Mem) (hO : q_Ok M) : q_EX d yX12_qTakes cX12_qTakes 6 none 16 [(0, .inr (.inr 94)), (1, .inl x1), (2, .inr (.inl x2)), (4, .inl x4)] [.inl s0] M (fX12_qTakes_16 x1 x2 x4 s0 M) := by
  unfold fX12_qTakes_16
  refine q_istore (ls' := [(5, .inl s0), (0, .inr (.inr 94)), (1, .inl x1), (2, .inr (.inl x2)), (4, .inl x4)]) dX12_qTakes_16 (by decide) rfl ?_
  refine q_iload_n 2 dX12_qTakes_18 rfl rfl ?_
  refine q_ifne (tgt := 38) dX12_qTakes_19 (by decide) ?_ ?_
  · refine q_sub [1, 2, 3, 4, 0] rfl ?_
    exact tX12_qTakes_38 x1 x2 x4 s0 M hO
  · refine q_iload 0 dX12_qTakes_22 rfl ?_
    refine q_ifeq (tgt := 38) dX12_qTakes_24 (by decide) ?_ ?_
    · refine q_sub [1, 2, 3, 4, 0] rfl ?_
      exact tX12_qTakes_38 x1 x2 x4 s0 M hO
    · refine q_aload_n 1 dX12_qTakes_27 rfl rfl ?_
      refine q_getl fl_X12_595 sh_94 (q_inO hO sh_94) rfl dX12_qTakes_28 ?_
      refine q_ldc2 dX12_qTakes_31 kl_X12_482 (n := (-1)) rfl ?_
      refine q_lcmpR dX12_qTakes_34 ?_
      refine q_ifeq (tgt := 48) dX12_qTakes_35 (by decide) ?_ ?_
      · refine q_sub [1, 2, 3, 4, 0] rfl ?_
        exact tX12_qTakes_48 x1 x2 x4 s0 M hO
      · refine q_sub [1, 2, 3, 4, 0] rfl ?_
        exact tX12_qTakes_38 x1 x2 x4 s0 M hO
def fX12_qTakes_15 (x1 : Int) (x2 : Int) (x4 : Int) (M : q_Mem) : Option (Int × q_Mem) := (fX12_qTakes_16 x1 x2 x4 0 M)
theorem tX12_qTakes_15 {d : Nat} (x1 : Int) (x2 : Int) (x4 : Int) (M : q_Mem) (hO : q_Ok M) : q_EX d yX12_qTakes cX12_qTakes 6 none 15 [(0, .inr (.inr 94)), (1, .inl x1), (2, .inr (.inl x2)), (4, .inl x4)] [] M (fX12_qTakes_15 x1 x2 x4 M) := by
  unfold fX12_qTakes_15
  refine q_iconst dX12_qTakes_15 ?_
  refine q_sub [0, 1, 2, 3] rfl ?_
  exact tX12_qTakes_16 x1 x2 x4 0 M hO
def fX12_qTakes (x1 : Int) (x2 : Int) (x4 : Int) (M : q_Mem) : Option (Int × q_Mem) := if q_w x1 < q_w 3 then (if q_w (q_lcmp x2 1) = 0 then ((fX12_qTakes_16 x1 x2 x4 1 M)) else ((fX12_qTakes_15 x1 x2 x4 M))) else ((fX12_qTakes_15 x1 x2 x4 M))
theorem tX12_qTakes {d : Nat} (x1 : Int) (x2 : Int) (x4 : Int) (M : q_Mem) (hO : q_Ok M) : q_EX d yX12_qTakes cX12_qTakes 6 none 0 (q_args 0 [.inr (.inr 94), .inl x1, .inr (.inl x2), .inl x4]) [] M (fX12_qTakes x1 x2 x4 M) := by
  show q_EX _ _ _ _ _ 0 [(0, .inr (.inr 94)), (1, .inl x1), (2, .inr (.inl x2)), (4, .inl x4)] [] M _
  unfold fX12_qTakes
  refine q_iload_n 1 dX12_qTakes_0 rfl rfl ?_
  refine q_iconst dX12_qTakes_1 ?_
  refine q_icmpge (tgt := 15) dX12_qTakes_2 (by decide) ?_ ?_
  · refine q_sub [0, 1, 2, 3] rfl ?_
    exact tX12_qTakes_15 x1 x2 x4 M hO
  · refine q_lload_n 2 dX12_qTakes_5 rfl rfl ?_
    refine q_lconst (v := 1) dX12_qTakes_6 (by decide) ?_
    refine q_lcmpR dX12_qTakes_7 ?_
    refine q_ifne (tgt := 15) dX12_qTakes_8 (by decide) ?_ ?_
    · refine q_sub [0, 1, 2, 3] rfl ?_
      exact tX12_qTakes_15 x1 x2 x4 M hO
    · refine q_iconst dX12_qTakes_11 ?_
      refine q_goto (tgt := 16) dX12_qTakes_12 (by decide) ?_
      refine q_sub [0, 1, 2, 3] rfl ?_
      exact tX12_qTakes_16 x1 x2 x4 1 M hO
def fX12_ask_202  : Nat → Int → Int → q_Mem → Option (Int × q_Mem)
  | 0, _, _, _ => none
  | n + 1, x1, x2, M => q_bd (fX12_coinMany M) fun x21 M1 => if q_w x2 < q_w x21 then (q_bd (fX12_qTold x2 M1) fun x22 M2 => q_bd (fX12_qTakes x1 x22 x2 M2) fun _ M3 => (fX12_ask_202 n x1 (x2 + 1) M3)) else (some ((M1.2 94 98), M1))
theorem tX12_ask_202 {d : Nat} (hd : 8 ≤ d) : ∀ (n : Nat) (x1 : Int) (x2 : Int) (M : q_Mem), q_Ok M → q_EX (d + 1) yX12_ask cX12_ask 3 (some .long) 202 [(0, .inr (.inr 94)), (1, .inl x1), (2, .inl x2)] [] M (fX12_ask_202 n x1 x2 M) := by
  intro n
  induction n with
  | zero => intro x1 x2 M hO; exact q_none
  | succ n ih =>
    intro x1 x2 M hO
    rw [fX12_ask_202]
    refine q_iload_n 2 dX12_ask_202 rfl rfl ?_
    refine q_aload_n 0 dX12_ask_203 rfl rfl ?_
    refine q_callVi (As := []) hO mb_X12_coinMany mv_X12_coinMany ml_X12_379 sh_94 rfl dX12_ask_204 (fun _ => rfl) rfl (Nat.le_of_ble_eq_true rfl) rfl (Nat.le_of_ble_eq_true rfl) (tX12_coinMany M hO) (fun x21 M1 _ hO1 => ?_)
    refine q_icmpge (tgt := 227) dX12_ask_207 (by decide) ?_ ?_
    · refine q_aload_n 0 dX12_ask_227 rfl rfl ?_
      refine q_getl fl_X12_595 sh_94 (q_inO hO1 sh_94) rfl dX12_ask_228 ?_
      exact q_ret dX12_ask_231 rfl
    · refine q_aload_n 0 dX12_ask_210 rfl rfl ?_
      refine q_iload_n 1 dX12_ask_211 rfl rfl ?_
      refine q_aload_n 0 dX12_ask_212 rfl rfl ?_
      refine q_iload_n 2 dX12_ask_213 rfl rfl ?_
      refine q_callVl (As := [.inl x2]) hO1 mb_X12_qTold mv_X12_qTold ml_X12_609 sh_94 rfl dX12_ask_214 (fun _ => rfl) rfl (Nat.le_of_ble_eq_true rfl) rfl (Nat.le_of_ble_eq_true rfl) (tX12_qTold (by omega) x2 M1 hO1) (fun x22 M2 _ hO2 => ?_)
      refine q_iload_n 2 dX12_ask_217 rfl rfl ?_
      refine q_callVv (As := [.inl x1, .inr (.inl x22), .inl x2]) hO2 mb_X12_qTakes mv_X12_qTakes ml_X12_613 sh_94 rfl dX12_ask_218 (fun _ => rfl) rfl (Nat.le_of_ble_eq_true rfl) rfl (Nat.le_of_ble_eq_true rfl) (tX12_qTakes x1 x22 x2 M2 hO2) (fun _ M3 _ hO3 => ?_)
      refine q_iinc (ls' := [(2, .inl (x2 + 1)), (0, .inr (.inr 94)), (1, .inl x1)]) 2 dX12_ask_221 rfl (by decide) rfl ?_
      refine q_goto (tgt := 202) dX12_ask_224 (by decide) ?_
      refine q_sub [1, 2, 0] rfl ?_
      exact ih x1 (x2 + 1) M3 hO3
def fX12_ask_173 (x1 : Int) (s0 : Int) (M : q_Mem) : Option (Int × q_Mem) := q_let (q_up M 94 98 s0) fun M1 => q_let (q_up M1 94 99 1) fun M2 => q_bd (fX12_laysNow M2) fun _ M3 => (q_ld M3 131 141 0).bind fun x21 => q_let (q_up M3 94 51 x21) fun M4 => q_let (q_up M4 94 48 2) fun M5 => (fX12_ask_202 q_FU x1 0 M5)
theorem tX12_ask_173 {d : Nat} (hd : 8 ≤ d) (x1 : Int) (s0 : Int) (M : q_Mem) (hO : q_Ok M) : q_EX (d + 1) yX12_ask cX12_ask 3 (some .long) 173 [(0, .inr (.inr 94)), (1, .inl x1)] [.inr (.inl s0), .inr (.inr 94)] M (fX12_ask_173 x1 s0 M) := by
  unfold fX12_ask_173
  refine q_putl fl_X12_595 sh_94 (q_inO hO sh_94) (fun h => q_Ok_put h sh_94 rfl) rfl dX12_ask_173 (fun M1 hM1 => ?_)
  have hO1 : q_Ok M1 := by rw [hM1]; exact q_Ok_put hO sh_94 rfl
  refine q_aload_n 0 dX12_ask_176 rfl rfl ?_
  refine q_iconst dX12_ask_177 ?_
  refine q_putz fl_X12_598 sh_94 (q_inO hO1 sh_94) (fun h => q_Ok_put h sh_94 rfl) rfl (by decide) dX12_ask_178 (fun M2 hM2 => ?_)
  have hO2 : q_Ok M2 := by rw [hM2]; exact q_Ok_put hO1 sh_94 rfl
  refine q_aload_n 0 dX12_ask_181 rfl rfl ?_
  refine q_callVv (As := []) hO2 mb_X12_laysNow mv_X12_laysNow ml_X12_606 sh_94 rfl dX12_ask_182 (fun _ => rfl) rfl (Nat.le_of_ble_eq_true rfl) rfl (Nat.le_of_ble_eq_true rfl) (tX12_laysNow (by omega) M2 hO2) (fun _ M3 _ hO3 => ?_)
  refine q_aload_n 0 dX12_ask_185 rfl rfl ?_
  refine q_aload_n 0 dX12_ask_186 rfl rfl ?_
  refine q_getx fl_X12_124 hO3 sh_94 rfl fx_94_49 dX12_ask_187 ?_
  refine q_iconst dX12_ask_190 ?_
  refine q_iald sh_131 (q_inA hO3 sh_131 (by decide)) dX12_ask_191 (fun x21 _ _ _ => ?_)
  refine q_puti fl_X12_405 sh_94 (q_inO hO3 sh_94) (fun h => q_Ok_put h sh_94 rfl) rfl dX12_ask_192 (fun M4 hM4 => ?_)
  have hO4 : q_Ok M4 := by rw [hM4]; exact q_Ok_put hO3 sh_94 rfl
  refine q_aload_n 0 dX12_ask_195 rfl rfl ?_
  refine q_iconst dX12_ask_196 ?_
  refine q_puti fl_X12_292 sh_94 (q_inO hO4 sh_94) (fun h => q_Ok_put h sh_94 rfl) rfl dX12_ask_197 (fun M5 hM5 => ?_)
  have hO5 : q_Ok M5 := by rw [hM5]; exact q_Ok_put hO4 sh_94 rfl
  refine q_iconst dX12_ask_200 ?_
  refine q_istore_n (ls' := [(2, .inl 0), (0, .inr (.inr 94)), (1, .inl x1)]) dX12_ask_201 rfl (by decide) rfl ?_
  refine q_sub [1, 2, 0] rfl ?_
  exact tX12_ask_202 hd q_FU x1 0 M5 hO5
def fX12_ask_133 (x1 : Int) (M : q_Mem) : Option (Int × q_Mem) := q_let (q_up M 94 7 (M.2 94 5)) fun M1 => q_let (q_up M1 94 8 (M1.2 94 6)) fun M2 => if q_w (M2.2 94 5) = 0 then (if q_w x1 < q_w 2 then ((fX12_ask_173 x1 (-1) M2)) else ((fX12_ask_173 x1 0 M2))) else (some ((-1000000000000000), M2))
theorem tX12_ask_133 {d : Nat} (hd : 8 ≤ d) (x1 : Int) (M : q_Mem) (hO : q_Ok M) : q_EX (d + 1) yX12_ask cX12_ask 3 (some .long) 133 [(0, .inr (.inr 94)), (1, .inl x1)] [] M (fX12_ask_133 x1 M) := by
  unfold fX12_ask_133
  refine q_aload_n 0 dX12_ask_133 rfl rfl ?_
  refine q_aload_n 0 dX12_ask_134 rfl rfl ?_
  refine q_geti fl_X12_237 sh_94 (q_inO hO sh_94) rfl dX12_ask_135 ?_
  refine q_puti fl_X12_360 sh_94 (q_inO hO sh_94) (fun h => q_Ok_put h sh_94 rfl) rfl dX12_ask_138 (fun M1 hM1 => ?_)
  have hO1 : q_Ok M1 := by rw [hM1]; exact q_Ok_put hO sh_94 rfl
  refine q_aload_n 0 dX12_ask_141 rfl rfl ?_
  refine q_aload_n 0 dX12_ask_142 rfl rfl ?_
  refine q_geti fl_X12_240 sh_94 (q_inO hO1 sh_94) rfl dX12_ask_143 ?_
  refine q_puti fl_X12_13 sh_94 (q_inO hO1 sh_94) (fun h => q_Ok_put h sh_94 rfl) rfl dX12_ask_146 (fun M2 hM2 => ?_)
  have hO2 : q_Ok M2 := by rw [hM2]; exact q_Ok_put hO1 sh_94 rfl
  refine q_aload_n 0 dX12_ask_149 rfl rfl ?_
  refine q_geti fl_X12_237 sh_94 (q_inO hO2 sh_94) rfl dX12_ask_150 ?_
  refine q_ifeq (tgt := 160) dX12_ask_153 (by decide) ?_ ?_
  · refine q_aload_n 0 dX12_ask_160 rfl rfl ?_
    refine q_iload_n 1 dX12_ask_161 rfl rfl ?_
    refine q_iconst dX12_ask_162 ?_
    refine q_icmpge (tgt := 172) dX12_ask_163 (by decide) ?_ ?_
    · refine q_lconst (v := 0) dX12_ask_172 (by decide) ?_
      refine q_sub [0, 1] rfl ?_
      exact tX12_ask_173 hd x1 0 M2 hO2
    · refine q_ldc2 dX12_ask_166 kl_X12_482 (n := (-1)) rfl ?_
      refine q_goto (tgt := 173) dX12_ask_169 (by decide) ?_
      refine q_sub [0, 1] rfl ?_
      exact tX12_ask_173 hd x1 (-1) M2 hO2
  · refine q_ldc2 dX12_ask_156 kl_X12_601 (n := (-1000000000000000)) rfl ?_
    exact q_ret dX12_ask_159 rfl
def fX12_ask_109 (x1 : Int) (M : q_Mem) : Option (Int × q_Mem) := if q_w (M.2 94 5) = 0 then (q_bd (fX12_look M) fun x21 M1 => if q_w x21 = q_w (-1) then ((fX12_ask_133 x1 M1)) else (q_bd (fX12_fail 1 (M1.2 94 2) M1) fun _ M2 => (fX12_ask_133 x1 M2))) else ((fX12_ask_133 x1 M))
theorem tX12_ask_109 {d : Nat} (hd : 8 ≤ d) (x1 : Int) (M : q_Mem) (hO : q_Ok M) : q_EX (d + 1) yX12_ask cX12_ask 3 (some .long) 109 [(0, .inr (.inr 94)), (1, .inl x1)] [] M (fX12_ask_109 x1 M) := by
  unfold fX12_ask_109
  refine q_aload_n 0 dX12_ask_109 rfl rfl ?_
  refine q_geti fl_X12_237 sh_94 (q_inO hO sh_94) rfl dX12_ask_110 ?_
  refine q_ifne (tgt := 133) dX12_ask_113 (by decide) ?_ ?_
  · refine q_sub [0, 1] rfl ?_
    exact tX12_ask_133 hd x1 M hO
  · refine q_aload_n 0 dX12_ask_116 rfl rfl ?_
    refine q_callVi (As := []) hO mb_X12_look mv_X12_look ml_X12_249 sh_94 rfl dX12_ask_117 (fun _ => rfl) rfl (Nat.le_of_ble_eq_true rfl) rfl (Nat.le_of_ble_eq_true rfl) (tX12_look M hO) (fun x21 M1 _ hO1 => ?_)
    refine q_iconst dX12_ask_120 ?_
    refine q_icmpeq (tgt := 133) dX12_ask_121 (by decide) ?_ ?_
    · refine q_sub [0, 1] rfl ?_
      exact tX12_ask_133 hd x1 M1 hO1
    · refine q_aload_n 0 dX12_ask_124 rfl rfl ?_
      refine q_iconst dX12_ask_125 ?_
      refine q_aload_n 0 dX12_ask_126 rfl rfl ?_
      refine q_geti fl_X12_243 sh_94 (q_inO hO1 sh_94) rfl dX12_ask_127 ?_
      refine q_callVv (As := [.inl 1, .inl (M1.2 94 2)]) hO1 mb_X12_fail mv_X12_fail ml_X12_267 sh_94 rfl dX12_ask_130 (fun _ => rfl) rfl (Nat.le_of_ble_eq_true rfl) rfl (Nat.le_of_ble_eq_true rfl) (tX12_fail 1 (M1.2 94 2) M1 hO1) (fun _ M2 _ hO2 => ?_)
      refine q_sub [0, 1] rfl ?_
      exact tX12_ask_133 hd x1 M2 hO2
def fX12_ask_98 (x1 : Int) (M : q_Mem) : Option (Int × q_Mem) := if q_w (M.2 94 5) = 0 then (q_bd (fX12_qSums M) fun _ M1 => (fX12_ask_109 x1 M1)) else ((fX12_ask_109 x1 M))
theorem tX12_ask_98 {d : Nat} (hd : 8 ≤ d) (x1 : Int) (M : q_Mem) (hO : q_Ok M) : q_EX (d + 1) yX12_ask cX12_ask 3 (some .long) 98 [(0, .inr (.inr 94)), (1, .inl x1)] [] M (fX12_ask_98 x1 M) := by
  unfold fX12_ask_98
  refine q_aload_n 0 dX12_ask_98 rfl rfl ?_
  refine q_geti fl_X12_237 sh_94 (q_inO hO sh_94) rfl dX12_ask_99 ?_
  refine q_ifne (tgt := 109) dX12_ask_102 (by decide) ?_ ?_
  · refine q_sub [0, 1] rfl ?_
    exact tX12_ask_109 hd x1 M hO
  · refine q_aload_n 0 dX12_ask_105 rfl rfl ?_
    refine q_callVv (As := []) hO mb_X12_qSums mv_X12_qSums ml_X12_333 sh_94 rfl dX12_ask_106 (fun _ => rfl) rfl (Nat.le_of_ble_eq_true rfl) rfl (Nat.le_of_ble_eq_true rfl) (tX12_qSums (by omega) M hO) (fun _ M1 _ hO1 => ?_)
    refine q_sub [0, 1] rfl ?_
    exact tX12_ask_109 hd x1 M1 hO1
def fX12_ask (M : q_Mem) : Option (Int × q_Mem) := if q_w (M.2 94 47) = 0 then (q_let (q_up M 94 1 0) fun M14 => some ((-1000000000000000), M14)) else (q_let (q_up M 94 3 (M.2 94 1)) fun M1 => q_let (q_up M1 94 1 0) fun M2 => q_let (q_up M2 94 2 0) fun M3 => q_let (q_up M3 94 4 (-1)) fun M4 => q_let (q_up M4 94 5 0) fun M5 => q_let (q_up M5 94 6 (-1)) fun M6 => q_let (q_up M6 94 48 2) fun M7 => q_let (q_up M7 94 91 0) fun M8 => q_let (q_up M8 94 93 0) fun M9 => q_let (q_up M9 94 94 0) fun M10 => q_let (q_up M10 94 95 0) fun M11 => q_bd (fX12_qKind M11) fun x21 M12 => if q_w (M12.2 94 5) = 0 then (if q_w x21 < q_w 3 then (q_bd (fX12_qTest M12) fun _ M13 => (fX12_ask_109 x21 M13)) else ((fX12_ask_98 x21 M12))) else ((fX12_ask_98 x21 M12)))
theorem tX12_ask {d : Nat} (hd : 9 ≤ d) (M : q_Mem) (hO : q_Ok M) : q_EX d yX12_ask cX12_ask 3 (some .long) 0 (q_args 0 [.inr (.inr 94)]) [] M (fX12_ask M) := by
  obtain ⟨d, rfl⟩ : ∃ d', d = d' + 1 := ⟨d - 1, by omega⟩
  have hd : 8 ≤ d := by omega
  show q_EX _ _ _ _ _ 0 [(0, .inr (.inr 94))] [] M _
  unfold fX12_ask
  refine q_aload_n 0 dX12_ask_0 rfl rfl ?_
  refine q_geti fl_X12_366 sh_94 (q_inO hO sh_94) rfl dX12_ask_1 ?_
  refine q_ifne (tgt := 16) dX12_ask_4 (by decide) ?_ ?_
  · refine q_aload_n 0 dX12_ask_16 rfl rfl ?_
    refine q_aload_n 0 dX12_ask_17 rfl rfl ?_
    refine q_geti fl_X12_234 sh_94 (q_inO hO sh_94) rfl dX12_ask_18 ?_
    refine q_puti fl_X12_246 sh_94 (q_inO hO sh_94) (fun h => q_Ok_put h sh_94 rfl) rfl dX12_ask_21 (fun M1 hM1 => ?_)
    have hO1 : q_Ok M1 := by rw [hM1]; exact q_Ok_put hO sh_94 rfl
    refine q_aload_n 0 dX12_ask_24 rfl rfl ?_
    refine q_iconst dX12_ask_25 ?_
    refine q_puti fl_X12_234 sh_94 (q_inO hO1 sh_94) (fun h => q_Ok_put h sh_94 rfl) rfl dX12_ask_26 (fun M2 hM2 => ?_)
    have hO2 : q_Ok M2 := by rw [hM2]; exact q_Ok_put hO1 sh_94 rfl
    refine q_aload_n 0 dX12_ask_29 rfl rfl ?_
    refine q_iconst dX12_ask_30 ?_
    refine q_puti fl_X12_243 sh_94 (q_inO hO2 sh_94) (fun h => q_Ok_put h sh_94 rfl) rfl dX12_ask_31 (fun M3 hM3 => ?_)
    have hO3 : q_Ok M3 := by rw [hM3]; exact q_Ok_put hO2 sh_94 rfl
    refine q_aload_n 0 dX12_ask_34 rfl rfl ?_
    refine q_iconst dX12_ask_35 ?_
    refine q_puti fl_X12_257 sh_94 (q_inO hO3 sh_94) (fun h => q_Ok_put h sh_94 rfl) rfl dX12_ask_36 (fun M4 hM4 => ?_)
    have hO4 : q_Ok M4 := by rw [hM4]; exact q_Ok_put hO3 sh_94 rfl
    refine q_aload_n 0 dX12_ask_39 rfl rfl ?_
    refine q_iconst dX12_ask_40 ?_
    refine q_puti fl_X12_237 sh_94 (q_inO hO4 sh_94) (fun h => q_Ok_put h sh_94 rfl) rfl dX12_ask_41 (fun M5 hM5 => ?_)
    have hO5 : q_Ok M5 := by rw [hM5]; exact q_Ok_put hO4 sh_94 rfl
    refine q_aload_n 0 dX12_ask_44 rfl rfl ?_
    refine q_iconst dX12_ask_45 ?_
    refine q_puti fl_X12_240 sh_94 (q_inO hO5 sh_94) (fun h => q_Ok_put h sh_94 rfl) rfl dX12_ask_46 (fun M6 hM6 => ?_)
    have hO6 : q_Ok M6 := by rw [hM6]; exact q_Ok_put hO5 sh_94 rfl
    refine q_aload_n 0 dX12_ask_49 rfl rfl ?_
    refine q_iconst dX12_ask_50 ?_
    refine q_puti fl_X12_292 sh_94 (q_inO hO6 sh_94) (fun h => q_Ok_put h sh_94 rfl) rfl dX12_ask_51 (fun M7 hM7 => ?_)
    have hO7 : q_Ok M7 := by rw [hM7]; exact q_Ok_put hO6 sh_94 rfl
    refine q_aload_n 0 dX12_ask_54 rfl rfl ?_
    refine q_iconst dX12_ask_55 ?_
    refine q_puti fl_X12_318 sh_94 (q_inO hO7 sh_94) (fun h => q_Ok_put h sh_94 rfl) rfl dX12_ask_56 (fun M8 hM8 => ?_)
    have hO8 : q_Ok M8 := by rw [hM8]; exact q_Ok_put hO7 sh_94 rfl
    refine q_aload_n 0 dX12_ask_59 rfl rfl ?_
    refine q_iconst dX12_ask_60 ?_
    refine q_puti fl_X12_321 sh_94 (q_inO hO8 sh_94) (fun h => q_Ok_put h sh_94 rfl) rfl dX12_ask_61 (fun M9 hM9 => ?_)
    have hO9 : q_Ok M9 := by rw [hM9]; exact q_Ok_put hO8 sh_94 rfl
    refine q_aload_n 0 dX12_ask_64 rfl rfl ?_
    refine q_iconst dX12_ask_65 ?_
    refine q_puti fl_X12_324 sh_94 (q_inO hO9 sh_94) (fun h => q_Ok_put h sh_94 rfl) rfl dX12_ask_66 (fun M10 hM10 => ?_)
    have hO10 : q_Ok M10 := by rw [hM10]; exact q_Ok_put hO9 sh_94 rfl
    refine q_aload_n 0 dX12_ask_69 rfl rfl ?_
    refine q_iconst dX12_ask_70 ?_
    refine q_puti fl_X12_327 sh_94 (q_inO hO10 sh_94) (fun h => q_Ok_put h sh_94 rfl) rfl dX12_ask_71 (fun M11 hM11 => ?_)
    have hO11 : q_Ok M11 := by rw [hM11]; exact q_Ok_put hO10 sh_94 rfl
    refine q_aload_n 0 dX12_ask_74 rfl rfl ?_
    refine q_callVi (As := []) hO11 mb_X12_qKind mv_X12_qKind ml_X12_603 sh_94 rfl dX12_ask_75 (fun _ => rfl) rfl (Nat.le_of_ble_eq_true rfl) rfl (Nat.le_of_ble_eq_true rfl) (tX12_qKind (by omega) M11 hO11) (fun x21 M12 _ hO12 => ?_)
    refine q_istore_n (ls' := [(1, .inl x21), (0, .inr (.inr 94))]) dX12_ask_78 rfl (by decide) rfl ?_
    refine q_aload_n 1 dX12_ask_79 rfl rfl ?_
    refine q_geti fl_X12_237 sh_94 (q_inO hO12 sh_94) rfl dX12_ask_80 ?_
    refine q_ifne (tgt := 98) dX12_ask_83 (by decide) ?_ ?_
    · refine q_sub [1, 0] rfl ?_
      exact tX12_ask_98 hd x21 M12 hO12
    · refine q_iload_n 0 dX12_ask_86 rfl rfl ?_
      refine q_iconst dX12_ask_87 ?_
      refine q_icmpge (tgt := 98) dX12_ask_88 (by decide) ?_ ?_
      · refine q_sub [1, 0] rfl ?_
        exact tX12_ask_98 hd x21 M12 hO12
      · refine q_aload_n 1 dX12_ask_91 rfl rfl ?_
        refine q_callVv (As := []) hO12 mb_X12_qTest mv_X12_qTest ml_X12_330 sh_94 rfl dX12_ask_92 (fun _ => rfl) rfl (Nat.le_of_ble_eq_true rfl) rfl (Nat.le_of_ble_eq_true rfl) (tX12_qTest (by omega) M12 hO12) (fun _ M13 _ hO13 => ?_)
        refine q_goto (tgt := 109) dX12_ask_95 (by decide) ?_
        refine q_sub [1, 0] rfl ?_
        exact tX12_ask_109 hd x21 M13 hO13
  · refine q_aload_n 0 dX12_ask_7 rfl rfl ?_
    refine q_iconst dX12_ask_8 ?_
    refine q_puti fl_X12_234 sh_94 (q_inO hO sh_94) (fun h => q_Ok_put h sh_94 rfl) rfl dX12_ask_9 (fun M14 hM14 => ?_)
    have hO14 : q_Ok M14 := by rw [hM14]; exact q_Ok_put hO sh_94 rfl
    refine q_ldc2 dX12_ask_12 kl_X12_601 (n := (-1000000000000000)) rfl ?_
    exact q_ret dX12_ask_15 rfl
