def fX7_pop (r0 : Nat) (M : q_Mem) : Option (Int × q_Mem) := if q_w (M.2 r0 1) = 0 then (some (0, M)) else (q_let (q_up M r0 1 ((M.2 r0 1) - 1)) fun M1 => (q_ld M1 (q_fr r0 0) 64 (M1.2 r0 1)).bind fun x21 => some (x21, M1))
theorem tX7_pop {d : Nat} (r0 : Nat) (M : q_Mem) (hO : q_Ok M) (hr0 : q_shp r0 = (0, 7)) : q_EX d yX7_pop cX7_pop 1 (some .int) 0 (q_args 0 [.inr (.inr r0)]) [] M (fX7_pop r0 M) := by
  show q_EX _ _ _ _ _ 0 [(0, .inr (.inr r0))] [] M _
  unfold fX7_pop
  refine q_aload_n 0 dX7_pop_0 rfl rfl ?_
  refine q_geti fl_X7_15 hr0 (q_inO hO hr0) rfl dX7_pop_1 ?_
  refine q_ifne (tgt := 9) dX7_pop_4 (by decide) ?_ ?_
  · refine q_aload_n 0 dX7_pop_9 rfl rfl ?_
    refine q_dup dX7_pop_10 rfl ?_
    refine q_geti fl_X7_15 hr0 (q_inO hO hr0) rfl dX7_pop_11 ?_
    refine q_iconst dX7_pop_14 ?_
    refine q_isub dX7_pop_15 ?_
    refine q_puti fl_X7_15 hr0 (q_inO hO hr0) (fun h => q_Ok_put h hr0 rfl) rfl dX7_pop_16 (fun M1 hM1 => ?_)
    have hO1 : q_Ok M1 := by rw [hM1]; exact q_Ok_put hO hr0 rfl
    refine q_aload_n 0 dX7_pop_19 rfl rfl ?_
    refine q_getx fl_X7_9 hO1 hr0 rfl (fs_7_0 hr0) dX7_pop_20 ?_
    refine q_aload_n 0 dX7_pop_23 rfl rfl ?_
    refine q_geti fl_X7_15 hr0 (q_inO hO1 hr0) rfl dX7_pop_24 ?_
    refine q_iald (ft_7_0 hr0) (q_inA hO1 (ft_7_0 hr0) (by decide)) dX7_pop_27 (fun x21 _ _ _ => ?_)
    exact q_ret dX7_pop_28 rfl
  · refine q_iconst dX7_pop_7 ?_
    exact q_ret dX7_pop_8 rfl
def fX7_within (x0 : Int) (M : q_Mem) : Option (Int × q_Mem) := if 0 < q_w (q_lcmp x0 1000000) then (some (1000000, M)) else (if q_w (q_lcmp x0 (-1000000)) < 0 then (some ((-1000000), M)) else (some (x0, M)))
theorem tX7_within {d : Nat} (x0 : Int) (M : q_Mem) (hO : q_Ok M) : q_EX d yX7_within cX7_within 2 (some .int) 0 (q_args 0 [.inr (.inl x0)]) [] M (fX7_within x0 M) := by
  show q_EX _ _ _ _ _ 0 [(0, .inr (.inl x0))] [] M _
  unfold fX7_within
  refine q_lload_n 0 dX7_within_0 rfl rfl ?_
  refine q_ldc2 dX7_within_1 kl_X7_92 (n := 1000000) rfl ?_
  refine q_lcmpR dX7_within_4 ?_
  refine q_ifle (tgt := 11) dX7_within_5 (by decide) ?_ ?_
  · refine q_lload_n 0 dX7_within_11 rfl rfl ?_
    refine q_ldc2 dX7_within_12 kl_X7_95 (n := (-1000000)) rfl ?_
    refine q_lcmpR dX7_within_15 ?_
    refine q_ifge (tgt := 24) dX7_within_16 (by decide) ?_ ?_
    · refine q_lload_n 0 dX7_within_24 rfl rfl ?_
      refine q_l2i dX7_within_25 ?_
      exact q_ret dX7_within_26 rfl
    · refine q_ldc dX7_within_19 kc_X7_97 (n := (-1000000)) rfl ?_
      refine q_goto (tgt := 26) dX7_within_21 (by decide) ?_
      exact q_ret dX7_within_26 rfl
  · refine q_ldc dX7_within_8 kc_X7_94 (n := 1000000) rfl ?_
    exact q_ret dX7_within_10 rfl
def fJ9_floorDiv_7cf53 (x0 : Int) (x1 : Int) (M : q_Mem) : Option (Int × q_Mem) := if q_w x1 = 0 then none else q_let (q_div x0 x1) fun x21 => if q_w (q_xor x0 x1) < 0 then (if q_w (x21 * x1) = q_w x0 then (some (x21, M)) else (some ((x21 - 1), M))) else (some (x21, M))
theorem tJ9_floorDiv_7cf53 {d : Nat} (x0 : Int) (x1 : Int) (M : q_Mem) (hO : q_Ok M) : q_EX d yJ9_floorDiv_7cf53 cJ9_floorDiv_7cf53 3 (some .int) 0 (q_args 0 [.inl x0, .inl x1]) [] M (fJ9_floorDiv_7cf53 x0 x1 M) := by
  show q_EX _ _ _ _ _ 0 [(0, .inl x0), (1, .inl x1)] [] M _
  unfold fJ9_floorDiv_7cf53
  refine q_iload_n 0 dJ9_floorDiv_7cf53_0 rfl rfl ?_
  refine q_iload_n 1 dJ9_floorDiv_7cf53_1 rfl rfl ?_
  refine q_ifnone (fun h1 => ?_)
  refine q_idiv dJ9_floorDiv_7cf53_2 h1 ?_
  refine q_nameI (fun x21 _ => ?_)
  refine q_istore_n (ls' := [(2, .inl x21), (0, .inl x0), (1, .inl x1)]) dJ9_floorDiv_7cf53_3 rfl (by decide) rfl ?_
  refine q_iload_n 1 dJ9_floorDiv_7cf53_4 rfl rfl ?_
  refine q_iload_n 2 dJ9_floorDiv_7cf53_5 rfl rfl ?_
  refine q_ixor dJ9_floorDiv_7cf53_6 ?_
  refine q_ifge (tgt := 21) dJ9_floorDiv_7cf53_7 (by decide) ?_ ?_
  · refine q_iload_n 0 dJ9_floorDiv_7cf53_21 rfl rfl ?_
    exact q_ret dJ9_floorDiv_7cf53_22 rfl
  · refine q_iload_n 0 dJ9_floorDiv_7cf53_10 rfl rfl ?_
    refine q_iload_n 2 dJ9_floorDiv_7cf53_11 rfl rfl ?_
    refine q_imul dJ9_floorDiv_7cf53_12 ?_
    refine q_iload_n 1 dJ9_floorDiv_7cf53_13 rfl rfl ?_
    refine q_icmpeq (tgt := 21) dJ9_floorDiv_7cf53_14 (by decide) ?_ ?_
    · refine q_iload_n 0 dJ9_floorDiv_7cf53_21 rfl rfl ?_
      exact q_ret dJ9_floorDiv_7cf53_22 rfl
    · refine q_iload_n 0 dJ9_floorDiv_7cf53_17 rfl rfl ?_
      refine q_iconst dJ9_floorDiv_7cf53_18 ?_
      refine q_isub dJ9_floorDiv_7cf53_19 ?_
      exact q_ret dJ9_floorDiv_7cf53_20 rfl
def fX7_ofTwo (x0 : Int) (x1 : Int) (x2 : Int) (M : q_Mem) : Option (Int × q_Mem) := if q_w x0 = 19 then some ((q_or x1 x2), M) else (if q_w x0 = 20 then some ((q_and x1 x2), M) else (if q_w x0 = 21 then some (0, M) else (if q_w x0 = 22 then some (0, M) else (if q_w x0 = 23 then if q_w x1 < q_w x2 then (some (x1, M)) else (some (x2, M)) else (if q_w x0 = 24 then if q_w x2 < q_w x1 then (some (x1, M)) else (some (x2, M)) else (if q_w x0 = 25 then some (0, M) else (if q_w x0 = 26 then some (0, M) else (if q_w x0 = 27 then some (0, M) else (if q_w x0 = 28 then some (0, M) else (if q_w x0 = 29 then some (0, M) else (if q_w x0 = 30 then some (0, M) else (if q_w x0 = 31 then some (0, M) else (if q_w x0 = 32 then some (0, M) else (if q_w x0 = 33 then some (0, M) else (if q_w x0 = 34 then some (0, M) else (if q_w x0 = 35 then some (0, M) else (if q_w x0 = 36 then some (0, M) else (if q_w x0 = 37 then some (0, M) else (if q_w x0 = 38 then some (0, M) else (if q_w x0 = 39 then some (0, M) else (if q_w x0 = 40 then some (0, M) else (if q_w x0 = 41 then some (0, M) else (if q_w x0 = 42 then q_bd (fX7_within ((q_w x1) * (q_w x2)) M) fun x21 M1 => some (x21, M1) else (if q_w x0 = 43 then q_bd (fX7_within ((q_w x1) + (q_w x2)) M) fun x22 M2 => some (x22, M2) else (if q_w x0 = 44 then some (0, M) else (if q_w x0 = 45 then q_bd (fX7_within ((q_w x1) - (q_w x2)) M) fun x23 M3 => some (x23, M3) else (if q_w x0 = 46 then some (0, M) else (if q_w x0 = 47 then if q_w x2 = 0 then (some (0, M)) else (q_bd (fJ9_floorDiv_7cf53 x1 x2 M) fun x24 M4 => some (x24, M4)) else (if q_w x0 = 48 then some (0, M) else (if q_w x0 = 49 then some (0, M) else (if q_w x0 = 50 then some (0, M) else (if q_w x0 = 51 then some (0, M) else (if q_w x0 = 52 then some (0, M) else (if q_w x0 = 53 then some (0, M) else (if q_w x0 = 54 then some (0, M) else (if q_w x0 = 55 then some (0, M) else (if q_w x0 = 56 then some (0, M) else (if q_w x0 = 57 then some (0, M) else (if q_w x0 = 58 then some (0, M) else (if q_w x0 = 59 then some (0, M) else (if q_w x0 = 60 then if q_w x1 < q_w x2 then (some (1, M)) else (some (0, M)) else (if q_w x0 = 61 then if q_w x1 = q_w x2 then (some (1, M)) else (some (0, M)) else (if q_w x0 = 62 then if q_w x2 < q_w x1 then (some (1, M)) else (some (0, M)) else (some (0, M)))))))))))))))))))))))))))))))))))))))))))))
theorem tX7_ofTwo {d : Nat} (hd : 1 ≤ d) (x0 : Int) (x1 : Int) (x2 : Int) (M : q_Mem) (hO : q_Ok M) : q_EX d yX7_ofTwo cX7_ofTwo 3 (some .int) 0 (q_args 0 [.inl x0, .inl x1, .inl x2]) [] M (fX7_ofTwo x0 x1 x2 M) := by
  obtain ⟨d, rfl⟩ : ∃ d', d = d' + 1 := ⟨d - 1, by omega⟩
  have hd : 0 ≤ d := by omega
  show q_EX _ _ _ _ _ 0 [(0, .inl x0), (1, .inl x1), (2, .inl x2)] [] M _
  unfold fX7_ofTwo
  refine q_iload_n 0 dX7_ofTwo_0 rfl rfl ?_
  refine q_case (fun h1 => ?_) (fun h1 => ?_)
  · refine q_tswI (tgt := 192) h1 dX7_ofTwo_1 (by decide) (by decide) rfl (by decide) ?_
    refine q_iload_n 1 dX7_ofTwo_192 rfl rfl ?_
    refine q_iload_n 2 dX7_ofTwo_193 rfl rfl ?_
    refine q_ior dX7_ofTwo_194 ?_
    exact q_ret dX7_ofTwo_195 rfl
  · refine q_case (fun h2 => ?_) (fun h2 => ?_)
    · refine q_tswI (tgt := 196) h2 dX7_ofTwo_1 (by decide) (by decide) rfl (by decide) ?_
      refine q_iload_n 1 dX7_ofTwo_196 rfl rfl ?_
      refine q_iload_n 2 dX7_ofTwo_197 rfl rfl ?_
      refine q_iand dX7_ofTwo_198 ?_
      exact q_ret dX7_ofTwo_199 rfl
    · refine q_case (fun h3 => ?_) (fun h3 => ?_)
      · refine q_tswI (tgt := 296) h3 dX7_ofTwo_1 (by decide) (by decide) rfl (by decide) ?_
        refine q_iconst dX7_ofTwo_296 ?_
        exact q_ret dX7_ofTwo_297 rfl
      · refine q_case (fun h4 => ?_) (fun h4 => ?_)
        · refine q_tswI (tgt := 296) h4 dX7_ofTwo_1 (by decide) (by decide) rfl (by decide) ?_
          refine q_iconst dX7_ofTwo_296 ?_
          exact q_ret dX7_ofTwo_297 rfl
        · refine q_case (fun h5 => ?_) (fun h5 => ?_)
          · refine q_tswI (tgt := 200) h5 dX7_ofTwo_1 (by decide) (by decide) rfl (by decide) ?_
            refine q_iload_n 1 dX7_ofTwo_200 rfl rfl ?_
            refine q_iload_n 2 dX7_ofTwo_201 rfl rfl ?_
            refine q_icmpge (tgt := 209) dX7_ofTwo_202 (by decide) ?_ ?_
            · refine q_iload_n 2 dX7_ofTwo_209 rfl rfl ?_
              exact q_ret dX7_ofTwo_210 rfl
            · refine q_iload_n 1 dX7_ofTwo_205 rfl rfl ?_
              refine q_goto (tgt := 210) dX7_ofTwo_206 (by decide) ?_
              exact q_ret dX7_ofTwo_210 rfl
          · refine q_case (fun h6 => ?_) (fun h6 => ?_)
            · refine q_tswI (tgt := 211) h6 dX7_ofTwo_1 (by decide) (by decide) rfl (by decide) ?_
              refine q_iload_n 1 dX7_ofTwo_211 rfl rfl ?_
              refine q_iload_n 2 dX7_ofTwo_212 rfl rfl ?_
              refine q_icmple (tgt := 220) dX7_ofTwo_213 (by decide) ?_ ?_
              · refine q_iload_n 2 dX7_ofTwo_220 rfl rfl ?_
                exact q_ret dX7_ofTwo_221 rfl
              · refine q_iload_n 1 dX7_ofTwo_216 rfl rfl ?_
                refine q_goto (tgt := 221) dX7_ofTwo_217 (by decide) ?_
                exact q_ret dX7_ofTwo_221 rfl
            · refine q_case (fun h7 => ?_) (fun h7 => ?_)
              · refine q_tswI (tgt := 296) h7 dX7_ofTwo_1 (by decide) (by decide) rfl (by decide) ?_
                refine q_iconst dX7_ofTwo_296 ?_
                exact q_ret dX7_ofTwo_297 rfl
              · refine q_case (fun h8 => ?_) (fun h8 => ?_)
                · refine q_tswI (tgt := 296) h8 dX7_ofTwo_1 (by decide) (by decide) rfl (by decide) ?_
                  refine q_iconst dX7_ofTwo_296 ?_
                  exact q_ret dX7_ofTwo_297 rfl
                · refine q_case (fun h9 => ?_) (fun h9 => ?_)
                  · refine q_tswI (tgt := 296) h9 dX7_ofTwo_1 (by decide) (by decide) rfl (by decide) ?_
                    refine q_iconst dX7_ofTwo_296 ?_
                    exact q_ret dX7_ofTwo_297 rfl
                  · refine q_case (fun h10 => ?_) (fun h10 => ?_)
                    · refine q_tswI (tgt := 296) h10 dX7_ofTwo_1 (by decide) (by decide) rfl (by decide) ?_
                      refine q_iconst dX7_ofTwo_296 ?_
                      exact q_ret dX7_ofTwo_297 rfl
                    · refine q_case (fun h11 => ?_) (fun h11 => ?_)
                      · refine q_tswI (tgt := 296) h11 dX7_ofTwo_1 (by decide) (by decide) rfl (by decide) ?_
                        refine q_iconst dX7_ofTwo_296 ?_
                        exact q_ret dX7_ofTwo_297 rfl
                      · refine q_case (fun h12 => ?_) (fun h12 => ?_)
                        · refine q_tswI (tgt := 296) h12 dX7_ofTwo_1 (by decide) (by decide) rfl (by decide) ?_
                          refine q_iconst dX7_ofTwo_296 ?_
                          exact q_ret dX7_ofTwo_297 rfl
                        · refine q_case (fun h13 => ?_) (fun h13 => ?_)
                          · refine q_tswI (tgt := 296) h13 dX7_ofTwo_1 (by decide) (by decide) rfl (by decide) ?_
                            refine q_iconst dX7_ofTwo_296 ?_
                            exact q_ret dX7_ofTwo_297 rfl
                          · refine q_case (fun h14 => ?_) (fun h14 => ?_)
                            · refine q_tswI (tgt := 296) h14 dX7_ofTwo_1 (by decide) (by decide) rfl (by decide) ?_
                              refine q_iconst dX7_ofTwo_296 ?_
                              exact q_ret dX7_ofTwo_297 rfl
                            · refine q_case (fun h15 => ?_) (fun h15 => ?_)
                              · refine q_tswI (tgt := 296) h15 dX7_ofTwo_1 (by decide) (by decide) rfl (by decide) ?_
                                refine q_iconst dX7_ofTwo_296 ?_
                                exact q_ret dX7_ofTwo_297 rfl
                              · refine q_case (fun h16 => ?_) (fun h16 => ?_)
                                · refine q_tswI (tgt := 296) h16 dX7_ofTwo_1 (by decide) (by decide) rfl (by decide) ?_
                                  refine q_iconst dX7_ofTwo_296 ?_
                                  exact q_ret dX7_ofTwo_297 rfl
                                · refine q_case (fun h17 => ?_) (fun h17 => ?_)
                                  · refine q_tswI (tgt := 296) h17 dX7_ofTwo_1 (by decide) (by decide) rfl (by decide) ?_
                                    refine q_iconst dX7_ofTwo_296 ?_
                                    exact q_ret dX7_ofTwo_297 rfl
                                  · refine q_case (fun h18 => ?_) (fun h18 => ?_)
                                    · refine q_tswI (tgt := 296) h18 dX7_ofTwo_1 (by decide) (by decide) rfl (by decide) ?_
                                      refine q_iconst dX7_ofTwo_296 ?_
                                      exact q_ret dX7_ofTwo_297 rfl
                                    · refine q_case (fun h19 => ?_) (fun h19 => ?_)
                                      · refine q_tswI (tgt := 296) h19 dX7_ofTwo_1 (by decide) (by decide) rfl (by decide) ?_
                                        refine q_iconst dX7_ofTwo_296 ?_
                                        exact q_ret dX7_ofTwo_297 rfl
                                      · refine q_case (fun h20 => ?_) (fun h20 => ?_)
                                        · refine q_tswI (tgt := 296) h20 dX7_ofTwo_1 (by decide) (by decide) rfl (by decide) ?_
                                          refine q_iconst dX7_ofTwo_296 ?_
                                          exact q_ret dX7_ofTwo_297 rfl
                                        · refine q_case (fun h21 => ?_) (fun h21 => ?_)
                                          · refine q_tswI (tgt := 296) h21 dX7_ofTwo_1 (by decide) (by decide) rfl (by decide) ?_
                                            refine q_iconst dX7_ofTwo_296 ?_
                                            exact q_ret dX7_ofTwo_297 rfl
                                          · refine q_case (fun h22 => ?_) (fun h22 => ?_)
                                            · refine q_tswI (tgt := 296) h22 dX7_ofTwo_1 (by decide) (by decide) rfl (by decide) ?_
                                              refine q_iconst dX7_ofTwo_296 ?_
                                              exact q_ret dX7_ofTwo_297 rfl
                                            · refine q_case (fun h23 => ?_) (fun h23 => ?_)
                                              · refine q_tswI (tgt := 296) h23 dX7_ofTwo_1 (by decide) (by decide) rfl (by decide) ?_
                                                refine q_iconst dX7_ofTwo_296 ?_
                                                exact q_ret dX7_ofTwo_297 rfl
                                              · refine q_case (fun h24 => ?_) (fun h24 => ?_)
                                                · refine q_tswI (tgt := 273) h24 dX7_ofTwo_1 (by decide) (by decide) rfl (by decide) ?_
                                                  refine q_iload_n 1 dX7_ofTwo_273 rfl rfl ?_
                                                  refine q_i2l dX7_ofTwo_274 ?_
                                                  refine q_iload_n 2 dX7_ofTwo_275 rfl rfl ?_
                                                  refine q_i2l dX7_ofTwo_276 ?_
                                                  refine q_lmul dX7_ofTwo_277 ?_
                                                  refine q_callSi (As := [.inr (.inl ((q_w x1) * (q_w x2)))]) hO mb_X7_within ms_X7_within ml_X7_82 dX7_ofTwo_278 (fun _ => rfl) rfl (Nat.le_of_ble_eq_true rfl) rfl (Nat.le_of_ble_eq_true rfl) (tX7_within ((q_w x1) * (q_w x2)) M hO) (fun x21 M1 _ hO1 => ?_)
                                                  exact q_ret dX7_ofTwo_281 rfl
                                                · refine q_case (fun h25 => ?_) (fun h25 => ?_)
                                                  · refine q_tswI (tgt := 255) h25 dX7_ofTwo_1 (by decide) (by decide) rfl (by decide) ?_
                                                    refine q_iload_n 1 dX7_ofTwo_255 rfl rfl ?_
                                                    refine q_i2l dX7_ofTwo_256 ?_
                                                    refine q_iload_n 2 dX7_ofTwo_257 rfl rfl ?_
                                                    refine q_i2l dX7_ofTwo_258 ?_
                                                    refine q_ladd dX7_ofTwo_259 ?_
                                                    refine q_callSi (As := [.inr (.inl ((q_w x1) + (q_w x2)))]) hO mb_X7_within ms_X7_within ml_X7_82 dX7_ofTwo_260 (fun _ => rfl) rfl (Nat.le_of_ble_eq_true rfl) rfl (Nat.le_of_ble_eq_true rfl) (tX7_within ((q_w x1) + (q_w x2)) M hO) (fun x22 M2 _ hO2 => ?_)
                                                    exact q_ret dX7_ofTwo_263 rfl
                                                  · refine q_case (fun h26 => ?_) (fun h26 => ?_)
                                                    · refine q_tswI (tgt := 296) h26 dX7_ofTwo_1 (by decide) (by decide) rfl (by decide) ?_
                                                      refine q_iconst dX7_ofTwo_296 ?_
                                                      exact q_ret dX7_ofTwo_297 rfl
                                                    · refine q_case (fun h27 => ?_) (fun h27 => ?_)
                                                      · refine q_tswI (tgt := 264) h27 dX7_ofTwo_1 (by decide) (by decide) rfl (by decide) ?_
                                                        refine q_iload_n 1 dX7_ofTwo_264 rfl rfl ?_
                                                        refine q_i2l dX7_ofTwo_265 ?_
                                                        refine q_iload_n 2 dX7_ofTwo_266 rfl rfl ?_
                                                        refine q_i2l dX7_ofTwo_267 ?_
                                                        refine q_lsub dX7_ofTwo_268 ?_
                                                        refine q_callSi (As := [.inr (.inl ((q_w x1) - (q_w x2)))]) hO mb_X7_within ms_X7_within ml_X7_82 dX7_ofTwo_269 (fun _ => rfl) rfl (Nat.le_of_ble_eq_true rfl) rfl (Nat.le_of_ble_eq_true rfl) (tX7_within ((q_w x1) - (q_w x2)) M hO) (fun x23 M3 _ hO3 => ?_)
                                                        exact q_ret dX7_ofTwo_272 rfl
                                                      · refine q_case (fun h28 => ?_) (fun h28 => ?_)
                                                        · refine q_tswI (tgt := 296) h28 dX7_ofTwo_1 (by decide) (by decide) rfl (by decide) ?_
                                                          refine q_iconst dX7_ofTwo_296 ?_
                                                          exact q_ret dX7_ofTwo_297 rfl
                                                        · refine q_case (fun h29 => ?_) (fun h29 => ?_)
                                                          · refine q_tswI (tgt := 282) h29 dX7_ofTwo_1 (by decide) (by decide) rfl (by decide) ?_
                                                            refine q_iload_n 2 dX7_ofTwo_282 rfl rfl ?_
                                                            refine q_ifne (tgt := 290) dX7_ofTwo_283 (by decide) ?_ ?_
                                                            · refine q_iload_n 1 dX7_ofTwo_290 rfl rfl ?_
                                                              refine q_iload_n 2 dX7_ofTwo_291 rfl rfl ?_
                                                              refine q_callSi (As := [.inl x1, .inl x2]) hO mb_J9_floorDiv_7cf53 ms_J9_floorDiv_7cf53 ml_X7_86 dX7_ofTwo_292 (fun _ => rfl) rfl (Nat.le_of_ble_eq_true rfl) rfl (Nat.le_of_ble_eq_true rfl) (tJ9_floorDiv_7cf53 x1 x2 M hO) (fun x24 M4 _ hO4 => ?_)
                                                              exact q_ret dX7_ofTwo_295 rfl
                                                            · refine q_iconst dX7_ofTwo_286 ?_
                                                              refine q_goto (tgt := 295) dX7_ofTwo_287 (by decide) ?_
                                                              exact q_ret dX7_ofTwo_295 rfl
                                                          · refine q_case (fun h30 => ?_) (fun h30 => ?_)
                                                            · refine q_tswI (tgt := 296) h30 dX7_ofTwo_1 (by decide) (by decide) rfl (by decide) ?_
                                                              refine q_iconst dX7_ofTwo_296 ?_
                                                              exact q_ret dX7_ofTwo_297 rfl
                                                            · refine q_case (fun h31 => ?_) (fun h31 => ?_)
                                                              · refine q_tswI (tgt := 296) h31 dX7_ofTwo_1 (by decide) (by decide) rfl (by decide) ?_
                                                                refine q_iconst dX7_ofTwo_296 ?_
                                                                exact q_ret dX7_ofTwo_297 rfl
                                                              · refine q_case (fun h32 => ?_) (fun h32 => ?_)
                                                                · refine q_tswI (tgt := 296) h32 dX7_ofTwo_1 (by decide) (by decide) rfl (by decide) ?_
                                                                  refine q_iconst dX7_ofTwo_296 ?_
                                                                  exact q_ret dX7_ofTwo_297 rfl
                                                                · refine q_case (fun h33 => ?_) (fun h33 => ?_)
                                                                  · refine q_tswI (tgt := 296) h33 dX7_ofTwo_1 (by decide) (by decide) rfl (by decide) ?_
                                                                    refine q_iconst dX7_ofTwo_296 ?_
                                                                    exact q_ret dX7_ofTwo_297 rfl
                                                                  · refine q_case (fun h34 => ?_) (fun h34 => ?_)
                                                                    · refine q_tswI (tgt := 296) h34 dX7_ofTwo_1 (by decide) (by decide) rfl (by decide) ?_
                                                                      refine q_iconst dX7_ofTwo_296 ?_
                                                                      exact q_ret dX7_ofTwo_297 rfl
                                                                    · refine q_case (fun h35 => ?_) (fun h35 => ?_)
                                                                      · refine q_tswI (tgt := 296) h35 dX7_ofTwo_1 (by decide) (by decide) rfl (by decide) ?_
                                                                        refine q_iconst dX7_ofTwo_296 ?_
                                                                        exact q_ret dX7_ofTwo_297 rfl
                                                                      · refine q_case (fun h36 => ?_) (fun h36 => ?_)
                                                                        · refine q_tswI (tgt := 296) h36 dX7_ofTwo_1 (by decide) (by decide) rfl (by decide) ?_
                                                                          refine q_iconst dX7_ofTwo_296 ?_
                                                                          exact q_ret dX7_ofTwo_297 rfl
                                                                        · refine q_case (fun h37 => ?_) (fun h37 => ?_)
                                                                          · refine q_tswI (tgt := 296) h37 dX7_ofTwo_1 (by decide) (by decide) rfl (by decide) ?_
                                                                            refine q_iconst dX7_ofTwo_296 ?_
                                                                            exact q_ret dX7_ofTwo_297 rfl
                                                                          · refine q_case (fun h38 => ?_) (fun h38 => ?_)
                                                                            · refine q_tswI (tgt := 296) h38 dX7_ofTwo_1 (by decide) (by decide) rfl (by decide) ?_
                                                                              refine q_iconst dX7_ofTwo_296 ?_
                                                                              exact q_ret dX7_ofTwo_297 rfl
                                                                            · refine q_case (fun h39 => ?_) (fun h39 => ?_)
                                                                              · refine q_tswI (tgt := 296) h39 dX7_ofTwo_1 (by decide) (by decide) rfl (by decide) ?_
                                                                                refine q_iconst dX7_ofTwo_296 ?_
                                                                                exact q_ret dX7_ofTwo_297 rfl
                                                                              · refine q_case (fun h40 => ?_) (fun h40 => ?_)
                                                                                · refine q_tswI (tgt := 296) h40 dX7_ofTwo_1 (by decide) (by decide) rfl (by decide) ?_
                                                                                  refine q_iconst dX7_ofTwo_296 ?_
                                                                                  exact q_ret dX7_ofTwo_297 rfl
                                                                                · refine q_case (fun h41 => ?_) (fun h41 => ?_)
                                                                                  · refine q_tswI (tgt := 296) h41 dX7_ofTwo_1 (by decide) (by decide) rfl (by decide) ?_
                                                                                    refine q_iconst dX7_ofTwo_296 ?_
                                                                                    exact q_ret dX7_ofTwo_297 rfl
                                                                                  · refine q_case (fun h42 => ?_) (fun h42 => ?_)
                                                                                    · refine q_tswI (tgt := 222) h42 dX7_ofTwo_1 (by decide) (by decide) rfl (by decide) ?_
                                                                                      refine q_iload_n 1 dX7_ofTwo_222 rfl rfl ?_
                                                                                      refine q_iload_n 2 dX7_ofTwo_223 rfl rfl ?_
                                                                                      refine q_icmpge (tgt := 231) dX7_ofTwo_224 (by decide) ?_ ?_
                                                                                      · refine q_iconst dX7_ofTwo_231 ?_
                                                                                        exact q_ret dX7_ofTwo_232 rfl
                                                                                      · refine q_iconst dX7_ofTwo_227 ?_
                                                                                        refine q_goto (tgt := 232) dX7_ofTwo_228 (by decide) ?_
                                                                                        exact q_ret dX7_ofTwo_232 rfl
                                                                                    · refine q_case (fun h43 => ?_) (fun h43 => ?_)
                                                                                      · refine q_tswI (tgt := 244) h43 dX7_ofTwo_1 (by decide) (by decide) rfl (by decide) ?_
                                                                                        refine q_iload_n 1 dX7_ofTwo_244 rfl rfl ?_
                                                                                        refine q_iload_n 2 dX7_ofTwo_245 rfl rfl ?_
                                                                                        refine q_icmpne (tgt := 253) dX7_ofTwo_246 (by decide) ?_ ?_
                                                                                        · refine q_iconst dX7_ofTwo_253 ?_
                                                                                          exact q_ret dX7_ofTwo_254 rfl
                                                                                        · refine q_iconst dX7_ofTwo_249 ?_
                                                                                          refine q_goto (tgt := 254) dX7_ofTwo_250 (by decide) ?_
                                                                                          exact q_ret dX7_ofTwo_254 rfl
                                                                                      · refine q_case (fun h44 => ?_) (fun h44 => ?_)
                                                                                        · refine q_tswI (tgt := 233) h44 dX7_ofTwo_1 (by decide) (by decide) rfl (by decide) ?_
                                                                                          refine q_iload_n 1 dX7_ofTwo_233 rfl rfl ?_
                                                                                          refine q_iload_n 2 dX7_ofTwo_234 rfl rfl ?_
                                                                                          refine q_icmple (tgt := 242) dX7_ofTwo_235 (by decide) ?_ ?_
                                                                                          · refine q_iconst dX7_ofTwo_242 ?_
                                                                                            exact q_ret dX7_ofTwo_243 rfl
                                                                                          · refine q_iconst dX7_ofTwo_238 ?_
                                                                                            refine q_goto (tgt := 243) dX7_ofTwo_239 (by decide) ?_
                                                                                            exact q_ret dX7_ofTwo_243 rfl
                                                                                        · refine q_tswO (tgt := 296) (by omega) dX7_ofTwo_1 (by decide) ?_
                                                                                          refine q_iconst dX7_ofTwo_296 ?_
                                                                                          exact q_ret dX7_ofTwo_297 rfl
def fX7_ofStall (r0 : Nat) (r1 : Nat) (n1 : Nat) (x2 : Int) (M : q_Mem) : Option (Int × q_Mem) := if q_w x2 < 0 then (some (0, M)) else (if q_w x2 < q_w (M.2 r0 10) then (if q_w x2 < q_w ((n1 : Nat) : Int) then ((q_ld M r1 n1 x2).bind fun x21 => some (x21, M)) else (some (0, M))) else (some (0, M)))
theorem tX7_ofStall {d : Nat} (r0 : Nat) (r1 : Nat) (n1 : Nat) (x2 : Int) (M : q_Mem) (hO : q_Ok M) (hr0 : q_shp r0 = (0, 7)) (hr1 : q_shp r1 = (1, n1)) : q_EX d yX7_ofStall cX7_ofStall 3 (some .int) 0 (q_args 0 [.inr (.inr r0), .inr (.inr r1), .inl x2]) [] M (fX7_ofStall r0 r1 n1 x2 M) := by
  show q_EX _ _ _ _ _ 0 [(0, .inr (.inr r0)), (1, .inr (.inr r1)), (2, .inl x2)] [] M _
  unfold fX7_ofStall
  refine q_iload_n 2 dX7_ofStall_0 rfl rfl ?_
  refine q_iflt (tgt := 24) dX7_ofStall_1 (by decide) ?_ ?_
  · refine q_iconst dX7_ofStall_24 ?_
    exact q_ret dX7_ofStall_25 rfl
  · refine q_iload_n 2 dX7_ofStall_4 rfl rfl ?_
    refine q_aload_n 0 dX7_ofStall_5 rfl rfl ?_
    refine q_geti fl_X7_43 hr0 (q_inO hO hr0) rfl dX7_ofStall_6 ?_
    refine q_icmpge (tgt := 24) dX7_ofStall_9 (by decide) ?_ ?_
    · refine q_iconst dX7_ofStall_24 ?_
      exact q_ret dX7_ofStall_25 rfl
    · refine q_iload_n 2 dX7_ofStall_12 rfl rfl ?_
      refine q_aload_n 1 dX7_ofStall_13 rfl rfl ?_
      refine q_alen (t := 0) hr1 (by decide) (q_inA hO hr1 (by decide)) dX7_ofStall_14 ?_
      refine q_icmpge (tgt := 24) dX7_ofStall_15 (by decide) ?_ ?_
      · refine q_iconst dX7_ofStall_24 ?_
        exact q_ret dX7_ofStall_25 rfl
      · refine q_aload_n 1 dX7_ofStall_18 rfl rfl ?_
        refine q_iload_n 2 dX7_ofStall_19 rfl rfl ?_
        refine q_iald hr1 (q_inA hO hr1 (by decide)) dX7_ofStall_20 (fun x21 _ _ _ => ?_)
        refine q_goto (tgt := 25) dX7_ofStall_21 (by decide) ?_
        exact q_ret dX7_ofStall_25 rfl
def fX7_ofOne (r0 : Nat) (x1 : Int) (M : q_Mem) : Option (Int × q_Mem) := if q_w x1 = 2 then q_bd (fX7_pop r0 M) fun x21 M1 => q_bd (fX7_ofStall r0 (q_fr r0 12) 6 x21 M1) fun x22 M2 => some (x22, M2) else (if q_w x1 = 3 then some ((M.2 r0 5), M) else (if q_w x1 = 4 then some ((M.2 r0 8), M) else (if q_w x1 = 5 then some (0, M) else (if q_w x1 = 6 then some (0, M) else (if q_w x1 = 7 then some ((M.2 r0 3), M) else (if q_w x1 = 8 then some ((M.2 r0 4), M) else (if q_w x1 = 9 then some (0, M) else (if q_w x1 = 10 then some (0, M) else (if q_w x1 = 11 then q_bd (fX7_pop r0 M) fun x23 M3 => q_bd (fX7_ofStall r0 (q_fr r0 11) 6 x23 M3) fun x24 M4 => some (x24, M4) else (if q_w x1 = 12 then some (0, M) else (if q_w x1 = 13 then some (0, M) else (if q_w x1 = 14 then some (0, M) else (if q_w x1 = 15 then some ((M.2 r0 7), M) else (if q_w x1 = 16 then some ((M.2 r0 6), M) else (if q_w x1 = 17 then some ((M.2 r0 2), M) else (if q_w x1 = 18 then some ((M.2 r0 9), M) else (if q_w x1 = 19 then some (0, M) else (if q_w x1 = 20 then some (0, M) else (if q_w x1 = 21 then q_bd (fX7_pop r0 M) fun x25 M5 => some ((1 - x25), M5) else (if q_w x1 = 22 then some (1, M) else (some (0, M))))))))))))))))))))))
theorem tX7_ofOne {d : Nat} (hd : 1 ≤ d) (r0 : Nat) (x1 : Int) (M : q_Mem) (hO : q_Ok M) (hr0 : q_shp r0 = (0, 7)) : q_EX d yX7_ofOne cX7_ofOne 2 (some .int) 0 (q_args 0 [.inr (.inr r0), .inl x1]) [] M (fX7_ofOne r0 x1 M) := by
  obtain ⟨d, rfl⟩ : ∃ d', d = d' + 1 := ⟨d - 1, by omega⟩
  have hd : 0 ≤ d := by omega
  show q_EX _ _ _ _ _ 0 [(0, .inr (.inr r0)), (1, .inl x1)] [] M _
  unfold fX7_ofOne
  refine q_iload_n 1 dX7_ofOne_0 rfl rfl ?_
  refine q_case (fun h1 => ?_) (fun h1 => ?_)
  · refine q_tswI (tgt := 162) h1 dX7_ofOne_1 (by decide) (by decide) rfl (by decide) ?_
    refine q_aload_n 0 dX7_ofOne_162 rfl rfl ?_
    refine q_aload_n 0 dX7_ofOne_163 rfl rfl ?_
    refine q_getx fl_X7_49 hO hr0 rfl (fs_7_12 hr0) dX7_ofOne_164 ?_
    refine q_aload_n 0 dX7_ofOne_167 rfl rfl ?_
    refine q_callVi (As := []) hO mb_X7_pop mv_X7_pop ml_X7_66 hr0 rfl dX7_ofOne_168 (fun _ => rfl) rfl (Nat.le_of_ble_eq_true rfl) rfl (Nat.le_of_ble_eq_true rfl) (tX7_pop r0 M hO hr0) (fun x21 M1 _ hO1 => ?_)
    refine q_callVi (As := [.inr (.inr (q_fr r0 12)), .inl x21]) hO1 mb_X7_ofStall mv_X7_ofStall ml_X7_78 hr0 rfl dX7_ofOne_171 (fun _ => rfl) rfl (Nat.le_of_ble_eq_true rfl) rfl (Nat.le_of_ble_eq_true rfl) (tX7_ofStall r0 (q_fr r0 12) 6 x21 M1 hO1 hr0 (ft_7_12 hr0)) (fun x22 M2 _ hO2 => ?_)
    exact q_ret dX7_ofOne_174 rfl
  · refine q_case (fun h2 => ?_) (fun h2 => ?_)
    · refine q_tswI (tgt := 115) h2 dX7_ofOne_1 (by decide) (by decide) rfl (by decide) ?_
      refine q_aload_n 0 dX7_ofOne_115 rfl rfl ?_
      refine q_geti fl_X7_28 hr0 (q_inO hO hr0) rfl dX7_ofOne_116 ?_
      exact q_ret dX7_ofOne_119 rfl
    · refine q_case (fun h3 => ?_) (fun h3 => ?_)
      · refine q_tswI (tgt := 130) h3 dX7_ofOne_1 (by decide) (by decide) rfl (by decide) ?_
        refine q_aload_n 0 dX7_ofOne_130 rfl rfl ?_
        refine q_geti fl_X7_37 hr0 (q_inO hO hr0) rfl dX7_ofOne_131 ?_
        exact q_ret dX7_ofOne_134 rfl
      · refine q_case (fun h4 => ?_) (fun h4 => ?_)
        · refine q_tswI (tgt := 175) h4 dX7_ofOne_1 (by decide) (by decide) rfl (by decide) ?_
          refine q_iconst dX7_ofOne_175 ?_
          exact q_ret dX7_ofOne_176 rfl
        · refine q_case (fun h5 => ?_) (fun h5 => ?_)
          · refine q_tswI (tgt := 175) h5 dX7_ofOne_1 (by decide) (by decide) rfl (by decide) ?_
            refine q_iconst dX7_ofOne_175 ?_
            exact q_ret dX7_ofOne_176 rfl
          · refine q_case (fun h6 => ?_) (fun h6 => ?_)
            · refine q_tswI (tgt := 105) h6 dX7_ofOne_1 (by decide) (by decide) rfl (by decide) ?_
              refine q_aload_n 0 dX7_ofOne_105 rfl rfl ?_
              refine q_geti fl_X7_22 hr0 (q_inO hO hr0) rfl dX7_ofOne_106 ?_
              exact q_ret dX7_ofOne_109 rfl
            · refine q_case (fun h7 => ?_) (fun h7 => ?_)
              · refine q_tswI (tgt := 110) h7 dX7_ofOne_1 (by decide) (by decide) rfl (by decide) ?_
                refine q_aload_n 0 dX7_ofOne_110 rfl rfl ?_
                refine q_geti fl_X7_25 hr0 (q_inO hO hr0) rfl dX7_ofOne_111 ?_
                exact q_ret dX7_ofOne_114 rfl
              · refine q_case (fun h8 => ?_) (fun h8 => ?_)
                · refine q_tswI (tgt := 175) h8 dX7_ofOne_1 (by decide) (by decide) rfl (by decide) ?_
                  refine q_iconst dX7_ofOne_175 ?_
                  exact q_ret dX7_ofOne_176 rfl
                · refine q_case (fun h9 => ?_) (fun h9 => ?_)
                  · refine q_tswI (tgt := 175) h9 dX7_ofOne_1 (by decide) (by decide) rfl (by decide) ?_
                    refine q_iconst dX7_ofOne_175 ?_
                    exact q_ret dX7_ofOne_176 rfl
                  · refine q_case (fun h10 => ?_) (fun h10 => ?_)
                    · refine q_tswI (tgt := 149) h10 dX7_ofOne_1 (by decide) (by decide) rfl (by decide) ?_
                      refine q_aload_n 0 dX7_ofOne_149 rfl rfl ?_
                      refine q_aload_n 0 dX7_ofOne_150 rfl rfl ?_
                      refine q_getx fl_X7_46 hO hr0 rfl (fs_7_11 hr0) dX7_ofOne_151 ?_
                      refine q_aload_n 0 dX7_ofOne_154 rfl rfl ?_
                      refine q_callVi (As := []) hO mb_X7_pop mv_X7_pop ml_X7_66 hr0 rfl dX7_ofOne_155 (fun _ => rfl) rfl (Nat.le_of_ble_eq_true rfl) rfl (Nat.le_of_ble_eq_true rfl) (tX7_pop r0 M hO hr0) (fun x23 M3 _ hO3 => ?_)
                      refine q_callVi (As := [.inr (.inr (q_fr r0 11)), .inl x23]) hO3 mb_X7_ofStall mv_X7_ofStall ml_X7_78 hr0 rfl dX7_ofOne_158 (fun _ => rfl) rfl (Nat.le_of_ble_eq_true rfl) rfl (Nat.le_of_ble_eq_true rfl) (tX7_ofStall r0 (q_fr r0 11) 6 x23 M3 hO3 hr0 (ft_7_11 hr0)) (fun x24 M4 _ hO4 => ?_)
                      exact q_ret dX7_ofOne_161 rfl
                    · refine q_case (fun h11 => ?_) (fun h11 => ?_)
                      · refine q_tswI (tgt := 175) h11 dX7_ofOne_1 (by decide) (by decide) rfl (by decide) ?_
                        refine q_iconst dX7_ofOne_175 ?_
                        exact q_ret dX7_ofOne_176 rfl
                      · refine q_case (fun h12 => ?_) (fun h12 => ?_)
                        · refine q_tswI (tgt := 175) h12 dX7_ofOne_1 (by decide) (by decide) rfl (by decide) ?_
                          refine q_iconst dX7_ofOne_175 ?_
                          exact q_ret dX7_ofOne_176 rfl
                        · refine q_case (fun h13 => ?_) (fun h13 => ?_)
                          · refine q_tswI (tgt := 175) h13 dX7_ofOne_1 (by decide) (by decide) rfl (by decide) ?_
                            refine q_iconst dX7_ofOne_175 ?_
                            exact q_ret dX7_ofOne_176 rfl
                          · refine q_case (fun h14 => ?_) (fun h14 => ?_)
                            · refine q_tswI (tgt := 125) h14 dX7_ofOne_1 (by decide) (by decide) rfl (by decide) ?_
                              refine q_aload_n 0 dX7_ofOne_125 rfl rfl ?_
                              refine q_geti fl_X7_34 hr0 (q_inO hO hr0) rfl dX7_ofOne_126 ?_
                              exact q_ret dX7_ofOne_129 rfl
                            · refine q_case (fun h15 => ?_) (fun h15 => ?_)
                              · refine q_tswI (tgt := 120) h15 dX7_ofOne_1 (by decide) (by decide) rfl (by decide) ?_
                                refine q_aload_n 0 dX7_ofOne_120 rfl rfl ?_
                                refine q_geti fl_X7_31 hr0 (q_inO hO hr0) rfl dX7_ofOne_121 ?_
                                exact q_ret dX7_ofOne_124 rfl
                              · refine q_case (fun h16 => ?_) (fun h16 => ?_)
                                · refine q_tswI (tgt := 100) h16 dX7_ofOne_1 (by decide) (by decide) rfl (by decide) ?_
                                  refine q_aload_n 0 dX7_ofOne_100 rfl rfl ?_
                                  refine q_geti fl_X7_19 hr0 (q_inO hO hr0) rfl dX7_ofOne_101 ?_
                                  exact q_ret dX7_ofOne_104 rfl
                                · refine q_case (fun h17 => ?_) (fun h17 => ?_)
                                  · refine q_tswI (tgt := 135) h17 dX7_ofOne_1 (by decide) (by decide) rfl (by decide) ?_
                                    refine q_aload_n 0 dX7_ofOne_135 rfl rfl ?_
                                    refine q_geti fl_X7_40 hr0 (q_inO hO hr0) rfl dX7_ofOne_136 ?_
                                    exact q_ret dX7_ofOne_139 rfl
                                  · refine q_case (fun h18 => ?_) (fun h18 => ?_)
                                    · refine q_tswI (tgt := 175) h18 dX7_ofOne_1 (by decide) (by decide) rfl (by decide) ?_
                                      refine q_iconst dX7_ofOne_175 ?_
                                      exact q_ret dX7_ofOne_176 rfl
                                    · refine q_case (fun h19 => ?_) (fun h19 => ?_)
                                      · refine q_tswI (tgt := 175) h19 dX7_ofOne_1 (by decide) (by decide) rfl (by decide) ?_
                                        refine q_iconst dX7_ofOne_175 ?_
                                        exact q_ret dX7_ofOne_176 rfl
                                      · refine q_case (fun h20 => ?_) (fun h20 => ?_)
                                        · refine q_tswI (tgt := 142) h20 dX7_ofOne_1 (by decide) (by decide) rfl (by decide) ?_
                                          refine q_iconst dX7_ofOne_142 ?_
                                          refine q_aload_n 0 dX7_ofOne_143 rfl rfl ?_
                                          refine q_callVi (As := []) hO mb_X7_pop mv_X7_pop ml_X7_66 hr0 rfl dX7_ofOne_144 (fun _ => rfl) rfl (Nat.le_of_ble_eq_true rfl) rfl (Nat.le_of_ble_eq_true rfl) (tX7_pop r0 M hO hr0) (fun x25 M5 _ hO5 => ?_)
                                          refine q_isub dX7_ofOne_147 ?_
                                          exact q_ret dX7_ofOne_148 rfl
                                        · refine q_case (fun h21 => ?_) (fun h21 => ?_)
                                          · refine q_tswI (tgt := 140) h21 dX7_ofOne_1 (by decide) (by decide) rfl (by decide) ?_
                                            refine q_iconst dX7_ofOne_140 ?_
                                            exact q_ret dX7_ofOne_141 rfl
                                          · refine q_tswO (tgt := 175) (by omega) dX7_ofOne_1 (by decide) ?_
                                            refine q_iconst dX7_ofOne_175 ?_
                                            exact q_ret dX7_ofOne_176 rfl
def fX7_run_91 (r0 : Nat) (r1 : Nat) (K7 : Int → q_Mem → Option (Int × q_Mem)) (x2 : Int) (M : q_Mem) : Option (Int × q_Mem) := (K7 (x2 + 1) M)
theorem tX7_run_91 {d : Nat} (hd : 1 ≤ d) (r0 : Nat) (hr0 : q_shp r0 = (0, 7)) (r1 : Nat) (hr1 : q_shp r1 = (0, 0)) (K7 : Int → q_Mem → Option (Int × q_Mem)) (hK7 : ∀ (x2 : Int) (M : q_Mem), q_Ok M → q_EX (d + 1) yX7_run cX7_run 5 (some .int) 7 [(0, .inr (.inr r0)), (1, .inr (.inr r1)), (2, .inl x2)] [] M (K7 x2 M)) (x2 : Int) (M : q_Mem) (hO : q_Ok M) : q_EX (d + 1) yX7_run cX7_run 5 (some .int) 91 [(0, .inr (.inr r0)), (1, .inr (.inr r1)), (2, .inl x2)] [] M (fX7_run_91 r0 r1 K7 x2 M) := by
  unfold fX7_run_91
  refine q_iinc (ls' := [(2, .inl (x2 + 1)), (0, .inr (.inr r0)), (1, .inr (.inr r1))]) 2 dX7_run_91 rfl (by decide) rfl ?_
  refine q_goto (tgt := 7) dX7_run_94 (by decide) ?_
  refine q_sub [1, 2, 0] rfl ?_
  exact hK7 (x2 + 1) M hO
def fX7_run_97 (r0 : Nat) (r1 : Nat) (M : q_Mem) : Option (Int × q_Mem) := q_bd (fX7_pop r0 M) fun x21 M1 => some (x21, M1)
theorem tX7_run_97 {d : Nat} (hd : 1 ≤ d) (r0 : Nat) (hr0 : q_shp r0 = (0, 7)) (r1 : Nat) (hr1 : q_shp r1 = (0, 0)) (M : q_Mem) (hO : q_Ok M) : q_EX (d + 1) yX7_run cX7_run 5 (some .int) 97 [(0, .inr (.inr r0))] [] M (fX7_run_97 r0 r1 M) := by
  unfold fX7_run_97
  refine q_aload_n 0 dX7_run_97 rfl rfl ?_
  refine q_callVi (As := []) hO mb_X7_pop mv_X7_pop ml_X7_66 hr0 rfl dX7_run_98 (fun _ => rfl) rfl (Nat.le_of_ble_eq_true rfl) rfl (Nat.le_of_ble_eq_true rfl) (tX7_pop r0 M hO hr0) (fun x21 M1 _ hO1 => ?_)
  exact q_ret dX7_run_101 rfl
def fX7_run_7 (r0 : Nat) (r1 : Nat) : Nat → Int → q_Mem → Option (Int × q_Mem)
  | 0, _, _ => none
  | n + 1, x2, M => if q_w x2 < q_w (M.2 r1 1) then (if q_w x2 < q_w ((1600 : Nat) : Int) then ((q_ld M (q_fr r1 0) 1600 x2).bind fun x21 => q_let (x21 - 10000) fun x22 => if q_w x22 < 0 then ((q_ld M (q_fr r1 0) 1600 x2).bind fun x28 => q_bd (fX7_push r0 x28 M) fun _ M8 => (fX7_run_91 r0 r1 (fX7_run_7 r0 r1 n) x2 M8)) else (q_bd (fX7_isOfTwo x22 M) fun x23 M1 => if q_w x23 = 0 then (q_bd (fX7_ofOne r0 x22 M1) fun x24 M2 => q_bd (fX7_push r0 x24 M2) fun _ M3 => (fX7_run_91 r0 r1 (fX7_run_7 r0 r1 n) x2 M3)) else (q_bd (fX7_pop r0 M1) fun x25 M4 => q_bd (fX7_pop r0 M4) fun x26 M5 => q_bd (fX7_ofTwo x22 x26 x25 M5) fun x27 M6 => q_bd (fX7_push r0 x27 M6) fun _ M7 => (fX7_run_91 r0 r1 (fX7_run_7 r0 r1 n) x2 M7)))) else ((fX7_run_97 r0 r1 M))) else ((fX7_run_97 r0 r1 M))
theorem tX7_run_7 {d : Nat} (hd : 1 ≤ d) (r0 : Nat) (hr0 : q_shp r0 = (0, 7)) (r1 : Nat) (hr1 : q_shp r1 = (0, 0)) : ∀ (n : Nat) (x2 : Int) (M : q_Mem), q_Ok M → q_EX (d + 1) yX7_run cX7_run 5 (some .int) 7 [(0, .inr (.inr r0)), (1, .inr (.inr r1)), (2, .inl x2)] [] M (fX7_run_7 r0 r1 n x2 M) := by
  intro n
  induction n with
  | zero => intro x2 M hO; exact q_none
  | succ n ih =>
    intro x2 M hO
    rw [fX7_run_7]
    refine q_iload_n 2 dX7_run_7 rfl rfl ?_
    refine q_aload_n 1 dX7_run_8 rfl rfl ?_
    refine q_geti fl_X7_52 hr1 (q_inO hO hr1) rfl dX7_run_9 ?_
    refine q_icmpge (tgt := 97) dX7_run_12 (by decide) ?_ ?_
    · refine q_sub [0] rfl ?_
      exact tX7_run_97 hd r0 hr0 r1 hr1 M hO
    · refine q_iload_n 2 dX7_run_15 rfl rfl ?_
      refine q_aload_n 1 dX7_run_16 rfl rfl ?_
      refine q_getx fl_X7_55 hO hr1 rfl (fs_0_0 hr1) dX7_run_17 ?_
      refine q_alen (t := 0) (ft_0_0 hr1) (by decide) (q_inA hO (ft_0_0 hr1) (by decide)) dX7_run_20 ?_
      refine q_icmpge (tgt := 97) dX7_run_21 (by decide) ?_ ?_
      · refine q_sub [0] rfl ?_
        exact tX7_run_97 hd r0 hr0 r1 hr1 M hO
      · refine q_aload_n 1 dX7_run_24 rfl rfl ?_
        refine q_getx fl_X7_55 hO hr1 rfl (fs_0_0 hr1) dX7_run_25 ?_
        refine q_iload_n 2 dX7_run_28 rfl rfl ?_
        refine q_iald (ft_0_0 hr1) (q_inA hO (ft_0_0 hr1) (by decide)) dX7_run_29 (fun x21 _ _ _ => ?_)
        refine q_sipush dX7_run_30 (by decide) ?_
        refine q_isub dX7_run_33 ?_
        refine q_nameI (fun x22 _ => ?_)
        refine q_istore_n (ls' := [(3, .inl x22), (0, .inr (.inr r0)), (1, .inr (.inr r1)), (2, .inl x2)]) dX7_run_34 rfl (by decide) rfl ?_
        refine q_iload_n 0 dX7_run_35 rfl rfl ?_
        refine q_ifge (tgt := 52) dX7_run_36 (by decide) ?_ ?_
        · refine q_iload_n 0 dX7_run_52 rfl rfl ?_
          refine q_callSi (As := [.inl x22]) hO mb_X7_isOfTwo ms_X7_isOfTwo ml_X7_62 dX7_run_53 (fun _ => rfl) rfl (Nat.le_of_ble_eq_true rfl) rfl (Nat.le_of_ble_eq_true rfl) (tX7_isOfTwo x22 M hO) (fun x23 M1 _ hO1 => ?_)
          refine q_ifeq (tgt := 82) dX7_run_56 (by decide) ?_ ?_
          · refine q_aload_n 1 dX7_run_82 rfl rfl ?_
            refine q_aload_n 1 dX7_run_83 rfl rfl ?_
            refine q_iload_n 0 dX7_run_84 rfl rfl ?_
            refine q_callVi (As := [.inl x22]) hO1 mb_X7_ofOne mv_X7_ofOne ml_X7_74 hr0 rfl dX7_run_85 (fun _ => rfl) rfl (Nat.le_of_ble_eq_true rfl) rfl (Nat.le_of_ble_eq_true rfl) (tX7_ofOne (by omega) r0 x22 M1 hO1 hr0) (fun x24 M2 _ hO2 => ?_)
            refine q_callVv (As := [.inl x24]) hO2 mb_X7_push mv_X7_push ml_X7_58 hr0 rfl dX7_run_88 (fun _ => rfl) rfl (Nat.le_of_ble_eq_true rfl) rfl (Nat.le_of_ble_eq_true rfl) (tX7_push r0 x24 M2 hO2 hr0) (fun _ M3 _ hO3 => ?_)
            refine q_sub [1, 2, 3] rfl ?_
            exact tX7_run_91 hd r0 hr0 r1 hr1 (fX7_run_7 r0 r1 n) ih x2 M3 hO3
          · refine q_aload_n 1 dX7_run_59 rfl rfl ?_
            refine q_callVi (As := []) hO1 mb_X7_pop mv_X7_pop ml_X7_66 hr0 rfl dX7_run_60 (fun _ => rfl) rfl (Nat.le_of_ble_eq_true rfl) rfl (Nat.le_of_ble_eq_true rfl) (tX7_pop r0 M1 hO1 hr0) (fun x25 M4 _ hO4 => ?_)
            refine q_istore (ls' := [(4, .inl x25), (3, .inl x22), (0, .inr (.inr r0)), (1, .inr (.inr r1)), (2, .inl x2)]) dX7_run_63 (by decide) rfl ?_
            refine q_aload_n 2 dX7_run_65 rfl rfl ?_
            refine q_iload_n 1 dX7_run_66 rfl rfl ?_
            refine q_aload_n 2 dX7_run_67 rfl rfl ?_
            refine q_callVi (As := []) hO4 mb_X7_pop mv_X7_pop ml_X7_66 hr0 rfl dX7_run_68 (fun _ => rfl) rfl (Nat.le_of_ble_eq_true rfl) rfl (Nat.le_of_ble_eq_true rfl) (tX7_pop r0 M4 hO4 hr0) (fun x26 M5 _ hO5 => ?_)
            refine q_iload 0 dX7_run_71 rfl ?_
            refine q_callSi (As := [.inl x22, .inl x26, .inl x25]) hO5 mb_X7_ofTwo ms_X7_ofTwo ml_X7_70 dX7_run_73 (fun _ => rfl) rfl (Nat.le_of_ble_eq_true rfl) rfl (Nat.le_of_ble_eq_true rfl) (tX7_ofTwo (by omega) x22 x26 x25 M5 hO5) (fun x27 M6 _ hO6 => ?_)
            refine q_callVv (As := [.inl x27]) hO6 mb_X7_push mv_X7_push ml_X7_58 hr0 rfl dX7_run_76 (fun _ => rfl) rfl (Nat.le_of_ble_eq_true rfl) rfl (Nat.le_of_ble_eq_true rfl) (tX7_push r0 x27 M6 hO6 hr0) (fun _ M7 _ hO7 => ?_)
            refine q_goto (tgt := 91) dX7_run_79 (by decide) ?_
            refine q_sub [2, 3, 4] rfl ?_
            exact tX7_run_91 hd r0 hr0 r1 hr1 (fX7_run_7 r0 r1 n) ih x2 M7 hO7
        · refine q_aload_n 1 dX7_run_39 rfl rfl ?_
          refine q_aload_n 2 dX7_run_40 rfl rfl ?_
          refine q_getx fl_X7_55 hO hr1 rfl (fs_0_0 hr1) dX7_run_41 ?_
          refine q_iload_n 3 dX7_run_44 rfl rfl ?_
          refine q_iald (ft_0_0 hr1) (q_inA hO (ft_0_0 hr1) (by decide)) dX7_run_45 (fun x28 _ _ _ => ?_)
          refine q_callVv (As := [.inl x28]) hO mb_X7_push mv_X7_push ml_X7_58 hr0 rfl dX7_run_46 (fun _ => rfl) rfl (Nat.le_of_ble_eq_true rfl) rfl (Nat.le_of_ble_eq_true rfl) (tX7_push r0 x28 M hO hr0) (fun _ M8 _ hO8 => ?_)
          refine q_goto (tgt := 91) dX7_run_49 (by decide) ?_
          refine q_sub [1, 2, 3] rfl ?_
          exact tX7_run_91 hd r0 hr0 r1 hr1 (fX7_run_7 r0 r1 n) ih x2 M8 hO8
def fX7_run (r0 : Nat) (r1 : Nat) (M : q_Mem) : Option (Int × q_Mem) := q_let (q_up M r0 1 0) fun M1 => (fX7_run_7 r0 r1 q_FU 0 M1)
theorem tX7_run {d : Nat} (hd : 2 ≤ d) (r0 : Nat) (r1 : Nat) (M : q_Mem) (hO : q_Ok M) (hr0 : q_shp r0 = (0, 7)) (hr1 : q_shp r1 = (0, 0)) : q_EX d yX7_run cX7_run 5 (some .int) 0 (q_args 0 [.inr (.inr r0), .inr (.inr r1)]) [] M (fX7_run r0 r1 M) := by
  obtain ⟨d, rfl⟩ : ∃ d', d = d' + 1 := ⟨d - 1, by omega⟩
  have hd : 1 ≤ d := by omega
  show q_EX _ _ _ _ _ 0 [(0, .inr (.inr r0)), (1, .inr (.inr r1))] [] M _
  unfold fX7_run
  refine q_aload_n 0 dX7_run_0 rfl rfl ?_
  refine q_iconst dX7_run_1 ?_
  refine q_puti fl_X7_15 hr0 (q_inO hO hr0) (fun h => q_Ok_put h hr0 rfl) rfl dX7_run_2 (fun M1 hM1 => ?_)
  have hO1 : q_Ok M1 := by rw [hM1]; exact q_Ok_put hO hr0 rfl
  refine q_iconst dX7_run_5 ?_
  refine q_istore_n (ls' := [(2, .inl 0), (0, .inr (.inr r0)), (1, .inr (.inr r1))]) dX7_run_6 rfl (by decide) rfl ?_
  refine q_sub [1, 2, 0] rfl ?_
  exact tX7_run_7 hd r0 hr0 r1 hr1 q_FU 0 M1 hO1
def fX5_cellAt_274 (x4 : Int) (s0 : Int) (s1 : Int) (s2 : Int) (M : q_Mem) : Option (Int × q_Mem) := (q_sto M 88 19248 s2 (s1 + s0)).bind fun M1 => (q_ld M1 88 19248 x4).bind fun x21 => some (x21, M1)
theorem tX5_cellAt_274 {d : Nat} (hd : 2 ≤ d) (x4 : Int) (s0 : Int) (s1 : Int) (s2 : Int) (M : q_Mem) (hO : q_Ok M) : q_EX (d + 1) yX5_cellAt cX5_cellAt 9 (some .int) 274 [(0, .inr (.inr 87)), (4, .inl x4)] [.inl s0, .inl s1, .inl s2, .inr (.inr 88)] M (fX5_cellAt_274 x4 s0 s1 s2 M) := by
  unfold fX5_cellAt_274
  refine q_iadd dX5_cellAt_274 ?_
  refine q_iast sh_88 (q_inA hO sh_88 (by decide)) dX5_cellAt_275 (fun M1 _ _ hM1 => ?_)
  have hO1 : q_Ok M1 := by rw [hM1]; exact q_Ok_arr (t := 0) hO sh_88 (by decide)
  refine q_aload_n 0 dX5_cellAt_276 rfl rfl ?_
  refine q_getx fl_X5_9 hO1 sh_87 rfl fx_87_1 dX5_cellAt_277 ?_
  refine q_iload 1 dX5_cellAt_280 rfl ?_
  refine q_iald sh_88 (q_inA hO1 sh_88 (by decide)) dX5_cellAt_282 (fun x21 _ _ _ => ?_)
  exact q_ret dX5_cellAt_283 rfl
def fX5_cellAt_273 (x4 : Int) (s0 : Int) (s1 : Int) (M : q_Mem) : Option (Int × q_Mem) := (fX5_cellAt_274 x4 0 s0 s1 M)
theorem tX5_cellAt_273 {d : Nat} (hd : 2 ≤ d) (x4 : Int) (s0 : Int) (s1 : Int) (M : q_Mem) (hO : q_Ok M) : q_EX (d + 1) yX5_cellAt cX5_cellAt 9 (some .int) 273 [(0, .inr (.inr 87)), (4, .inl x4)] [.inl s0, .inl s1, .inr (.inr 88)] M (fX5_cellAt_273 x4 s0 s1 M) := by
  unfold fX5_cellAt_273
  refine q_iconst dX5_cellAt_273 ?_
  refine q_sub [0, 1] rfl ?_
  exact tX5_cellAt_274 hd x4 0 s0 s1 M hO
def fX5_cellAt_247 (x4 : Int) (x6 : Int) (x7 : Int) (s0 : Int) (M : q_Mem) : Option (Int × q_Mem) := if q_w x7 = 0 then ((fX5_cellAt_273 x4 (2 * x6) x4 M)) else (if q_w s0 = 0 then ((fX5_cellAt_274 x4 1 (2 * x6) x4 M)) else ((fX5_cellAt_273 x4 (2 * x6) x4 M)))
theorem tX5_cellAt_247 {d : Nat} (hd : 2 ≤ d) (x4 : Int) (x6 : Int) (x7 : Int) (s0 : Int) (M : q_Mem) (hO : q_Ok M) : q_EX (d + 1) yX5_cellAt cX5_cellAt 9 (some .int) 247 [(0, .inr (.inr 87)), (4, .inl x4), (6, .inl x6), (7, .inl x7)] [.inl s0] M (fX5_cellAt_247 x4 x6 x7 s0 M) := by
  unfold fX5_cellAt_247
  refine q_istore (ls' := [(8, .inl s0), (0, .inr (.inr 87)), (4, .inl x4), (6, .inl x6), (7, .inl x7)]) dX5_cellAt_247 (by decide) rfl ?_
  refine q_aload_n 1 dX5_cellAt_249 rfl rfl ?_
  refine q_getx fl_X5_9 hO sh_87 rfl fx_87_1 dX5_cellAt_250 ?_
  refine q_iload 2 dX5_cellAt_253 rfl ?_
  refine q_iconst dX5_cellAt_255 ?_
  refine q_iload 3 dX5_cellAt_256 rfl ?_
  refine q_imul dX5_cellAt_258 ?_
  refine q_iload 4 dX5_cellAt_259 rfl ?_
  refine q_ifeq (tgt := 273) dX5_cellAt_261 (by decide) ?_ ?_
  · refine q_sub [1, 2] rfl ?_
    exact tX5_cellAt_273 hd x4 (2 * x6) x4 M hO
  · refine q_iload 0 dX5_cellAt_264 rfl ?_
    refine q_ifne (tgt := 273) dX5_cellAt_266 (by decide) ?_ ?_
    · refine q_sub [1, 2] rfl ?_
      exact tX5_cellAt_273 hd x4 (2 * x6) x4 M hO
    · refine q_iconst dX5_cellAt_269 ?_
      refine q_goto (tgt := 274) dX5_cellAt_270 (by decide) ?_
      refine q_sub [1, 2] rfl ?_
      exact tX5_cellAt_274 hd x4 1 (2 * x6) x4 M hO
def fX5_cellAt_246 (x4 : Int) (x6 : Int) (x7 : Int) (M : q_Mem) : Option (Int × q_Mem) := (fX5_cellAt_247 x4 x6 x7 0 M)
theorem tX5_cellAt_246 {d : Nat} (hd : 2 ≤ d) (x4 : Int) (x6 : Int) (x7 : Int) (M : q_Mem) (hO : q_Ok M) : q_EX (d + 1) yX5_cellAt cX5_cellAt 9 (some .int) 246 [(0, .inr (.inr 87)), (4, .inl x4), (6, .inl x6), (7, .inl x7)] [] M (fX5_cellAt_246 x4 x6 x7 M) := by
  unfold fX5_cellAt_246
  refine q_iconst dX5_cellAt_246 ?_
  refine q_sub [0, 1, 2, 3] rfl ?_
  exact tX5_cellAt_247 hd x4 x6 x7 0 M hO
def fX5_cellAt_205 (x4 : Int) (x6 : Int) (s0 : Int) (M : q_Mem) : Option (Int × q_Mem) := if q_w s0 = 0 then ((fX5_cellAt_246 x4 x6 s0 M)) else (q_let (M.2 87 0).toNat fun r21 => if 0 < q_w (M.2 (q_fr r21 15) 1) then (q_let (M.2 87 0).toNat fun r22 => q_bd (fX7_run 90 (q_fr r22 15) M) fun x21 M1 => if q_w x21 = 0 then ((fX5_cellAt_246 x4 x6 s0 M1)) else ((fX5_cellAt_247 x4 x6 s0 1 M1))) else ((fX5_cellAt_246 x4 x6 s0 M)))
theorem tX5_cellAt_205 {d : Nat} (hd : 2 ≤ d) (x4 : Int) (x6 : Int) (s0 : Int) (M : q_Mem) (hO : q_Ok M) : q_EX (d + 1) yX5_cellAt cX5_cellAt 9 (some .int) 205 [(0, .inr (.inr 87)), (4, .inl x4), (6, .inl x6)] [.inl s0] M (fX5_cellAt_205 x4 x6 s0 M) := by
  unfold fX5_cellAt_205
  refine q_istore (ls' := [(7, .inl s0), (0, .inr (.inr 87)), (4, .inl x4), (6, .inl x6)]) dX5_cellAt_205 (by decide) rfl ?_
  refine q_iload 0 dX5_cellAt_207 rfl ?_
  refine q_ifeq (tgt := 246) dX5_cellAt_209 (by decide) ?_ ?_
  · refine q_sub [1, 2, 3, 0] rfl ?_
    exact tX5_cellAt_246 hd x4 x6 s0 M hO
  · refine q_aload_n 1 dX5_cellAt_212 rfl rfl ?_
    refine q_gettL fl_X5_25 hO sh_87 rfl tr_87_0 dX5_cellAt_213 (fun r21 _ hr21 => ?_)
    refine q_getx fl_X5_112 hO hr21 rfl (fs_2_15 hr21) dX5_cellAt_216 ?_
    refine q_geti fl_X5_91 (ft_2_15 hr21) (q_inO hO (ft_2_15 hr21)) rfl dX5_cellAt_219 ?_
    refine q_ifle (tgt := 246) dX5_cellAt_222 (by decide) ?_ ?_
    · refine q_sub [1, 2, 3, 0] rfl ?_
      exact tX5_cellAt_246 hd x4 x6 s0 M hO
    · refine q_aload_n 1 dX5_cellAt_225 rfl rfl ?_
      refine q_getx fl_X5_21 hO sh_87 rfl fx_87_3 dX5_cellAt_226 ?_
      refine q_aload_n 1 dX5_cellAt_229 rfl rfl ?_
      refine q_gettL fl_X5_25 hO sh_87 rfl tr_87_0 dX5_cellAt_230 (fun r22 _ hr22 => ?_)
      refine q_getx fl_X5_112 hO hr22 rfl (fs_2_15 hr22) dX5_cellAt_233 ?_
      refine q_callVi (As := [.inr (.inr (q_fr r22 15))]) hO mb_X7_run mv_X7_run ml_X5_96 sh_90 rfl dX5_cellAt_236 (fun _ => rfl) rfl (Nat.le_of_ble_eq_true rfl) rfl (Nat.le_of_ble_eq_true rfl) (tX7_run (by omega) 90 (q_fr r22 15) M hO sh_90 (ft_2_15 hr22)) (fun x21 M1 _ hO1 => ?_)
      refine q_ifeq (tgt := 246) dX5_cellAt_239 (by decide) ?_ ?_
      · refine q_sub [1, 2, 3, 0] rfl ?_
        exact tX5_cellAt_246 hd x4 x6 s0 M1 hO1
      · refine q_iconst dX5_cellAt_242 ?_
        refine q_goto (tgt := 247) dX5_cellAt_243 (by decide) ?_
        refine q_sub [1, 2, 3, 0] rfl ?_
        exact tX5_cellAt_247 hd x4 x6 s0 1 M1 hO1
def fX5_cellAt_161 (x2 : Int) (x4 : Int) (s0 : Int) (M : q_Mem) : Option (Int × q_Mem) := q_let (q_max 0 (q_min 999 s0)) fun x21 => q_let (q_up M 90 7 x21) fun M1 => q_let (M1.2 87 0).toNat fun r21 => (q_ld M1 (q_fr r21 5) 6 x2).bind fun x22 => if q_w x21 < q_w x22 then ((fX5_cellAt_205 x4 x21 0 M1)) else ((fX5_cellAt_205 x4 x21 1 M1))
theorem tX5_cellAt_161 {d : Nat} (hd : 2 ≤ d) (x2 : Int) (x4 : Int) (s0 : Int) (M : q_Mem) (hO : q_Ok M) : q_EX (d + 1) yX5_cellAt cX5_cellAt 9 (some .int) 161 [(0, .inr (.inr 87)), (2, .inl x2), (4, .inl x4)] [.inl s0] M (fX5_cellAt_161 x2 x4 s0 M) := by
  unfold fX5_cellAt_161
  refine q_istore (ls' := [(5, .inl s0), (0, .inr (.inr 87)), (2, .inl x2), (4, .inl x4)]) dX5_cellAt_161 (by decide) rfl ?_
  refine q_iconst dX5_cellAt_163 ?_
  refine q_sipush dX5_cellAt_164 (by decide) ?_
  refine q_iload 0 dX5_cellAt_167 rfl ?_
  refine q_mmin ml_X5_100' jm_min ni_J9 jc_min (Nat.le_of_ble_eq_true rfl) dX5_cellAt_169 ?_
  refine q_mmax ml_X5_106' jm_max ni_J9 jc_max (Nat.le_of_ble_eq_true rfl) dX5_cellAt_172 ?_
  refine q_nameI (fun x21 _ => ?_)
  refine q_istore (ls' := [(6, .inl x21), (5, .inl s0), (0, .inr (.inr 87)), (2, .inl x2), (4, .inl x4)]) dX5_cellAt_175 (by decide) rfl ?_
  refine q_aload_n 2 dX5_cellAt_177 rfl rfl ?_
  refine q_getx fl_X5_21 hO sh_87 rfl fx_87_3 dX5_cellAt_178 ?_
  refine q_iload 0 dX5_cellAt_181 rfl ?_
  refine q_puti fl_X5_109 sh_90 (q_inO hO sh_90) (fun h => q_Ok_put h sh_90 rfl) rfl dX5_cellAt_183 (fun M1 hM1 => ?_)
  have hO1 : q_Ok M1 := by rw [hM1]; exact q_Ok_put hO sh_90 rfl
  refine q_iload 0 dX5_cellAt_186 rfl ?_
  refine q_aload_n 2 dX5_cellAt_188 rfl rfl ?_
  refine q_gettL fl_X5_25 hO1 sh_87 rfl tr_87_0 dX5_cellAt_189 (fun r21 _ hr21 => ?_)
  refine q_getx fl_X5_82 hO1 hr21 rfl (fs_2_5 hr21) dX5_cellAt_192 ?_
  refine q_iload_n 3 dX5_cellAt_195 rfl rfl ?_
  refine q_iald (ft_2_5 hr21) (q_inA hO1 (ft_2_5 hr21) (by decide)) dX5_cellAt_196 (fun x22 _ _ _ => ?_)
  refine q_icmplt (tgt := 204) dX5_cellAt_197 (by decide) ?_ ?_
  · refine q_iconst dX5_cellAt_204 ?_
    refine q_sub [2, 4, 0] rfl ?_
    exact tX5_cellAt_205 hd x4 x21 0 M1 hO1
  · refine q_iconst dX5_cellAt_200 ?_
    refine q_goto (tgt := 205) dX5_cellAt_201 (by decide) ?_
    refine q_sub [2, 4, 0] rfl ?_
    exact tX5_cellAt_205 hd x4 x21 1 M1 hO1
def fX5_cellAt (x1 : Int) (x2 : Int) (x3 : Int) (M : q_Mem) : Option (Int × q_Mem) := q_let ((((x1 * 6) + x2) * 401) + x3) fun x21 => if q_w x21 < 0 then (some (0, M)) else (if q_w x21 < q_w ((19248 : Nat) : Int) then ((q_ld M 88 19248 x21).bind fun x22 => if q_w x22 = q_w (-1) then (q_let (M.2 87 0).toNat fun r21 => (q_ld M (q_fr r21 9) 8 x1).bind fun x23 => q_let (q_up M 90 3 x23) fun M1 => q_let (M1.2 87 0).toNat fun r22 => (q_ld M1 (q_fr r22 10) 8 x1).bind fun x24 => q_let (q_up M1 90 4 x24) fun M2 => q_let (M2.2 87 0).toNat fun r23 => (q_ld M2 (q_fr r23 4) 6 x2).bind fun x25 => q_let (q_up M2 90 5 x25) fun M3 => q_let (q_up M3 90 6 x3) fun M4 => q_let (M4.2 87 0).toNat fun r24 => (q_ld M4 (q_fr r24 5) 6 x2).bind fun x26 => q_let (q_up M4 90 8 x26) fun M5 => q_let (M5.2 87 0).toNat fun r25 => if q_w (M5.2 (q_fr r25 14) 1) = 0 then (q_let (M5.2 87 0).toNat fun r27 => (q_ld M5 (q_fr r27 9) 8 x1).bind fun x28 => (fX5_cellAt_161 x2 x21 x28 M5)) else (q_let (M5.2 87 0).toNat fun r26 => q_bd (fX7_run 90 (q_fr r26 14) M5) fun x27 M6 => (fX5_cellAt_161 x2 x21 x27 M6))) else ((q_ld M 88 19248 x21).bind fun x29 => some (x29, M))) else (some (0, M)))
theorem tX5_cellAt {d : Nat} (hd : 3 ≤ d) (x1 : Int) (x2 : Int) (x3 : Int) (M : q_Mem) (hO : q_Ok M) : q_EX d yX5_cellAt cX5_cellAt 9 (some .int) 0 (q_args 0 [.inr (.inr 87), .inl x1, .inl x2, .inl x3]) [] M (fX5_cellAt x1 x2 x3 M) := by
  obtain ⟨d, rfl⟩ : ∃ d', d = d' + 1 := ⟨d - 1, by omega⟩
  have hd : 2 ≤ d := by omega
  show q_EX _ _ _ _ _ 0 [(0, .inr (.inr 87)), (1, .inl x1), (2, .inl x2), (3, .inl x3)] [] M _
  unfold fX5_cellAt
  refine q_iload_n 1 dX5_cellAt_0 rfl rfl ?_
  refine q_bipush dX5_cellAt_1 (by decide) ?_
  refine q_imul dX5_cellAt_3 ?_
  refine q_iload_n 2 dX5_cellAt_4 rfl rfl ?_
  refine q_iadd dX5_cellAt_5 ?_
  refine q_sipush dX5_cellAt_6 (by decide) ?_
  refine q_imul dX5_cellAt_9 ?_
  refine q_iload_n 3 dX5_cellAt_10 rfl rfl ?_
  refine q_iadd dX5_cellAt_11 ?_
  refine q_nameI (fun x21 _ => ?_)
  refine q_istore (ls' := [(4, .inl x21), (0, .inr (.inr 87)), (1, .inl x1), (2, .inl x2), (3, .inl x3)]) dX5_cellAt_12 (by decide) rfl ?_
  refine q_iload 0 dX5_cellAt_14 rfl ?_
  refine q_iflt (tgt := 29) dX5_cellAt_16 (by decide) ?_ ?_
  · refine q_iconst dX5_cellAt_29 ?_
    exact q_ret dX5_cellAt_30 rfl
  · refine q_iload 0 dX5_cellAt_19 rfl ?_
    refine q_aload_n 1 dX5_cellAt_21 rfl rfl ?_
    refine q_getx fl_X5_9 hO sh_87 rfl fx_87_1 dX5_cellAt_22 ?_
    refine q_alen (t := 0) sh_88 (by decide) (q_inA hO sh_88 (by decide)) dX5_cellAt_25 ?_
    refine q_icmplt (tgt := 31) dX5_cellAt_26 (by decide) ?_ ?_
    · refine q_aload_n 1 dX5_cellAt_31 rfl rfl ?_
      refine q_getx fl_X5_9 hO sh_87 rfl fx_87_1 dX5_cellAt_32 ?_
      refine q_iload 0 dX5_cellAt_35 rfl ?_
      refine q_iald sh_88 (q_inA hO sh_88 (by decide)) dX5_cellAt_37 (fun x22 _ _ _ => ?_)
      refine q_iconst dX5_cellAt_38 ?_
      refine q_icmpeq (tgt := 50) dX5_cellAt_39 (by decide) ?_ ?_
      · refine q_aload_n 1 dX5_cellAt_50 rfl rfl ?_
        refine q_getx fl_X5_21 hO sh_87 rfl fx_87_3 dX5_cellAt_51 ?_
        refine q_aload_n 1 dX5_cellAt_54 rfl rfl ?_
        refine q_gettL fl_X5_25 hO sh_87 rfl tr_87_0 dX5_cellAt_55 (fun r21 _ hr21 => ?_)
        refine q_getx fl_X5_64 hO hr21 rfl (fs_2_9 hr21) dX5_cellAt_58 ?_
        refine q_iload_n 2 dX5_cellAt_61 rfl rfl ?_
        refine q_iald (ft_2_9 hr21) (q_inA hO (ft_2_9 hr21) (by decide)) dX5_cellAt_62 (fun x23 _ _ _ => ?_)
        refine q_puti fl_X5_67 sh_90 (q_inO hO sh_90) (fun h => q_Ok_put h sh_90 rfl) rfl dX5_cellAt_63 (fun M1 hM1 => ?_)
        have hO1 : q_Ok M1 := by rw [hM1]; exact q_Ok_put hO sh_90 rfl
        refine q_aload_n 1 dX5_cellAt_66 rfl rfl ?_
        refine q_getx fl_X5_21 hO1 sh_87 rfl fx_87_3 dX5_cellAt_67 ?_
        refine q_aload_n 1 dX5_cellAt_70 rfl rfl ?_
        refine q_gettL fl_X5_25 hO1 sh_87 rfl tr_87_0 dX5_cellAt_71 (fun r22 _ hr22 => ?_)
        refine q_getx fl_X5_69 hO1 hr22 rfl (fs_2_10 hr22) dX5_cellAt_74 ?_
        refine q_iload_n 2 dX5_cellAt_77 rfl rfl ?_
        refine q_iald (ft_2_10 hr22) (q_inA hO1 (ft_2_10 hr22) (by decide)) dX5_cellAt_78 (fun x24 _ _ _ => ?_)
        refine q_puti fl_X5_72 sh_90 (q_inO hO1 sh_90) (fun h => q_Ok_put h sh_90 rfl) rfl dX5_cellAt_79 (fun M2 hM2 => ?_)
        have hO2 : q_Ok M2 := by rw [hM2]; exact q_Ok_put hO1 sh_90 rfl
        refine q_aload_n 1 dX5_cellAt_82 rfl rfl ?_
        refine q_getx fl_X5_21 hO2 sh_87 rfl fx_87_3 dX5_cellAt_83 ?_
        refine q_aload_n 1 dX5_cellAt_86 rfl rfl ?_
        refine q_gettL fl_X5_25 hO2 sh_87 rfl tr_87_0 dX5_cellAt_87 (fun r23 _ hr23 => ?_)
        refine q_getx fl_X5_74 hO2 hr23 rfl (fs_2_4 hr23) dX5_cellAt_90 ?_
        refine q_iload_n 3 dX5_cellAt_93 rfl rfl ?_
        refine q_iald (ft_2_4 hr23) (q_inA hO2 (ft_2_4 hr23) (by decide)) dX5_cellAt_94 (fun x25 _ _ _ => ?_)
        refine q_puti fl_X5_77 sh_90 (q_inO hO2 sh_90) (fun h => q_Ok_put h sh_90 rfl) rfl dX5_cellAt_95 (fun M3 hM3 => ?_)
        have hO3 : q_Ok M3 := by rw [hM3]; exact q_Ok_put hO2 sh_90 rfl
        refine q_aload_n 1 dX5_cellAt_98 rfl rfl ?_
        refine q_getx fl_X5_21 hO3 sh_87 rfl fx_87_3 dX5_cellAt_99 ?_
        refine q_iload_n 4 dX5_cellAt_102 rfl rfl ?_
        refine q_puti fl_X5_79 sh_90 (q_inO hO3 sh_90) (fun h => q_Ok_put h sh_90 rfl) rfl dX5_cellAt_103 (fun M4 hM4 => ?_)
        have hO4 : q_Ok M4 := by rw [hM4]; exact q_Ok_put hO3 sh_90 rfl
        refine q_aload_n 1 dX5_cellAt_106 rfl rfl ?_
        refine q_getx fl_X5_21 hO4 sh_87 rfl fx_87_3 dX5_cellAt_107 ?_
        refine q_aload_n 1 dX5_cellAt_110 rfl rfl ?_
        refine q_gettL fl_X5_25 hO4 sh_87 rfl tr_87_0 dX5_cellAt_111 (fun r24 _ hr24 => ?_)
        refine q_getx fl_X5_82 hO4 hr24 rfl (fs_2_5 hr24) dX5_cellAt_114 ?_
        refine q_iload_n 3 dX5_cellAt_117 rfl rfl ?_
        refine q_iald (ft_2_5 hr24) (q_inA hO4 (ft_2_5 hr24) (by decide)) dX5_cellAt_118 (fun x26 _ _ _ => ?_)
        refine q_puti fl_X5_85 sh_90 (q_inO hO4 sh_90) (fun h => q_Ok_put h sh_90 rfl) rfl dX5_cellAt_119 (fun M5 hM5 => ?_)
        have hO5 : q_Ok M5 := by rw [hM5]; exact q_Ok_put hO4 sh_90 rfl
        refine q_aload_n 1 dX5_cellAt_122 rfl rfl ?_
        refine q_gettL fl_X5_25 hO5 sh_87 rfl tr_87_0 dX5_cellAt_123 (fun r25 _ hr25 => ?_)
        refine q_getx fl_X5_87 hO5 hr25 rfl (fs_2_14 hr25) dX5_cellAt_126 ?_
        refine q_geti fl_X5_91 (ft_2_14 hr25) (q_inO hO5 (ft_2_14 hr25)) rfl dX5_cellAt_129 ?_
        refine q_ifne (tgt := 147) dX5_cellAt_132 (by decide) ?_ ?_
        · refine q_aload_n 1 dX5_cellAt_147 rfl rfl ?_
          refine q_getx fl_X5_21 hO5 sh_87 rfl fx_87_3 dX5_cellAt_148 ?_
          refine q_aload_n 1 dX5_cellAt_151 rfl rfl ?_
          refine q_gettL fl_X5_25 hO5 sh_87 rfl tr_87_0 dX5_cellAt_152 (fun r26 _ hr26 => ?_)
          refine q_getx fl_X5_87 hO5 hr26 rfl (fs_2_14 hr26) dX5_cellAt_155 ?_
          refine q_callVi (As := [.inr (.inr (q_fr r26 14))]) hO5 mb_X7_run mv_X7_run ml_X5_96 sh_90 rfl dX5_cellAt_158 (fun _ => rfl) rfl (Nat.le_of_ble_eq_true rfl) rfl (Nat.le_of_ble_eq_true rfl) (tX7_run (by omega) 90 (q_fr r26 14) M5 hO5 sh_90 (ft_2_14 hr26)) (fun x27 M6 _ hO6 => ?_)
          refine q_sub [1, 3, 0] rfl ?_
          exact tX5_cellAt_161 hd x2 x21 x27 M6 hO6
        · refine q_aload_n 1 dX5_cellAt_135 rfl rfl ?_
          refine q_gettL fl_X5_25 hO5 sh_87 rfl tr_87_0 dX5_cellAt_136 (fun r27 _ hr27 => ?_)
          refine q_getx fl_X5_64 hO5 hr27 rfl (fs_2_9 hr27) dX5_cellAt_139 ?_
          refine q_iload_n 2 dX5_cellAt_142 rfl rfl ?_
          refine q_iald (ft_2_9 hr27) (q_inA hO5 (ft_2_9 hr27) (by decide)) dX5_cellAt_143 (fun x28 _ _ _ => ?_)
          refine q_goto (tgt := 161) dX5_cellAt_144 (by decide) ?_
          refine q_sub [1, 3, 0] rfl ?_
          exact tX5_cellAt_161 hd x2 x21 x28 M5 hO5
      · refine q_aload_n 1 dX5_cellAt_42 rfl rfl ?_
        refine q_getx fl_X5_9 hO sh_87 rfl fx_87_1 dX5_cellAt_43 ?_
        refine q_iload 0 dX5_cellAt_46 rfl ?_
        refine q_iald sh_88 (q_inA hO sh_88 (by decide)) dX5_cellAt_48 (fun x29 _ _ _ => ?_)
        exact q_ret dX5_cellAt_49 rfl
    · refine q_iconst dX5_cellAt_29 ?_
      exact q_ret dX5_cellAt_30 rfl
def fX5_lengthAt (x1 : Int) (x2 : Int) (x3 : Int) (M : q_Mem) : Option (Int × q_Mem) := q_bd (fX5_isCloudy x3 M) fun x21 M1 => if q_w x21 = 0 then (q_bd (fX5_cellAt x1 x2 x3 M1) fun x22 M2 => some ((q_shr x22 1), M2)) else (some (0, M1))
theorem tX5_lengthAt {d : Nat} (hd : 4 ≤ d) (x1 : Int) (x2 : Int) (x3 : Int) (M : q_Mem) (hO : q_Ok M) : q_EX d yX5_lengthAt cX5_lengthAt 4 (some .int) 0 (q_args 0 [.inr (.inr 87), .inl x1, .inl x2, .inl x3]) [] M (fX5_lengthAt x1 x2 x3 M) := by
  obtain ⟨d, rfl⟩ : ∃ d', d = d' + 1 := ⟨d - 1, by omega⟩
  have hd : 3 ≤ d := by omega
  show q_EX _ _ _ _ _ 0 [(0, .inr (.inr 87)), (1, .inl x1), (2, .inl x2), (3, .inl x3)] [] M _
  unfold fX5_lengthAt
  refine q_aload_n 0 dX5_lengthAt_0 rfl rfl ?_
  refine q_iload_n 3 dX5_lengthAt_1 rfl rfl ?_
  refine q_callVi (As := [.inl x3]) hO mb_X5_isCloudy mv_X5_isCloudy ml_X5_53 sh_87 rfl dX5_lengthAt_2 (fun _ => rfl) rfl (Nat.le_of_ble_eq_true rfl) rfl (Nat.le_of_ble_eq_true rfl) (tX5_isCloudy x3 M hO) (fun x21 M1 _ hO1 => ?_)
  refine q_ifeq (tgt := 12) dX5_lengthAt_5 (by decide) ?_ ?_
  · refine q_aload_n 0 dX5_lengthAt_12 rfl rfl ?_
    refine q_iload_n 1 dX5_lengthAt_13 rfl rfl ?_
    refine q_iload_n 2 dX5_lengthAt_14 rfl rfl ?_
    refine q_iload_n 3 dX5_lengthAt_15 rfl rfl ?_
    refine q_callVi (As := [.inl x1, .inl x2, .inl x3]) hO1 mb_X5_cellAt mv_X5_cellAt ml_X5_57 sh_87 rfl dX5_lengthAt_16 (fun _ => rfl) rfl (Nat.le_of_ble_eq_true rfl) rfl (Nat.le_of_ble_eq_true rfl) (tX5_cellAt (by omega) x1 x2 x3 M1 hO1) (fun x22 M2 _ hO2 => ?_)
    refine q_iconst dX5_lengthAt_19 ?_
    refine q_ishr dX5_lengthAt_20 ?_
    exact q_ret dX5_lengthAt_21 rfl
  · refine q_iconst dX5_lengthAt_8 ?_
    refine q_goto (tgt := 21) dX5_lengthAt_9 (by decide) ?_
    exact q_ret dX5_lengthAt_21 rfl
def fX5_paysAt (x1 : Int) (x2 : Int) (x3 : Int) (M : q_Mem) : Option (Int × q_Mem) := q_let (M.2 87 0).toNat fun r21 => (q_ld M (q_fr r21 6) 6 x2).bind fun x21 => if q_w x3 < q_w x21 then (q_bd (fX5_isCloudy x3 M) fun x22 M1 => if q_w x22 = 0 then (q_bd (fX5_cellAt x1 x2 x3 M1) fun x23 M2 => if q_w (q_and x23 1) = q_w 1 then (some (1, M2)) else (some (0, M2))) else (some (0, M1))) else (some (0, M))
theorem tX5_paysAt {d : Nat} (hd : 4 ≤ d) (x1 : Int) (x2 : Int) (x3 : Int) (M : q_Mem) (hO : q_Ok M) : q_EX d yX5_paysAt cX5_paysAt 4 (some .boolean) 0 (q_args 0 [.inr (.inr 87), .inl x1, .inl x2, .inl x3]) [] M (fX5_paysAt x1 x2 x3 M) := by
  obtain ⟨d, rfl⟩ : ∃ d', d = d' + 1 := ⟨d - 1, by omega⟩
  have hd : 3 ≤ d := by omega
  show q_EX _ _ _ _ _ 0 [(0, .inr (.inr 87)), (1, .inl x1), (2, .inl x2), (3, .inl x3)] [] M _
  unfold fX5_paysAt
  refine q_iload_n 3 dX5_paysAt_0 rfl rfl ?_
  refine q_aload_n 0 dX5_paysAt_1 rfl rfl ?_
  refine q_gettL fl_X5_25 hO sh_87 rfl tr_87_0 dX5_paysAt_2 (fun r21 _ hr21 => ?_)
  refine q_getx fl_X5_61 hO hr21 rfl (fs_2_6 hr21) dX5_paysAt_5 ?_
  refine q_iload_n 2 dX5_paysAt_8 rfl rfl ?_
  refine q_iald (ft_2_6 hr21) (q_inA hO (ft_2_6 hr21) (by decide)) dX5_paysAt_9 (fun x21 _ _ _ => ?_)
  refine q_icmpge (tgt := 38) dX5_paysAt_10 (by decide) ?_ ?_
  · refine q_iconst dX5_paysAt_38 ?_
    exact q_ret ⟨dX5_paysAt_39, by decide⟩ rfl
  · refine q_aload_n 0 dX5_paysAt_13 rfl rfl ?_
    refine q_iload_n 3 dX5_paysAt_14 rfl rfl ?_
    refine q_callVi (As := [.inl x3]) hO mb_X5_isCloudy mv_X5_isCloudy ml_X5_53 sh_87 rfl dX5_paysAt_15 (fun _ => rfl) rfl (Nat.le_of_ble_eq_true rfl) rfl (Nat.le_of_ble_eq_true rfl) (tX5_isCloudy x3 M hO) (fun x22 M1 _ hO1 => ?_)
    refine q_ifne (tgt := 38) dX5_paysAt_18 (by decide) ?_ ?_
    · refine q_iconst dX5_paysAt_38 ?_
      exact q_ret ⟨dX5_paysAt_39, by decide⟩ rfl
    · refine q_aload_n 0 dX5_paysAt_21 rfl rfl ?_
      refine q_iload_n 1 dX5_paysAt_22 rfl rfl ?_
      refine q_iload_n 2 dX5_paysAt_23 rfl rfl ?_
      refine q_iload_n 3 dX5_paysAt_24 rfl rfl ?_
      refine q_callVi (As := [.inl x1, .inl x2, .inl x3]) hO1 mb_X5_cellAt mv_X5_cellAt ml_X5_57 sh_87 rfl dX5_paysAt_25 (fun _ => rfl) rfl (Nat.le_of_ble_eq_true rfl) rfl (Nat.le_of_ble_eq_true rfl) (tX5_cellAt (by omega) x1 x2 x3 M1 hO1) (fun x23 M2 _ hO2 => ?_)
      refine q_iconst dX5_paysAt_28 ?_
      refine q_iand dX5_paysAt_29 ?_
      refine q_iconst dX5_paysAt_30 ?_
      refine q_icmpne (tgt := 38) dX5_paysAt_31 (by decide) ?_ ?_
      · refine q_iconst dX5_paysAt_38 ?_
        exact q_ret ⟨dX5_paysAt_39, by decide⟩ rfl
      · refine q_iconst dX5_paysAt_34 ?_
        refine q_goto (tgt := 39) dX5_paysAt_35 (by decide) ?_
        exact q_ret ⟨dX5_paysAt_39, by decide⟩ rfl
def fX6_visit_171 (G : Int → Int → Int → Int → q_Mem → Option (Int × q_Mem)) (K62 : Int → Int → Int → Int → Int → q_Mem → Option (Int × q_Mem)) (x1 : Int) (x2 : Int) (x3 : Int) (x4 : Int) (x5 : Int) (M : q_Mem) : Option (Int × q_Mem) := (K62 x1 x2 x3 x4 (x5 + 1) M)
theorem tX6_visit_171 {d : Nat} (hd : 0 ≤ d) (G : Int → Int → Int → Int → q_Mem → Option (Int × q_Mem)) (hG : ∀ (a b e f : Int) (M : q_Mem), q_Ok M → q_EX d yX6_visit cX6_visit 8 none 0 (q_args 0 [.inr (.inr 40), .inl a, .inl b, .inl e, .inl f]) [] M (G a b e f M)) (K62 : Int → Int → Int → Int → Int → q_Mem → Option (Int × q_Mem)) (hK62 : ∀ (x1 : Int) (x2 : Int) (x3 : Int) (x4 : Int) (x5 : Int) (M : q_Mem), q_Ok M → q_EX (d + 1) yX6_visit cX6_visit 8 none 62 [(0, .inr (.inr 40)), (1, .inl x1), (2, .inl x2), (3, .inl x3), (4, .inl x4), (5, .inl x5)] [] M (K62 x1 x2 x3 x4 x5 M)) (x1 : Int) (x2 : Int) (x3 : Int) (x4 : Int) (x5 : Int) (M : q_Mem) (hO : q_Ok M) : q_EX (d + 1) yX6_visit cX6_visit 8 none 171 [(0, .inr (.inr 40)), (1, .inl x1), (2, .inl x2), (3, .inl x3), (4, .inl x4), (5, .inl x5)] [] M (fX6_visit_171 G K62 x1 x2 x3 x4 x5 M) := by
  unfold fX6_visit_171
  refine q_iinc (ls' := [(5, .inl (x5 + 1)), (0, .inr (.inr 40)), (1, .inl x1), (2, .inl x2), (3, .inl x3), (4, .inl x4)]) 5 dX6_visit_171 rfl (by decide) rfl ?_
  refine q_goto (tgt := 62) dX6_visit_174 (by decide) ?_
  refine q_sub [1, 2, 3, 4, 5, 0] rfl ?_
  exact hK62 x1 x2 x3 x4 (x5 + 1) M hO
def fX6_visit_62 (G : Int → Int → Int → Int → q_Mem → Option (Int × q_Mem)) : Nat → Int → Int → Int → Int → Int → q_Mem → Option (Int × q_Mem)
  | 0, _, _, _, _, _, _ => none
  | n + 1, x1, x2, x3, x4, x5, M => if q_w x5 < q_w (M.2 40 0) then (q_let (q_and (M.2 40 6) (q_xor x4 (-1))) fun x21 => (q_ld M 41 6 x5).bind fun x22 => q_let (x3 + (q_abs (x22 - x2))) fun x23 => if q_w (q_and (q_shr x21 x5) 1) = q_w 1 then (if q_w (M.2 40 1) < q_w x23 then ((fX6_visit_171 G (fX6_visit_62 G n) x1 x2 x3 x4 x5 M)) else ((q_ldr 42 6 x5).bind fun r21 => (q_ld M r21 401 x23).bind fun x24 => if q_w x24 = q_w (-1) then ((fX6_visit_171 G (fX6_visit_62 G n) x1 x2 x3 x4 x5 M)) else ((q_sto M 50 6 x1 x5).bind fun M1 => (q_ld M1 41 6 x5).bind fun x25 => (q_ldr 42 6 x5).bind fun r22 => (q_ld M1 r22 401 x23).bind fun x26 => q_bd (G (x1 + 1) x25 x26 (q_or x4 (q_shl 1 x5)) M1) fun _ M2 => (fX6_visit_171 G (fX6_visit_62 G n) x1 x2 x3 x4 x5 M2)))) else ((fX6_visit_171 G (fX6_visit_62 G n) x1 x2 x3 x4 x5 M))) else (some (0, M))
theorem tX6_visit_62 {d : Nat} (hd : 0 ≤ d) (G : Int → Int → Int → Int → q_Mem → Option (Int × q_Mem)) (hG : ∀ (a b e f : Int) (M : q_Mem), q_Ok M → q_EX d yX6_visit cX6_visit 8 none 0 (q_args 0 [.inr (.inr 40), .inl a, .inl b, .inl e, .inl f]) [] M (G a b e f M)) : ∀ (n : Nat) (x1 : Int) (x2 : Int) (x3 : Int) (x4 : Int) (x5 : Int) (M : q_Mem), q_Ok M → q_EX (d + 1) yX6_visit cX6_visit 8 none 62 [(0, .inr (.inr 40)), (1, .inl x1), (2, .inl x2), (3, .inl x3), (4, .inl x4), (5, .inl x5)] [] M (fX6_visit_62 G n x1 x2 x3 x4 x5 M) := by
  intro n
  induction n with
  | zero => intro x1 x2 x3 x4 x5 M hO; exact q_none
  | succ n ih =>
    intro x1 x2 x3 x4 x5 M hO
    rw [fX6_visit_62]
    refine q_iload 5 dX6_visit_62 rfl ?_
    refine q_aload_n 0 dX6_visit_64 rfl rfl ?_
    refine q_geti fl_X6_9 sh_40 (q_inO hO sh_40) rfl dX6_visit_65 ?_
    refine q_icmpge (tgt := 177) dX6_visit_68 (by decide) ?_ ?_
    · exact q_ret dX6_visit_177 rfl
    · refine q_aload_n 0 dX6_visit_71 rfl rfl ?_
      refine q_geti fl_X6_33 sh_40 (q_inO hO sh_40) rfl dX6_visit_72 ?_
      refine q_iload 4 dX6_visit_75 rfl ?_
      refine q_iconst dX6_visit_77 ?_
      refine q_ixor dX6_visit_78 ?_
      refine q_iand dX6_visit_79 ?_
      refine q_nameI (fun x21 _ => ?_)
      refine q_istore (ls' := [(6, .inl x21), (0, .inr (.inr 40)), (1, .inl x1), (2, .inl x2), (3, .inl x3), (4, .inl x4), (5, .inl x5)]) dX6_visit_80 (by decide) rfl ?_
      refine q_iload_n 4 dX6_visit_82 rfl rfl ?_
      refine q_aload_n 1 dX6_visit_83 rfl rfl ?_
      refine q_getx fl_X6_18 hO sh_40 rfl fx_40_2 dX6_visit_84 ?_
      refine q_iload 6 dX6_visit_87 rfl ?_
      refine q_iald sh_41 (q_inA hO sh_41 (by decide)) dX6_visit_89 (fun x22 _ _ _ => ?_)
      refine q_iload_n 3 dX6_visit_90 rfl rfl ?_
      refine q_isub dX6_visit_91 ?_
      refine q_mabs ml_X6_84' jm_abs ni_J9 jc_abs (Nat.le_of_ble_eq_true rfl) dX6_visit_92 ?_
      refine q_iadd dX6_visit_95 ?_
      refine q_nameI (fun x23 _ => ?_)
      refine q_istore (ls' := [(7, .inl x23), (6, .inl x21), (0, .inr (.inr 40)), (1, .inl x1), (2, .inl x2), (3, .inl x3), (4, .inl x4), (5, .inl x5)]) dX6_visit_96 (by decide) rfl ?_
      refine q_iload 1 dX6_visit_98 rfl ?_
      refine q_iload 7 dX6_visit_100 rfl ?_
      refine q_ishr dX6_visit_102 ?_
      refine q_iconst dX6_visit_103 ?_
      refine q_iand dX6_visit_104 ?_
      refine q_iconst dX6_visit_105 ?_
      refine q_icmpne (tgt := 171) dX6_visit_106 (by decide) ?_ ?_
      · refine q_sub [2, 3, 4, 5, 6, 7] rfl ?_
        exact tX6_visit_171 hd G hG (fX6_visit_62 G n) ih x1 x2 x3 x4 x5 M hO
      · refine q_iload 0 dX6_visit_109 rfl ?_
        refine q_aload_n 2 dX6_visit_111 rfl rfl ?_
        refine q_geti fl_X6_15 sh_40 (q_inO hO sh_40) rfl dX6_visit_112 ?_
        refine q_icmpgt (tgt := 171) dX6_visit_115 (by decide) ?_ ?_
        · refine q_sub [2, 3, 4, 5, 6, 7] rfl ?_
          exact tX6_visit_171 hd G hG (fX6_visit_62 G n) ih x1 x2 x3 x4 x5 M hO
        · refine q_aload_n 2 dX6_visit_118 rfl rfl ?_
          refine q_getx fl_X6_24 hO sh_40 rfl fx_40_3 dX6_visit_119 ?_
          refine q_iload 7 dX6_visit_122 rfl ?_
          refine q_aaldX hO sh_42 rw_42 dX6_visit_124 (fun r21 _ _ _ hr21 => ?_)
          refine q_iload 0 dX6_visit_125 rfl ?_
          refine q_iald hr21 (q_inA hO hr21 (by decide)) dX6_visit_127 (fun x24 _ _ _ => ?_)
          refine q_iconst dX6_visit_128 ?_
          refine q_icmpeq (tgt := 171) dX6_visit_129 (by decide) ?_ ?_
          · refine q_sub [2, 3, 4, 5, 6, 7] rfl ?_
            exact tX6_visit_171 hd G hG (fX6_visit_62 G n) ih x1 x2 x3 x4 x5 M hO
          · refine q_aload_n 2 dX6_visit_132 rfl rfl ?_
            refine q_getx fl_X6_30 hO sh_40 rfl fx_40_5 dX6_visit_133 ?_
            refine q_iload_n 3 dX6_visit_136 rfl rfl ?_
            refine q_iload 7 dX6_visit_137 rfl ?_
            refine q_iast sh_50 (q_inA hO sh_50 (by decide)) dX6_visit_139 (fun M1 _ _ hM1 => ?_)
            have hO1 : q_Ok M1 := by rw [hM1]; exact q_Ok_arr (t := 0) hO sh_50 (by decide)
            refine q_aload_n 2 dX6_visit_140 rfl rfl ?_
            refine q_iload_n 3 dX6_visit_141 rfl rfl ?_
            refine q_iconst dX6_visit_142 ?_
            refine q_iadd dX6_visit_143 ?_
            refine q_aload_n 2 dX6_visit_144 rfl rfl ?_
            refine q_getx fl_X6_18 hO1 sh_40 rfl fx_40_2 dX6_visit_145 ?_
            refine q_iload 7 dX6_visit_148 rfl ?_
            refine q_iald sh_41 (q_inA hO1 sh_41 (by decide)) dX6_visit_150 (fun x25 _ _ _ => ?_)
            refine q_aload_n 2 dX6_visit_151 rfl rfl ?_
            refine q_getx fl_X6_24 hO1 sh_40 rfl fx_40_3 dX6_visit_152 ?_
            refine q_iload 7 dX6_visit_155 rfl ?_
            refine q_aaldX hO1 sh_42 rw_42 dX6_visit_157 (fun r22 _ _ _ hr22 => ?_)
            refine q_iload 0 dX6_visit_158 rfl ?_
            refine q_iald hr22 (q_inA hO1 hr22 (by decide)) dX6_visit_160 (fun x26 _ _ _ => ?_)
            refine q_iload 6 dX6_visit_161 rfl ?_
            refine q_iconst dX6_visit_163 ?_
            refine q_iload 7 dX6_visit_164 rfl ?_
            refine q_ishl dX6_visit_166 ?_
            refine q_ior dX6_visit_167 ?_
            refine q_callVv (As := [.inl (x1 + 1), .inl x25, .inl x26, .inl (q_or x4 (q_shl 1 x5))]) hO1 mb_X6_visit mv_X6_visit ml_X6_74 sh_40 rfl dX6_visit_168 (fun _ => rfl) rfl (Nat.le_of_ble_eq_true rfl) rfl (Nat.le_of_ble_eq_true rfl) (hG (x1 + 1) x25 x26 (q_or x4 (q_shl 1 x5)) M1 hO1) (fun _ M2 _ hO2 => ?_)
            refine q_sub [2, 3, 4, 5, 6, 7] rfl ?_
            exact tX6_visit_171 hd G hG (fX6_visit_62 G n) ih x1 x2 x3 x4 x5 M2 hO2
def fX6_visit_52 (G : Int → Int → Int → Int → q_Mem → Option (Int × q_Mem)) (x1 : Int) (x2 : Int) (x3 : Int) (x4 : Int) (M : q_Mem) : Option (Int × q_Mem) := if q_w x1 < q_w 6 then ((fX6_visit_62 G q_FU x1 x2 x3 x4 0 M)) else (some (0, M))
theorem tX6_visit_52 {d : Nat} (hd : 0 ≤ d) (G : Int → Int → Int → Int → q_Mem → Option (Int × q_Mem)) (hG : ∀ (a b e f : Int) (M : q_Mem), q_Ok M → q_EX d yX6_visit cX6_visit 8 none 0 (q_args 0 [.inr (.inr 40), .inl a, .inl b, .inl e, .inl f]) [] M (G a b e f M)) (x1 : Int) (x2 : Int) (x3 : Int) (x4 : Int) (M : q_Mem) (hO : q_Ok M) : q_EX (d + 1) yX6_visit cX6_visit 8 none 52 [(0, .inr (.inr 40)), (1, .inl x1), (2, .inl x2), (3, .inl x3), (4, .inl x4)] [] M (fX6_visit_52 G x1 x2 x3 x4 M) := by
  unfold fX6_visit_52
  refine q_iload_n 1 dX6_visit_52 rfl rfl ?_
  refine q_bipush dX6_visit_53 (by decide) ?_
  refine q_icmplt (tgt := 59) dX6_visit_55 (by decide) ?_ ?_
  · refine q_iconst dX6_visit_59 ?_
    refine q_istore (ls' := [(5, .inl 0), (0, .inr (.inr 40)), (1, .inl x1), (2, .inl x2), (3, .inl x3), (4, .inl x4)]) dX6_visit_60 (by decide) rfl ?_
    refine q_sub [1, 2, 3, 4, 5, 0] rfl ?_
    exact tX6_visit_62 hd G hG q_FU x1 x2 x3 x4 0 M hO
  · exact q_ret dX6_visit_58 rfl
def fX6_visit_33 (G : Int → Int → Int → Int → q_Mem → Option (Int × q_Mem)) (x1 : Int) (x2 : Int) (x3 : Int) (x4 : Int) (M : q_Mem) : Option (Int × q_Mem) := q_let (q_up M 40 8 x3) fun M1 => (q_cpy M1 50 6 0 51 6 0 x1).bind fun M2 => (fX6_visit_52 G x1 x2 x3 x4 M2)
theorem tX6_visit_33 {d : Nat} (hd : 0 ≤ d) (G : Int → Int → Int → Int → q_Mem → Option (Int × q_Mem)) (hG : ∀ (a b e f : Int) (M : q_Mem), q_Ok M → q_EX d yX6_visit cX6_visit 8 none 0 (q_args 0 [.inr (.inr 40), .inl a, .inl b, .inl e, .inl f]) [] M (G a b e f M)) (x1 : Int) (x2 : Int) (x3 : Int) (x4 : Int) (M : q_Mem) (hO : q_Ok M) : q_EX (d + 1) yX6_visit cX6_visit 8 none 33 [(0, .inr (.inr 40)), (1, .inl x1), (2, .inl x2), (3, .inl x3), (4, .inl x4)] [] M (fX6_visit_33 G x1 x2 x3 x4 M) := by
  unfold fX6_visit_33
  refine q_aload_n 0 dX6_visit_33 rfl rfl ?_
  refine q_iload_n 3 dX6_visit_34 rfl rfl ?_
  refine q_puti fl_X6_39 sh_40 (q_inO hO sh_40) (fun h => q_Ok_put h sh_40 rfl) rfl dX6_visit_35 (fun M1 hM1 => ?_)
  have hO1 : q_Ok M1 := by rw [hM1]; exact q_Ok_put hO sh_40 rfl
  refine q_aload_n 0 dX6_visit_38 rfl rfl ?_
  refine q_getx fl_X6_30 hO1 sh_40 rfl fx_40_5 dX6_visit_39 ?_
  refine q_iconst dX6_visit_42 ?_
  refine q_aload_n 0 dX6_visit_43 rfl rfl ?_
  refine q_getx fl_X6_36 hO1 sh_40 rfl fx_40_7 dX6_visit_44 ?_
  refine q_iconst dX6_visit_47 ?_
  refine q_iload_n 1 dX6_visit_48 rfl rfl ?_
  refine q_copyR hO1 sh_50 sh_51 ac4 ac1 ac2 ac3 (Nat.le_of_ble_eq_true rfl) dX6_visit_49 (fun M2 _ hO2 => ?_)
  refine q_sub [0, 1, 2, 3, 4] rfl ?_
  exact tX6_visit_52 hd G hG x1 x2 x3 x4 M2 hO2
def fX6_visit (G : Int → Int → Int → Int → q_Mem → Option (Int × q_Mem)) (x1 : Int) (x2 : Int) (x3 : Int) (x4 : Int) (M : q_Mem) : Option (Int × q_Mem) := (q_sto M 49 64 x4 1).bind fun M1 => if q_w x4 = q_w (M1.2 40 6) then (if q_w (M1.2 40 8) = q_w (-1) then ((fX6_visit_33 G x1 x2 x3 x4 M1)) else (if q_w x3 < q_w (M1.2 40 8) then ((fX6_visit_33 G x1 x2 x3 x4 M1)) else ((fX6_visit_52 G x1 x2 x3 x4 M1)))) else ((fX6_visit_52 G x1 x2 x3 x4 M1))
theorem tX6_visit {d : Nat} (hd : 0 ≤ d) (G : Int → Int → Int → Int → q_Mem → Option (Int × q_Mem)) (hG : ∀ (a b e f : Int) (M : q_Mem), q_Ok M → q_EX d yX6_visit cX6_visit 8 none 0 (q_args 0 [.inr (.inr 40), .inl a, .inl b, .inl e, .inl f]) [] M (G a b e f M)) (x1 : Int) (x2 : Int) (x3 : Int) (x4 : Int) (M : q_Mem) (hO : q_Ok M) : q_EX (d + 1) yX6_visit cX6_visit 8 none 0 (q_args 0 [.inr (.inr 40), .inl x1, .inl x2, .inl x3, .inl x4]) [] M (fX6_visit G x1 x2 x3 x4 M) := by
  show q_EX _ _ _ _ _ 0 [(0, .inr (.inr 40)), (1, .inl x1), (2, .inl x2), (3, .inl x3), (4, .inl x4)] [] M _
  unfold fX6_visit
  refine q_aload_n 0 dX6_visit_0 rfl rfl ?_
  refine q_getx fl_X6_27 hO sh_40 rfl fx_40_4 dX6_visit_1 ?_
  refine q_iload 4 dX6_visit_4 rfl ?_
  refine q_iconst dX6_visit_6 ?_
  refine q_iast sh_49 (q_inA hO sh_49 (by decide)) dX6_visit_7 (fun M1 _ _ hM1 => ?_)
  have hO1 : q_Ok M1 := by rw [hM1]; exact q_Ok_arr (t := 0) hO sh_49 (by decide)
  refine q_iload 4 dX6_visit_8 rfl ?_
  refine q_aload_n 0 dX6_visit_10 rfl rfl ?_
  refine q_geti fl_X6_33 sh_40 (q_inO hO1 sh_40) rfl dX6_visit_11 ?_
  refine q_icmpne (tgt := 52) dX6_visit_14 (by decide) ?_ ?_
  · refine q_sub [0, 1, 2, 3, 4] rfl ?_
    exact tX6_visit_52 hd G hG x1 x2 x3 x4 M1 hO1
  · refine q_aload_n 0 dX6_visit_17 rfl rfl ?_
    refine q_geti fl_X6_39 sh_40 (q_inO hO1 sh_40) rfl dX6_visit_18 ?_
    refine q_iconst dX6_visit_21 ?_
    refine q_icmpeq (tgt := 33) dX6_visit_22 (by decide) ?_ ?_
    · refine q_sub [0, 1, 2, 3, 4] rfl ?_
      exact tX6_visit_33 hd G hG x1 x2 x3 x4 M1 hO1
    · refine q_iload_n 3 dX6_visit_25 rfl rfl ?_
      refine q_aload_n 0 dX6_visit_26 rfl rfl ?_
      refine q_geti fl_X6_39 sh_40 (q_inO hO1 sh_40) rfl dX6_visit_27 ?_
      refine q_icmpge (tgt := 52) dX6_visit_30 (by decide) ?_ ?_
      · refine q_sub [0, 1, 2, 3, 4] rfl ?_
        exact tX6_visit_52 hd G hG x1 x2 x3 x4 M1 hO1
      · refine q_sub [0, 1, 2, 3, 4] rfl ?_
        exact tX6_visit_33 hd G hG x1 x2 x3 x4 M1 hO1
def fV : Nat → Int → Int → Int → Int → q_Mem → Option (Int × q_Mem)
  | 0, _, _, _, _, _ => none
  | k + 1, a, b, e, f, M => fX6_visit (fV k) a b e f M
def q_VD : Nat := 10
theorem tVk : ∀ (k d : Nat), k + 1 ≤ d → ∀ (a b e f : Int) (M : q_Mem), q_Ok M → q_EX d yX6_visit cX6_visit 8 none 0 (q_args 0 [.inr (.inr 40), .inl a, .inl b, .inl e, .inl f]) [] M (fV k a b e f M)
  | 0, d, _, a, b, e, f, M, _ => q_none
  | k + 1, d, hd, a, b, e, f, M, hO => by
    obtain ⟨d, rfl⟩ : ∃ d', d = d' + 1 := ⟨d - 1, by omega⟩
    exact tX6_visit (by omega) (fV k) (fun a b e f M hO => tVk k d (by omega) a b e f M hO) a b e f M hO
theorem tV {d : Nat} (hd : 11 ≤ d) (a b e f : Int) (M : q_Mem) (hO : q_Ok M) : q_EX d yX6_visit cX6_visit 8 none 0 (q_args 0 [.inr (.inr 40), .inl a, .inl b, .inl e, .inl f]) [] M (fV q_VD a b e f M) := tVk q_VD d (by unfold q_VD; omega) a b e f M hO
def fX6_plan_120 (r1 : Nat) (K37 : Int → Int → q_Mem → Option (Int × q_Mem)) (K91 : Int → Int → Int → Int → q_Mem → Option (Int × q_Mem)) (x4 : Int) (x5 : Int) (x7 : Int) (s0 : Int) (M : q_Mem) : Option (Int × q_Mem) := (q_ldr 42 6 x5).bind fun r21 => (q_sto M r21 401 x7 s0).bind fun M1 => (K91 x4 x5 s0 (x7 + (-1)) M1)
theorem tX6_plan_120 {d : Nat} (hd : 11 ≤ d) (r1 : Nat) (hr1 : q_shp r1 = (0, 2)) (K37 : Int → Int → q_Mem → Option (Int × q_Mem)) (hK37 : ∀ (x4 : Int) (x5 : Int) (M : q_Mem), q_Ok M → q_EX (d + 1) yX6_plan cX6_plan 8 none 37 [(0, .inr (.inr 40)), (1, .inr (.inr r1)), (2, .inr (.inr 87)), (3, .inr (.inr 10)), (4, .inl x4), (5, .inl x5)] [] M (K37 x4 x5 M)) (K91 : Int → Int → Int → Int → q_Mem → Option (Int × q_Mem)) (hK91 : ∀ (x4 : Int) (x5 : Int) (x6 : Int) (x7 : Int) (M : q_Mem), q_Ok M → q_EX (d + 1) yX6_plan cX6_plan 8 none 91 [(0, .inr (.inr 40)), (1, .inr (.inr r1)), (2, .inr (.inr 87)), (3, .inr (.inr 10)), (4, .inl x4), (5, .inl x5), (6, .inl x6), (7, .inl x7)] [] M (K91 x4 x5 x6 x7 M)) (x4 : Int) (x5 : Int) (x7 : Int) (s0 : Int) (M : q_Mem) (hO : q_Ok M) : q_EX (d + 1) yX6_plan cX6_plan 8 none 120 [(0, .inr (.inr 40)), (1, .inr (.inr r1)), (2, .inr (.inr 87)), (3, .inr (.inr 10)), (4, .inl x4), (5, .inl x5), (7, .inl x7)] [.inl s0] M (fX6_plan_120 r1 K37 K91 x4 x5 x7 s0 M) := by
  unfold fX6_plan_120
  refine q_istore (ls' := [(6, .inl s0), (0, .inr (.inr 40)), (1, .inr (.inr r1)), (2, .inr (.inr 87)), (3, .inr (.inr 10)), (4, .inl x4), (5, .inl x5), (7, .inl x7)]) dX6_plan_120 (by decide) rfl ?_
  refine q_aload_n 1 dX6_plan_122 rfl rfl ?_
  refine q_getx fl_X6_24 hO sh_40 rfl fx_40_3 dX6_plan_123 ?_
  refine q_iload 6 dX6_plan_126 rfl ?_
  refine q_aaldX hO sh_42 rw_42 dX6_plan_128 (fun r21 _ _ _ hr21 => ?_)
  refine q_iload 7 dX6_plan_129 rfl ?_
  refine q_iload 0 dX6_plan_131 rfl ?_
  refine q_iast hr21 (q_inA hO hr21 (by decide)) dX6_plan_133 (fun M1 _ _ hM1 => ?_)
  have hO1 : q_Ok M1 := by rw [hM1]; exact q_Ok_arr (t := 0) hO hr21 (by decide)
  refine q_iinc (ls' := [(7, .inl (x7 + (-1))), (6, .inl s0), (0, .inr (.inr 40)), (1, .inr (.inr r1)), (2, .inr (.inr 87)), (3, .inr (.inr 10)), (4, .inl x4), (5, .inl x5)]) 7 dX6_plan_134 rfl (by decide) rfl ?_
  refine q_goto (tgt := 91) dX6_plan_137 (by decide) ?_
  refine q_sub [2, 3, 4, 5, 6, 7, 1, 0] rfl ?_
  exact hK91 x4 x5 s0 (x7 + (-1)) M1 hO1
def fX6_plan_140 (r1 : Nat) (K37 : Int → Int → q_Mem → Option (Int × q_Mem)) (x4 : Int) (x5 : Int) (M : q_Mem) : Option (Int × q_Mem) := (K37 x4 (x5 + 1) M)
theorem tX6_plan_140 {d : Nat} (hd : 11 ≤ d) (r1 : Nat) (hr1 : q_shp r1 = (0, 2)) (K37 : Int → Int → q_Mem → Option (Int × q_Mem)) (hK37 : ∀ (x4 : Int) (x5 : Int) (M : q_Mem), q_Ok M → q_EX (d + 1) yX6_plan cX6_plan 8 none 37 [(0, .inr (.inr 40)), (1, .inr (.inr r1)), (2, .inr (.inr 87)), (3, .inr (.inr 10)), (4, .inl x4), (5, .inl x5)] [] M (K37 x4 x5 M)) (x4 : Int) (x5 : Int) (M : q_Mem) (hO : q_Ok M) : q_EX (d + 1) yX6_plan cX6_plan 8 none 140 [(0, .inr (.inr 40)), (1, .inr (.inr r1)), (2, .inr (.inr 87)), (3, .inr (.inr 10)), (4, .inl x4), (5, .inl x5)] [] M (fX6_plan_140 r1 K37 x4 x5 M) := by
  unfold fX6_plan_140
  refine q_iinc (ls' := [(5, .inl (x5 + 1)), (0, .inr (.inr 40)), (1, .inr (.inr r1)), (2, .inr (.inr 87)), (3, .inr (.inr 10)), (4, .inl x4)]) 5 dX6_plan_140 rfl (by decide) rfl ?_
  refine q_goto (tgt := 37) dX6_plan_143 (by decide) ?_
  refine q_sub [1, 2, 3, 4, 5, 0] rfl ?_
  exact hK37 x4 (x5 + 1) M hO
def fX6_plan_91 (r1 : Nat) (K37 : Int → Int → q_Mem → Option (Int × q_Mem)) : Nat → Int → Int → Int → Int → q_Mem → Option (Int × q_Mem)
  | 0, _, _, _, _, _ => none
  | n + 1, x4, x5, x6, x7, M => if q_w x7 < q_w (M.2 10 0) then ((fX6_plan_140 r1 K37 x4 x5 M)) else (q_bd (fX5_paysAt x4 x5 x7 M) fun x21 M1 => if q_w x21 = 0 then ((fX6_plan_120 r1 K37 (fX6_plan_91 r1 K37 n) x4 x5 x7 x6 M1)) else ((fX6_plan_120 r1 K37 (fX6_plan_91 r1 K37 n) x4 x5 x7 x7 M1)))
theorem tX6_plan_91 {d : Nat} (hd : 11 ≤ d) (r1 : Nat) (hr1 : q_shp r1 = (0, 2)) (K37 : Int → Int → q_Mem → Option (Int × q_Mem)) (hK37 : ∀ (x4 : Int) (x5 : Int) (M : q_Mem), q_Ok M → q_EX (d + 1) yX6_plan cX6_plan 8 none 37 [(0, .inr (.inr 40)), (1, .inr (.inr r1)), (2, .inr (.inr 87)), (3, .inr (.inr 10)), (4, .inl x4), (5, .inl x5)] [] M (K37 x4 x5 M)) : ∀ (n : Nat) (x4 : Int) (x5 : Int) (x6 : Int) (x7 : Int) (M : q_Mem), q_Ok M → q_EX (d + 1) yX6_plan cX6_plan 8 none 91 [(0, .inr (.inr 40)), (1, .inr (.inr r1)), (2, .inr (.inr 87)), (3, .inr (.inr 10)), (4, .inl x4), (5, .inl x5), (6, .inl x6), (7, .inl x7)] [] M (fX6_plan_91 r1 K37 n x4 x5 x6 x7 M) := by
  intro n
  induction n with
  | zero => intro x4 x5 x6 x7 M hO; exact q_none
  | succ n ih =>
    intro x4 x5 x6 x7 M hO
    rw [fX6_plan_91]
    refine q_iload 7 dX6_plan_91 rfl ?_
    refine q_aload_n 3 dX6_plan_93 rfl rfl ?_
    refine q_geti fl_X6_63 sh_10 (q_inO hO sh_10) rfl dX6_plan_94 ?_
    refine q_icmplt (tgt := 140) dX6_plan_97 (by decide) ?_ ?_
    · refine q_sub [0, 1, 2, 3, 4, 5] rfl ?_
      exact tX6_plan_140 hd r1 hr1 K37 hK37 x4 x5 M hO
    · refine q_aload_n 2 dX6_plan_100 rfl rfl ?_
      refine q_iload 4 dX6_plan_101 rfl ?_
      refine q_iload 5 dX6_plan_103 rfl ?_
      refine q_iload 7 dX6_plan_105 rfl ?_
      refine q_callVi (As := [.inl x4, .inl x5, .inl x7]) hO mb_X5_paysAt mv_X5_paysAt ml_X6_66 sh_87 rfl dX6_plan_107 (fun _ => rfl) rfl (Nat.le_of_ble_eq_true rfl) rfl (Nat.le_of_ble_eq_true rfl) (tX5_paysAt (by omega) x4 x5 x7 M hO) (fun x21 M1 _ hO1 => ?_)
      refine q_ifeq (tgt := 118) dX6_plan_110 (by decide) ?_ ?_
      · refine q_iload 6 dX6_plan_118 rfl ?_
        refine q_sub [0, 1, 2, 3, 4, 5, 7] rfl ?_
        exact tX6_plan_120 hd r1 hr1 K37 hK37 (fX6_plan_91 r1 K37 n) ih x4 x5 x7 x6 M1 hO1
      · refine q_iload 7 dX6_plan_113 rfl ?_
        refine q_goto (tgt := 120) dX6_plan_115 (by decide) ?_
        refine q_sub [0, 1, 2, 3, 4, 5, 7] rfl ?_
        exact tX6_plan_120 hd r1 hr1 K37 hK37 (fX6_plan_91 r1 K37 n) ih x4 x5 x7 x7 M1 hO1
def fX6_plan_37 (r1 : Nat) : Nat → Int → Int → q_Mem → Option (Int × q_Mem)
  | 0, _, _, _ => none
  | n + 1, x4, x5, M => if q_w x5 < q_w (M.2 40 0) then (q_bd (fX1_hasBought x5 M) fun x21 M2 => if q_w x21 = 0 then (q_let (q_up M2 40 6 (q_or (M2.2 40 6) (q_shl 1 x5))) fun M3 => (q_ld M3 (q_fr r1 3) 6 x5).bind fun x22 => (q_sto M3 41 6 x5 x22).bind fun M4 => q_let (M4.2 40 1) fun x23 => (fX6_plan_91 r1 (fX6_plan_37 r1 n) q_FU x4 x5 (-1) x23 M4)) else ((fX6_plan_140 r1 (fX6_plan_37 r1 n) x4 x5 M2))) else (q_bd (fV q_VD 0 (M.2 10 1) (M.2 10 0) 0 M) fun _ M1 => some (0, M1))
theorem tX6_plan_37 {d : Nat} (hd : 11 ≤ d) (r1 : Nat) (hr1 : q_shp r1 = (0, 2)) : ∀ (n : Nat) (x4 : Int) (x5 : Int) (M : q_Mem), q_Ok M → q_EX (d + 1) yX6_plan cX6_plan 8 none 37 [(0, .inr (.inr 40)), (1, .inr (.inr r1)), (2, .inr (.inr 87)), (3, .inr (.inr 10)), (4, .inl x4), (5, .inl x5)] [] M (fX6_plan_37 r1 n x4 x5 M) := by
  intro n
  induction n with
  | zero => intro x4 x5 M hO; exact q_none
  | succ n ih =>
    intro x4 x5 M hO
    rw [fX6_plan_37]
    refine q_iload 5 dX6_plan_37 rfl ?_
    refine q_aload_n 0 dX6_plan_39 rfl rfl ?_
    refine q_geti fl_X6_9 sh_40 (q_inO hO sh_40) rfl dX6_plan_40 ?_
    refine q_icmpge (tgt := 146) dX6_plan_43 (by decide) ?_ ?_
    · refine q_aload_n 0 dX6_plan_146 rfl rfl ?_
      refine q_iconst dX6_plan_147 ?_
      refine q_aload_n 3 dX6_plan_148 rfl rfl ?_
      refine q_geti fl_X6_72 sh_10 (q_inO hO sh_10) rfl dX6_plan_149 ?_
      refine q_aload_n 3 dX6_plan_152 rfl rfl ?_
      refine q_geti fl_X6_63 sh_10 (q_inO hO sh_10) rfl dX6_plan_153 ?_
      refine q_iconst dX6_plan_156 ?_
      refine q_callVv (As := [.inl 0, .inl (M.2 10 1), .inl (M.2 10 0), .inl 0]) hO mb_X6_visit mv_X6_visit ml_X6_74 sh_40 rfl dX6_plan_157 (fun _ => rfl) rfl (Nat.le_of_ble_eq_true rfl) rfl (Nat.le_of_ble_eq_true rfl) (tV (by omega) 0 (M.2 10 1) (M.2 10 0) 0 M hO) (fun _ M1 _ hO1 => ?_)
      exact q_ret dX6_plan_160 rfl
    · refine q_aload_n 3 dX6_plan_46 rfl rfl ?_
      refine q_iload 5 dX6_plan_47 rfl ?_
      refine q_callVi (As := [.inl x5]) hO mb_X1_hasBought mv_X1_hasBought ml_X6_54 sh_10 rfl dX6_plan_49 (fun _ => rfl) rfl (Nat.le_of_ble_eq_true rfl) rfl (Nat.le_of_ble_eq_true rfl) (tX1_hasBought x5 M hO) (fun x21 M2 _ hO2 => ?_)
      refine q_ifne (tgt := 140) dX6_plan_52 (by decide) ?_ ?_
      · refine q_sub [0, 1, 2, 3, 4, 5] rfl ?_
        exact tX6_plan_140 hd r1 hr1 (fX6_plan_37 r1 n) ih x4 x5 M2 hO2
      · refine q_aload_n 0 dX6_plan_55 rfl rfl ?_
        refine q_dup dX6_plan_56 rfl ?_
        refine q_geti fl_X6_33 sh_40 (q_inO hO2 sh_40) rfl dX6_plan_57 ?_
        refine q_iconst dX6_plan_60 ?_
        refine q_iload 5 dX6_plan_61 rfl ?_
        refine q_ishl dX6_plan_63 ?_
        refine q_ior dX6_plan_64 ?_
        refine q_puti fl_X6_33 sh_40 (q_inO hO2 sh_40) (fun h => q_Ok_put h sh_40 rfl) rfl dX6_plan_65 (fun M3 hM3 => ?_)
        have hO3 : q_Ok M3 := by rw [hM3]; exact q_Ok_put hO2 sh_40 rfl
        refine q_aload_n 0 dX6_plan_68 rfl rfl ?_
        refine q_getx fl_X6_18 hO3 sh_40 rfl fx_40_2 dX6_plan_69 ?_
        refine q_iload 5 dX6_plan_72 rfl ?_
        refine q_aload_n 1 dX6_plan_74 rfl rfl ?_
        refine q_getx fl_X6_60 hO3 hr1 rfl (fs_2_3 hr1) dX6_plan_75 ?_
        refine q_iload 5 dX6_plan_78 rfl ?_
        refine q_iald (ft_2_3 hr1) (q_inA hO3 (ft_2_3 hr1) (by decide)) dX6_plan_80 (fun x22 _ _ _ => ?_)
        refine q_iast sh_41 (q_inA hO3 sh_41 (by decide)) dX6_plan_81 (fun M4 _ _ hM4 => ?_)
        have hO4 : q_Ok M4 := by rw [hM4]; exact q_Ok_arr (t := 0) hO3 sh_41 (by decide)
        refine q_iconst dX6_plan_82 ?_
        refine q_istore (ls' := [(6, .inl (-1)), (0, .inr (.inr 40)), (1, .inr (.inr r1)), (2, .inr (.inr 87)), (3, .inr (.inr 10)), (4, .inl x4), (5, .inl x5)]) dX6_plan_83 (by decide) rfl ?_
        refine q_aload_n 1 dX6_plan_85 rfl rfl ?_
        refine q_geti fl_X6_15 sh_40 (q_inO hO4 sh_40) rfl dX6_plan_86 ?_
        refine q_nameI (fun x23 _ => ?_)
        refine q_istore (ls' := [(7, .inl x23), (6, .inl (-1)), (0, .inr (.inr 40)), (1, .inr (.inr r1)), (2, .inr (.inr 87)), (3, .inr (.inr 10)), (4, .inl x4), (5, .inl x5)]) dX6_plan_89 (by decide) rfl ?_
        refine q_sub [2, 3, 4, 5, 6, 7, 1, 0] rfl ?_
        exact tX6_plan_91 hd r1 hr1 (fX6_plan_37 r1 n) ih q_FU x4 x5 (-1) x23 M4 hO4
def fX6_plan (r1 : Nat) (x4 : Int) (M : q_Mem) : Option (Int × q_Mem) := q_let (q_up M 40 0 (M.2 r1 1)) fun M1 => q_let (q_up M1 40 1 (M1.2 r1 0)) fun M2 => q_let (q_up M2 40 6 0) fun M3 => q_let (q_up M3 40 8 (-1)) fun M4 => q_bd (fJ7_fill_53178 49 64 0 M4) fun _ M5 => (fX6_plan_37 r1 q_FU x4 0 M5)
theorem tX6_plan {d : Nat} (hd : 12 ≤ d) (r1 : Nat) (x4 : Int) (M : q_Mem) (hO : q_Ok M) (hr1 : q_shp r1 = (0, 2)) : q_EX d yX6_plan cX6_plan 8 none 0 (q_args 0 [.inr (.inr 40), .inr (.inr r1), .inr (.inr 87), .inr (.inr 10), .inl x4]) [] M (fX6_plan r1 x4 M) := by
  obtain ⟨d, rfl⟩ : ∃ d', d = d' + 1 := ⟨d - 1, by omega⟩
  have hd : 11 ≤ d := by omega
  show q_EX _ _ _ _ _ 0 [(0, .inr (.inr 40)), (1, .inr (.inr r1)), (2, .inr (.inr 87)), (3, .inr (.inr 10)), (4, .inl x4)] [] M _
  unfold fX6_plan
  refine q_aload_n 0 dX6_plan_0 rfl rfl ?_
  refine q_aload_n 1 dX6_plan_1 rfl rfl ?_
  refine q_geti fl_X6_42 hr1 (q_inO hO hr1) rfl dX6_plan_2 ?_
  refine q_puti fl_X6_9 sh_40 (q_inO hO sh_40) (fun h => q_Ok_put h sh_40 rfl) rfl dX6_plan_5 (fun M1 hM1 => ?_)
  have hO1 : q_Ok M1 := by rw [hM1]; exact q_Ok_put hO sh_40 rfl
  refine q_aload_n 0 dX6_plan_8 rfl rfl ?_
  refine q_aload_n 1 dX6_plan_9 rfl rfl ?_
  refine q_geti fl_X6_45 hr1 (q_inO hO1 hr1) rfl dX6_plan_10 ?_
  refine q_puti fl_X6_15 sh_40 (q_inO hO1 sh_40) (fun h => q_Ok_put h sh_40 rfl) rfl dX6_plan_13 (fun M2 hM2 => ?_)
  have hO2 : q_Ok M2 := by rw [hM2]; exact q_Ok_put hO1 sh_40 rfl
  refine q_aload_n 0 dX6_plan_16 rfl rfl ?_
  refine q_iconst dX6_plan_17 ?_
  refine q_puti fl_X6_33 sh_40 (q_inO hO2 sh_40) (fun h => q_Ok_put h sh_40 rfl) rfl dX6_plan_18 (fun M3 hM3 => ?_)
  have hO3 : q_Ok M3 := by rw [hM3]; exact q_Ok_put hO2 sh_40 rfl
  refine q_aload_n 0 dX6_plan_21 rfl rfl ?_
  refine q_iconst dX6_plan_22 ?_
  refine q_puti fl_X6_39 sh_40 (q_inO hO3 sh_40) (fun h => q_Ok_put h sh_40 rfl) rfl dX6_plan_23 (fun M4 hM4 => ?_)
  have hO4 : q_Ok M4 := by rw [hM4]; exact q_Ok_put hO3 sh_40 rfl
  refine q_aload_n 0 dX6_plan_26 rfl rfl ?_
  refine q_getx fl_X6_27 hO4 sh_40 rfl fx_40_4 dX6_plan_27 ?_
  refine q_iconst dX6_plan_30 ?_
  refine q_callSv (As := [.inr (.inr 49), .inl 0]) hO4 mb_J7_fill_53178 ms_J7_fill_53178 ml_X6_48 dX6_plan_31 (fun _ => rfl) rfl (Nat.le_of_ble_eq_true rfl) rfl (Nat.le_of_ble_eq_true rfl) (tJ7_fill_53178 49 64 0 M4 hO4 sh_49) (fun _ M5 _ hO5 => ?_)
  refine q_iconst dX6_plan_34 ?_
  refine q_istore (ls' := [(5, .inl 0), (0, .inr (.inr 40)), (1, .inr (.inr r1)), (2, .inr (.inr 87)), (3, .inr (.inr 10)), (4, .inl x4)]) dX6_plan_35 (by decide) rfl ?_
  refine q_sub [1, 2, 3, 4, 5, 0] rfl ?_
  exact tX6_plan_37 hd r1 hr1 q_FU x4 0 M5 hO5
def fJ6_bitCount_0f7a4 (x0 : Int) (M : q_Mem) : Option (Int × q_Mem) := q_let (x0 - (q_and (q_ushr x0 1) 1431655765)) fun x21 => q_let ((q_and x21 858993459) + (q_and (q_ushr x21 2) 858993459)) fun x22 => q_let (q_and (x22 + (q_ushr x22 4)) 252645135) fun x23 => q_let (x23 + (q_ushr x23 8)) fun x24 => q_let (x24 + (q_ushr x24 16)) fun x25 => some ((q_and x25 63), M)
theorem tJ6_bitCount_0f7a4 {d : Nat} (x0 : Int) (M : q_Mem) (hO : q_Ok M) : q_EX d yJ6_bitCount_0f7a4 cJ6_bitCount_0f7a4 1 (some .int) 0 (q_args 0 [.inl x0]) [] M (fJ6_bitCount_0f7a4 x0 M) := by
  show q_EX _ _ _ _ _ 0 [(0, .inl x0)] [] M _
  unfold fJ6_bitCount_0f7a4
  refine q_iload_n 0 dJ6_bitCount_0f7a4_0 rfl rfl ?_
  refine q_iload_n 0 dJ6_bitCount_0f7a4_1 rfl rfl ?_
  refine q_iconst dJ6_bitCount_0f7a4_2 ?_
  refine q_iushr dJ6_bitCount_0f7a4_3 ?_
  refine q_ldcw dJ6_bitCount_0f7a4_4 kc_J6_265 (n := 1431655765) rfl ?_
  refine q_iand dJ6_bitCount_0f7a4_7 ?_
  refine q_isub dJ6_bitCount_0f7a4_8 ?_
  refine q_nameI (fun x21 _ => ?_)
  refine q_istore_n (ls' := [(0, .inl x21)]) dJ6_bitCount_0f7a4_9 rfl (by decide) rfl ?_
  refine q_iload_n 0 dJ6_bitCount_0f7a4_10 rfl rfl ?_
  refine q_ldcw dJ6_bitCount_0f7a4_11 kc_J6_266 (n := 858993459) rfl ?_
  refine q_iand dJ6_bitCount_0f7a4_14 ?_
  refine q_iload_n 0 dJ6_bitCount_0f7a4_15 rfl rfl ?_
  refine q_iconst dJ6_bitCount_0f7a4_16 ?_
  refine q_iushr dJ6_bitCount_0f7a4_17 ?_
  refine q_ldcw dJ6_bitCount_0f7a4_18 kc_J6_266 (n := 858993459) rfl ?_
  refine q_iand dJ6_bitCount_0f7a4_21 ?_
  refine q_iadd dJ6_bitCount_0f7a4_22 ?_
  refine q_nameI (fun x22 _ => ?_)
  refine q_istore_n (ls' := [(0, .inl x22)]) dJ6_bitCount_0f7a4_23 rfl (by decide) rfl ?_
  refine q_iload_n 0 dJ6_bitCount_0f7a4_24 rfl rfl ?_
  refine q_iload_n 0 dJ6_bitCount_0f7a4_25 rfl rfl ?_
  refine q_iconst dJ6_bitCount_0f7a4_26 ?_
  refine q_iushr dJ6_bitCount_0f7a4_27 ?_
  refine q_iadd dJ6_bitCount_0f7a4_28 ?_
  refine q_ldcw dJ6_bitCount_0f7a4_29 kc_J6_267 (n := 252645135) rfl ?_
  refine q_iand dJ6_bitCount_0f7a4_32 ?_
  refine q_nameI (fun x23 _ => ?_)
  refine q_istore_n (ls' := [(0, .inl x23)]) dJ6_bitCount_0f7a4_33 rfl (by decide) rfl ?_
  refine q_iload_n 0 dJ6_bitCount_0f7a4_34 rfl rfl ?_
  refine q_iload_n 0 dJ6_bitCount_0f7a4_35 rfl rfl ?_
  refine q_bipush dJ6_bitCount_0f7a4_36 (by decide) ?_
  refine q_iushr dJ6_bitCount_0f7a4_38 ?_
  refine q_iadd dJ6_bitCount_0f7a4_39 ?_
  refine q_nameI (fun x24 _ => ?_)
  refine q_istore_n (ls' := [(0, .inl x24)]) dJ6_bitCount_0f7a4_40 rfl (by decide) rfl ?_
  refine q_iload_n 0 dJ6_bitCount_0f7a4_41 rfl rfl ?_
  refine q_iload_n 0 dJ6_bitCount_0f7a4_42 rfl rfl ?_
  refine q_bipush dJ6_bitCount_0f7a4_43 (by decide) ?_
  refine q_iushr dJ6_bitCount_0f7a4_45 ?_
  refine q_iadd dJ6_bitCount_0f7a4_46 ?_
  refine q_nameI (fun x25 _ => ?_)
  refine q_istore_n (ls' := [(0, .inl x25)]) dJ6_bitCount_0f7a4_47 rfl (by decide) rfl ?_
  refine q_iload_n 0 dJ6_bitCount_0f7a4_48 rfl rfl ?_
  refine q_bipush dJ6_bitCount_0f7a4_49 (by decide) ?_
  refine q_iand dJ6_bitCount_0f7a4_51 ?_
  exact q_ret dJ6_bitCount_0f7a4_52 rfl
def fX6_fewestLeftOut_63 (K7 : Int → Int → q_Mem → Option (Int × q_Mem)) (x1 : Int) (x2 : Int) (M : q_Mem) : Option (Int × q_Mem) := (K7 x1 (x2 + 1) M)
theorem tX6_fewestLeftOut_63 {d : Nat} (hd : 0 ≤ d) (K7 : Int → Int → q_Mem → Option (Int × q_Mem)) (hK7 : ∀ (x1 : Int) (x2 : Int) (M : q_Mem), q_Ok M → q_EX (d + 1) yX6_fewestLeftOut cX6_fewestLeftOut 5 (some .int) 7 [(0, .inr (.inr 40)), (1, .inl x1), (2, .inl x2)] [] M (K7 x1 x2 M)) (x1 : Int) (x2 : Int) (M : q_Mem) (hO : q_Ok M) : q_EX (d + 1) yX6_fewestLeftOut cX6_fewestLeftOut 5 (some .int) 63 [(0, .inr (.inr 40)), (1, .inl x1), (2, .inl x2)] [] M (fX6_fewestLeftOut_63 K7 x1 x2 M) := by
  unfold fX6_fewestLeftOut_63
  refine q_iinc (ls' := [(2, .inl (x2 + 1)), (0, .inr (.inr 40)), (1, .inl x1)]) 2 dX6_fewestLeftOut_63 rfl (by decide) rfl ?_
  refine q_goto (tgt := 7) dX6_fewestLeftOut_66 (by decide) ?_
  refine q_sub [1, 2, 0] rfl ?_
  exact hK7 x1 (x2 + 1) M hO
def fX6_fewestLeftOut_61 (K7 : Int → Int → q_Mem → Option (Int × q_Mem)) (x2 : Int) (x3 : Int) (M : q_Mem) : Option (Int × q_Mem) := (fX6_fewestLeftOut_63 K7 x3 x2 M)
theorem tX6_fewestLeftOut_61 {d : Nat} (hd : 0 ≤ d) (K7 : Int → Int → q_Mem → Option (Int × q_Mem)) (hK7 : ∀ (x1 : Int) (x2 : Int) (M : q_Mem), q_Ok M → q_EX (d + 1) yX6_fewestLeftOut cX6_fewestLeftOut 5 (some .int) 7 [(0, .inr (.inr 40)), (1, .inl x1), (2, .inl x2)] [] M (K7 x1 x2 M)) (x2 : Int) (x3 : Int) (M : q_Mem) (hO : q_Ok M) : q_EX (d + 1) yX6_fewestLeftOut cX6_fewestLeftOut 5 (some .int) 61 [(0, .inr (.inr 40)), (2, .inl x2), (3, .inl x3)] [] M (fX6_fewestLeftOut_61 K7 x2 x3 M) := by
  unfold fX6_fewestLeftOut_61
  refine q_iload_n 2 dX6_fewestLeftOut_61 rfl rfl ?_
  refine q_istore_n (ls' := [(1, .inl x3), (0, .inr (.inr 40)), (2, .inl x2), (3, .inl x3)]) dX6_fewestLeftOut_62 rfl (by decide) rfl ?_
  refine q_sub [1, 0, 2] rfl ?_
  exact tX6_fewestLeftOut_63 hd K7 hK7 x3 x2 M hO
def fX6_fewestLeftOut_7  : Nat → Int → Int → q_Mem → Option (Int × q_Mem)
  | 0, _, _, _ => none
  | n + 1, x1, x2, M => if q_w x2 < q_w ((64 : Nat) : Int) then (q_let (q_and (M.2 40 6) (q_xor x2 (-1))) fun x21 => q_bd (fJ6_bitCount_0f7a4 x21 M) fun x22 M1 => q_bd (fJ6_bitCount_0f7a4 x1 M1) fun x23 M2 => q_let (x22 - x23) fun x24 => (q_ld M2 49 64 x2).bind fun x25 => if q_w x25 = q_w 1 then (if q_w x24 < 0 then ((fX6_fewestLeftOut_61 (fX6_fewestLeftOut_7 n) x2 x21 M2)) else (if q_w x24 = 0 then (if q_w x21 < q_w x1 then ((fX6_fewestLeftOut_61 (fX6_fewestLeftOut_7 n) x2 x21 M2)) else ((fX6_fewestLeftOut_63 (fX6_fewestLeftOut_7 n) x1 x2 M2))) else ((fX6_fewestLeftOut_63 (fX6_fewestLeftOut_7 n) x1 x2 M2)))) else ((fX6_fewestLeftOut_63 (fX6_fewestLeftOut_7 n) x1 x2 M2))) else (some (x1, M))
theorem tX6_fewestLeftOut_7 {d : Nat} (hd : 0 ≤ d) : ∀ (n : Nat) (x1 : Int) (x2 : Int) (M : q_Mem), q_Ok M → q_EX (d + 1) yX6_fewestLeftOut cX6_fewestLeftOut 5 (some .int) 7 [(0, .inr (.inr 40)), (1, .inl x1), (2, .inl x2)] [] M (fX6_fewestLeftOut_7 n x1 x2 M) := by
  intro n
  induction n with
  | zero => intro x1 x2 M hO; exact q_none
  | succ n ih =>
    intro x1 x2 M hO
    rw [fX6_fewestLeftOut_7]
    refine q_iload_n 2 dX6_fewestLeftOut_7 rfl rfl ?_
    refine q_aload_n 0 dX6_fewestLeftOut_8 rfl rfl ?_
    refine q_getx fl_X6_27 hO sh_40 rfl fx_40_4 dX6_fewestLeftOut_9 ?_
    refine q_alen (t := 0) sh_49 (by decide) (q_inA hO sh_49 (by decide)) dX6_fewestLeftOut_12 ?_
    refine q_icmpge (tgt := 69) dX6_fewestLeftOut_13 (by decide) ?_ ?_
    · refine q_iload_n 1 dX6_fewestLeftOut_69 rfl rfl ?_
      exact q_ret dX6_fewestLeftOut_70 rfl
    · refine q_aload_n 0 dX6_fewestLeftOut_16 rfl rfl ?_
      refine q_geti fl_X6_33 sh_40 (q_inO hO sh_40) rfl dX6_fewestLeftOut_17 ?_
      refine q_iload_n 2 dX6_fewestLeftOut_20 rfl rfl ?_
      refine q_iconst dX6_fewestLeftOut_21 ?_
      refine q_ixor dX6_fewestLeftOut_22 ?_
      refine q_iand dX6_fewestLeftOut_23 ?_
      refine q_nameI (fun x21 _ => ?_)
      refine q_istore_n (ls' := [(3, .inl x21), (0, .inr (.inr 40)), (1, .inl x1), (2, .inl x2)]) dX6_fewestLeftOut_24 rfl (by decide) rfl ?_
      refine q_iload_n 0 dX6_fewestLeftOut_25 rfl rfl ?_
      refine q_callSi (As := [.inl x21]) hO mb_J6_bitCount_0f7a4 ms_J6_bitCount_0f7a4 ml_X6_90 dX6_fewestLeftOut_26 (fun _ => rfl) rfl (Nat.le_of_ble_eq_true rfl) rfl (Nat.le_of_ble_eq_true rfl) (tJ6_bitCount_0f7a4 x21 M hO) (fun x22 M1 _ hO1 => ?_)
      refine q_iload_n 2 dX6_fewestLeftOut_29 rfl rfl ?_
      refine q_callSi (As := [.inl x1]) hO1 mb_J6_bitCount_0f7a4 ms_J6_bitCount_0f7a4 ml_X6_90 dX6_fewestLeftOut_30 (fun _ => rfl) rfl (Nat.le_of_ble_eq_true rfl) rfl (Nat.le_of_ble_eq_true rfl) (tJ6_bitCount_0f7a4 x1 M1 hO1) (fun x23 M2 _ hO2 => ?_)
      refine q_isub dX6_fewestLeftOut_33 ?_
      refine q_nameI (fun x24 _ => ?_)
      refine q_istore (ls' := [(4, .inl x24), (3, .inl x21), (0, .inr (.inr 40)), (1, .inl x1), (2, .inl x2)]) dX6_fewestLeftOut_34 (by decide) rfl ?_
      refine q_aload_n 2 dX6_fewestLeftOut_36 rfl rfl ?_
      refine q_getx fl_X6_27 hO2 sh_40 rfl fx_40_4 dX6_fewestLeftOut_37 ?_
      refine q_iload_n 4 dX6_fewestLeftOut_40 rfl rfl ?_
      refine q_iald sh_49 (q_inA hO2 sh_49 (by decide)) dX6_fewestLeftOut_41 (fun x25 _ _ _ => ?_)
      refine q_iconst dX6_fewestLeftOut_42 ?_
      refine q_icmpne (tgt := 63) dX6_fewestLeftOut_43 (by decide) ?_ ?_
      · refine q_sub [2, 3, 4] rfl ?_
        exact tX6_fewestLeftOut_63 hd (fX6_fewestLeftOut_7 n) ih x1 x2 M2 hO2
      · refine q_iload 0 dX6_fewestLeftOut_46 rfl ?_
        refine q_iflt (tgt := 61) dX6_fewestLeftOut_48 (by decide) ?_ ?_
        · refine q_sub [2, 4, 1] rfl ?_
          exact tX6_fewestLeftOut_61 hd (fX6_fewestLeftOut_7 n) ih x2 x21 M2 hO2
        · refine q_iload 0 dX6_fewestLeftOut_51 rfl ?_
          refine q_ifne (tgt := 63) dX6_fewestLeftOut_53 (by decide) ?_ ?_
          · refine q_sub [2, 3, 4] rfl ?_
            exact tX6_fewestLeftOut_63 hd (fX6_fewestLeftOut_7 n) ih x1 x2 M2 hO2
          · refine q_iload_n 1 dX6_fewestLeftOut_56 rfl rfl ?_
            refine q_iload_n 3 dX6_fewestLeftOut_57 rfl rfl ?_
            refine q_icmpge (tgt := 63) dX6_fewestLeftOut_58 (by decide) ?_ ?_
            · refine q_sub [2, 3, 4] rfl ?_
              exact tX6_fewestLeftOut_63 hd (fX6_fewestLeftOut_7 n) ih x1 x2 M2 hO2
            · refine q_sub [2, 4, 1] rfl ?_
              exact tX6_fewestLeftOut_61 hd (fX6_fewestLeftOut_7 n) ih x2 x21 M2 hO2
def fX6_fewestLeftOut (M : q_Mem) : Option (Int × q_Mem) := q_let (M.2 40 6) fun x21 => (fX6_fewestLeftOut_7 q_FU x21 0 M)
theorem tX6_fewestLeftOut {d : Nat} (hd : 1 ≤ d) (M : q_Mem) (hO : q_Ok M) : q_EX d yX6_fewestLeftOut cX6_fewestLeftOut 5 (some .int) 0 (q_args 0 [.inr (.inr 40)]) [] M (fX6_fewestLeftOut M) := by
  obtain ⟨d, rfl⟩ : ∃ d', d = d' + 1 := ⟨d - 1, by omega⟩
  have hd : 0 ≤ d := by omega
  show q_EX _ _ _ _ _ 0 [(0, .inr (.inr 40))] [] M _
  unfold fX6_fewestLeftOut
  refine q_aload_n 0 dX6_fewestLeftOut_0 rfl rfl ?_
  refine q_geti fl_X6_33 sh_40 (q_inO hO sh_40) rfl dX6_fewestLeftOut_1 ?_
  refine q_nameI (fun x21 _ => ?_)
  refine q_istore_n (ls' := [(1, .inl x21), (0, .inr (.inr 40))]) dX6_fewestLeftOut_4 rfl (by decide) rfl ?_
  refine q_iconst dX6_fewestLeftOut_5 ?_
  refine q_istore_n (ls' := [(2, .inl 0), (1, .inl x21), (0, .inr (.inr 40))]) dX6_fewestLeftOut_6 rfl (by decide) rfl ?_
  refine q_sub [2, 1, 0] rfl ?_
  exact tX6_fewestLeftOut_7 hd q_FU x21 0 M hO
def fX9_isSuch_29 (r1 : Nat) (r2 : Nat) : Nat → Int → q_Mem → Option (Int × q_Mem)
  | 0, _, _ => none
  | n + 1, x3, M => if q_w x3 < q_w (M.2 r1 1) then (q_bd (fX10_at r1 x3 M) fun x21 M1 => if q_w x21 < q_w (M1.2 r2 7) then (q_bd (fX10_at r1 (x3 + 1) M1) fun x22 M2 => if q_w x22 < q_w (M2.2 r2 1) then ((fX9_isSuch_29 r1 r2 n (x3 + 4) M2)) else (some (0, M2))) else (some (0, M1))) else (some (1, M))
theorem tX9_isSuch_29 {d : Nat} (hd : 0 ≤ d) (r1 : Nat) (hr1 : q_shp r1 = (0, 10)) (r2 : Nat) (hr2 : q_shp r2 = (0, 2)) : ∀ (n : Nat) (x3 : Int) (M : q_Mem), q_Ok M → q_EX (d + 1) yX9_isSuch cX9_isSuch 4 (some .boolean) 29 [(1, .inr (.inr r1)), (2, .inr (.inr r2)), (3, .inl x3)] [] M (fX9_isSuch_29 r1 r2 n x3 M) := by
  intro n
  induction n with
  | zero => intro x3 M hO; exact q_none
  | succ n ih =>
    intro x3 M hO
    rw [fX9_isSuch_29]
    refine q_iload_n 2 dX9_isSuch_29 rfl rfl ?_
    refine q_aload_n 0 dX9_isSuch_30 rfl rfl ?_
    refine q_geti fl_X9_25 hr1 (q_inO hO hr1) rfl dX9_isSuch_31 ?_
    refine q_icmpge (tgt := 71) dX9_isSuch_34 (by decide) ?_ ?_
    · refine q_iconst dX9_isSuch_71 ?_
      exact q_ret ⟨dX9_isSuch_72, by decide⟩ rfl
    · refine q_aload_n 0 dX9_isSuch_37 rfl rfl ?_
      refine q_iload_n 2 dX9_isSuch_38 rfl rfl ?_
      refine q_callVi (As := [.inl x3]) hO mb_X10_at mv_X10_at ml_X9_29 hr1 rfl dX9_isSuch_39 (fun _ => rfl) rfl (Nat.le_of_ble_eq_true rfl) rfl (Nat.le_of_ble_eq_true rfl) (tX10_at r1 x3 M hO hr1) (fun x21 M1 _ hO1 => ?_)
      refine q_aload_n 1 dX9_isSuch_42 rfl rfl ?_
      refine q_geti fl_X9_33 hr2 (q_inO hO1 hr2) rfl dX9_isSuch_43 ?_
      refine q_icmpge (tgt := 63) dX9_isSuch_46 (by decide) ?_ ?_
      · refine q_iconst dX9_isSuch_63 ?_
        exact q_ret ⟨dX9_isSuch_64, by decide⟩ rfl
      · refine q_aload_n 0 dX9_isSuch_49 rfl rfl ?_
        refine q_iload_n 2 dX9_isSuch_50 rfl rfl ?_
        refine q_iconst dX9_isSuch_51 ?_
        refine q_iadd dX9_isSuch_52 ?_
        refine q_callVi (As := [.inl (x3 + 1)]) hO1 mb_X10_at mv_X10_at ml_X9_29 hr1 rfl dX9_isSuch_53 (fun _ => rfl) rfl (Nat.le_of_ble_eq_true rfl) rfl (Nat.le_of_ble_eq_true rfl) (tX10_at r1 (x3 + 1) M1 hO1 hr1) (fun x22 M2 _ hO2 => ?_)
        refine q_aload_n 1 dX9_isSuch_56 rfl rfl ?_
        refine q_geti fl_X9_38 hr2 (q_inO hO2 hr2) rfl dX9_isSuch_57 ?_
        refine q_icmplt (tgt := 65) dX9_isSuch_60 (by decide) ?_ ?_
        · refine q_iinc (ls' := [(3, .inl (x3 + 4)), (1, .inr (.inr r1)), (2, .inr (.inr r2))]) 2 dX9_isSuch_65 rfl (by decide) rfl ?_
          refine q_goto (tgt := 29) dX9_isSuch_68 (by decide) ?_
          refine q_sub [1, 2, 0] rfl ?_
          exact ih (x3 + 4) M2 hO2
        · refine q_iconst dX9_isSuch_63 ?_
          exact q_ret ⟨dX9_isSuch_64, by decide⟩ rfl
def fX9_isSuch (r1 : Nat) (r2 : Nat) (M : q_Mem) : Option (Int × q_Mem) := if q_w (M.2 r1 1) = 0 then (some (0, M)) else (if q_w (q_rem (M.2 r1 1) 4) = 0 then (if q_w 64 < q_w (M.2 r1 1) then (some (0, M)) else ((fX9_isSuch_29 r1 r2 q_FU 0 M))) else (some (0, M)))
theorem tX9_isSuch {d : Nat} (hd : 1 ≤ d) (r1 : Nat) (r2 : Nat) (M : q_Mem) (hO : q_Ok M) (hr1 : q_shp r1 = (0, 10)) (hr2 : q_shp r2 = (0, 2)) : q_EX d yX9_isSuch cX9_isSuch 4 (some .boolean) 0 (q_args 0 [.inr (.inr 36), .inr (.inr r1), .inr (.inr r2)]) [] M (fX9_isSuch r1 r2 M) := by
  obtain ⟨d, rfl⟩ : ∃ d', d = d' + 1 := ⟨d - 1, by omega⟩
  have hd : 0 ≤ d := by omega
  show q_EX _ _ _ _ _ 0 [(0, .inr (.inr 36)), (1, .inr (.inr r1)), (2, .inr (.inr r2))] [] M _
  unfold fX9_isSuch
  refine q_aload_n 1 dX9_isSuch_0 rfl rfl ?_
  refine q_geti fl_X9_25 hr1 (q_inO hO hr1) rfl dX9_isSuch_1 ?_
  refine q_ifeq (tgt := 25) dX9_isSuch_4 (by decide) ?_ ?_
  · refine q_iconst dX9_isSuch_25 ?_
    exact q_ret ⟨dX9_isSuch_26, by decide⟩ rfl
  · refine q_aload_n 1 dX9_isSuch_7 rfl rfl ?_
    refine q_geti fl_X9_25 hr1 (q_inO hO hr1) rfl dX9_isSuch_8 ?_
    refine q_iconst dX9_isSuch_11 ?_
    refine q_irem dX9_isSuch_12 (by decide) ?_
    refine q_ifne (tgt := 25) dX9_isSuch_13 (by decide) ?_ ?_
    · refine q_iconst dX9_isSuch_25 ?_
      exact q_ret ⟨dX9_isSuch_26, by decide⟩ rfl
    · refine q_aload_n 1 dX9_isSuch_16 rfl rfl ?_
      refine q_geti fl_X9_25 hr1 (q_inO hO hr1) rfl dX9_isSuch_17 ?_
      refine q_bipush dX9_isSuch_20 (by decide) ?_
      refine q_icmple (tgt := 27) dX9_isSuch_22 (by decide) ?_ ?_
      · refine q_iconst dX9_isSuch_27 ?_
        refine q_istore_n (ls' := [(3, .inl 0), (0, .inr (.inr 36)), (1, .inr (.inr r1)), (2, .inr (.inr r2))]) dX9_isSuch_28 rfl (by decide) rfl ?_
        refine q_sub [2, 3, 0] rfl ?_
        exact tX9_isSuch_29 hd r1 hr1 r2 hr2 q_FU 0 M hO
      · refine q_iconst dX9_isSuch_25 ?_
        exact q_ret ⟨dX9_isSuch_26, by decide⟩ rfl
def fX9_take_17 (r1 : Nat) : Nat → Int → q_Mem → Option (Int × q_Mem)
  | 0, _, _ => none
  | n + 1, x2, M => if q_w x2 < q_w (M.2 36 0) then (q_bd (fX10_at r1 (4 * x2) M) fun x21 M1 => (q_sto M1 37 16 x2 x21).bind fun M2 => q_bd (fX10_at r1 ((4 * x2) + 1) M2) fun x22 M3 => (q_sto M3 38 16 x2 x22).bind fun M4 => q_bd (fX10_twoAt r1 ((4 * x2) + 2) M4) fun x23 M5 => (q_sto M5 39 16 x2 x23).bind fun M6 => (fX9_take_17 r1 n (x2 + 1) M6)) else (some (0, M))
theorem tX9_take_17 {d : Nat} (hd : 1 ≤ d) (r1 : Nat) (hr1 : q_shp r1 = (0, 10)) : ∀ (n : Nat) (x2 : Int) (M : q_Mem), q_Ok M → q_EX (d + 1) yX9_take cX9_take 3 none 17 [(0, .inr (.inr 36)), (1, .inr (.inr r1)), (2, .inl x2)] [] M (fX9_take_17 r1 n x2 M) := by
  intro n
  induction n with
  | zero => intro x2 M hO; exact q_none
  | succ n ih =>
    intro x2 M hO
    rw [fX9_take_17]
    refine q_iload_n 2 dX9_take_17 rfl rfl ?_
    refine q_aload_n 0 dX9_take_18 rfl rfl ?_
    refine q_geti fl_X9_9 sh_36 (q_inO hO sh_36) rfl dX9_take_19 ?_
    refine q_icmpge (tgt := 74) dX9_take_22 (by decide) ?_ ?_
    · exact q_ret dX9_take_74 rfl
    · refine q_aload_n 0 dX9_take_25 rfl rfl ?_
      refine q_getx fl_X9_15 hO sh_36 rfl fx_36_1 dX9_take_26 ?_
      refine q_iload_n 2 dX9_take_29 rfl rfl ?_
      refine q_aload_n 1 dX9_take_30 rfl rfl ?_
      refine q_iconst dX9_take_31 ?_
      refine q_iload_n 2 dX9_take_32 rfl rfl ?_
      refine q_imul dX9_take_33 ?_
      refine q_callVi (As := [.inl (4 * x2)]) hO mb_X10_at mv_X10_at ml_X9_29 hr1 rfl dX9_take_34 (fun _ => rfl) rfl (Nat.le_of_ble_eq_true rfl) rfl (Nat.le_of_ble_eq_true rfl) (tX10_at r1 (4 * x2) M hO hr1) (fun x21 M1 _ hO1 => ?_)
      refine q_iast sh_37 (q_inA hO1 sh_37 (by decide)) dX9_take_37 (fun M2 _ _ hM2 => ?_)
      have hO2 : q_Ok M2 := by rw [hM2]; exact q_Ok_arr (t := 0) hO1 sh_37 (by decide)
      refine q_aload_n 0 dX9_take_38 rfl rfl ?_
      refine q_getx fl_X9_19 hO2 sh_36 rfl fx_36_2 dX9_take_39 ?_
      refine q_iload_n 2 dX9_take_42 rfl rfl ?_
      refine q_aload_n 1 dX9_take_43 rfl rfl ?_
      refine q_iconst dX9_take_44 ?_
      refine q_iload_n 2 dX9_take_45 rfl rfl ?_
      refine q_imul dX9_take_46 ?_
      refine q_iconst dX9_take_47 ?_
      refine q_iadd dX9_take_48 ?_
      refine q_callVi (As := [.inl ((4 * x2) + 1)]) hO2 mb_X10_at mv_X10_at ml_X9_29 hr1 rfl dX9_take_49 (fun _ => rfl) rfl (Nat.le_of_ble_eq_true rfl) rfl (Nat.le_of_ble_eq_true rfl) (tX10_at r1 ((4 * x2) + 1) M2 hO2 hr1) (fun x22 M3 _ hO3 => ?_)
      refine q_iast sh_38 (q_inA hO3 sh_38 (by decide)) dX9_take_52 (fun M4 _ _ hM4 => ?_)
      have hO4 : q_Ok M4 := by rw [hM4]; exact q_Ok_arr (t := 0) hO3 sh_38 (by decide)
      refine q_aload_n 0 dX9_take_53 rfl rfl ?_
      refine q_getx fl_X9_22 hO4 sh_36 rfl fx_36_3 dX9_take_54 ?_
      refine q_iload_n 2 dX9_take_57 rfl rfl ?_
      refine q_aload_n 1 dX9_take_58 rfl rfl ?_
      refine q_iconst dX9_take_59 ?_
      refine q_iload_n 2 dX9_take_60 rfl rfl ?_
      refine q_imul dX9_take_61 ?_
      refine q_iconst dX9_take_62 ?_
      refine q_iadd dX9_take_63 ?_
      refine q_callVi (As := [.inl ((4 * x2) + 2)]) hO4 mb_X10_twoAt mv_X10_twoAt ml_X9_47 hr1 rfl dX9_take_64 (fun _ => rfl) rfl (Nat.le_of_ble_eq_true rfl) rfl (Nat.le_of_ble_eq_true rfl) (tX10_twoAt (by omega) r1 ((4 * x2) + 2) M4 hO4 hr1) (fun x23 M5 _ hO5 => ?_)
      refine q_iast sh_39 (q_inA hO5 sh_39 (by decide)) dX9_take_67 (fun M6 _ _ hM6 => ?_)
      have hO6 : q_Ok M6 := by rw [hM6]; exact q_Ok_arr (t := 0) hO5 sh_39 (by decide)
      refine q_iinc (ls' := [(2, .inl (x2 + 1)), (0, .inr (.inr 36)), (1, .inr (.inr r1))]) 2 dX9_take_68 rfl (by decide) rfl ?_
      refine q_goto (tgt := 17) dX9_take_71 (by decide) ?_
      refine q_sub [1, 2, 0] rfl ?_
      exact ih (x2 + 1) M6 hO6
def fX9_take (r1 : Nat) (M : q_Mem) : Option (Int × q_Mem) := q_let (q_up M 36 0 (q_min 16 (q_div (M.2 r1 1) 4))) fun M1 => (fX9_take_17 r1 q_FU 0 M1)
theorem tX9_take {d : Nat} (hd : 2 ≤ d) (r1 : Nat) (M : q_Mem) (hO : q_Ok M) (hr1 : q_shp r1 = (0, 10)) : q_EX d yX9_take cX9_take 3 none 0 (q_args 0 [.inr (.inr 36), .inr (.inr r1)]) [] M (fX9_take r1 M) := by
  obtain ⟨d, rfl⟩ : ∃ d', d = d' + 1 := ⟨d - 1, by omega⟩
  have hd : 1 ≤ d := by omega
  show q_EX _ _ _ _ _ 0 [(0, .inr (.inr 36)), (1, .inr (.inr r1))] [] M _
  unfold fX9_take
  refine q_aload_n 0 dX9_take_0 rfl rfl ?_
  refine q_bipush dX9_take_1 (by decide) ?_
  refine q_aload_n 1 dX9_take_3 rfl rfl ?_
  refine q_geti fl_X9_25 hr1 (q_inO hO hr1) rfl dX9_take_4 ?_
  refine q_iconst dX9_take_7 ?_
  refine q_idiv dX9_take_8 (by decide) ?_
  refine q_mmin ml_X9_41' jm_min ni_J9 jc_min (Nat.le_of_ble_eq_true rfl) dX9_take_9 ?_
  refine q_puti fl_X9_9 sh_36 (q_inO hO sh_36) (fun h => q_Ok_put h sh_36 rfl) rfl dX9_take_12 (fun M1 hM1 => ?_)
  have hO1 : q_Ok M1 := by rw [hM1]; exact q_Ok_put hO sh_36 rfl
  refine q_iconst dX9_take_15 ?_
  refine q_istore_n (ls' := [(2, .inl 0), (0, .inr (.inr 36)), (1, .inr (.inr r1))]) dX9_take_16 rfl (by decide) rfl ?_
  refine q_sub [1, 2, 0] rfl ?_
  exact tX9_take_17 hd r1 hr1 q_FU 0 M1 hO1
def fX9_wrongRows_50 (K5 : Int → Int → Int → q_Mem → Option (Int × q_Mem)) (x2 : Int) (x3 : Int) (x4 : Int) (M : q_Mem) : Option (Int × q_Mem) := (K5 x2 x3 (x4 + 1) M)
theorem tX9_wrongRows_50 {d : Nat} (hd : 4 ≤ d) (K5 : Int → Int → Int → q_Mem → Option (Int × q_Mem)) (hK5 : ∀ (x2 : Int) (x3 : Int) (x4 : Int) (M : q_Mem), q_Ok M → q_EX (d + 1) yX9_wrongRows cX9_wrongRows 5 (some .int) 5 [(0, .inr (.inr 36)), (1, .inr (.inr 87)), (2, .inl x2), (3, .inl x3), (4, .inl x4)] [] M (K5 x2 x3 x4 M)) (x2 : Int) (x3 : Int) (x4 : Int) (M : q_Mem) (hO : q_Ok M) : q_EX (d + 1) yX9_wrongRows cX9_wrongRows 5 (some .int) 50 [(0, .inr (.inr 36)), (1, .inr (.inr 87)), (2, .inl x2), (3, .inl x3), (4, .inl x4)] [] M (fX9_wrongRows_50 K5 x2 x3 x4 M) := by
  unfold fX9_wrongRows_50
  refine q_iinc (ls' := [(4, .inl (x4 + 1)), (0, .inr (.inr 36)), (1, .inr (.inr 87)), (2, .inl x2), (3, .inl x3)]) 4 dX9_wrongRows_50 rfl (by decide) rfl ?_
  refine q_goto (tgt := 5) dX9_wrongRows_53 (by decide) ?_
  refine q_sub [1, 2, 3, 4, 0] rfl ?_
  exact hK5 x2 x3 (x4 + 1) M hO
def fX9_wrongRows_5  : Nat → Int → Int → Int → q_Mem → Option (Int × q_Mem)
  | 0, _, _, _, _ => none
  | n + 1, x2, x3, x4, M => if q_w x4 < q_w (M.2 36 0) then ((q_ld M 37 16 x4).bind fun x21 => (q_ld M 38 16 x4).bind fun x22 => q_bd (fX5_lengthAt x21 x22 x2 M) fun x23 M1 => (q_ld M1 39 16 x4).bind fun x24 => if q_w x23 = q_w x24 then ((fX9_wrongRows_50 (fX9_wrongRows_5 n) x2 x3 x4 M1)) else (q_let (q_or x3 (q_shl 1 x4)) fun x25 => (fX9_wrongRows_50 (fX9_wrongRows_5 n) x2 x25 x4 M1))) else (some (x3, M))
theorem tX9_wrongRows_5 {d : Nat} (hd : 4 ≤ d) : ∀ (n : Nat) (x2 : Int) (x3 : Int) (x4 : Int) (M : q_Mem), q_Ok M → q_EX (d + 1) yX9_wrongRows cX9_wrongRows 5 (some .int) 5 [(0, .inr (.inr 36)), (1, .inr (.inr 87)), (2, .inl x2), (3, .inl x3), (4, .inl x4)] [] M (fX9_wrongRows_5 n x2 x3 x4 M) := by
  intro n
  induction n with
  | zero => intro x2 x3 x4 M hO; exact q_none
  | succ n ih =>
    intro x2 x3 x4 M hO
    rw [fX9_wrongRows_5]
    refine q_iload 4 dX9_wrongRows_5 rfl ?_
    refine q_aload_n 0 dX9_wrongRows_7 rfl rfl ?_
    refine q_geti fl_X9_9 sh_36 (q_inO hO sh_36) rfl dX9_wrongRows_8 ?_
    refine q_icmpge (tgt := 56) dX9_wrongRows_11 (by decide) ?_ ?_
    · refine q_iload_n 3 dX9_wrongRows_56 rfl rfl ?_
      exact q_ret dX9_wrongRows_57 rfl
    · refine q_aload_n 1 dX9_wrongRows_14 rfl rfl ?_
      refine q_aload_n 0 dX9_wrongRows_15 rfl rfl ?_
      refine q_getx fl_X9_15 hO sh_36 rfl fx_36_1 dX9_wrongRows_16 ?_
      refine q_iload 4 dX9_wrongRows_19 rfl ?_
      refine q_iald sh_37 (q_inA hO sh_37 (by decide)) dX9_wrongRows_21 (fun x21 _ _ _ => ?_)
      refine q_aload_n 0 dX9_wrongRows_22 rfl rfl ?_
      refine q_getx fl_X9_19 hO sh_36 rfl fx_36_2 dX9_wrongRows_23 ?_
      refine q_iload 4 dX9_wrongRows_26 rfl ?_
      refine q_iald sh_38 (q_inA hO sh_38 (by decide)) dX9_wrongRows_28 (fun x22 _ _ _ => ?_)
      refine q_iload_n 2 dX9_wrongRows_29 rfl rfl ?_
      refine q_callVi (As := [.inl x21, .inl x22, .inl x2]) hO mb_X5_lengthAt mv_X5_lengthAt ml_X9_50 sh_87 rfl dX9_wrongRows_30 (fun _ => rfl) rfl (Nat.le_of_ble_eq_true rfl) rfl (Nat.le_of_ble_eq_true rfl) (tX5_lengthAt (by omega) x21 x22 x2 M hO) (fun x23 M1 _ hO1 => ?_)
      refine q_aload_n 0 dX9_wrongRows_33 rfl rfl ?_
      refine q_getx fl_X9_22 hO1 sh_36 rfl fx_36_3 dX9_wrongRows_34 ?_
      refine q_iload 4 dX9_wrongRows_37 rfl ?_
      refine q_iald sh_39 (q_inA hO1 sh_39 (by decide)) dX9_wrongRows_39 (fun x24 _ _ _ => ?_)
      refine q_icmpeq (tgt := 50) dX9_wrongRows_40 (by decide) ?_ ?_
      · refine q_sub [0, 1, 2, 3, 4] rfl ?_
        exact tX9_wrongRows_50 hd (fX9_wrongRows_5 n) ih x2 x3 x4 M1 hO1
      · refine q_iload_n 3 dX9_wrongRows_43 rfl rfl ?_
        refine q_iconst dX9_wrongRows_44 ?_
        refine q_iload 4 dX9_wrongRows_45 rfl ?_
        refine q_ishl dX9_wrongRows_47 ?_
        refine q_ior dX9_wrongRows_48 ?_
        refine q_nameI (fun x25 _ => ?_)
        refine q_istore_n (ls' := [(3, .inl x25), (0, .inr (.inr 36)), (1, .inr (.inr 87)), (2, .inl x2), (4, .inl x4)]) dX9_wrongRows_49 rfl (by decide) rfl ?_
        refine q_sub [1, 2, 3, 0, 4] rfl ?_
        exact tX9_wrongRows_50 hd (fX9_wrongRows_5 n) ih x2 x25 x4 M1 hO1
def fX9_wrongRows (x2 : Int) (M : q_Mem) : Option (Int × q_Mem) := (fX9_wrongRows_5 q_FU x2 0 0 M)
theorem tX9_wrongRows {d : Nat} (hd : 5 ≤ d) (x2 : Int) (M : q_Mem) (hO : q_Ok M) : q_EX d yX9_wrongRows cX9_wrongRows 5 (some .int) 0 (q_args 0 [.inr (.inr 36), .inr (.inr 87), .inl x2]) [] M (fX9_wrongRows x2 M) := by
  obtain ⟨d, rfl⟩ : ∃ d', d = d' + 1 := ⟨d - 1, by omega⟩
  have hd : 4 ≤ d := by omega
  show q_EX _ _ _ _ _ 0 [(0, .inr (.inr 36)), (1, .inr (.inr 87)), (2, .inl x2)] [] M _
  unfold fX9_wrongRows
  refine q_iconst dX9_wrongRows_0 ?_
  refine q_istore_n (ls' := [(3, .inl 0), (0, .inr (.inr 36)), (1, .inr (.inr 87)), (2, .inl x2)]) dX9_wrongRows_1 rfl (by decide) rfl ?_
  refine q_iconst dX9_wrongRows_2 ?_
  refine q_istore (ls' := [(4, .inl 0), (3, .inl 0), (0, .inr (.inr 36)), (1, .inr (.inr 87)), (2, .inl x2)]) dX9_wrongRows_3 (by decide) rfl ?_
  refine q_sub [2, 3, 4, 1, 0] rfl ?_
  exact tX9_wrongRows_5 hd q_FU x2 0 0 M hO
def fX10_putFour (r0 : Nat) (x1 : Int) (M : q_Mem) : Option (Int × q_Mem) := q_bd (fX10_putTwo r0 (q_shr x1 16) M) fun _ M1 => q_bd (fX10_putTwo r0 x1 M1) fun _ M2 => some (0, M2)
theorem tX10_putFour {d : Nat} (hd : 2 ≤ d) (r0 : Nat) (x1 : Int) (M : q_Mem) (hO : q_Ok M) (hr0 : q_shp r0 = (0, 10)) : q_EX d yX10_putFour cX10_putFour 2 none 0 (q_args 0 [.inr (.inr r0), .inl x1]) [] M (fX10_putFour r0 x1 M) := by
  obtain ⟨d, rfl⟩ : ∃ d', d = d' + 1 := ⟨d - 1, by omega⟩
  have hd : 1 ≤ d := by omega
  show q_EX _ _ _ _ _ 0 [(0, .inr (.inr r0)), (1, .inl x1)] [] M _
  unfold fX10_putFour
  refine q_aload_n 0 dX10_putFour_0 rfl rfl ?_
  refine q_iload_n 1 dX10_putFour_1 rfl rfl ?_
  refine q_bipush dX10_putFour_2 (by decide) ?_
  refine q_ishr dX10_putFour_4 ?_
  refine q_callVv (As := [.inl (q_shr x1 16)]) hO mb_X10_putTwo mv_X10_putTwo ml_X10_29 hr0 rfl dX10_putFour_5 (fun _ => rfl) rfl (Nat.le_of_ble_eq_true rfl) rfl (Nat.le_of_ble_eq_true rfl) (tX10_putTwo (by omega) r0 (q_shr x1 16) M hO hr0) (fun _ M1 _ hO1 => ?_)
  refine q_aload_n 0 dX10_putFour_8 rfl rfl ?_
  refine q_iload_n 1 dX10_putFour_9 rfl rfl ?_
  refine q_callVv (As := [.inl x1]) hO1 mb_X10_putTwo mv_X10_putTwo ml_X10_29 hr0 rfl dX10_putFour_10 (fun _ => rfl) rfl (Nat.le_of_ble_eq_true rfl) rfl (Nat.le_of_ble_eq_true rfl) (tX10_putTwo (by omega) r0 x1 M1 hO1 hr0) (fun _ M2 _ hO2 => ?_)
  exact q_ret dX10_putFour_13 rfl
def fX11_refuse (x1 : Int) (M : q_Mem) : Option (Int × q_Mem) := (q_ld M 56 6 x1).bind fun x21 => (q_sto M 56 6 x1 (x21 + 1)).bind fun M1 => some ((-1), M1)
theorem tX11_refuse {d : Nat} (x1 : Int) (M : q_Mem) (hO : q_Ok M) : q_EX d yX11_refuse cX11_refuse 2 (some .int) 0 (q_args 0 [.inr (.inr 0), .inl x1]) [] M (fX11_refuse x1 M) := by
  show q_EX _ _ _ _ _ 0 [(0, .inr (.inr 0)), (1, .inl x1)] [] M _
  unfold fX11_refuse
  refine q_aload_n 0 dX11_refuse_0 rfl rfl ?_
  refine q_getx fl_X11_83 hO sh_0 rfl fx_0_10 dX11_refuse_1 ?_
  refine q_iload_n 1 dX11_refuse_4 rfl rfl ?_
  refine q_dup2 dX11_refuse_5 rfl rfl ?_
  refine q_iald sh_56 (q_inA hO sh_56 (by decide)) dX11_refuse_6 (fun x21 _ _ _ => ?_)
  refine q_iconst dX11_refuse_7 ?_
  refine q_iadd dX11_refuse_8 ?_
  refine q_iast sh_56 (q_inA hO sh_56 (by decide)) dX11_refuse_9 (fun M1 _ _ hM1 => ?_)
  have hO1 : q_Ok M1 := by rw [hM1]; exact q_Ok_arr (t := 0) hO sh_56 (by decide)
  refine q_iconst dX11_refuse_10 ?_
  exact q_ret dX11_refuse_11 rfl
def fX11_feed (x1 : Int) (x2 : Int) (x3 : Int) (x4 : Int) (x5 : Int) (M : q_Mem) : Option (Int × q_Mem) := if q_w 1600 < q_w ((M.2 1 1) + 20) then (q_bd (fX11_refuse 0 M) fun x21 M6 => some (x21, M6)) else (q_bd (fX10_putFour 1 x1 M) fun _ M1 => q_bd (fX10_putFour 1 x2 M1) fun _ M2 => q_bd (fX10_putFour 1 x3 M2) fun _ M3 => q_bd (fX10_putFour 1 x4 M3) fun _ M4 => q_bd (fX10_putFour 1 x5 M4) fun _ M5 => some ((M5.2 1 1), M5))
theorem tX11_feed {d : Nat} (hd : 3 ≤ d) (x1 : Int) (x2 : Int) (x3 : Int) (x4 : Int) (x5 : Int) (M : q_Mem) (hO : q_Ok M) : q_EX d yX11_feed cX11_feed 6 (some .int) 0 (q_args 0 [.inr (.inr 0), .inl x1, .inl x2, .inl x3, .inl x4, .inl x5]) [] M (fX11_feed x1 x2 x3 x4 x5 M) := by
  obtain ⟨d, rfl⟩ : ∃ d', d = d' + 1 := ⟨d - 1, by omega⟩
  have hd : 2 ≤ d := by omega
  show q_EX _ _ _ _ _ 0 [(0, .inr (.inr 0)), (1, .inl x1), (2, .inl x2), (3, .inl x3), (4, .inl x4), (5, .inl x5)] [] M _
  unfold fX11_feed
  refine q_aload_n 0 dX11_feed_0 rfl rfl ?_
  refine q_getx fl_X11_14 hO sh_0 rfl fx_0_0 dX11_feed_1 ?_
  refine q_geti fl_X11_113 sh_1 (q_inO hO sh_1) rfl dX11_feed_4 ?_
  refine q_bipush dX11_feed_7 (by decide) ?_
  refine q_iadd dX11_feed_9 ?_
  refine q_sipush dX11_feed_10 (by decide) ?_
  refine q_icmple (tgt := 22) dX11_feed_13 (by decide) ?_ ?_
  · refine q_aload_n 0 dX11_feed_22 rfl rfl ?_
    refine q_getx fl_X11_14 hO sh_0 rfl fx_0_0 dX11_feed_23 ?_
    refine q_iload_n 1 dX11_feed_26 rfl rfl ?_
    refine q_callVv (As := [.inl x1]) hO mb_X10_putFour mv_X10_putFour ml_X11_120 sh_1 rfl dX11_feed_27 (fun _ => rfl) rfl (Nat.le_of_ble_eq_true rfl) rfl (Nat.le_of_ble_eq_true rfl) (tX10_putFour (by omega) 1 x1 M hO sh_1) (fun _ M1 _ hO1 => ?_)
    refine q_aload_n 0 dX11_feed_30 rfl rfl ?_
    refine q_getx fl_X11_14 hO1 sh_0 rfl fx_0_0 dX11_feed_31 ?_
    refine q_iload_n 2 dX11_feed_34 rfl rfl ?_
    refine q_callVv (As := [.inl x2]) hO1 mb_X10_putFour mv_X10_putFour ml_X11_120 sh_1 rfl dX11_feed_35 (fun _ => rfl) rfl (Nat.le_of_ble_eq_true rfl) rfl (Nat.le_of_ble_eq_true rfl) (tX10_putFour (by omega) 1 x2 M1 hO1 sh_1) (fun _ M2 _ hO2 => ?_)
    refine q_aload_n 0 dX11_feed_38 rfl rfl ?_
    refine q_getx fl_X11_14 hO2 sh_0 rfl fx_0_0 dX11_feed_39 ?_
    refine q_iload_n 3 dX11_feed_42 rfl rfl ?_
    refine q_callVv (As := [.inl x3]) hO2 mb_X10_putFour mv_X10_putFour ml_X11_120 sh_1 rfl dX11_feed_43 (fun _ => rfl) rfl (Nat.le_of_ble_eq_true rfl) rfl (Nat.le_of_ble_eq_true rfl) (tX10_putFour (by omega) 1 x3 M2 hO2 sh_1) (fun _ M3 _ hO3 => ?_)
    refine q_aload_n 0 dX11_feed_46 rfl rfl ?_
    refine q_getx fl_X11_14 hO3 sh_0 rfl fx_0_0 dX11_feed_47 ?_
    refine q_iload 4 dX11_feed_50 rfl ?_
    refine q_callVv (As := [.inl x4]) hO3 mb_X10_putFour mv_X10_putFour ml_X11_120 sh_1 rfl dX11_feed_52 (fun _ => rfl) rfl (Nat.le_of_ble_eq_true rfl) rfl (Nat.le_of_ble_eq_true rfl) (tX10_putFour (by omega) 1 x4 M3 hO3 sh_1) (fun _ M4 _ hO4 => ?_)
    refine q_aload_n 0 dX11_feed_55 rfl rfl ?_
    refine q_getx fl_X11_14 hO4 sh_0 rfl fx_0_0 dX11_feed_56 ?_
    refine q_iload 5 dX11_feed_59 rfl ?_
    refine q_callVv (As := [.inl x5]) hO4 mb_X10_putFour mv_X10_putFour ml_X11_120 sh_1 rfl dX11_feed_61 (fun _ => rfl) rfl (Nat.le_of_ble_eq_true rfl) rfl (Nat.le_of_ble_eq_true rfl) (tX10_putFour (by omega) 1 x5 M4 hO4 sh_1) (fun _ M5 _ hO5 => ?_)
    refine q_aload_n 0 dX11_feed_64 rfl rfl ?_
    refine q_getx fl_X11_14 hO5 sh_0 rfl fx_0_0 dX11_feed_65 ?_
    refine q_geti fl_X11_113 sh_1 (q_inO hO5 sh_1) rfl dX11_feed_68 ?_
    exact q_ret dX11_feed_71 rfl
  · refine q_aload_n 0 dX11_feed_16 rfl rfl ?_
    refine q_iconst dX11_feed_17 ?_
    refine q_callVi (As := [.inl 0]) hO mb_X11_refuse mv_X11_refuse ml_X11_116 sh_0 rfl dX11_feed_18 (fun _ => rfl) rfl (Nat.le_of_ble_eq_true rfl) rfl (Nat.le_of_ble_eq_true rfl) (tX11_refuse 0 M hO) (fun x21 M6 _ hO6 => ?_)
    exact q_ret dX11_feed_21 rfl
