theorem dX5_cellAt_95 : decode cX5_cellAt 95 = .ok (.putfield 77, 3) := by decide +kernel
theorem dX5_cellAt_98 : decode cX5_cellAt 98 = .ok (.aload_n 0, 1) := by decide +kernel
theorem dX5_cellAt_99 : decode cX5_cellAt 99 = .ok (.getfield 21, 3) := by decide +kernel
theorem dX5_cellAt_102 : decode cX5_cellAt 102 = .ok (.iload_n 3, 1) := by decide +kernel
theorem dX5_cellAt_103 : decode cX5_cellAt 103 = .ok (.putfield 79, 3) := by decide +kernel
theorem dX5_cellAt_106 : decode cX5_cellAt 106 = .ok (.aload_n 0, 1) := by decide +kernel
theorem dX5_cellAt_107 : decode cX5_cellAt 107 = .ok (.getfield 21, 3) := by decide +kernel
theorem dX5_cellAt_110 : decode cX5_cellAt 110 = .ok (.aload_n 0, 1) := by decide +kernel
theorem dX5_cellAt_111 : decode cX5_cellAt 111 = .ok (.getfield 25, 3) := by decide +kernel
theorem dX5_cellAt_114 : decode cX5_cellAt 114 = .ok (.getfield 82, 3) := by decide +kernel
theorem dX5_cellAt_117 : decode cX5_cellAt 117 = .ok (.iload_n 2, 1) := by decide +kernel
theorem dX5_cellAt_118 : decode cX5_cellAt 118 = .ok (.iaload, 1) := by decide +kernel
theorem dX5_cellAt_119 : decode cX5_cellAt 119 = .ok (.putfield 85, 3) := by decide +kernel
theorem dX5_cellAt_122 : decode cX5_cellAt 122 = .ok (.aload_n 0, 1) := by decide +kernel
theorem dX5_cellAt_123 : decode cX5_cellAt 123 = .ok (.getfield 25, 3) := by decide +kernel
theorem dX5_cellAt_126 : decode cX5_cellAt 126 = .ok (.getfield 87, 3) := by decide +kernel
theorem dX5_cellAt_129 : decode cX5_cellAt 129 = .ok (.getfield 91, 3) := by decide +kernel
theorem dX5_cellAt_132 : decode cX5_cellAt 132 = .ok (.ifCond .ne 15, 3) := by decide +kernel
theorem dX5_cellAt_135 : decode cX5_cellAt 135 = .ok (.aload_n 0, 1) := by decide +kernel
theorem dX5_cellAt_136 : decode cX5_cellAt 136 = .ok (.getfield 25, 3) := by decide +kernel
theorem dX5_cellAt_139 : decode cX5_cellAt 139 = .ok (.getfield 64, 3) := by decide +kernel
theorem dX5_cellAt_142 : decode cX5_cellAt 142 = .ok (.iload_n 1, 1) := by decide +kernel
theorem dX5_cellAt_143 : decode cX5_cellAt 143 = .ok (.iaload, 1) := by decide +kernel
theorem dX5_cellAt_144 : decode cX5_cellAt 144 = .ok (.goto 17, 3) := by decide +kernel
theorem dX5_cellAt_147 : decode cX5_cellAt 147 = .ok (.aload_n 0, 1) := by decide +kernel
theorem dX5_cellAt_148 : decode cX5_cellAt 148 = .ok (.getfield 21, 3) := by decide +kernel
theorem dX5_cellAt_151 : decode cX5_cellAt 151 = .ok (.aload_n 0, 1) := by decide +kernel
theorem dX5_cellAt_152 : decode cX5_cellAt 152 = .ok (.getfield 25, 3) := by decide +kernel
theorem dX5_cellAt_155 : decode cX5_cellAt 155 = .ok (.getfield 87, 3) := by decide +kernel
theorem dX5_cellAt_158 : decode cX5_cellAt 158 = .ok (.invokevirtual 96, 3) := by decide +kernel
theorem dX5_cellAt_161 : decode cX5_cellAt 161 = .ok (.istore 5, 2) := by decide +kernel
theorem dX5_cellAt_163 : decode cX5_cellAt 163 = .ok (.iconst 0, 1) := by decide +kernel
theorem dX5_cellAt_164 : decode cX5_cellAt 164 = .ok (.sipush 999, 3) := by decide +kernel
theorem dX5_cellAt_167 : decode cX5_cellAt 167 = .ok (.iload 5, 2) := by decide +kernel
theorem dX5_cellAt_169 : decode cX5_cellAt 169 = .ok (.invokestatic 100, 3) := by decide +kernel
theorem dX5_cellAt_172 : decode cX5_cellAt 172 = .ok (.invokestatic 106, 3) := by decide +kernel
theorem dX5_cellAt_175 : decode cX5_cellAt 175 = .ok (.istore 6, 2) := by decide +kernel
theorem dX5_cellAt_177 : decode cX5_cellAt 177 = .ok (.aload_n 0, 1) := by decide +kernel
theorem dX5_cellAt_178 : decode cX5_cellAt 178 = .ok (.getfield 21, 3) := by decide +kernel
theorem dX5_cellAt_181 : decode cX5_cellAt 181 = .ok (.iload 6, 2) := by decide +kernel
theorem dX5_cellAt_183 : decode cX5_cellAt 183 = .ok (.putfield 109, 3) := by decide +kernel
theorem dX5_cellAt_186 : decode cX5_cellAt 186 = .ok (.iload 6, 2) := by decide +kernel
theorem dX5_cellAt_188 : decode cX5_cellAt 188 = .ok (.aload_n 0, 1) := by decide +kernel
theorem dX5_cellAt_189 : decode cX5_cellAt 189 = .ok (.getfield 25, 3) := by decide +kernel
theorem dX5_cellAt_192 : decode cX5_cellAt 192 = .ok (.getfield 82, 3) := by decide +kernel
theorem dX5_cellAt_195 : decode cX5_cellAt 195 = .ok (.iload_n 2, 1) := by decide +kernel
theorem dX5_cellAt_196 : decode cX5_cellAt 196 = .ok (.iaload, 1) := by decide +kernel
theorem dX5_cellAt_197 : decode cX5_cellAt 197 = .ok (.if_icmp .lt 7, 3) := by decide +kernel
theorem dX5_cellAt_200 : decode cX5_cellAt 200 = .ok (.iconst 1, 1) := by decide +kernel
theorem dX5_cellAt_201 : decode cX5_cellAt 201 = .ok (.goto 4, 3) := by decide +kernel
theorem dX5_cellAt_204 : decode cX5_cellAt 204 = .ok (.iconst 0, 1) := by decide +kernel
theorem dX5_cellAt_205 : decode cX5_cellAt 205 = .ok (.istore 7, 2) := by decide +kernel
theorem dX5_cellAt_207 : decode cX5_cellAt 207 = .ok (.iload 7, 2) := by decide +kernel
theorem dX5_cellAt_209 : decode cX5_cellAt 209 = .ok (.ifCond .eq 37, 3) := by decide +kernel
theorem dX5_cellAt_212 : decode cX5_cellAt 212 = .ok (.aload_n 0, 1) := by decide +kernel
theorem dX5_cellAt_213 : decode cX5_cellAt 213 = .ok (.getfield 25, 3) := by decide +kernel
theorem dX5_cellAt_216 : decode cX5_cellAt 216 = .ok (.getfield 112, 3) := by decide +kernel
theorem dX5_cellAt_219 : decode cX5_cellAt 219 = .ok (.getfield 91, 3) := by decide +kernel
theorem dX5_cellAt_222 : decode cX5_cellAt 222 = .ok (.ifCond .le 24, 3) := by decide +kernel
theorem dX5_cellAt_225 : decode cX5_cellAt 225 = .ok (.aload_n 0, 1) := by decide +kernel
theorem dX5_cellAt_226 : decode cX5_cellAt 226 = .ok (.getfield 21, 3) := by decide +kernel
theorem dX5_cellAt_229 : decode cX5_cellAt 229 = .ok (.aload_n 0, 1) := by decide +kernel
theorem dX5_cellAt_230 : decode cX5_cellAt 230 = .ok (.getfield 25, 3) := by decide +kernel
theorem dX5_cellAt_233 : decode cX5_cellAt 233 = .ok (.getfield 112, 3) := by decide +kernel
theorem dX5_cellAt_236 : decode cX5_cellAt 236 = .ok (.invokevirtual 96, 3) := by decide +kernel
theorem dX5_cellAt_239 : decode cX5_cellAt 239 = .ok (.ifCond .eq 7, 3) := by decide +kernel
theorem dX5_cellAt_242 : decode cX5_cellAt 242 = .ok (.iconst 1, 1) := by decide +kernel
theorem dX5_cellAt_243 : decode cX5_cellAt 243 = .ok (.goto 4, 3) := by decide +kernel
theorem dX5_cellAt_246 : decode cX5_cellAt 246 = .ok (.iconst 0, 1) := by decide +kernel
theorem dX5_cellAt_247 : decode cX5_cellAt 247 = .ok (.istore 8, 2) := by decide +kernel
theorem dX5_cellAt_249 : decode cX5_cellAt 249 = .ok (.aload_n 0, 1) := by decide +kernel
theorem dX5_cellAt_250 : decode cX5_cellAt 250 = .ok (.getfield 9, 3) := by decide +kernel
theorem dX5_cellAt_253 : decode cX5_cellAt 253 = .ok (.iload 4, 2) := by decide +kernel
theorem dX5_cellAt_255 : decode cX5_cellAt 255 = .ok (.iconst 2, 1) := by decide +kernel
theorem dX5_cellAt_256 : decode cX5_cellAt 256 = .ok (.iload 6, 2) := by decide +kernel
theorem dX5_cellAt_258 : decode cX5_cellAt 258 = .ok (.imul, 1) := by decide +kernel
theorem dX5_cellAt_259 : decode cX5_cellAt 259 = .ok (.iload 7, 2) := by decide +kernel
theorem dX5_cellAt_261 : decode cX5_cellAt 261 = .ok (.ifCond .eq 12, 3) := by decide +kernel
theorem dX5_cellAt_264 : decode cX5_cellAt 264 = .ok (.iload 8, 2) := by decide +kernel
theorem dX5_cellAt_266 : decode cX5_cellAt 266 = .ok (.ifCond .ne 7, 3) := by decide +kernel
theorem dX5_cellAt_269 : decode cX5_cellAt 269 = .ok (.iconst 1, 1) := by decide +kernel
theorem dX5_cellAt_270 : decode cX5_cellAt 270 = .ok (.goto 4, 3) := by decide +kernel
theorem dX5_cellAt_273 : decode cX5_cellAt 273 = .ok (.iconst 0, 1) := by decide +kernel
theorem dX5_cellAt_274 : decode cX5_cellAt 274 = .ok (.iadd, 1) := by decide +kernel
theorem dX5_cellAt_275 : decode cX5_cellAt 275 = .ok (.iastore, 1) := by decide +kernel
theorem dX5_cellAt_276 : decode cX5_cellAt 276 = .ok (.aload_n 0, 1) := by decide +kernel
theorem dX5_cellAt_277 : decode cX5_cellAt 277 = .ok (.getfield 9, 3) := by decide +kernel
theorem dX5_cellAt_280 : decode cX5_cellAt 280 = .ok (.iload 4, 2) := by decide +kernel
theorem dX5_cellAt_282 : decode cX5_cellAt 282 = .ok (.iaload, 1) := by decide +kernel
theorem dX5_cellAt_283 : decode cX5_cellAt 283 = .ok (.ireturn, 1) := by decide +kernel
theorem dX6_init_0 : decode cX6_init 0 = .ok (.aload_n 0, 1) := by decide +kernel
theorem dX6_init_1 : decode cX6_init 1 = .ok (.invokespecial 3, 3) := by decide +kernel
theorem dX6_init_4 : decode cX6_init 4 = .ok (.aload_n 0, 1) := by decide +kernel
theorem dX6_init_5 : decode cX6_init 5 = .ok (.iconst 0, 1) := by decide +kernel
theorem dX6_init_6 : decode cX6_init 6 = .ok (.putfield 9, 3) := by decide +kernel
theorem dX6_init_9 : decode cX6_init 9 = .ok (.aload_n 0, 1) := by decide +kernel
theorem dX6_init_10 : decode cX6_init 10 = .ok (.iconst 0, 1) := by decide +kernel
theorem dX6_init_11 : decode cX6_init 11 = .ok (.putfield 15, 3) := by decide +kernel
theorem dX6_init_14 : decode cX6_init 14 = .ok (.aload_n 0, 1) := by decide +kernel
theorem dX6_init_15 : decode cX6_init 15 = .ok (.bipush 6, 2) := by decide +kernel
theorem dX6_init_17 : decode cX6_init 17 = .ok (.newarray .int, 2) := by decide +kernel
theorem dX6_init_19 : decode cX6_init 19 = .ok (.putfield 18, 3) := by decide +kernel
theorem dX6_init_22 : decode cX6_init 22 = .ok (.aload_n 0, 1) := by decide +kernel
theorem dX6_init_23 : decode cX6_init 23 = .ok (.bipush 6, 2) := by decide +kernel
theorem dX6_init_25 : decode cX6_init 25 = .ok (.sipush 401, 3) := by decide +kernel
theorem dX6_init_28 : decode cX6_init 28 = .ok (.multianewarray 22 2, 4) := by decide +kernel
theorem dX6_init_32 : decode cX6_init 32 = .ok (.putfield 24, 3) := by decide +kernel
theorem dX6_init_35 : decode cX6_init 35 = .ok (.aload_n 0, 1) := by decide +kernel
theorem dX6_init_36 : decode cX6_init 36 = .ok (.bipush 64, 2) := by decide +kernel
theorem dX6_init_38 : decode cX6_init 38 = .ok (.newarray .int, 2) := by decide +kernel
theorem dX6_init_40 : decode cX6_init 40 = .ok (.putfield 27, 3) := by decide +kernel
theorem dX6_init_43 : decode cX6_init 43 = .ok (.aload_n 0, 1) := by decide +kernel
theorem dX6_init_44 : decode cX6_init 44 = .ok (.bipush 6, 2) := by decide +kernel
theorem dX6_init_46 : decode cX6_init 46 = .ok (.newarray .int, 2) := by decide +kernel
theorem dX6_init_48 : decode cX6_init 48 = .ok (.putfield 30, 3) := by decide +kernel
theorem dX6_init_51 : decode cX6_init 51 = .ok (.aload_n 0, 1) := by decide +kernel
theorem dX6_init_52 : decode cX6_init 52 = .ok (.iconst 0, 1) := by decide +kernel
theorem dX6_init_53 : decode cX6_init 53 = .ok (.putfield 33, 3) := by decide +kernel
theorem dX6_init_56 : decode cX6_init 56 = .ok (.aload_n 0, 1) := by decide +kernel
theorem dX6_init_57 : decode cX6_init 57 = .ok (.bipush 6, 2) := by decide +kernel
theorem dX6_init_59 : decode cX6_init 59 = .ok (.newarray .int, 2) := by decide +kernel
theorem dX6_init_61 : decode cX6_init 61 = .ok (.putfield 36, 3) := by decide +kernel
theorem dX6_init_64 : decode cX6_init 64 = .ok (.aload_n 0, 1) := by decide +kernel
theorem dX6_init_65 : decode cX6_init 65 = .ok (.iconst (-1), 1) := by decide +kernel
theorem dX6_init_66 : decode cX6_init 66 = .ok (.putfield 39, 3) := by decide +kernel
theorem dX6_init_69 : decode cX6_init 69 = .ok (.return_, 1) := by decide +kernel
theorem dX6_plan_0 : decode cX6_plan 0 = .ok (.aload_n 0, 1) := by decide +kernel
theorem dX6_plan_1 : decode cX6_plan 1 = .ok (.aload_n 1, 1) := by decide +kernel
theorem dX6_plan_2 : decode cX6_plan 2 = .ok (.getfield 42, 3) := by decide +kernel
theorem dX6_plan_5 : decode cX6_plan 5 = .ok (.putfield 9, 3) := by decide +kernel
theorem dX6_plan_8 : decode cX6_plan 8 = .ok (.aload_n 0, 1) := by decide +kernel
theorem dX6_plan_9 : decode cX6_plan 9 = .ok (.aload_n 1, 1) := by decide +kernel
theorem dX6_plan_10 : decode cX6_plan 10 = .ok (.getfield 45, 3) := by decide +kernel
theorem dX6_plan_13 : decode cX6_plan 13 = .ok (.putfield 15, 3) := by decide +kernel
theorem dX6_plan_16 : decode cX6_plan 16 = .ok (.aload_n 0, 1) := by decide +kernel
theorem dX6_plan_17 : decode cX6_plan 17 = .ok (.iconst 0, 1) := by decide +kernel
theorem dX6_plan_18 : decode cX6_plan 18 = .ok (.putfield 33, 3) := by decide +kernel
theorem dX6_plan_21 : decode cX6_plan 21 = .ok (.aload_n 0, 1) := by decide +kernel
theorem dX6_plan_22 : decode cX6_plan 22 = .ok (.iconst (-1), 1) := by decide +kernel
theorem dX6_plan_23 : decode cX6_plan 23 = .ok (.putfield 39, 3) := by decide +kernel
theorem dX6_plan_26 : decode cX6_plan 26 = .ok (.aload_n 0, 1) := by decide +kernel
theorem dX6_plan_27 : decode cX6_plan 27 = .ok (.getfield 27, 3) := by decide +kernel
theorem dX6_plan_30 : decode cX6_plan 30 = .ok (.iconst 0, 1) := by decide +kernel
theorem dX6_plan_31 : decode cX6_plan 31 = .ok (.invokestatic 48, 3) := by decide +kernel
theorem dX6_plan_34 : decode cX6_plan 34 = .ok (.iconst 0, 1) := by decide +kernel
theorem dX6_plan_35 : decode cX6_plan 35 = .ok (.istore 5, 2) := by decide +kernel
theorem dX6_plan_37 : decode cX6_plan 37 = .ok (.iload 5, 2) := by decide +kernel
theorem dX6_plan_39 : decode cX6_plan 39 = .ok (.aload_n 0, 1) := by decide +kernel
theorem dX6_plan_40 : decode cX6_plan 40 = .ok (.getfield 9, 3) := by decide +kernel
theorem dX6_plan_43 : decode cX6_plan 43 = .ok (.if_icmp .ge 103, 3) := by decide +kernel
theorem dX6_plan_46 : decode cX6_plan 46 = .ok (.aload_n 3, 1) := by decide +kernel
theorem dX6_plan_47 : decode cX6_plan 47 = .ok (.iload 5, 2) := by decide +kernel
theorem dX6_plan_49 : decode cX6_plan 49 = .ok (.invokevirtual 54, 3) := by decide +kernel
theorem dX6_plan_52 : decode cX6_plan 52 = .ok (.ifCond .ne 88, 3) := by decide +kernel
theorem dX6_plan_55 : decode cX6_plan 55 = .ok (.aload_n 0, 1) := by decide +kernel
theorem dX6_plan_56 : decode cX6_plan 56 = .ok (.dup, 1) := by decide +kernel
theorem dX6_plan_57 : decode cX6_plan 57 = .ok (.getfield 33, 3) := by decide +kernel
theorem dX6_plan_60 : decode cX6_plan 60 = .ok (.iconst 1, 1) := by decide +kernel
theorem dX6_plan_61 : decode cX6_plan 61 = .ok (.iload 5, 2) := by decide +kernel
theorem dX6_plan_63 : decode cX6_plan 63 = .ok (.ishl, 1) := by decide +kernel
theorem dX6_plan_64 : decode cX6_plan 64 = .ok (.ior, 1) := by decide +kernel
theorem dX6_plan_65 : decode cX6_plan 65 = .ok (.putfield 33, 3) := by decide +kernel
theorem dX6_plan_68 : decode cX6_plan 68 = .ok (.aload_n 0, 1) := by decide +kernel
theorem dX6_plan_69 : decode cX6_plan 69 = .ok (.getfield 18, 3) := by decide +kernel
theorem dX6_plan_72 : decode cX6_plan 72 = .ok (.iload 5, 2) := by decide +kernel
theorem dX6_plan_74 : decode cX6_plan 74 = .ok (.aload_n 1, 1) := by decide +kernel
theorem dX6_plan_75 : decode cX6_plan 75 = .ok (.getfield 60, 3) := by decide +kernel
theorem dX6_plan_78 : decode cX6_plan 78 = .ok (.iload 5, 2) := by decide +kernel
theorem dX6_plan_80 : decode cX6_plan 80 = .ok (.iaload, 1) := by decide +kernel
theorem dX6_plan_81 : decode cX6_plan 81 = .ok (.iastore, 1) := by decide +kernel
theorem dX6_plan_82 : decode cX6_plan 82 = .ok (.iconst (-1), 1) := by decide +kernel
theorem dX6_plan_83 : decode cX6_plan 83 = .ok (.istore 6, 2) := by decide +kernel
theorem dX6_plan_85 : decode cX6_plan 85 = .ok (.aload_n 0, 1) := by decide +kernel
theorem dX6_plan_86 : decode cX6_plan 86 = .ok (.getfield 15, 3) := by decide +kernel
theorem dX6_plan_89 : decode cX6_plan 89 = .ok (.istore 7, 2) := by decide +kernel
theorem dX6_plan_91 : decode cX6_plan 91 = .ok (.iload 7, 2) := by decide +kernel
theorem dX6_plan_93 : decode cX6_plan 93 = .ok (.aload_n 3, 1) := by decide +kernel
theorem dX6_plan_94 : decode cX6_plan 94 = .ok (.getfield 63, 3) := by decide +kernel
theorem dX6_plan_97 : decode cX6_plan 97 = .ok (.if_icmp .lt 43, 3) := by decide +kernel
theorem dX6_plan_100 : decode cX6_plan 100 = .ok (.aload_n 2, 1) := by decide +kernel
theorem dX6_plan_101 : decode cX6_plan 101 = .ok (.iload 4, 2) := by decide +kernel
theorem dX6_plan_103 : decode cX6_plan 103 = .ok (.iload 5, 2) := by decide +kernel
theorem dX6_plan_105 : decode cX6_plan 105 = .ok (.iload 7, 2) := by decide +kernel
theorem dX6_plan_107 : decode cX6_plan 107 = .ok (.invokevirtual 66, 3) := by decide +kernel
theorem dX6_plan_110 : decode cX6_plan 110 = .ok (.ifCond .eq 8, 3) := by decide +kernel
theorem dX6_plan_113 : decode cX6_plan 113 = .ok (.iload 7, 2) := by decide +kernel
theorem dX6_plan_115 : decode cX6_plan 115 = .ok (.goto 5, 3) := by decide +kernel
theorem dX6_plan_118 : decode cX6_plan 118 = .ok (.iload 6, 2) := by decide +kernel
theorem dX6_plan_120 : decode cX6_plan 120 = .ok (.istore 6, 2) := by decide +kernel
theorem dX6_plan_122 : decode cX6_plan 122 = .ok (.aload_n 0, 1) := by decide +kernel
theorem dX6_plan_123 : decode cX6_plan 123 = .ok (.getfield 24, 3) := by decide +kernel
theorem dX6_plan_126 : decode cX6_plan 126 = .ok (.iload 5, 2) := by decide +kernel
theorem dX6_plan_128 : decode cX6_plan 128 = .ok (.aaload, 1) := by decide +kernel
theorem dX6_plan_129 : decode cX6_plan 129 = .ok (.iload 7, 2) := by decide +kernel
theorem dX6_plan_131 : decode cX6_plan 131 = .ok (.iload 6, 2) := by decide +kernel
theorem dX6_plan_133 : decode cX6_plan 133 = .ok (.iastore, 1) := by decide +kernel
theorem dX6_plan_134 : decode cX6_plan 134 = .ok (.iinc 7 (-1), 3) := by decide +kernel
theorem dX6_plan_137 : decode cX6_plan 137 = .ok (.goto (-46), 3) := by decide +kernel
theorem dX6_plan_140 : decode cX6_plan 140 = .ok (.iinc 5 1, 3) := by decide +kernel
theorem dX6_plan_143 : decode cX6_plan 143 = .ok (.goto (-106), 3) := by decide +kernel
theorem dX6_plan_146 : decode cX6_plan 146 = .ok (.aload_n 0, 1) := by decide +kernel
theorem dX6_plan_147 : decode cX6_plan 147 = .ok (.iconst 0, 1) := by decide +kernel
theorem dX6_plan_148 : decode cX6_plan 148 = .ok (.aload_n 3, 1) := by decide +kernel
theorem dX6_plan_149 : decode cX6_plan 149 = .ok (.getfield 72, 3) := by decide +kernel
theorem dX6_plan_152 : decode cX6_plan 152 = .ok (.aload_n 3, 1) := by decide +kernel
theorem dX6_plan_153 : decode cX6_plan 153 = .ok (.getfield 63, 3) := by decide +kernel
theorem dX6_plan_156 : decode cX6_plan 156 = .ok (.iconst 0, 1) := by decide +kernel
theorem dX6_plan_157 : decode cX6_plan 157 = .ok (.invokevirtual 74, 3) := by decide +kernel
theorem dX6_plan_160 : decode cX6_plan 160 = .ok (.return_, 1) := by decide +kernel
theorem dX6_visit_0 : decode cX6_visit 0 = .ok (.aload_n 0, 1) := by decide +kernel
theorem dX6_visit_1 : decode cX6_visit 1 = .ok (.getfield 27, 3) := by decide +kernel
theorem dX6_visit_4 : decode cX6_visit 4 = .ok (.iload 4, 2) := by decide +kernel
theorem dX6_visit_6 : decode cX6_visit 6 = .ok (.iconst 1, 1) := by decide +kernel
theorem dX6_visit_7 : decode cX6_visit 7 = .ok (.iastore, 1) := by decide +kernel
theorem dX6_visit_8 : decode cX6_visit 8 = .ok (.iload 4, 2) := by decide +kernel
theorem dX6_visit_10 : decode cX6_visit 10 = .ok (.aload_n 0, 1) := by decide +kernel
theorem dX6_visit_11 : decode cX6_visit 11 = .ok (.getfield 33, 3) := by decide +kernel
theorem dX6_visit_14 : decode cX6_visit 14 = .ok (.if_icmp .ne 38, 3) := by decide +kernel
theorem dX6_visit_17 : decode cX6_visit 17 = .ok (.aload_n 0, 1) := by decide +kernel
theorem dX6_visit_18 : decode cX6_visit 18 = .ok (.getfield 39, 3) := by decide +kernel
theorem dX6_visit_21 : decode cX6_visit 21 = .ok (.iconst (-1), 1) := by decide +kernel
theorem dX6_visit_22 : decode cX6_visit 22 = .ok (.if_icmp .eq 11, 3) := by decide +kernel
theorem dX6_visit_25 : decode cX6_visit 25 = .ok (.iload_n 3, 1) := by decide +kernel
theorem dX6_visit_26 : decode cX6_visit 26 = .ok (.aload_n 0, 1) := by decide +kernel
theorem dX6_visit_27 : decode cX6_visit 27 = .ok (.getfield 39, 3) := by decide +kernel
theorem dX6_visit_30 : decode cX6_visit 30 = .ok (.if_icmp .ge 22, 3) := by decide +kernel
theorem dX6_visit_33 : decode cX6_visit 33 = .ok (.aload_n 0, 1) := by decide +kernel
theorem dX6_visit_34 : decode cX6_visit 34 = .ok (.iload_n 3, 1) := by decide +kernel
theorem dX6_visit_35 : decode cX6_visit 35 = .ok (.putfield 39, 3) := by decide +kernel
theorem dX6_visit_38 : decode cX6_visit 38 = .ok (.aload_n 0, 1) := by decide +kernel
theorem dX6_visit_39 : decode cX6_visit 39 = .ok (.getfield 30, 3) := by decide +kernel
theorem dX6_visit_42 : decode cX6_visit 42 = .ok (.iconst 0, 1) := by decide +kernel
theorem dX6_visit_43 : decode cX6_visit 43 = .ok (.aload_n 0, 1) := by decide +kernel
theorem dX6_visit_44 : decode cX6_visit 44 = .ok (.getfield 36, 3) := by decide +kernel
theorem dX6_visit_47 : decode cX6_visit 47 = .ok (.iconst 0, 1) := by decide +kernel
theorem dX6_visit_48 : decode cX6_visit 48 = .ok (.iload_n 1, 1) := by decide +kernel
theorem dX6_visit_49 : decode cX6_visit 49 = .ok (.invokestatic 78, 3) := by decide +kernel
theorem dX6_visit_52 : decode cX6_visit 52 = .ok (.iload_n 1, 1) := by decide +kernel
theorem dX6_visit_53 : decode cX6_visit 53 = .ok (.bipush 6, 2) := by decide +kernel
theorem dX6_visit_55 : decode cX6_visit 55 = .ok (.if_icmp .lt 4, 3) := by decide +kernel
theorem dX6_visit_58 : decode cX6_visit 58 = .ok (.return_, 1) := by decide +kernel
theorem dX6_visit_59 : decode cX6_visit 59 = .ok (.iconst 0, 1) := by decide +kernel
theorem dX6_visit_60 : decode cX6_visit 60 = .ok (.istore 5, 2) := by decide +kernel
theorem dX6_visit_62 : decode cX6_visit 62 = .ok (.iload 5, 2) := by decide +kernel
theorem dX6_visit_64 : decode cX6_visit 64 = .ok (.aload_n 0, 1) := by decide +kernel
theorem dX6_visit_65 : decode cX6_visit 65 = .ok (.getfield 9, 3) := by decide +kernel
theorem dX6_visit_68 : decode cX6_visit 68 = .ok (.if_icmp .ge 109, 3) := by decide +kernel
theorem dX6_visit_71 : decode cX6_visit 71 = .ok (.aload_n 0, 1) := by decide +kernel
theorem dX6_visit_72 : decode cX6_visit 72 = .ok (.getfield 33, 3) := by decide +kernel
theorem dX6_visit_75 : decode cX6_visit 75 = .ok (.iload 4, 2) := by decide +kernel
theorem dX6_visit_77 : decode cX6_visit 77 = .ok (.iconst (-1), 1) := by decide +kernel
theorem dX6_visit_78 : decode cX6_visit 78 = .ok (.ixor, 1) := by decide +kernel
theorem dX6_visit_79 : decode cX6_visit 79 = .ok (.iand, 1) := by decide +kernel
theorem dX6_visit_80 : decode cX6_visit 80 = .ok (.istore 6, 2) := by decide +kernel
theorem dX6_visit_82 : decode cX6_visit 82 = .ok (.iload_n 3, 1) := by decide +kernel
theorem dX6_visit_83 : decode cX6_visit 83 = .ok (.aload_n 0, 1) := by decide +kernel
theorem dX6_visit_84 : decode cX6_visit 84 = .ok (.getfield 18, 3) := by decide +kernel
theorem dX6_visit_87 : decode cX6_visit 87 = .ok (.iload 5, 2) := by decide +kernel
theorem dX6_visit_89 : decode cX6_visit 89 = .ok (.iaload, 1) := by decide +kernel
theorem dX6_visit_90 : decode cX6_visit 90 = .ok (.iload_n 2, 1) := by decide +kernel
theorem dX6_visit_91 : decode cX6_visit 91 = .ok (.isub, 1) := by decide +kernel
theorem dX6_visit_92 : decode cX6_visit 92 = .ok (.invokestatic 84, 3) := by decide +kernel
theorem dX6_visit_95 : decode cX6_visit 95 = .ok (.iadd, 1) := by decide +kernel
theorem dX6_visit_96 : decode cX6_visit 96 = .ok (.istore 7, 2) := by decide +kernel
theorem dX6_visit_98 : decode cX6_visit 98 = .ok (.iload 6, 2) := by decide +kernel
theorem dX6_visit_100 : decode cX6_visit 100 = .ok (.iload 5, 2) := by decide +kernel
theorem dX6_visit_102 : decode cX6_visit 102 = .ok (.ishr, 1) := by decide +kernel
theorem dX6_visit_103 : decode cX6_visit 103 = .ok (.iconst 1, 1) := by decide +kernel
theorem dX6_visit_104 : decode cX6_visit 104 = .ok (.iand, 1) := by decide +kernel
theorem dX6_visit_105 : decode cX6_visit 105 = .ok (.iconst 1, 1) := by decide +kernel
theorem dX6_visit_106 : decode cX6_visit 106 = .ok (.if_icmp .ne 65, 3) := by decide +kernel
theorem dX6_visit_109 : decode cX6_visit 109 = .ok (.iload 7, 2) := by decide +kernel
theorem dX6_visit_111 : decode cX6_visit 111 = .ok (.aload_n 0, 1) := by decide +kernel
theorem dX6_visit_112 : decode cX6_visit 112 = .ok (.getfield 15, 3) := by decide +kernel
theorem dX6_visit_115 : decode cX6_visit 115 = .ok (.if_icmp .gt 56, 3) := by decide +kernel
theorem dX6_visit_118 : decode cX6_visit 118 = .ok (.aload_n 0, 1) := by decide +kernel
theorem dX6_visit_119 : decode cX6_visit 119 = .ok (.getfield 24, 3) := by decide +kernel
theorem dX6_visit_122 : decode cX6_visit 122 = .ok (.iload 5, 2) := by decide +kernel
theorem dX6_visit_124 : decode cX6_visit 124 = .ok (.aaload, 1) := by decide +kernel
theorem dX6_visit_125 : decode cX6_visit 125 = .ok (.iload 7, 2) := by decide +kernel
theorem dX6_visit_127 : decode cX6_visit 127 = .ok (.iaload, 1) := by decide +kernel
theorem dX6_visit_128 : decode cX6_visit 128 = .ok (.iconst (-1), 1) := by decide +kernel
theorem dX6_visit_129 : decode cX6_visit 129 = .ok (.if_icmp .eq 42, 3) := by decide +kernel
theorem dX6_visit_132 : decode cX6_visit 132 = .ok (.aload_n 0, 1) := by decide +kernel
theorem dX6_visit_133 : decode cX6_visit 133 = .ok (.getfield 30, 3) := by decide +kernel
theorem dX6_visit_136 : decode cX6_visit 136 = .ok (.iload_n 1, 1) := by decide +kernel
theorem dX6_visit_137 : decode cX6_visit 137 = .ok (.iload 5, 2) := by decide +kernel
theorem dX6_visit_139 : decode cX6_visit 139 = .ok (.iastore, 1) := by decide +kernel
theorem dX6_visit_140 : decode cX6_visit 140 = .ok (.aload_n 0, 1) := by decide +kernel
theorem dX6_visit_141 : decode cX6_visit 141 = .ok (.iload_n 1, 1) := by decide +kernel
theorem dX6_visit_142 : decode cX6_visit 142 = .ok (.iconst 1, 1) := by decide +kernel
theorem dX6_visit_143 : decode cX6_visit 143 = .ok (.iadd, 1) := by decide +kernel
theorem dX6_visit_144 : decode cX6_visit 144 = .ok (.aload_n 0, 1) := by decide +kernel
theorem dX6_visit_145 : decode cX6_visit 145 = .ok (.getfield 18, 3) := by decide +kernel
theorem dX6_visit_148 : decode cX6_visit 148 = .ok (.iload 5, 2) := by decide +kernel
theorem dX6_visit_150 : decode cX6_visit 150 = .ok (.iaload, 1) := by decide +kernel
theorem dX6_visit_151 : decode cX6_visit 151 = .ok (.aload_n 0, 1) := by decide +kernel
theorem dX6_visit_152 : decode cX6_visit 152 = .ok (.getfield 24, 3) := by decide +kernel
theorem dX6_visit_155 : decode cX6_visit 155 = .ok (.iload 5, 2) := by decide +kernel
theorem dX6_visit_157 : decode cX6_visit 157 = .ok (.aaload, 1) := by decide +kernel
theorem dX6_visit_158 : decode cX6_visit 158 = .ok (.iload 7, 2) := by decide +kernel
theorem dX6_visit_160 : decode cX6_visit 160 = .ok (.iaload, 1) := by decide +kernel
theorem dX6_visit_161 : decode cX6_visit 161 = .ok (.iload 4, 2) := by decide +kernel
theorem dX6_visit_163 : decode cX6_visit 163 = .ok (.iconst 1, 1) := by decide +kernel
theorem dX6_visit_164 : decode cX6_visit 164 = .ok (.iload 5, 2) := by decide +kernel
theorem dX6_visit_166 : decode cX6_visit 166 = .ok (.ishl, 1) := by decide +kernel
theorem dX6_visit_167 : decode cX6_visit 167 = .ok (.ior, 1) := by decide +kernel
theorem dX6_visit_168 : decode cX6_visit 168 = .ok (.invokevirtual 74, 3) := by decide +kernel
theorem dX6_visit_171 : decode cX6_visit 171 = .ok (.iinc 5 1, 3) := by decide +kernel
theorem dX6_visit_174 : decode cX6_visit 174 = .ok (.goto (-112), 3) := by decide +kernel
theorem dX6_visit_177 : decode cX6_visit 177 = .ok (.return_, 1) := by decide +kernel
theorem dX6_fewestLeftOut_0 : decode cX6_fewestLeftOut 0 = .ok (.aload_n 0, 1) := by decide +kernel
theorem dX6_fewestLeftOut_1 : decode cX6_fewestLeftOut 1 = .ok (.getfield 33, 3) := by decide +kernel
theorem dX6_fewestLeftOut_4 : decode cX6_fewestLeftOut 4 = .ok (.istore_n 1, 1) := by decide +kernel
theorem dX6_fewestLeftOut_5 : decode cX6_fewestLeftOut 5 = .ok (.iconst 0, 1) := by decide +kernel
theorem dX6_fewestLeftOut_6 : decode cX6_fewestLeftOut 6 = .ok (.istore_n 2, 1) := by decide +kernel
theorem dX6_fewestLeftOut_7 : decode cX6_fewestLeftOut 7 = .ok (.iload_n 2, 1) := by decide +kernel
theorem dX6_fewestLeftOut_8 : decode cX6_fewestLeftOut 8 = .ok (.aload_n 0, 1) := by decide +kernel
theorem dX6_fewestLeftOut_9 : decode cX6_fewestLeftOut 9 = .ok (.getfield 27, 3) := by decide +kernel
theorem dX6_fewestLeftOut_12 : decode cX6_fewestLeftOut 12 = .ok (.arraylength, 1) := by decide +kernel
theorem dX6_fewestLeftOut_13 : decode cX6_fewestLeftOut 13 = .ok (.if_icmp .ge 56, 3) := by decide +kernel
theorem dX6_fewestLeftOut_16 : decode cX6_fewestLeftOut 16 = .ok (.aload_n 0, 1) := by decide +kernel
theorem dX6_fewestLeftOut_17 : decode cX6_fewestLeftOut 17 = .ok (.getfield 33, 3) := by decide +kernel
theorem dX6_fewestLeftOut_20 : decode cX6_fewestLeftOut 20 = .ok (.iload_n 2, 1) := by decide +kernel
theorem dX6_fewestLeftOut_21 : decode cX6_fewestLeftOut 21 = .ok (.iconst (-1), 1) := by decide +kernel
theorem dX6_fewestLeftOut_22 : decode cX6_fewestLeftOut 22 = .ok (.ixor, 1) := by decide +kernel
theorem dX6_fewestLeftOut_23 : decode cX6_fewestLeftOut 23 = .ok (.iand, 1) := by decide +kernel
theorem dX6_fewestLeftOut_24 : decode cX6_fewestLeftOut 24 = .ok (.istore_n 3, 1) := by decide +kernel
theorem dX6_fewestLeftOut_25 : decode cX6_fewestLeftOut 25 = .ok (.iload_n 3, 1) := by decide +kernel
theorem dX6_fewestLeftOut_26 : decode cX6_fewestLeftOut 26 = .ok (.invokestatic 90, 3) := by decide +kernel
theorem dX6_fewestLeftOut_29 : decode cX6_fewestLeftOut 29 = .ok (.iload_n 1, 1) := by decide +kernel
theorem dX6_fewestLeftOut_30 : decode cX6_fewestLeftOut 30 = .ok (.invokestatic 90, 3) := by decide +kernel
theorem dX6_fewestLeftOut_33 : decode cX6_fewestLeftOut 33 = .ok (.isub, 1) := by decide +kernel
theorem dX6_fewestLeftOut_34 : decode cX6_fewestLeftOut 34 = .ok (.istore 4, 2) := by decide +kernel
theorem dX6_fewestLeftOut_36 : decode cX6_fewestLeftOut 36 = .ok (.aload_n 0, 1) := by decide +kernel
theorem dX6_fewestLeftOut_37 : decode cX6_fewestLeftOut 37 = .ok (.getfield 27, 3) := by decide +kernel
theorem dX6_fewestLeftOut_40 : decode cX6_fewestLeftOut 40 = .ok (.iload_n 2, 1) := by decide +kernel
theorem dX6_fewestLeftOut_41 : decode cX6_fewestLeftOut 41 = .ok (.iaload, 1) := by decide +kernel
theorem dX6_fewestLeftOut_42 : decode cX6_fewestLeftOut 42 = .ok (.iconst 1, 1) := by decide +kernel
theorem dX6_fewestLeftOut_43 : decode cX6_fewestLeftOut 43 = .ok (.if_icmp .ne 20, 3) := by decide +kernel
theorem dX6_fewestLeftOut_46 : decode cX6_fewestLeftOut 46 = .ok (.iload 4, 2) := by decide +kernel
theorem dX6_fewestLeftOut_48 : decode cX6_fewestLeftOut 48 = .ok (.ifCond .lt 13, 3) := by decide +kernel
theorem dX6_fewestLeftOut_51 : decode cX6_fewestLeftOut 51 = .ok (.iload 4, 2) := by decide +kernel
theorem dX6_fewestLeftOut_53 : decode cX6_fewestLeftOut 53 = .ok (.ifCond .ne 10, 3) := by decide +kernel
theorem dX6_fewestLeftOut_56 : decode cX6_fewestLeftOut 56 = .ok (.iload_n 3, 1) := by decide +kernel
theorem dX6_fewestLeftOut_57 : decode cX6_fewestLeftOut 57 = .ok (.iload_n 1, 1) := by decide +kernel
theorem dX6_fewestLeftOut_58 : decode cX6_fewestLeftOut 58 = .ok (.if_icmp .ge 5, 3) := by decide +kernel
theorem dX6_fewestLeftOut_61 : decode cX6_fewestLeftOut 61 = .ok (.iload_n 3, 1) := by decide +kernel
theorem dX6_fewestLeftOut_62 : decode cX6_fewestLeftOut 62 = .ok (.istore_n 1, 1) := by decide +kernel
theorem dX6_fewestLeftOut_63 : decode cX6_fewestLeftOut 63 = .ok (.iinc 2 1, 3) := by decide +kernel
theorem dX6_fewestLeftOut_66 : decode cX6_fewestLeftOut 66 = .ok (.goto (-59), 3) := by decide +kernel
theorem dX6_fewestLeftOut_69 : decode cX6_fewestLeftOut 69 = .ok (.iload_n 1, 1) := by decide +kernel
theorem dX6_fewestLeftOut_70 : decode cX6_fewestLeftOut 70 = .ok (.ireturn, 1) := by decide +kernel
theorem dX7_init_0 : decode cX7_init 0 = .ok (.aload_n 0, 1) := by decide +kernel
theorem dX7_init_1 : decode cX7_init 1 = .ok (.invokespecial 3, 3) := by decide +kernel
theorem dX7_init_4 : decode cX7_init 4 = .ok (.aload_n 0, 1) := by decide +kernel
theorem dX7_init_5 : decode cX7_init 5 = .ok (.bipush 64, 2) := by decide +kernel
theorem dX7_init_7 : decode cX7_init 7 = .ok (.newarray .int, 2) := by decide +kernel
theorem dX7_init_9 : decode cX7_init 9 = .ok (.putfield 9, 3) := by decide +kernel
theorem dX7_init_12 : decode cX7_init 12 = .ok (.aload_n 0, 1) := by decide +kernel
theorem dX7_init_13 : decode cX7_init 13 = .ok (.iconst 0, 1) := by decide +kernel
theorem dX7_init_14 : decode cX7_init 14 = .ok (.putfield 15, 3) := by decide +kernel
theorem dX7_init_17 : decode cX7_init 17 = .ok (.aload_n 0, 1) := by decide +kernel
theorem dX7_init_18 : decode cX7_init 18 = .ok (.iconst 0, 1) := by decide +kernel
theorem dX7_init_19 : decode cX7_init 19 = .ok (.putfield 19, 3) := by decide +kernel
theorem dX7_init_22 : decode cX7_init 22 = .ok (.aload_n 0, 1) := by decide +kernel
theorem dX7_init_23 : decode cX7_init 23 = .ok (.iconst 0, 1) := by decide +kernel
theorem dX7_init_24 : decode cX7_init 24 = .ok (.putfield 22, 3) := by decide +kernel
theorem dX7_init_27 : decode cX7_init 27 = .ok (.aload_n 0, 1) := by decide +kernel
theorem dX7_init_28 : decode cX7_init 28 = .ok (.iconst 0, 1) := by decide +kernel
theorem dX7_init_29 : decode cX7_init 29 = .ok (.putfield 25, 3) := by decide +kernel
theorem dX7_init_32 : decode cX7_init 32 = .ok (.aload_n 0, 1) := by decide +kernel
theorem dX7_init_33 : decode cX7_init 33 = .ok (.iconst 0, 1) := by decide +kernel
theorem dX7_init_34 : decode cX7_init 34 = .ok (.putfield 28, 3) := by decide +kernel
theorem dX7_init_37 : decode cX7_init 37 = .ok (.aload_n 0, 1) := by decide +kernel
theorem dX7_init_38 : decode cX7_init 38 = .ok (.iconst 0, 1) := by decide +kernel
theorem dX7_init_39 : decode cX7_init 39 = .ok (.putfield 31, 3) := by decide +kernel
theorem dX7_init_42 : decode cX7_init 42 = .ok (.aload_n 0, 1) := by decide +kernel
theorem dX7_init_43 : decode cX7_init 43 = .ok (.iconst 0, 1) := by decide +kernel
theorem dX7_init_44 : decode cX7_init 44 = .ok (.putfield 34, 3) := by decide +kernel
theorem dX7_init_47 : decode cX7_init 47 = .ok (.aload_n 0, 1) := by decide +kernel
theorem dX7_init_48 : decode cX7_init 48 = .ok (.iconst 0, 1) := by decide +kernel
theorem dX7_init_49 : decode cX7_init 49 = .ok (.putfield 37, 3) := by decide +kernel
theorem dX7_init_52 : decode cX7_init 52 = .ok (.aload_n 0, 1) := by decide +kernel
theorem dX7_init_53 : decode cX7_init 53 = .ok (.iconst (-1), 1) := by decide +kernel
theorem dX7_init_54 : decode cX7_init 54 = .ok (.putfield 40, 3) := by decide +kernel
theorem dX7_init_57 : decode cX7_init 57 = .ok (.aload_n 0, 1) := by decide +kernel
theorem dX7_init_58 : decode cX7_init 58 = .ok (.iconst 0, 1) := by decide +kernel
theorem dX7_init_59 : decode cX7_init 59 = .ok (.putfield 43, 3) := by decide +kernel
theorem dX7_init_62 : decode cX7_init 62 = .ok (.aload_n 0, 1) := by decide +kernel
theorem dX7_init_63 : decode cX7_init 63 = .ok (.bipush 6, 2) := by decide +kernel
theorem dX7_init_65 : decode cX7_init 65 = .ok (.newarray .int, 2) := by decide +kernel
theorem dX7_init_67 : decode cX7_init 67 = .ok (.putfield 46, 3) := by decide +kernel
theorem dX7_init_70 : decode cX7_init 70 = .ok (.aload_n 0, 1) := by decide +kernel
theorem dX7_init_71 : decode cX7_init 71 = .ok (.bipush 6, 2) := by decide +kernel
theorem dX7_init_73 : decode cX7_init 73 = .ok (.newarray .int, 2) := by decide +kernel
theorem dX7_init_75 : decode cX7_init 75 = .ok (.putfield 49, 3) := by decide +kernel
theorem dX7_init_78 : decode cX7_init 78 = .ok (.return_, 1) := by decide +kernel
theorem dX7_run_0 : decode cX7_run 0 = .ok (.aload_n 0, 1) := by decide +kernel
theorem dX7_run_1 : decode cX7_run 1 = .ok (.iconst 0, 1) := by decide +kernel
theorem dX7_run_2 : decode cX7_run 2 = .ok (.putfield 15, 3) := by decide +kernel
theorem dX7_run_5 : decode cX7_run 5 = .ok (.iconst 0, 1) := by decide +kernel
theorem dX7_run_6 : decode cX7_run 6 = .ok (.istore_n 2, 1) := by decide +kernel
theorem dX7_run_7 : decode cX7_run 7 = .ok (.iload_n 2, 1) := by decide +kernel
theorem dX7_run_8 : decode cX7_run 8 = .ok (.aload_n 1, 1) := by decide +kernel
theorem dX7_run_9 : decode cX7_run 9 = .ok (.getfield 52, 3) := by decide +kernel
theorem dX7_run_12 : decode cX7_run 12 = .ok (.if_icmp .ge 85, 3) := by decide +kernel
theorem dX7_run_15 : decode cX7_run 15 = .ok (.iload_n 2, 1) := by decide +kernel
theorem dX7_run_16 : decode cX7_run 16 = .ok (.aload_n 1, 1) := by decide +kernel
theorem dX7_run_17 : decode cX7_run 17 = .ok (.getfield 55, 3) := by decide +kernel
theorem dX7_run_20 : decode cX7_run 20 = .ok (.arraylength, 1) := by decide +kernel
theorem dX7_run_21 : decode cX7_run 21 = .ok (.if_icmp .ge 76, 3) := by decide +kernel
theorem dX7_run_24 : decode cX7_run 24 = .ok (.aload_n 1, 1) := by decide +kernel
theorem dX7_run_25 : decode cX7_run 25 = .ok (.getfield 55, 3) := by decide +kernel
theorem dX7_run_28 : decode cX7_run 28 = .ok (.iload_n 2, 1) := by decide +kernel
theorem dX7_run_29 : decode cX7_run 29 = .ok (.iaload, 1) := by decide +kernel
theorem dX7_run_30 : decode cX7_run 30 = .ok (.sipush 10000, 3) := by decide +kernel
theorem dX7_run_33 : decode cX7_run 33 = .ok (.isub, 1) := by decide +kernel
theorem dX7_run_34 : decode cX7_run 34 = .ok (.istore_n 3, 1) := by decide +kernel
theorem dX7_run_35 : decode cX7_run 35 = .ok (.iload_n 3, 1) := by decide +kernel
theorem dX7_run_36 : decode cX7_run 36 = .ok (.ifCond .ge 16, 3) := by decide +kernel
theorem dX7_run_39 : decode cX7_run 39 = .ok (.aload_n 0, 1) := by decide +kernel
theorem dX7_run_40 : decode cX7_run 40 = .ok (.aload_n 1, 1) := by decide +kernel
theorem dX7_run_41 : decode cX7_run 41 = .ok (.getfield 55, 3) := by decide +kernel
theorem dX7_run_44 : decode cX7_run 44 = .ok (.iload_n 2, 1) := by decide +kernel
theorem dX7_run_45 : decode cX7_run 45 = .ok (.iaload, 1) := by decide +kernel
theorem dX7_run_46 : decode cX7_run 46 = .ok (.invokevirtual 58, 3) := by decide +kernel
theorem dX7_run_49 : decode cX7_run 49 = .ok (.goto 42, 3) := by decide +kernel
theorem dX7_run_52 : decode cX7_run 52 = .ok (.iload_n 3, 1) := by decide +kernel
theorem dX7_run_53 : decode cX7_run 53 = .ok (.invokestatic 62, 3) := by decide +kernel
theorem dX7_run_56 : decode cX7_run 56 = .ok (.ifCond .eq 26, 3) := by decide +kernel
theorem dX7_run_59 : decode cX7_run 59 = .ok (.aload_n 0, 1) := by decide +kernel
theorem dX7_run_60 : decode cX7_run 60 = .ok (.invokevirtual 66, 3) := by decide +kernel
theorem dX7_run_63 : decode cX7_run 63 = .ok (.istore 4, 2) := by decide +kernel
theorem dX7_run_65 : decode cX7_run 65 = .ok (.aload_n 0, 1) := by decide +kernel
theorem dX7_run_66 : decode cX7_run 66 = .ok (.iload_n 3, 1) := by decide +kernel
theorem dX7_run_67 : decode cX7_run 67 = .ok (.aload_n 0, 1) := by decide +kernel
theorem dX7_run_68 : decode cX7_run 68 = .ok (.invokevirtual 66, 3) := by decide +kernel
theorem dX7_run_71 : decode cX7_run 71 = .ok (.iload 4, 2) := by decide +kernel
theorem dX7_run_73 : decode cX7_run 73 = .ok (.invokestatic 70, 3) := by decide +kernel
theorem dX7_run_76 : decode cX7_run 76 = .ok (.invokevirtual 58, 3) := by decide +kernel
theorem dX7_run_79 : decode cX7_run 79 = .ok (.goto 12, 3) := by decide +kernel
theorem dX7_run_82 : decode cX7_run 82 = .ok (.aload_n 0, 1) := by decide +kernel
theorem dX7_run_83 : decode cX7_run 83 = .ok (.aload_n 0, 1) := by decide +kernel
theorem dX7_run_84 : decode cX7_run 84 = .ok (.iload_n 3, 1) := by decide +kernel
theorem dX7_run_85 : decode cX7_run 85 = .ok (.invokevirtual 74, 3) := by decide +kernel
theorem dX7_run_88 : decode cX7_run 88 = .ok (.invokevirtual 58, 3) := by decide +kernel
theorem dX7_run_91 : decode cX7_run 91 = .ok (.iinc 2 1, 3) := by decide +kernel
theorem dX7_run_94 : decode cX7_run 94 = .ok (.goto (-87), 3) := by decide +kernel
theorem dX7_run_97 : decode cX7_run 97 = .ok (.aload_n 0, 1) := by decide +kernel
theorem dX7_run_98 : decode cX7_run 98 = .ok (.invokevirtual 66, 3) := by decide +kernel
theorem dX7_run_101 : decode cX7_run 101 = .ok (.ireturn, 1) := by decide +kernel
theorem dX7_push_0 : decode cX7_push 0 = .ok (.aload_n 0, 1) := by decide +kernel
theorem dX7_push_1 : decode cX7_push 1 = .ok (.getfield 15, 3) := by decide +kernel
theorem dX7_push_4 : decode cX7_push 4 = .ok (.aload_n 0, 1) := by decide +kernel
theorem dX7_push_5 : decode cX7_push 5 = .ok (.getfield 9, 3) := by decide +kernel
theorem dX7_push_8 : decode cX7_push 8 = .ok (.arraylength, 1) := by decide +kernel
theorem dX7_push_9 : decode cX7_push 9 = .ok (.if_icmp .ge 23, 3) := by decide +kernel
theorem dX7_push_12 : decode cX7_push 12 = .ok (.aload_n 0, 1) := by decide +kernel
theorem dX7_push_13 : decode cX7_push 13 = .ok (.getfield 9, 3) := by decide +kernel
theorem dX7_push_16 : decode cX7_push 16 = .ok (.aload_n 0, 1) := by decide +kernel
theorem dX7_push_17 : decode cX7_push 17 = .ok (.getfield 15, 3) := by decide +kernel
theorem dX7_push_20 : decode cX7_push 20 = .ok (.iload_n 1, 1) := by decide +kernel
theorem dX7_push_21 : decode cX7_push 21 = .ok (.iastore, 1) := by decide +kernel
theorem dX7_push_22 : decode cX7_push 22 = .ok (.aload_n 0, 1) := by decide +kernel
theorem dX7_push_23 : decode cX7_push 23 = .ok (.dup, 1) := by decide +kernel
theorem dX7_push_24 : decode cX7_push 24 = .ok (.getfield 15, 3) := by decide +kernel
theorem dX7_push_27 : decode cX7_push 27 = .ok (.iconst 1, 1) := by decide +kernel
theorem dX7_push_28 : decode cX7_push 28 = .ok (.iadd, 1) := by decide +kernel
theorem dX7_push_29 : decode cX7_push 29 = .ok (.putfield 15, 3) := by decide +kernel
theorem dX7_push_32 : decode cX7_push 32 = .ok (.return_, 1) := by decide +kernel
theorem dX7_pop_0 : decode cX7_pop 0 = .ok (.aload_n 0, 1) := by decide +kernel
theorem dX7_pop_1 : decode cX7_pop 1 = .ok (.getfield 15, 3) := by decide +kernel
theorem dX7_pop_4 : decode cX7_pop 4 = .ok (.ifCond .ne 5, 3) := by decide +kernel
theorem dX7_pop_7 : decode cX7_pop 7 = .ok (.iconst 0, 1) := by decide +kernel
theorem dX7_pop_8 : decode cX7_pop 8 = .ok (.ireturn, 1) := by decide +kernel
theorem dX7_pop_9 : decode cX7_pop 9 = .ok (.aload_n 0, 1) := by decide +kernel
theorem dX7_pop_10 : decode cX7_pop 10 = .ok (.dup, 1) := by decide +kernel
theorem dX7_pop_11 : decode cX7_pop 11 = .ok (.getfield 15, 3) := by decide +kernel
theorem dX7_pop_14 : decode cX7_pop 14 = .ok (.iconst 1, 1) := by decide +kernel
theorem dX7_pop_15 : decode cX7_pop 15 = .ok (.isub, 1) := by decide +kernel
theorem dX7_pop_16 : decode cX7_pop 16 = .ok (.putfield 15, 3) := by decide +kernel
theorem dX7_pop_19 : decode cX7_pop 19 = .ok (.aload_n 0, 1) := by decide +kernel
theorem dX7_pop_20 : decode cX7_pop 20 = .ok (.getfield 9, 3) := by decide +kernel
theorem dX7_pop_23 : decode cX7_pop 23 = .ok (.aload_n 0, 1) := by decide +kernel
theorem dX7_pop_24 : decode cX7_pop 24 = .ok (.getfield 15, 3) := by decide +kernel
theorem dX7_pop_27 : decode cX7_pop 27 = .ok (.iaload, 1) := by decide +kernel
theorem dX7_pop_28 : decode cX7_pop 28 = .ok (.ireturn, 1) := by decide +kernel
theorem dX7_isOfTwo_0 : decode cX7_isOfTwo 0 = .ok (.iload_n 0, 1) := by decide +kernel
theorem dX7_isOfTwo_1 : decode cX7_isOfTwo 1 = .ok (.bipush 31, 2) := by decide +kernel
theorem dX7_isOfTwo_3 : decode cX7_isOfTwo 3 = .ok (.if_icmp .ge 27, 3) := by decide +kernel
theorem dX7_isOfTwo_6 : decode cX7_isOfTwo 6 = .ok (.iload_n 0, 1) := by decide +kernel
theorem dX7_isOfTwo_7 : decode cX7_isOfTwo 7 = .ok (.bipush 19, 2) := by decide +kernel
theorem dX7_isOfTwo_9 : decode cX7_isOfTwo 9 = .ok (.if_icmp .eq 21, 3) := by decide +kernel
theorem dX7_isOfTwo_12 : decode cX7_isOfTwo 12 = .ok (.iload_n 0, 1) := by decide +kernel
theorem dX7_isOfTwo_13 : decode cX7_isOfTwo 13 = .ok (.bipush 20, 2) := by decide +kernel
theorem dX7_isOfTwo_15 : decode cX7_isOfTwo 15 = .ok (.if_icmp .eq 15, 3) := by decide +kernel
theorem dX7_isOfTwo_18 : decode cX7_isOfTwo 18 = .ok (.iload_n 0, 1) := by decide +kernel
theorem dX7_isOfTwo_19 : decode cX7_isOfTwo 19 = .ok (.bipush 23, 2) := by decide +kernel
theorem dX7_isOfTwo_21 : decode cX7_isOfTwo 21 = .ok (.if_icmp .eq 9, 3) := by decide +kernel
theorem dX7_isOfTwo_24 : decode cX7_isOfTwo 24 = .ok (.iload_n 0, 1) := by decide +kernel
theorem dX7_isOfTwo_25 : decode cX7_isOfTwo 25 = .ok (.bipush 24, 2) := by decide +kernel
theorem dX7_isOfTwo_27 : decode cX7_isOfTwo 27 = .ok (.if_icmp .ne 7, 3) := by decide +kernel
theorem dX7_isOfTwo_30 : decode cX7_isOfTwo 30 = .ok (.iconst 1, 1) := by decide +kernel
theorem dX7_isOfTwo_31 : decode cX7_isOfTwo 31 = .ok (.goto 4, 3) := by decide +kernel
theorem dX7_isOfTwo_34 : decode cX7_isOfTwo 34 = .ok (.iconst 0, 1) := by decide +kernel
theorem dX7_isOfTwo_35 : decode cX7_isOfTwo 35 = .ok (.ireturn, 1) := by decide +kernel
theorem dX7_ofOne_0 : decode cX7_ofOne 0 = .ok (.iload_n 1, 1) := by decide +kernel
theorem dX7_ofOne_1 : decode cX7_ofOne 1 = .ok (.tableswitch 174 2 22 #[161, 114, 129, 174, 174, 104, 109, 174, 174, 148, 174, 174, 174, 124, 119, 99, 134, 174, 174, 141, 139], 99) := by decide +kernel
theorem dX7_ofOne_100 : decode cX7_ofOne 100 = .ok (.aload_n 0, 1) := by decide +kernel
theorem dX7_ofOne_101 : decode cX7_ofOne 101 = .ok (.getfield 19, 3) := by decide +kernel
theorem dX7_ofOne_104 : decode cX7_ofOne 104 = .ok (.ireturn, 1) := by decide +kernel
theorem dX7_ofOne_105 : decode cX7_ofOne 105 = .ok (.aload_n 0, 1) := by decide +kernel
theorem dX7_ofOne_106 : decode cX7_ofOne 106 = .ok (.getfield 22, 3) := by decide +kernel
theorem dX7_ofOne_109 : decode cX7_ofOne 109 = .ok (.ireturn, 1) := by decide +kernel
theorem dX7_ofOne_110 : decode cX7_ofOne 110 = .ok (.aload_n 0, 1) := by decide +kernel
theorem dX7_ofOne_111 : decode cX7_ofOne 111 = .ok (.getfield 25, 3) := by decide +kernel
theorem dX7_ofOne_114 : decode cX7_ofOne 114 = .ok (.ireturn, 1) := by decide +kernel
theorem dX7_ofOne_115 : decode cX7_ofOne 115 = .ok (.aload_n 0, 1) := by decide +kernel
theorem dX7_ofOne_116 : decode cX7_ofOne 116 = .ok (.getfield 28, 3) := by decide +kernel
theorem dX7_ofOne_119 : decode cX7_ofOne 119 = .ok (.ireturn, 1) := by decide +kernel
theorem dX7_ofOne_120 : decode cX7_ofOne 120 = .ok (.aload_n 0, 1) := by decide +kernel
theorem dX7_ofOne_121 : decode cX7_ofOne 121 = .ok (.getfield 31, 3) := by decide +kernel
theorem dX7_ofOne_124 : decode cX7_ofOne 124 = .ok (.ireturn, 1) := by decide +kernel
theorem dX7_ofOne_125 : decode cX7_ofOne 125 = .ok (.aload_n 0, 1) := by decide +kernel
theorem dX7_ofOne_126 : decode cX7_ofOne 126 = .ok (.getfield 34, 3) := by decide +kernel
theorem dX7_ofOne_129 : decode cX7_ofOne 129 = .ok (.ireturn, 1) := by decide +kernel
theorem dX7_ofOne_130 : decode cX7_ofOne 130 = .ok (.aload_n 0, 1) := by decide +kernel
theorem dX7_ofOne_131 : decode cX7_ofOne 131 = .ok (.getfield 37, 3) := by decide +kernel
theorem dX7_ofOne_134 : decode cX7_ofOne 134 = .ok (.ireturn, 1) := by decide +kernel
theorem dX7_ofOne_135 : decode cX7_ofOne 135 = .ok (.aload_n 0, 1) := by decide +kernel
theorem dX7_ofOne_136 : decode cX7_ofOne 136 = .ok (.getfield 40, 3) := by decide +kernel
theorem dX7_ofOne_139 : decode cX7_ofOne 139 = .ok (.ireturn, 1) := by decide +kernel
theorem dX7_ofOne_140 : decode cX7_ofOne 140 = .ok (.iconst 1, 1) := by decide +kernel
theorem dX7_ofOne_141 : decode cX7_ofOne 141 = .ok (.ireturn, 1) := by decide +kernel
theorem dX7_ofOne_142 : decode cX7_ofOne 142 = .ok (.iconst 1, 1) := by decide +kernel
theorem dX7_ofOne_143 : decode cX7_ofOne 143 = .ok (.aload_n 0, 1) := by decide +kernel
theorem dX7_ofOne_144 : decode cX7_ofOne 144 = .ok (.invokevirtual 66, 3) := by decide +kernel
theorem dX7_ofOne_147 : decode cX7_ofOne 147 = .ok (.isub, 1) := by decide +kernel
theorem dX7_ofOne_148 : decode cX7_ofOne 148 = .ok (.ireturn, 1) := by decide +kernel
theorem dX7_ofOne_149 : decode cX7_ofOne 149 = .ok (.aload_n 0, 1) := by decide +kernel
theorem dX7_ofOne_150 : decode cX7_ofOne 150 = .ok (.aload_n 0, 1) := by decide +kernel
theorem dX7_ofOne_151 : decode cX7_ofOne 151 = .ok (.getfield 46, 3) := by decide +kernel
theorem dX7_ofOne_154 : decode cX7_ofOne 154 = .ok (.aload_n 0, 1) := by decide +kernel
theorem dX7_ofOne_155 : decode cX7_ofOne 155 = .ok (.invokevirtual 66, 3) := by decide +kernel
theorem dX7_ofOne_158 : decode cX7_ofOne 158 = .ok (.invokevirtual 78, 3) := by decide +kernel
theorem dX7_ofOne_161 : decode cX7_ofOne 161 = .ok (.ireturn, 1) := by decide +kernel
theorem dX7_ofOne_162 : decode cX7_ofOne 162 = .ok (.aload_n 0, 1) := by decide +kernel
theorem dX7_ofOne_163 : decode cX7_ofOne 163 = .ok (.aload_n 0, 1) := by decide +kernel
theorem dX7_ofOne_164 : decode cX7_ofOne 164 = .ok (.getfield 49, 3) := by decide +kernel
theorem dX7_ofOne_167 : decode cX7_ofOne 167 = .ok (.aload_n 0, 1) := by decide +kernel
theorem dX7_ofOne_168 : decode cX7_ofOne 168 = .ok (.invokevirtual 66, 3) := by decide +kernel
theorem dX7_ofOne_171 : decode cX7_ofOne 171 = .ok (.invokevirtual 78, 3) := by decide +kernel
theorem dX7_ofOne_174 : decode cX7_ofOne 174 = .ok (.ireturn, 1) := by decide +kernel
theorem dX7_ofOne_175 : decode cX7_ofOne 175 = .ok (.iconst 0, 1) := by decide +kernel
theorem dX7_ofOne_176 : decode cX7_ofOne 176 = .ok (.ireturn, 1) := by decide +kernel
theorem dX7_ofStall_0 : decode cX7_ofStall 0 = .ok (.iload_n 2, 1) := by decide +kernel
theorem dX7_ofStall_1 : decode cX7_ofStall 1 = .ok (.ifCond .lt 23, 3) := by decide +kernel
theorem dX7_ofStall_4 : decode cX7_ofStall 4 = .ok (.iload_n 2, 1) := by decide +kernel
theorem dX7_ofStall_5 : decode cX7_ofStall 5 = .ok (.aload_n 0, 1) := by decide +kernel
theorem dX7_ofStall_6 : decode cX7_ofStall 6 = .ok (.getfield 43, 3) := by decide +kernel
theorem dX7_ofStall_9 : decode cX7_ofStall 9 = .ok (.if_icmp .ge 15, 3) := by decide +kernel
theorem dX7_ofStall_12 : decode cX7_ofStall 12 = .ok (.iload_n 2, 1) := by decide +kernel
theorem dX7_ofStall_13 : decode cX7_ofStall 13 = .ok (.aload_n 1, 1) := by decide +kernel
theorem dX7_ofStall_14 : decode cX7_ofStall 14 = .ok (.arraylength, 1) := by decide +kernel
theorem dX7_ofStall_15 : decode cX7_ofStall 15 = .ok (.if_icmp .ge 9, 3) := by decide +kernel
theorem dX7_ofStall_18 : decode cX7_ofStall 18 = .ok (.aload_n 1, 1) := by decide +kernel
theorem dX7_ofStall_19 : decode cX7_ofStall 19 = .ok (.iload_n 2, 1) := by decide +kernel
theorem dX7_ofStall_20 : decode cX7_ofStall 20 = .ok (.iaload, 1) := by decide +kernel
theorem dX7_ofStall_21 : decode cX7_ofStall 21 = .ok (.goto 4, 3) := by decide +kernel
theorem dX7_ofStall_24 : decode cX7_ofStall 24 = .ok (.iconst 0, 1) := by decide +kernel
theorem dX7_ofStall_25 : decode cX7_ofStall 25 = .ok (.ireturn, 1) := by decide +kernel
theorem dX7_ofTwo_0 : decode cX7_ofTwo 0 = .ok (.iload_n 0, 1) := by decide +kernel
theorem dX7_ofTwo_1 : decode cX7_ofTwo 1 = .ok (.tableswitch 295 19 62 #[191, 195, 295, 295, 199, 210, 295, 295, 295, 295, 295, 295, 295, 295, 295, 295, 295, 295, 295, 295, 295, 295, 295, 272, 254, 295, 263, 295, 281, 295, 295, 295, 295, 295, 295, 295, 295, 295, 295, 295, 295, 221, 243, 232], 191) := by decide +kernel
theorem dX7_ofTwo_192 : decode cX7_ofTwo 192 = .ok (.iload_n 1, 1) := by decide +kernel
theorem dX7_ofTwo_193 : decode cX7_ofTwo 193 = .ok (.iload_n 2, 1) := by decide +kernel
theorem dX7_ofTwo_194 : decode cX7_ofTwo 194 = .ok (.ior, 1) := by decide +kernel
theorem dX7_ofTwo_195 : decode cX7_ofTwo 195 = .ok (.ireturn, 1) := by decide +kernel
theorem dX7_ofTwo_196 : decode cX7_ofTwo 196 = .ok (.iload_n 1, 1) := by decide +kernel
theorem dX7_ofTwo_197 : decode cX7_ofTwo 197 = .ok (.iload_n 2, 1) := by decide +kernel
theorem dX7_ofTwo_198 : decode cX7_ofTwo 198 = .ok (.iand, 1) := by decide +kernel
theorem dX7_ofTwo_199 : decode cX7_ofTwo 199 = .ok (.ireturn, 1) := by decide +kernel
theorem dX7_ofTwo_200 : decode cX7_ofTwo 200 = .ok (.iload_n 1, 1) := by decide +kernel
theorem dX7_ofTwo_201 : decode cX7_ofTwo 201 = .ok (.iload_n 2, 1) := by decide +kernel
theorem dX7_ofTwo_202 : decode cX7_ofTwo 202 = .ok (.if_icmp .ge 7, 3) := by decide +kernel
theorem dX7_ofTwo_205 : decode cX7_ofTwo 205 = .ok (.iload_n 1, 1) := by decide +kernel
theorem dX7_ofTwo_206 : decode cX7_ofTwo 206 = .ok (.goto 4, 3) := by decide +kernel
theorem dX7_ofTwo_209 : decode cX7_ofTwo 209 = .ok (.iload_n 2, 1) := by decide +kernel
theorem dX7_ofTwo_210 : decode cX7_ofTwo 210 = .ok (.ireturn, 1) := by decide +kernel
theorem dX7_ofTwo_211 : decode cX7_ofTwo 211 = .ok (.iload_n 1, 1) := by decide +kernel
theorem dX7_ofTwo_212 : decode cX7_ofTwo 212 = .ok (.iload_n 2, 1) := by decide +kernel
theorem dX7_ofTwo_213 : decode cX7_ofTwo 213 = .ok (.if_icmp .le 7, 3) := by decide +kernel
theorem dX7_ofTwo_216 : decode cX7_ofTwo 216 = .ok (.iload_n 1, 1) := by decide +kernel
theorem dX7_ofTwo_217 : decode cX7_ofTwo 217 = .ok (.goto 4, 3) := by decide +kernel
theorem dX7_ofTwo_220 : decode cX7_ofTwo 220 = .ok (.iload_n 2, 1) := by decide +kernel
theorem dX7_ofTwo_221 : decode cX7_ofTwo 221 = .ok (.ireturn, 1) := by decide +kernel
theorem dX7_ofTwo_222 : decode cX7_ofTwo 222 = .ok (.iload_n 1, 1) := by decide +kernel
theorem dX7_ofTwo_223 : decode cX7_ofTwo 223 = .ok (.iload_n 2, 1) := by decide +kernel
theorem dX7_ofTwo_224 : decode cX7_ofTwo 224 = .ok (.if_icmp .ge 7, 3) := by decide +kernel
theorem dX7_ofTwo_227 : decode cX7_ofTwo 227 = .ok (.iconst 1, 1) := by decide +kernel
theorem dX7_ofTwo_228 : decode cX7_ofTwo 228 = .ok (.goto 4, 3) := by decide +kernel
theorem dX7_ofTwo_231 : decode cX7_ofTwo 231 = .ok (.iconst 0, 1) := by decide +kernel
theorem dX7_ofTwo_232 : decode cX7_ofTwo 232 = .ok (.ireturn, 1) := by decide +kernel
theorem dX7_ofTwo_233 : decode cX7_ofTwo 233 = .ok (.iload_n 1, 1) := by decide +kernel
theorem dX7_ofTwo_234 : decode cX7_ofTwo 234 = .ok (.iload_n 2, 1) := by decide +kernel
theorem dX7_ofTwo_235 : decode cX7_ofTwo 235 = .ok (.if_icmp .le 7, 3) := by decide +kernel
theorem dX7_ofTwo_238 : decode cX7_ofTwo 238 = .ok (.iconst 1, 1) := by decide +kernel
theorem dX7_ofTwo_239 : decode cX7_ofTwo 239 = .ok (.goto 4, 3) := by decide +kernel
theorem dX7_ofTwo_242 : decode cX7_ofTwo 242 = .ok (.iconst 0, 1) := by decide +kernel
theorem dX7_ofTwo_243 : decode cX7_ofTwo 243 = .ok (.ireturn, 1) := by decide +kernel
theorem dX7_ofTwo_244 : decode cX7_ofTwo 244 = .ok (.iload_n 1, 1) := by decide +kernel
theorem dX7_ofTwo_245 : decode cX7_ofTwo 245 = .ok (.iload_n 2, 1) := by decide +kernel
theorem dX7_ofTwo_246 : decode cX7_ofTwo 246 = .ok (.if_icmp .ne 7, 3) := by decide +kernel
theorem dX7_ofTwo_249 : decode cX7_ofTwo 249 = .ok (.iconst 1, 1) := by decide +kernel
theorem dX7_ofTwo_250 : decode cX7_ofTwo 250 = .ok (.goto 4, 3) := by decide +kernel
theorem dX7_ofTwo_253 : decode cX7_ofTwo 253 = .ok (.iconst 0, 1) := by decide +kernel
theorem dX7_ofTwo_254 : decode cX7_ofTwo 254 = .ok (.ireturn, 1) := by decide +kernel
theorem dX7_ofTwo_255 : decode cX7_ofTwo 255 = .ok (.iload_n 1, 1) := by decide +kernel
theorem dX7_ofTwo_256 : decode cX7_ofTwo 256 = .ok (.i2l, 1) := by decide +kernel
theorem dX7_ofTwo_257 : decode cX7_ofTwo 257 = .ok (.iload_n 2, 1) := by decide +kernel
theorem dX7_ofTwo_258 : decode cX7_ofTwo 258 = .ok (.i2l, 1) := by decide +kernel
theorem dX7_ofTwo_259 : decode cX7_ofTwo 259 = .ok (.ladd, 1) := by decide +kernel
theorem dX7_ofTwo_260 : decode cX7_ofTwo 260 = .ok (.invokestatic 82, 3) := by decide +kernel
theorem dX7_ofTwo_263 : decode cX7_ofTwo 263 = .ok (.ireturn, 1) := by decide +kernel
theorem dX7_ofTwo_264 : decode cX7_ofTwo 264 = .ok (.iload_n 1, 1) := by decide +kernel
theorem dX7_ofTwo_265 : decode cX7_ofTwo 265 = .ok (.i2l, 1) := by decide +kernel
theorem dX7_ofTwo_266 : decode cX7_ofTwo 266 = .ok (.iload_n 2, 1) := by decide +kernel
theorem dX7_ofTwo_267 : decode cX7_ofTwo 267 = .ok (.i2l, 1) := by decide +kernel
theorem dX7_ofTwo_268 : decode cX7_ofTwo 268 = .ok (.lsub, 1) := by decide +kernel
theorem dX7_ofTwo_269 : decode cX7_ofTwo 269 = .ok (.invokestatic 82, 3) := by decide +kernel
theorem dX7_ofTwo_272 : decode cX7_ofTwo 272 = .ok (.ireturn, 1) := by decide +kernel
theorem dX7_ofTwo_273 : decode cX7_ofTwo 273 = .ok (.iload_n 1, 1) := by decide +kernel
theorem dX7_ofTwo_274 : decode cX7_ofTwo 274 = .ok (.i2l, 1) := by decide +kernel
theorem dX7_ofTwo_275 : decode cX7_ofTwo 275 = .ok (.iload_n 2, 1) := by decide +kernel
theorem dX7_ofTwo_276 : decode cX7_ofTwo 276 = .ok (.i2l, 1) := by decide +kernel
theorem dX7_ofTwo_277 : decode cX7_ofTwo 277 = .ok (.lmul, 1) := by decide +kernel
theorem dX7_ofTwo_278 : decode cX7_ofTwo 278 = .ok (.invokestatic 82, 3) := by decide +kernel
theorem dX7_ofTwo_281 : decode cX7_ofTwo 281 = .ok (.ireturn, 1) := by decide +kernel
theorem dX7_ofTwo_282 : decode cX7_ofTwo 282 = .ok (.iload_n 2, 1) := by decide +kernel
theorem dX7_ofTwo_283 : decode cX7_ofTwo 283 = .ok (.ifCond .ne 7, 3) := by decide +kernel
theorem dX7_ofTwo_286 : decode cX7_ofTwo 286 = .ok (.iconst 0, 1) := by decide +kernel
theorem dX7_ofTwo_287 : decode cX7_ofTwo 287 = .ok (.goto 8, 3) := by decide +kernel
theorem dX7_ofTwo_290 : decode cX7_ofTwo 290 = .ok (.iload_n 1, 1) := by decide +kernel
theorem dX7_ofTwo_291 : decode cX7_ofTwo 291 = .ok (.iload_n 2, 1) := by decide +kernel
theorem dX7_ofTwo_292 : decode cX7_ofTwo 292 = .ok (.invokestatic 86, 3) := by decide +kernel
theorem dX7_ofTwo_295 : decode cX7_ofTwo 295 = .ok (.ireturn, 1) := by decide +kernel
theorem dX7_ofTwo_296 : decode cX7_ofTwo 296 = .ok (.iconst 0, 1) := by decide +kernel
theorem dX7_ofTwo_297 : decode cX7_ofTwo 297 = .ok (.ireturn, 1) := by decide +kernel
theorem dX7_within_0 : decode cX7_within 0 = .ok (.lload_n 0, 1) := by decide +kernel
theorem dX7_within_1 : decode cX7_within 1 = .ok (.ldc2_w 92, 3) := by decide +kernel
theorem dX7_within_4 : decode cX7_within 4 = .ok (.lcmp, 1) := by decide +kernel
theorem dX7_within_5 : decode cX7_within 5 = .ok (.ifCond .le 6, 3) := by decide +kernel
theorem dX7_within_8 : decode cX7_within 8 = .ok (.ldc 94, 2) := by decide +kernel
theorem dX7_within_10 : decode cX7_within 10 = .ok (.ireturn, 1) := by decide +kernel
theorem dX7_within_11 : decode cX7_within 11 = .ok (.lload_n 0, 1) := by decide +kernel
theorem dX7_within_12 : decode cX7_within 12 = .ok (.ldc2_w 95, 3) := by decide +kernel
theorem dX7_within_15 : decode cX7_within 15 = .ok (.lcmp, 1) := by decide +kernel
theorem dX7_within_16 : decode cX7_within 16 = .ok (.ifCond .ge 8, 3) := by decide +kernel
theorem dX7_within_19 : decode cX7_within 19 = .ok (.ldc 97, 2) := by decide +kernel
theorem dX7_within_21 : decode cX7_within 21 = .ok (.goto 5, 3) := by decide +kernel
theorem dX7_within_24 : decode cX7_within 24 = .ok (.lload_n 0, 1) := by decide +kernel
theorem dX7_within_25 : decode cX7_within 25 = .ok (.l2i, 1) := by decide +kernel
theorem dX7_within_26 : decode cX7_within 26 = .ok (.ireturn, 1) := by decide +kernel
theorem dX8_init_0 : decode cX8_init 0 = .ok (.aload_n 0, 1) := by decide +kernel
theorem dX8_init_1 : decode cX8_init 1 = .ok (.invokespecial 3, 3) := by decide +kernel
theorem dX8_init_4 : decode cX8_init 4 = .ok (.aload_n 0, 1) := by decide +kernel
theorem dX8_init_5 : decode cX8_init 5 = .ok (.iconst 0, 1) := by decide +kernel
theorem dX8_init_6 : decode cX8_init 6 = .ok (.putfield 9, 3) := by decide +kernel
theorem dX8_init_9 : decode cX8_init 9 = .ok (.aload_n 0, 1) := by decide +kernel
theorem dX8_init_10 : decode cX8_init 10 = .ok (.iconst 0, 1) := by decide +kernel
theorem dX8_init_11 : decode cX8_init 11 = .ok (.putfield 15, 3) := by decide +kernel
theorem dX8_init_14 : decode cX8_init 14 = .ok (.aload_n 0, 1) := by decide +kernel
theorem dX8_init_15 : decode cX8_init 15 = .ok (.iconst 0, 1) := by decide +kernel
theorem dX8_init_16 : decode cX8_init 16 = .ok (.putfield 18, 3) := by decide +kernel
theorem dX8_init_19 : decode cX8_init 19 = .ok (.aload_n 0, 1) := by decide +kernel
theorem dX8_init_20 : decode cX8_init 20 = .ok (.iconst 0, 1) := by decide +kernel
theorem dX8_init_21 : decode cX8_init 21 = .ok (.putfield 21, 3) := by decide +kernel
theorem dX8_init_24 : decode cX8_init 24 = .ok (.aload_n 0, 1) := by decide +kernel
theorem dX8_init_25 : decode cX8_init 25 = .ok (.iconst 0, 1) := by decide +kernel
theorem dX8_init_26 : decode cX8_init 26 = .ok (.putfield 24, 3) := by decide +kernel
theorem dX8_init_29 : decode cX8_init 29 = .ok (.aload_n 0, 1) := by decide +kernel
theorem dX8_init_30 : decode cX8_init 30 = .ok (.iconst (-1), 1) := by decide +kernel
theorem dX8_init_31 : decode cX8_init 31 = .ok (.putfield 27, 3) := by decide +kernel
theorem dX8_init_34 : decode cX8_init 34 = .ok (.aload_n 0, 1) := by decide +kernel
theorem dX8_init_35 : decode cX8_init 35 = .ok (.aload_n 1, 1) := by decide +kernel
theorem dX8_init_36 : decode cX8_init 36 = .ok (.putfield 30, 3) := by decide +kernel
theorem dX8_init_39 : decode cX8_init 39 = .ok (.return_, 1) := by decide +kernel
theorem dX8_begin_0 : decode cX8_begin 0 = .ok (.aload_n 0, 1) := by decide +kernel
theorem dX8_begin_1 : decode cX8_begin 1 = .ok (.iconst 0, 1) := by decide +kernel
theorem dX8_begin_2 : decode cX8_begin 2 = .ok (.putfield 15, 3) := by decide +kernel
theorem dX8_begin_5 : decode cX8_begin 5 = .ok (.aload_n 0, 1) := by decide +kernel
theorem dX8_begin_6 : decode cX8_begin 6 = .ok (.iconst 0, 1) := by decide +kernel
theorem dX8_begin_7 : decode cX8_begin 7 = .ok (.putfield 18, 3) := by decide +kernel
theorem dX8_begin_10 : decode cX8_begin 10 = .ok (.aload_n 0, 1) := by decide +kernel
theorem dX8_begin_11 : decode cX8_begin 11 = .ok (.iconst 0, 1) := by decide +kernel
theorem dX8_begin_12 : decode cX8_begin 12 = .ok (.putfield 24, 3) := by decide +kernel
theorem dX8_begin_15 : decode cX8_begin 15 = .ok (.aload_n 0, 1) := by decide +kernel
theorem dX8_begin_16 : decode cX8_begin 16 = .ok (.iconst (-1), 1) := by decide +kernel
theorem dX8_begin_17 : decode cX8_begin 17 = .ok (.putfield 27, 3) := by decide +kernel
theorem dX8_begin_20 : decode cX8_begin 20 = .ok (.aload_n 0, 1) := by decide +kernel
theorem dX8_begin_21 : decode cX8_begin 21 = .ok (.invokevirtual 34, 3) := by decide +kernel
theorem dX8_begin_24 : decode cX8_begin 24 = .ok (.return_, 1) := by decide +kernel
theorem dX8_fail_0 : decode cX8_fail 0 = .ok (.aload_n 0, 1) := by decide +kernel
theorem dX8_fail_1 : decode cX8_fail 1 = .ok (.getfield 24, 3) := by decide +kernel
theorem dX8_fail_4 : decode cX8_fail 4 = .ok (.ifCond .ne 13, 3) := by decide +kernel
theorem dX8_fail_7 : decode cX8_fail 7 = .ok (.aload_n 0, 1) := by decide +kernel
theorem dX8_fail_8 : decode cX8_fail 8 = .ok (.iload_n 1, 1) := by decide +kernel
theorem dX8_fail_9 : decode cX8_fail 9 = .ok (.putfield 24, 3) := by decide +kernel
theorem dX8_fail_12 : decode cX8_fail 12 = .ok (.aload_n 0, 1) := by decide +kernel
theorem dX8_fail_13 : decode cX8_fail 13 = .ok (.iload_n 2, 1) := by decide +kernel
theorem dX8_fail_14 : decode cX8_fail 14 = .ok (.putfield 27, 3) := by decide +kernel
theorem dX8_fail_17 : decode cX8_fail 17 = .ok (.aload_n 0, 1) := by decide +kernel
theorem dX8_fail_18 : decode cX8_fail 18 = .ok (.iconst 4, 1) := by decide +kernel
theorem dX8_fail_19 : decode cX8_fail 19 = .ok (.putfield 18, 3) := by decide +kernel
theorem dX8_fail_22 : decode cX8_fail 22 = .ok (.return_, 1) := by decide +kernel
theorem dX8_step_0 : decode cX8_step 0 = .ok (.aload_n 0, 1) := by decide +kernel
theorem dX8_step_1 : decode cX8_step 1 = .ok (.getfield 24, 3) := by decide +kernel
theorem dX8_step_4 : decode cX8_step 4 = .ok (.ifCond .eq 4, 3) := by decide +kernel
theorem dX8_step_7 : decode cX8_step 7 = .ok (.return_, 1) := by decide +kernel
theorem dX8_step_8 : decode cX8_step 8 = .ok (.aload_n 0, 1) := by decide +kernel
theorem dX8_step_9 : decode cX8_step 9 = .ok (.getfield 18, 3) := by decide +kernel
theorem dX8_step_12 : decode cX8_step 12 = .ok (.iconst 1, 1) := by decide +kernel
theorem dX8_step_13 : decode cX8_step 13 = .ok (.if_icmp .eq 11, 3) := by decide +kernel
theorem dX8_step_16 : decode cX8_step 16 = .ok (.aload_n 0, 1) := by decide +kernel
theorem dX8_step_17 : decode cX8_step 17 = .ok (.getfield 18, 3) := by decide +kernel
theorem dX8_step_20 : decode cX8_step 20 = .ok (.iconst 2, 1) := by decide +kernel
theorem dX8_step_21 : decode cX8_step 21 = .ok (.if_icmp .ne 7, 3) := by decide +kernel
theorem dX8_step_24 : decode cX8_step 24 = .ok (.iconst 1, 1) := by decide +kernel
theorem dX8_step_25 : decode cX8_step 25 = .ok (.goto 4, 3) := by decide +kernel
theorem dX8_step_28 : decode cX8_step 28 = .ok (.iconst 0, 1) := by decide +kernel
theorem dX8_step_29 : decode cX8_step 29 = .ok (.istore_n 1, 1) := by decide +kernel
theorem dX8_step_30 : decode cX8_step 30 = .ok (.aload_n 0, 1) := by decide +kernel
theorem dX8_step_31 : decode cX8_step 31 = .ok (.aload_n 0, 1) := by decide +kernel
theorem dX8_step_32 : decode cX8_step 32 = .ok (.getfield 15, 3) := by decide +kernel
theorem dX8_step_35 : decode cX8_step 35 = .ok (.putfield 9, 3) := by decide +kernel
theorem dX8_step_38 : decode cX8_step 38 = .ok (.aload_n 0, 1) := by decide +kernel
theorem dX8_step_39 : decode cX8_step 39 = .ok (.getfield 9, 3) := by decide +kernel
theorem dX8_step_42 : decode cX8_step 42 = .ok (.aload_n 0, 1) := by decide +kernel
theorem dX8_step_43 : decode cX8_step 43 = .ok (.getfield 30, 3) := by decide +kernel
theorem dX8_step_46 : decode cX8_step 46 = .ok (.getfield 37, 3) := by decide +kernel
theorem dX8_step_49 : decode cX8_step 49 = .ok (.if_icmp .ge 33, 3) := by decide +kernel
theorem dX8_step_52 : decode cX8_step 52 = .ok (.aload_n 0, 1) := by decide +kernel
theorem dX8_step_53 : decode cX8_step 53 = .ok (.getfield 30, 3) := by decide +kernel
theorem dX8_step_56 : decode cX8_step 56 = .ok (.aload_n 0, 1) := by decide +kernel
theorem dX8_step_57 : decode cX8_step 57 = .ok (.getfield 9, 3) := by decide +kernel
theorem dX8_step_60 : decode cX8_step 60 = .ok (.invokevirtual 42, 3) := by decide +kernel
theorem dX8_step_63 : decode cX8_step 63 = .ok (.invokestatic 46, 3) := by decide +kernel
theorem dX8_step_66 : decode cX8_step 66 = .ok (.ifCond .eq 16, 3) := by decide +kernel
theorem dX8_step_69 : decode cX8_step 69 = .ok (.aload_n 0, 1) := by decide +kernel
theorem dX8_step_70 : decode cX8_step 70 = .ok (.dup, 1) := by decide +kernel
theorem dX8_step_71 : decode cX8_step 71 = .ok (.getfield 9, 3) := by decide +kernel
theorem dX8_step_74 : decode cX8_step 74 = .ok (.iconst 1, 1) := by decide +kernel
theorem dX8_step_75 : decode cX8_step 75 = .ok (.iadd, 1) := by decide +kernel
theorem dX8_step_76 : decode cX8_step 76 = .ok (.putfield 9, 3) := by decide +kernel
theorem dX8_step_79 : decode cX8_step 79 = .ok (.goto (-41), 3) := by decide +kernel
theorem dX8_step_82 : decode cX8_step 82 = .ok (.iload_n 1, 1) := by decide +kernel
theorem dX8_step_83 : decode cX8_step 83 = .ok (.ifCond .eq 18, 3) := by decide +kernel
theorem dX8_step_86 : decode cX8_step 86 = .ok (.aload_n 0, 1) := by decide +kernel
theorem dX8_step_87 : decode cX8_step 87 = .ok (.getfield 9, 3) := by decide +kernel
theorem dX8_step_90 : decode cX8_step 90 = .ok (.aload_n 0, 1) := by decide +kernel
theorem dX8_step_91 : decode cX8_step 91 = .ok (.getfield 15, 3) := by decide +kernel
theorem dX8_step_94 : decode cX8_step 94 = .ok (.if_icmp .ne 7, 3) := by decide +kernel
theorem dX8_step_97 : decode cX8_step 97 = .ok (.iconst 1, 1) := by decide +kernel
theorem dX8_step_98 : decode cX8_step 98 = .ok (.goto 4, 3) := by decide +kernel
theorem dX8_step_101 : decode cX8_step 101 = .ok (.iconst 0, 1) := by decide +kernel
theorem dX8_step_102 : decode cX8_step 102 = .ok (.istore_n 2, 1) := by decide +kernel
theorem dX8_step_103 : decode cX8_step 103 = .ok (.aload_n 0, 1) := by decide +kernel
theorem dX8_step_104 : decode cX8_step 104 = .ok (.getfield 30, 3) := by decide +kernel
theorem dX8_step_107 : decode cX8_step 107 = .ok (.aload_n 0, 1) := by decide +kernel
theorem dX8_step_108 : decode cX8_step 108 = .ok (.getfield 9, 3) := by decide +kernel
theorem dX8_step_111 : decode cX8_step 111 = .ok (.invokevirtual 42, 3) := by decide +kernel
theorem dX8_step_114 : decode cX8_step 114 = .ok (.istore_n 3, 1) := by decide +kernel
theorem dX8_step_115 : decode cX8_step 115 = .ok (.iload_n 3, 1) := by decide +kernel
theorem dX8_step_116 : decode cX8_step 116 = .ok (.invokestatic 50, 3) := by decide +kernel
theorem dX8_step_119 : decode cX8_step 119 = .ok (.ifCond .eq 10, 3) := by decide +kernel
theorem dX8_step_122 : decode cX8_step 122 = .ok (.aload_n 0, 1) := by decide +kernel
theorem dX8_step_123 : decode cX8_step 123 = .ok (.invokevirtual 53, 3) := by decide +kernel
theorem dX8_step_126 : decode cX8_step 126 = .ok (.goto 59, 3) := by decide +kernel
theorem dX8_step_129 : decode cX8_step 129 = .ok (.iload_n 3, 1) := by decide +kernel
theorem dX8_step_130 : decode cX8_step 130 = .ok (.invokestatic 56, 3) := by decide +kernel
theorem dX8_step_133 : decode cX8_step 133 = .ok (.ifCond .eq 10, 3) := by decide +kernel
theorem dX8_step_136 : decode cX8_step 136 = .ok (.aload_n 0, 1) := by decide +kernel
theorem dX8_step_137 : decode cX8_step 137 = .ok (.invokevirtual 59, 3) := by decide +kernel
theorem dX8_step_140 : decode cX8_step 140 = .ok (.goto 45, 3) := by decide +kernel
theorem dX8_step_143 : decode cX8_step 143 = .ok (.aload_n 0, 1) := by decide +kernel
theorem dX8_step_144 : decode cX8_step 144 = .ok (.iload_n 3, 1) := by decide +kernel
theorem dX8_step_145 : decode cX8_step 145 = .ok (.iconst (-1), 1) := by decide +kernel
theorem dX8_step_146 : decode cX8_step 146 = .ok (.if_icmp .ne 7, 3) := by decide +kernel
theorem dX8_step_149 : decode cX8_step 149 = .ok (.iconst 0, 1) := by decide +kernel
theorem dX8_step_150 : decode cX8_step 150 = .ok (.goto 4, 3) := by decide +kernel
theorem dX8_step_153 : decode cX8_step 153 = .ok (.iconst 3, 1) := by decide +kernel
theorem dX8_step_154 : decode cX8_step 154 = .ok (.putfield 18, 3) := by decide +kernel
theorem dX8_step_157 : decode cX8_step 157 = .ok (.aload_n 0, 1) := by decide +kernel
theorem dX8_step_158 : decode cX8_step 158 = .ok (.iload_n 3, 1) := by decide +kernel
theorem dX8_step_159 : decode cX8_step 159 = .ok (.putfield 21, 3) := by decide +kernel
theorem dX8_step_162 : decode cX8_step 162 = .ok (.aload_n 0, 1) := by decide +kernel
theorem dX8_step_163 : decode cX8_step 163 = .ok (.iload_n 3, 1) := by decide +kernel
theorem dX8_step_164 : decode cX8_step 164 = .ok (.iconst (-1), 1) := by decide +kernel
theorem dX8_step_165 : decode cX8_step 165 = .ok (.if_icmp .ne 10, 3) := by decide +kernel
theorem dX8_step_168 : decode cX8_step 168 = .ok (.aload_n 0, 1) := by decide +kernel
theorem dX8_step_169 : decode cX8_step 169 = .ok (.getfield 9, 3) := by decide +kernel
theorem dX8_step_172 : decode cX8_step 172 = .ok (.goto 9, 3) := by decide +kernel
theorem dX8_step_175 : decode cX8_step 175 = .ok (.aload_n 0, 1) := by decide +kernel
theorem dX8_step_176 : decode cX8_step 176 = .ok (.getfield 9, 3) := by decide +kernel
theorem dX8_step_179 : decode cX8_step 179 = .ok (.iconst 1, 1) := by decide +kernel
theorem dX8_step_180 : decode cX8_step 180 = .ok (.iadd, 1) := by decide +kernel
theorem dX8_step_181 : decode cX8_step 181 = .ok (.putfield 15, 3) := by decide +kernel
theorem dX8_step_184 : decode cX8_step 184 = .ok (.return_, 1) := by decide +kernel
theorem dX8_step_185 : decode cX8_step 185 = .ok (.iload_n 2, 1) := by decide +kernel
theorem dX8_step_186 : decode cX8_step 186 = .ok (.ifCond .eq 8, 3) := by decide +kernel
theorem dX8_step_189 : decode cX8_step 189 = .ok (.aload_n 0, 1) := by decide +kernel
theorem dX8_step_190 : decode cX8_step 190 = .ok (.iconst 4, 1) := by decide +kernel
theorem dX8_step_191 : decode cX8_step 191 = .ok (.putfield 18, 3) := by decide +kernel
theorem dX8_step_194 : decode cX8_step 194 = .ok (.return_, 1) := by decide +kernel
theorem dX8_readWord_0 : decode cX8_readWord 0 = .ok (.aload_n 0, 1) := by decide +kernel
theorem dX8_readWord_1 : decode cX8_readWord 1 = .ok (.iconst 1, 1) := by decide +kernel
theorem dX8_readWord_2 : decode cX8_readWord 2 = .ok (.putfield 18, 3) := by decide +kernel
theorem dX8_readWord_5 : decode cX8_readWord 5 = .ok (.aload_n 0, 1) := by decide +kernel
theorem dX8_readWord_6 : decode cX8_readWord 6 = .ok (.aload_n 0, 1) := by decide +kernel
theorem dX8_readWord_7 : decode cX8_readWord 7 = .ok (.getfield 9, 3) := by decide +kernel
theorem dX8_readWord_10 : decode cX8_readWord 10 = .ok (.putfield 15, 3) := by decide +kernel
theorem dX8_readWord_13 : decode cX8_readWord 13 = .ok (.aload_n 0, 1) := by decide +kernel
theorem dX8_readWord_14 : decode cX8_readWord 14 = .ok (.getfield 15, 3) := by decide +kernel
theorem dX8_readWord_17 : decode cX8_readWord 17 = .ok (.aload_n 0, 1) := by decide +kernel
theorem dX8_readWord_18 : decode cX8_readWord 18 = .ok (.getfield 30, 3) := by decide +kernel
theorem dX8_readWord_21 : decode cX8_readWord 21 = .ok (.getfield 37, 3) := by decide +kernel
theorem dX8_readWord_24 : decode cX8_readWord 24 = .ok (.if_icmp .ge 33, 3) := by decide +kernel
theorem dX8_readWord_27 : decode cX8_readWord 27 = .ok (.aload_n 0, 1) := by decide +kernel
theorem dX8_readWord_28 : decode cX8_readWord 28 = .ok (.getfield 30, 3) := by decide +kernel
theorem dX8_readWord_31 : decode cX8_readWord 31 = .ok (.aload_n 0, 1) := by decide +kernel
theorem dX8_readWord_32 : decode cX8_readWord 32 = .ok (.getfield 15, 3) := by decide +kernel
theorem dX8_readWord_35 : decode cX8_readWord 35 = .ok (.invokevirtual 42, 3) := by decide +kernel
theorem dX8_readWord_38 : decode cX8_readWord 38 = .ok (.invokestatic 50, 3) := by decide +kernel
theorem dX8_readWord_41 : decode cX8_readWord 41 = .ok (.ifCond .eq 16, 3) := by decide +kernel
theorem dX8_readWord_44 : decode cX8_readWord 44 = .ok (.aload_n 0, 1) := by decide +kernel
theorem dX8_readWord_45 : decode cX8_readWord 45 = .ok (.dup, 1) := by decide +kernel
theorem dX8_readWord_46 : decode cX8_readWord 46 = .ok (.getfield 15, 3) := by decide +kernel
theorem dX8_readWord_49 : decode cX8_readWord 49 = .ok (.iconst 1, 1) := by decide +kernel
theorem dX8_readWord_50 : decode cX8_readWord 50 = .ok (.iadd, 1) := by decide +kernel
theorem dX8_readWord_51 : decode cX8_readWord 51 = .ok (.putfield 15, 3) := by decide +kernel
theorem dX8_readWord_54 : decode cX8_readWord 54 = .ok (.goto (-41), 3) := by decide +kernel
theorem dX8_readWord_57 : decode cX8_readWord 57 = .ok (.aload_n 0, 1) := by decide +kernel
theorem dX8_readWord_58 : decode cX8_readWord 58 = .ok (.iconst (-1), 1) := by decide +kernel
theorem dX8_readWord_59 : decode cX8_readWord 59 = .ok (.putfield 21, 3) := by decide +kernel
theorem dX8_readWord_62 : decode cX8_readWord 62 = .ok (.aload_n 0, 1) := by decide +kernel
theorem dX8_readWord_63 : decode cX8_readWord 63 = .ok (.getfield 15, 3) := by decide +kernel
theorem dX8_readWord_66 : decode cX8_readWord 66 = .ok (.aload_n 0, 1) := by decide +kernel
theorem dX8_readWord_67 : decode cX8_readWord 67 = .ok (.getfield 9, 3) := by decide +kernel
theorem dX8_readWord_70 : decode cX8_readWord 70 = .ok (.isub, 1) := by decide +kernel
theorem dX8_readWord_71 : decode cX8_readWord 71 = .ok (.istore_n 1, 1) := by decide +kernel
theorem dX8_readWord_72 : decode cX8_readWord 72 = .ok (.iconst 0, 1) := by decide +kernel
theorem dX8_readWord_73 : decode cX8_readWord 73 = .ok (.istore_n 2, 1) := by decide +kernel
theorem dX8_readWord_74 : decode cX8_readWord 74 = .ok (.iload_n 2, 1) := by decide +kernel
theorem dX8_readWord_75 : decode cX8_readWord 75 = .ok (.bipush 31, 2) := by decide +kernel
theorem dX8_readWord_77 : decode cX8_readWord 77 = .ok (.if_icmp .ge 93, 3) := by decide +kernel
theorem dX8_readWord_80 : decode cX8_readWord 80 = .ok (.iload_n 1, 1) := by decide +kernel
theorem dX8_readWord_81 : decode cX8_readWord 81 = .ok (.bipush 6, 2) := by decide +kernel
theorem dX8_readWord_83 : decode cX8_readWord 83 = .ok (.if_icmp .gt 87, 3) := by decide +kernel
theorem dX8_readWord_86 : decode cX8_readWord 86 = .ok (.iload_n 2, 1) := by decide +kernel
theorem dX8_readWord_87 : decode cX8_readWord 87 = .ok (.bipush 6, 2) := by decide +kernel
theorem dX8_readWord_89 : decode cX8_readWord 89 = .ok (.imul, 1) := by decide +kernel
theorem dX8_readWord_90 : decode cX8_readWord 90 = .ok (.istore_n 3, 1) := by decide +kernel
theorem dX8_readWord_91 : decode cX8_readWord 91 = .ok (.iconst 0, 1) := by decide +kernel
theorem dX8_readWord_92 : decode cX8_readWord 92 = .ok (.istore 4, 2) := by decide +kernel
theorem dX8_readWord_94 : decode cX8_readWord 94 = .ok (.iload 4, 2) := by decide +kernel
theorem dX8_readWord_96 : decode cX8_readWord 96 = .ok (.iload_n 1, 1) := by decide +kernel
theorem dX8_readWord_97 : decode cX8_readWord 97 = .ok (.if_icmp .ge 35, 3) := by decide +kernel
theorem dX8_readWord_100 : decode cX8_readWord 100 = .ok (.ldc 62, 2) := by decide +kernel
theorem dX8_readWord_102 : decode cX8_readWord 102 = .ok (.iload_n 3, 1) := by decide +kernel
theorem dX8_readWord_103 : decode cX8_readWord 103 = .ok (.iload 4, 2) := by decide +kernel
theorem dX8_readWord_105 : decode cX8_readWord 105 = .ok (.iadd, 1) := by decide +kernel
theorem dX8_readWord_106 : decode cX8_readWord 106 = .ok (.invokevirtual 64, 3) := by decide +kernel
theorem dX8_readWord_109 : decode cX8_readWord 109 = .ok (.aload_n 0, 1) := by decide +kernel
theorem dX8_readWord_110 : decode cX8_readWord 110 = .ok (.getfield 30, 3) := by decide +kernel
theorem dX8_readWord_113 : decode cX8_readWord 113 = .ok (.aload_n 0, 1) := by decide +kernel
theorem dX8_readWord_114 : decode cX8_readWord 114 = .ok (.getfield 9, 3) := by decide +kernel
theorem dX8_readWord_117 : decode cX8_readWord 117 = .ok (.iload 4, 2) := by decide +kernel
theorem dX8_readWord_119 : decode cX8_readWord 119 = .ok (.iadd, 1) := by decide +kernel
theorem dX8_readWord_120 : decode cX8_readWord 120 = .ok (.invokevirtual 42, 3) := by decide +kernel
theorem dX8_readWord_123 : decode cX8_readWord 123 = .ok (.if_icmp .ne 9, 3) := by decide +kernel
theorem dX8_readWord_126 : decode cX8_readWord 126 = .ok (.iinc 4 1, 3) := by decide +kernel
theorem dX8_readWord_129 : decode cX8_readWord 129 = .ok (.goto (-35), 3) := by decide +kernel
theorem dX8_readWord_132 : decode cX8_readWord 132 = .ok (.iload 4, 2) := by decide +kernel
theorem dX8_readWord_134 : decode cX8_readWord 134 = .ok (.iload_n 1, 1) := by decide +kernel
theorem dX8_readWord_135 : decode cX8_readWord 135 = .ok (.if_icmp .ne 29, 3) := by decide +kernel
theorem dX8_readWord_138 : decode cX8_readWord 138 = .ok (.iload 4, 2) := by decide +kernel
theorem dX8_readWord_140 : decode cX8_readWord 140 = .ok (.bipush 6, 2) := by decide +kernel
theorem dX8_readWord_142 : decode cX8_readWord 142 = .ok (.if_icmp .eq 17, 3) := by decide +kernel
theorem dX8_readWord_145 : decode cX8_readWord 145 = .ok (.ldc 62, 2) := by decide +kernel
theorem dX8_readWord_147 : decode cX8_readWord 147 = .ok (.iload_n 3, 1) := by decide +kernel
theorem dX8_readWord_148 : decode cX8_readWord 148 = .ok (.iload 4, 2) := by decide +kernel
theorem dX8_readWord_150 : decode cX8_readWord 150 = .ok (.iadd, 1) := by decide +kernel
theorem dX8_readWord_151 : decode cX8_readWord 151 = .ok (.invokevirtual 64, 3) := by decide +kernel
theorem dX8_readWord_154 : decode cX8_readWord 154 = .ok (.bipush 32, 2) := by decide +kernel
theorem dX8_readWord_156 : decode cX8_readWord 156 = .ok (.if_icmp .ne 8, 3) := by decide +kernel
theorem dX8_readWord_159 : decode cX8_readWord 159 = .ok (.aload_n 0, 1) := by decide +kernel
theorem dX8_readWord_160 : decode cX8_readWord 160 = .ok (.iload_n 2, 1) := by decide +kernel
theorem dX8_readWord_161 : decode cX8_readWord 161 = .ok (.putfield 21, 3) := by decide +kernel
theorem dX8_readWord_164 : decode cX8_readWord 164 = .ok (.iinc 2 1, 3) := by decide +kernel
theorem dX8_readWord_167 : decode cX8_readWord 167 = .ok (.goto (-93), 3) := by decide +kernel
theorem dX8_readWord_170 : decode cX8_readWord 170 = .ok (.return_, 1) := by decide +kernel
theorem dX8_readNumeral_0 : decode cX8_readNumeral 0 = .ok (.aload_n 0, 1) := by decide +kernel
theorem dX8_readNumeral_1 : decode cX8_readNumeral 1 = .ok (.iconst 2, 1) := by decide +kernel
theorem dX8_readNumeral_2 : decode cX8_readNumeral 2 = .ok (.putfield 18, 3) := by decide +kernel
theorem dX8_readNumeral_5 : decode cX8_readNumeral 5 = .ok (.aload_n 0, 1) := by decide +kernel
theorem dX8_readNumeral_6 : decode cX8_readNumeral 6 = .ok (.iconst 0, 1) := by decide +kernel
theorem dX8_readNumeral_7 : decode cX8_readNumeral 7 = .ok (.putfield 21, 3) := by decide +kernel
theorem dX8_readNumeral_10 : decode cX8_readNumeral 10 = .ok (.aload_n 0, 1) := by decide +kernel
theorem dX8_readNumeral_11 : decode cX8_readNumeral 11 = .ok (.aload_n 0, 1) := by decide +kernel
theorem dX8_readNumeral_12 : decode cX8_readNumeral 12 = .ok (.getfield 9, 3) := by decide +kernel
theorem dX8_readNumeral_15 : decode cX8_readNumeral 15 = .ok (.putfield 15, 3) := by decide +kernel
theorem dX8_readNumeral_18 : decode cX8_readNumeral 18 = .ok (.aload_n 0, 1) := by decide +kernel
theorem dX8_readNumeral_19 : decode cX8_readNumeral 19 = .ok (.getfield 15, 3) := by decide +kernel
theorem dX8_readNumeral_22 : decode cX8_readNumeral 22 = .ok (.aload_n 0, 1) := by decide +kernel
theorem dX8_readNumeral_23 : decode cX8_readNumeral 23 = .ok (.getfield 30, 3) := by decide +kernel
theorem dX8_readNumeral_26 : decode cX8_readNumeral 26 = .ok (.getfield 37, 3) := by decide +kernel
theorem dX8_readNumeral_29 : decode cX8_readNumeral 29 = .ok (.if_icmp .ge 72, 3) := by decide +kernel
theorem dX8_readNumeral_32 : decode cX8_readNumeral 32 = .ok (.aload_n 0, 1) := by decide +kernel
theorem dX8_readNumeral_33 : decode cX8_readNumeral 33 = .ok (.getfield 30, 3) := by decide +kernel
theorem dX8_readNumeral_36 : decode cX8_readNumeral 36 = .ok (.aload_n 0, 1) := by decide +kernel
theorem dX8_readNumeral_37 : decode cX8_readNumeral 37 = .ok (.getfield 15, 3) := by decide +kernel
theorem dX8_readNumeral_40 : decode cX8_readNumeral 40 = .ok (.invokevirtual 42, 3) := by decide +kernel
theorem dX8_readNumeral_43 : decode cX8_readNumeral 43 = .ok (.invokestatic 56, 3) := by decide +kernel
theorem dX8_readNumeral_46 : decode cX8_readNumeral 46 = .ok (.ifCond .eq 55, 3) := by decide +kernel
theorem dX8_readNumeral_49 : decode cX8_readNumeral 49 = .ok (.aload_n 0, 1) := by decide +kernel
theorem dX8_readNumeral_50 : decode cX8_readNumeral 50 = .ok (.getfield 15, 3) := by decide +kernel
theorem dX8_readNumeral_53 : decode cX8_readNumeral 53 = .ok (.aload_n 0, 1) := by decide +kernel
theorem dX8_readNumeral_54 : decode cX8_readNumeral 54 = .ok (.getfield 9, 3) := by decide +kernel
theorem dX8_readNumeral_57 : decode cX8_readNumeral 57 = .ok (.isub, 1) := by decide +kernel
theorem dX8_readNumeral_58 : decode cX8_readNumeral 58 = .ok (.iconst 4, 1) := by decide +kernel
theorem dX8_readNumeral_59 : decode cX8_readNumeral 59 = .ok (.if_icmp .ge 29, 3) := by decide +kernel
theorem dX8_readNumeral_62 : decode cX8_readNumeral 62 = .ok (.aload_n 0, 1) := by decide +kernel
theorem dX8_readNumeral_63 : decode cX8_readNumeral 63 = .ok (.bipush 10, 2) := by decide +kernel
theorem dX8_readNumeral_65 : decode cX8_readNumeral 65 = .ok (.aload_n 0, 1) := by decide +kernel
theorem dX8_readNumeral_66 : decode cX8_readNumeral 66 = .ok (.getfield 21, 3) := by decide +kernel
theorem dX8_readNumeral_69 : decode cX8_readNumeral 69 = .ok (.imul, 1) := by decide +kernel
theorem dX8_readNumeral_70 : decode cX8_readNumeral 70 = .ok (.aload_n 0, 1) := by decide +kernel
theorem dX8_readNumeral_71 : decode cX8_readNumeral 71 = .ok (.getfield 30, 3) := by decide +kernel
theorem dX8_readNumeral_74 : decode cX8_readNumeral 74 = .ok (.aload_n 0, 1) := by decide +kernel
theorem dX8_readNumeral_75 : decode cX8_readNumeral 75 = .ok (.getfield 15, 3) := by decide +kernel
theorem dX8_readNumeral_78 : decode cX8_readNumeral 78 = .ok (.invokevirtual 42, 3) := by decide +kernel
theorem dX8_readNumeral_81 : decode cX8_readNumeral 81 = .ok (.iadd, 1) := by decide +kernel
theorem dX8_readNumeral_82 : decode cX8_readNumeral 82 = .ok (.bipush 48, 2) := by decide +kernel
theorem dX8_readNumeral_84 : decode cX8_readNumeral 84 = .ok (.isub, 1) := by decide +kernel
theorem dX8_readNumeral_85 : decode cX8_readNumeral 85 = .ok (.putfield 21, 3) := by decide +kernel
theorem dX8_readNumeral_88 : decode cX8_readNumeral 88 = .ok (.aload_n 0, 1) := by decide +kernel
theorem dX8_readNumeral_89 : decode cX8_readNumeral 89 = .ok (.dup, 1) := by decide +kernel
theorem dX8_readNumeral_90 : decode cX8_readNumeral 90 = .ok (.getfield 15, 3) := by decide +kernel
theorem dX8_readNumeral_93 : decode cX8_readNumeral 93 = .ok (.iconst 1, 1) := by decide +kernel
theorem dX8_readNumeral_94 : decode cX8_readNumeral 94 = .ok (.iadd, 1) := by decide +kernel
theorem dX8_readNumeral_95 : decode cX8_readNumeral 95 = .ok (.putfield 15, 3) := by decide +kernel
theorem dX8_readNumeral_98 : decode cX8_readNumeral 98 = .ok (.goto (-80), 3) := by decide +kernel
theorem dX8_readNumeral_101 : decode cX8_readNumeral 101 = .ok (.return_, 1) := by decide +kernel
theorem dX8_isWord_0 : decode cX8_isWord 0 = .ok (.aload_n 0, 1) := by decide +kernel
theorem dX8_isWord_1 : decode cX8_isWord 1 = .ok (.getfield 18, 3) := by decide +kernel
theorem dX8_isWord_4 : decode cX8_isWord 4 = .ok (.iconst 1, 1) := by decide +kernel
theorem dX8_isWord_5 : decode cX8_isWord 5 = .ok (.if_icmp .ne 15, 3) := by decide +kernel
theorem dX8_isWord_8 : decode cX8_isWord 8 = .ok (.aload_n 0, 1) := by decide +kernel
theorem dX8_isWord_9 : decode cX8_isWord 9 = .ok (.getfield 21, 3) := by decide +kernel
theorem dX8_isWord_12 : decode cX8_isWord 12 = .ok (.iload_n 1, 1) := by decide +kernel
theorem dX8_isWord_13 : decode cX8_isWord 13 = .ok (.if_icmp .ne 7, 3) := by decide +kernel
theorem dX8_isWord_16 : decode cX8_isWord 16 = .ok (.iconst 1, 1) := by decide +kernel
theorem dX8_isWord_17 : decode cX8_isWord 17 = .ok (.goto 4, 3) := by decide +kernel
theorem dX8_isWord_20 : decode cX8_isWord 20 = .ok (.iconst 0, 1) := by decide +kernel
theorem dX8_isWord_21 : decode cX8_isWord 21 = .ok (.ireturn, 1) := by decide +kernel
theorem dX8_isSign_0 : decode cX8_isSign 0 = .ok (.aload_n 0, 1) := by decide +kernel
theorem dX8_isSign_1 : decode cX8_isSign 1 = .ok (.getfield 18, 3) := by decide +kernel
theorem dX8_isSign_4 : decode cX8_isSign 4 = .ok (.iconst 3, 1) := by decide +kernel
theorem dX8_isSign_5 : decode cX8_isSign 5 = .ok (.if_icmp .ne 15, 3) := by decide +kernel
theorem dX8_isSign_8 : decode cX8_isSign 8 = .ok (.aload_n 0, 1) := by decide +kernel
theorem dX8_isSign_9 : decode cX8_isSign 9 = .ok (.getfield 21, 3) := by decide +kernel
theorem dX8_isSign_12 : decode cX8_isSign 12 = .ok (.iload_n 1, 1) := by decide +kernel
theorem dX8_isSign_13 : decode cX8_isSign 13 = .ok (.if_icmp .ne 7, 3) := by decide +kernel
theorem dX8_isSign_16 : decode cX8_isSign 16 = .ok (.iconst 1, 1) := by decide +kernel
theorem dX8_isSign_17 : decode cX8_isSign 17 = .ok (.goto 4, 3) := by decide +kernel
theorem dX8_isSign_20 : decode cX8_isSign 20 = .ok (.iconst 0, 1) := by decide +kernel
theorem dX8_isSign_21 : decode cX8_isSign 21 = .ok (.ireturn, 1) := by decide +kernel
theorem dX8_takeWord_0 : decode cX8_takeWord 0 = .ok (.aload_n 0, 1) := by decide +kernel
theorem dX8_takeWord_1 : decode cX8_takeWord 1 = .ok (.iload_n 1, 1) := by decide +kernel
theorem dX8_takeWord_2 : decode cX8_takeWord 2 = .ok (.invokevirtual 70, 3) := by decide +kernel
theorem dX8_takeWord_5 : decode cX8_takeWord 5 = .ok (.ifCond .eq 10, 3) := by decide +kernel
theorem dX8_takeWord_8 : decode cX8_takeWord 8 = .ok (.aload_n 0, 1) := by decide +kernel
theorem dX8_takeWord_9 : decode cX8_takeWord 9 = .ok (.invokevirtual 34, 3) := by decide +kernel
theorem dX8_takeWord_12 : decode cX8_takeWord 12 = .ok (.goto 12, 3) := by decide +kernel
theorem dX8_takeWord_15 : decode cX8_takeWord 15 = .ok (.aload_n 0, 1) := by decide +kernel
theorem dX8_takeWord_16 : decode cX8_takeWord 16 = .ok (.iconst 1, 1) := by decide +kernel
theorem dX8_takeWord_17 : decode cX8_takeWord 17 = .ok (.aload_n 0, 1) := by decide +kernel
theorem dX8_takeWord_18 : decode cX8_takeWord 18 = .ok (.getfield 9, 3) := by decide +kernel
theorem dX8_takeWord_21 : decode cX8_takeWord 21 = .ok (.invokevirtual 73, 3) := by decide +kernel
theorem dX8_takeWord_24 : decode cX8_takeWord 24 = .ok (.return_, 1) := by decide +kernel
theorem dX8_takeSign_0 : decode cX8_takeSign 0 = .ok (.aload_n 0, 1) := by decide +kernel
theorem dX8_takeSign_1 : decode cX8_takeSign 1 = .ok (.iload_n 1, 1) := by decide +kernel
theorem dX8_takeSign_2 : decode cX8_takeSign 2 = .ok (.invokevirtual 77, 3) := by decide +kernel
theorem dX8_takeSign_5 : decode cX8_takeSign 5 = .ok (.ifCond .eq 10, 3) := by decide +kernel
theorem dX8_takeSign_8 : decode cX8_takeSign 8 = .ok (.aload_n 0, 1) := by decide +kernel
theorem dX8_takeSign_9 : decode cX8_takeSign 9 = .ok (.invokevirtual 34, 3) := by decide +kernel
theorem dX8_takeSign_12 : decode cX8_takeSign 12 = .ok (.goto 12, 3) := by decide +kernel
theorem dX8_takeSign_15 : decode cX8_takeSign 15 = .ok (.aload_n 0, 1) := by decide +kernel
theorem dX8_takeSign_16 : decode cX8_takeSign 16 = .ok (.iconst 1, 1) := by decide +kernel
theorem dX8_takeSign_17 : decode cX8_takeSign 17 = .ok (.aload_n 0, 1) := by decide +kernel
theorem dX8_takeSign_18 : decode cX8_takeSign 18 = .ok (.getfield 9, 3) := by decide +kernel
theorem dX8_takeSign_21 : decode cX8_takeSign 21 = .ok (.invokevirtual 73, 3) := by decide +kernel
theorem dX8_takeSign_24 : decode cX8_takeSign 24 = .ok (.return_, 1) := by decide +kernel
theorem dX8_takeNumber_0 : decode cX8_takeNumber 0 = .ok (.aload_n 0, 1) := by decide +kernel
theorem dX8_takeNumber_1 : decode cX8_takeNumber 1 = .ok (.getfield 21, 3) := by decide +kernel
theorem dX8_takeNumber_4 : decode cX8_takeNumber 4 = .ok (.istore_n 3, 1) := by decide +kernel
theorem dX8_takeNumber_5 : decode cX8_takeNumber 5 = .ok (.aload_n 0, 1) := by decide +kernel
theorem dX8_takeNumber_6 : decode cX8_takeNumber 6 = .ok (.getfield 18, 3) := by decide +kernel
theorem dX8_takeNumber_9 : decode cX8_takeNumber 9 = .ok (.iconst 2, 1) := by decide +kernel
theorem dX8_takeNumber_10 : decode cX8_takeNumber 10 = .ok (.if_icmp .eq 15, 3) := by decide +kernel
theorem dX8_takeNumber_13 : decode cX8_takeNumber 13 = .ok (.aload_n 0, 1) := by decide +kernel
theorem dX8_takeNumber_14 : decode cX8_takeNumber 14 = .ok (.iconst 1, 1) := by decide +kernel
theorem dX8_takeNumber_15 : decode cX8_takeNumber 15 = .ok (.aload_n 0, 1) := by decide +kernel
theorem dX8_takeNumber_16 : decode cX8_takeNumber 16 = .ok (.getfield 9, 3) := by decide +kernel
theorem dX8_takeNumber_19 : decode cX8_takeNumber 19 = .ok (.invokevirtual 73, 3) := by decide +kernel
theorem dX8_takeNumber_22 : decode cX8_takeNumber 22 = .ok (.goto 49, 3) := by decide +kernel
theorem dX8_takeNumber_25 : decode cX8_takeNumber 25 = .ok (.aload_n 0, 1) := by decide +kernel
theorem dX8_takeNumber_26 : decode cX8_takeNumber 26 = .ok (.getfield 15, 3) := by decide +kernel
theorem dX8_takeNumber_29 : decode cX8_takeNumber 29 = .ok (.aload_n 0, 1) := by decide +kernel
theorem dX8_takeNumber_30 : decode cX8_takeNumber 30 = .ok (.getfield 9, 3) := by decide +kernel
theorem dX8_takeNumber_33 : decode cX8_takeNumber 33 = .ok (.isub, 1) := by decide +kernel
theorem dX8_takeNumber_34 : decode cX8_takeNumber 34 = .ok (.iconst 4, 1) := by decide +kernel
theorem dX8_takeNumber_35 : decode cX8_takeNumber 35 = .ok (.if_icmp .le 17, 3) := by decide +kernel
theorem dX8_takeNumber_38 : decode cX8_takeNumber 38 = .ok (.aload_n 0, 1) := by decide +kernel
theorem dX8_takeNumber_39 : decode cX8_takeNumber 39 = .ok (.iconst 1, 1) := by decide +kernel
theorem dX8_takeNumber_40 : decode cX8_takeNumber 40 = .ok (.aload_n 0, 1) := by decide +kernel
theorem dX8_takeNumber_41 : decode cX8_takeNumber 41 = .ok (.getfield 9, 3) := by decide +kernel
theorem dX8_takeNumber_44 : decode cX8_takeNumber 44 = .ok (.iconst 4, 1) := by decide +kernel
theorem dX8_takeNumber_45 : decode cX8_takeNumber 45 = .ok (.iadd, 1) := by decide +kernel
theorem dX8_takeNumber_46 : decode cX8_takeNumber 46 = .ok (.invokevirtual 73, 3) := by decide +kernel
theorem dX8_takeNumber_49 : decode cX8_takeNumber 49 = .ok (.goto 22, 3) := by decide +kernel
theorem dX8_takeNumber_52 : decode cX8_takeNumber 52 = .ok (.iload_n 3, 1) := by decide +kernel
theorem dX8_takeNumber_53 : decode cX8_takeNumber 53 = .ok (.iload_n 1, 1) := by decide +kernel
theorem dX8_takeNumber_54 : decode cX8_takeNumber 54 = .ok (.if_icmp .lt 8, 3) := by decide +kernel
theorem dX8_takeNumber_57 : decode cX8_takeNumber 57 = .ok (.iload_n 3, 1) := by decide +kernel
theorem dX8_takeNumber_58 : decode cX8_takeNumber 58 = .ok (.iload_n 2, 1) := by decide +kernel
theorem dX8_takeNumber_59 : decode cX8_takeNumber 59 = .ok (.if_icmp .le 12, 3) := by decide +kernel
theorem dX8_takeNumber_62 : decode cX8_takeNumber 62 = .ok (.aload_n 0, 1) := by decide +kernel
theorem dX8_takeNumber_63 : decode cX8_takeNumber 63 = .ok (.iconst 2, 1) := by decide +kernel
theorem dX8_takeNumber_64 : decode cX8_takeNumber 64 = .ok (.aload_n 0, 1) := by decide +kernel
theorem dX8_takeNumber_65 : decode cX8_takeNumber 65 = .ok (.getfield 9, 3) := by decide +kernel
theorem dX8_takeNumber_68 : decode cX8_takeNumber 68 = .ok (.invokevirtual 73, 3) := by decide +kernel
theorem dX8_takeNumber_71 : decode cX8_takeNumber 71 = .ok (.aload_n 0, 1) := by decide +kernel
theorem dX8_takeNumber_72 : decode cX8_takeNumber 72 = .ok (.invokevirtual 34, 3) := by decide +kernel
theorem dX8_takeNumber_75 : decode cX8_takeNumber 75 = .ok (.aload_n 0, 1) := by decide +kernel
theorem dX8_takeNumber_76 : decode cX8_takeNumber 76 = .ok (.getfield 24, 3) := by decide +kernel
theorem dX8_takeNumber_79 : decode cX8_takeNumber 79 = .ok (.ifCond .ne 7, 3) := by decide +kernel
theorem dX8_takeNumber_82 : decode cX8_takeNumber 82 = .ok (.iload_n 3, 1) := by decide +kernel
theorem dX8_takeNumber_83 : decode cX8_takeNumber 83 = .ok (.goto 4, 3) := by decide +kernel
theorem dX8_takeNumber_86 : decode cX8_takeNumber 86 = .ok (.iconst 0, 1) := by decide +kernel
theorem dX8_takeNumber_87 : decode cX8_takeNumber 87 = .ok (.ireturn, 1) := by decide +kernel
theorem dX8_takeName_0 : decode cX8_takeName 0 = .ok (.aload_n 0, 1) := by decide +kernel
theorem dX8_takeName_1 : decode cX8_takeName 1 = .ok (.getfield 18, 3) := by decide +kernel
theorem dX8_takeName_4 : decode cX8_takeName 4 = .ok (.iconst 1, 1) := by decide +kernel
theorem dX8_takeName_5 : decode cX8_takeName 5 = .ok (.if_icmp .ne 19, 3) := by decide +kernel
theorem dX8_takeName_8 : decode cX8_takeName 8 = .ok (.aload_n 0, 1) := by decide +kernel
theorem dX8_takeName_9 : decode cX8_takeName 9 = .ok (.getfield 21, 3) := by decide +kernel
theorem dX8_takeName_12 : decode cX8_takeName 12 = .ok (.ifCond .lt 23, 3) := by decide +kernel
theorem dX8_takeName_15 : decode cX8_takeName 15 = .ok (.aload_n 0, 1) := by decide +kernel
theorem dX8_takeName_16 : decode cX8_takeName 16 = .ok (.getfield 21, 3) := by decide +kernel
theorem dX8_takeName_19 : decode cX8_takeName 19 = .ok (.bipush 24, 2) := by decide +kernel
theorem dX8_takeName_21 : decode cX8_takeName 21 = .ok (.if_icmp .gt 14, 3) := by decide +kernel
theorem dX8_takeName_24 : decode cX8_takeName 24 = .ok (.aload_n 0, 1) := by decide +kernel
theorem dX8_takeName_25 : decode cX8_takeName 25 = .ok (.iconst 1, 1) := by decide +kernel
theorem dX8_takeName_26 : decode cX8_takeName 26 = .ok (.aload_n 0, 1) := by decide +kernel
theorem dX8_takeName_27 : decode cX8_takeName 27 = .ok (.getfield 9, 3) := by decide +kernel
theorem dX8_takeName_30 : decode cX8_takeName 30 = .ok (.invokevirtual 73, 3) := by decide +kernel
theorem dX8_takeName_33 : decode cX8_takeName 33 = .ok (.iconst 0, 1) := by decide +kernel
theorem dX8_takeName_34 : decode cX8_takeName 34 = .ok (.ireturn, 1) := by decide +kernel
theorem dX8_takeName_35 : decode cX8_takeName 35 = .ok (.aload_n 0, 1) := by decide +kernel
theorem dX8_takeName_36 : decode cX8_takeName 36 = .ok (.getfield 15, 3) := by decide +kernel
theorem dX8_takeName_39 : decode cX8_takeName 39 = .ok (.aload_n 0, 1) := by decide +kernel
theorem dX8_takeName_40 : decode cX8_takeName 40 = .ok (.getfield 9, 3) := by decide +kernel
theorem dX8_takeName_43 : decode cX8_takeName 43 = .ok (.isub, 1) := by decide +kernel
theorem dX8_takeName_44 : decode cX8_takeName 44 = .ok (.bipush 6, 2) := by decide +kernel
theorem dX8_takeName_46 : decode cX8_takeName 46 = .ok (.if_icmp .le 17, 3) := by decide +kernel
theorem dX8_takeName_49 : decode cX8_takeName 49 = .ok (.aload_n 0, 1) := by decide +kernel
theorem dX8_takeName_50 : decode cX8_takeName 50 = .ok (.iconst 1, 1) := by decide +kernel
theorem dX8_takeName_51 : decode cX8_takeName 51 = .ok (.aload_n 0, 1) := by decide +kernel
theorem dX8_takeName_52 : decode cX8_takeName 52 = .ok (.getfield 9, 3) := by decide +kernel
theorem dX8_takeName_55 : decode cX8_takeName 55 = .ok (.bipush 6, 2) := by decide +kernel
theorem dX8_takeName_57 : decode cX8_takeName 57 = .ok (.iadd, 1) := by decide +kernel
theorem dX8_takeName_58 : decode cX8_takeName 58 = .ok (.invokevirtual 73, 3) := by decide +kernel
theorem dX8_takeName_61 : decode cX8_takeName 61 = .ok (.iconst 0, 1) := by decide +kernel
theorem dX8_takeName_62 : decode cX8_takeName 62 = .ok (.ireturn, 1) := by decide +kernel
theorem dX8_takeName_63 : decode cX8_takeName 63 = .ok (.iconst 0, 1) := by decide +kernel
theorem dX8_takeName_64 : decode cX8_takeName 64 = .ok (.istore_n 2, 1) := by decide +kernel
theorem dX8_takeName_65 : decode cX8_takeName 65 = .ok (.aload_n 0, 1) := by decide +kernel
theorem dX8_takeName_66 : decode cX8_takeName 66 = .ok (.getfield 15, 3) := by decide +kernel
theorem dX8_takeName_69 : decode cX8_takeName 69 = .ok (.iconst 1, 1) := by decide +kernel
theorem dX8_takeName_70 : decode cX8_takeName 70 = .ok (.isub, 1) := by decide +kernel
theorem dX8_takeName_71 : decode cX8_takeName 71 = .ok (.istore_n 3, 1) := by decide +kernel
theorem dX8_takeName_72 : decode cX8_takeName 72 = .ok (.iload_n 3, 1) := by decide +kernel
theorem dX8_takeName_73 : decode cX8_takeName 73 = .ok (.aload_n 0, 1) := by decide +kernel
theorem dX8_takeName_74 : decode cX8_takeName 74 = .ok (.getfield 9, 3) := by decide +kernel
theorem dX8_takeName_77 : decode cX8_takeName 77 = .ok (.if_icmp .lt 27, 3) := by decide +kernel
theorem dX8_takeName_80 : decode cX8_takeName 80 = .ok (.iload_n 2, 1) := by decide +kernel
theorem dX8_takeName_81 : decode cX8_takeName 81 = .ok (.iconst 5, 1) := by decide +kernel
theorem dX8_takeName_82 : decode cX8_takeName 82 = .ok (.ishl, 1) := by decide +kernel
theorem dX8_takeName_83 : decode cX8_takeName 83 = .ok (.aload_n 0, 1) := by decide +kernel
theorem dX8_takeName_84 : decode cX8_takeName 84 = .ok (.getfield 30, 3) := by decide +kernel
theorem dX8_takeName_87 : decode cX8_takeName 87 = .ok (.iload_n 3, 1) := by decide +kernel
theorem dX8_takeName_88 : decode cX8_takeName 88 = .ok (.invokevirtual 42, 3) := by decide +kernel
theorem dX8_takeName_91 : decode cX8_takeName 91 = .ok (.bipush 97, 2) := by decide +kernel
theorem dX8_takeName_93 : decode cX8_takeName 93 = .ok (.isub, 1) := by decide +kernel
theorem dX8_takeName_94 : decode cX8_takeName 94 = .ok (.iconst 1, 1) := by decide +kernel
theorem dX8_takeName_95 : decode cX8_takeName 95 = .ok (.iadd, 1) := by decide +kernel
theorem dX8_takeName_96 : decode cX8_takeName 96 = .ok (.ior, 1) := by decide +kernel
theorem dX8_takeName_97 : decode cX8_takeName 97 = .ok (.istore_n 2, 1) := by decide +kernel
theorem dX8_takeName_98 : decode cX8_takeName 98 = .ok (.iinc 3 (-1), 3) := by decide +kernel
theorem dX8_takeName_101 : decode cX8_takeName 101 = .ok (.goto (-29), 3) := by decide +kernel
theorem dX8_takeName_104 : decode cX8_takeName 104 = .ok (.aload_n 1, 1) := by decide +kernel
theorem dX8_takeName_105 : decode cX8_takeName 105 = .ok (.iload_n 2, 1) := by decide +kernel
theorem dX8_takeName_106 : decode cX8_takeName 106 = .ok (.invokevirtual 80, 3) := by decide +kernel
theorem dX8_takeName_109 : decode cX8_takeName 109 = .ok (.ifCond .eq 12, 3) := by decide +kernel
theorem dX8_takeName_112 : decode cX8_takeName 112 = .ok (.aload_n 0, 1) := by decide +kernel
theorem dX8_takeName_113 : decode cX8_takeName 113 = .ok (.iconst 3, 1) := by decide +kernel
theorem dX8_takeName_114 : decode cX8_takeName 114 = .ok (.aload_n 0, 1) := by decide +kernel
theorem dX8_takeName_115 : decode cX8_takeName 115 = .ok (.getfield 9, 3) := by decide +kernel
theorem dX8_takeName_118 : decode cX8_takeName 118 = .ok (.invokevirtual 73, 3) := by decide +kernel
theorem dX8_takeName_121 : decode cX8_takeName 121 = .ok (.aload_n 0, 1) := by decide +kernel
theorem dX8_takeName_122 : decode cX8_takeName 122 = .ok (.invokevirtual 34, 3) := by decide +kernel
theorem dX8_takeName_125 : decode cX8_takeName 125 = .ok (.iload_n 2, 1) := by decide +kernel
theorem dX8_takeName_126 : decode cX8_takeName 126 = .ok (.ireturn, 1) := by decide +kernel
theorem dX8_isBlank_0 : decode cX8_isBlank 0 = .ok (.iload_n 0, 1) := by decide +kernel
theorem dX8_isBlank_1 : decode cX8_isBlank 1 = .ok (.bipush 32, 2) := by decide +kernel
theorem dX8_isBlank_3 : decode cX8_isBlank 3 = .ok (.if_icmp .eq 9, 3) := by decide +kernel
theorem dX8_isBlank_6 : decode cX8_isBlank 6 = .ok (.iload_n 0, 1) := by decide +kernel
theorem dX8_isBlank_7 : decode cX8_isBlank 7 = .ok (.bipush 10, 2) := by decide +kernel
theorem dX8_isBlank_9 : decode cX8_isBlank 9 = .ok (.if_icmp .ne 7, 3) := by decide +kernel
theorem dX8_isBlank_12 : decode cX8_isBlank 12 = .ok (.iconst 1, 1) := by decide +kernel
theorem dX8_isBlank_13 : decode cX8_isBlank 13 = .ok (.goto 4, 3) := by decide +kernel
theorem dX8_isBlank_16 : decode cX8_isBlank 16 = .ok (.iconst 0, 1) := by decide +kernel
theorem dX8_isBlank_17 : decode cX8_isBlank 17 = .ok (.ireturn, 1) := by decide +kernel
theorem dX8_isLetter_0 : decode cX8_isLetter 0 = .ok (.iload_n 0, 1) := by decide +kernel
theorem dX8_isLetter_1 : decode cX8_isLetter 1 = .ok (.bipush 97, 2) := by decide +kernel
theorem dX8_isLetter_3 : decode cX8_isLetter 3 = .ok (.if_icmp .lt 13, 3) := by decide +kernel
theorem dX8_isLetter_6 : decode cX8_isLetter 6 = .ok (.iload_n 0, 1) := by decide +kernel
theorem dX8_isLetter_7 : decode cX8_isLetter 7 = .ok (.bipush 122, 2) := by decide +kernel
theorem dX8_isLetter_9 : decode cX8_isLetter 9 = .ok (.if_icmp .gt 7, 3) := by decide +kernel
theorem dX8_isLetter_12 : decode cX8_isLetter 12 = .ok (.iconst 1, 1) := by decide +kernel
theorem dX8_isLetter_13 : decode cX8_isLetter 13 = .ok (.goto 4, 3) := by decide +kernel
theorem dX8_isLetter_16 : decode cX8_isLetter 16 = .ok (.iconst 0, 1) := by decide +kernel
theorem dX8_isLetter_17 : decode cX8_isLetter 17 = .ok (.ireturn, 1) := by decide +kernel
theorem dX8_isDigit_0 : decode cX8_isDigit 0 = .ok (.iload_n 0, 1) := by decide +kernel
theorem dX8_isDigit_1 : decode cX8_isDigit 1 = .ok (.bipush 48, 2) := by decide +kernel
theorem dX8_isDigit_3 : decode cX8_isDigit 3 = .ok (.if_icmp .lt 13, 3) := by decide +kernel
theorem dX8_isDigit_6 : decode cX8_isDigit 6 = .ok (.iload_n 0, 1) := by decide +kernel
theorem dX8_isDigit_7 : decode cX8_isDigit 7 = .ok (.bipush 57, 2) := by decide +kernel
theorem dX8_isDigit_9 : decode cX8_isDigit 9 = .ok (.if_icmp .gt 7, 3) := by decide +kernel
theorem dX8_isDigit_12 : decode cX8_isDigit 12 = .ok (.iconst 1, 1) := by decide +kernel
theorem dX8_isDigit_13 : decode cX8_isDigit 13 = .ok (.goto 4, 3) := by decide +kernel
theorem dX8_isDigit_16 : decode cX8_isDigit 16 = .ok (.iconst 0, 1) := by decide +kernel
theorem dX8_isDigit_17 : decode cX8_isDigit 17 = .ok (.ireturn, 1) := by decide +kernel
theorem dX9_init_0 : decode cX9_init 0 = .ok (.aload_n 0, 1) := by decide +kernel
theorem dX9_init_1 : decode cX9_init 1 = .ok (.invokespecial 3, 3) := by decide +kernel
theorem dX9_init_4 : decode cX9_init 4 = .ok (.aload_n 0, 1) := by decide +kernel
theorem dX9_init_5 : decode cX9_init 5 = .ok (.iconst 0, 1) := by decide +kernel
theorem dX9_init_6 : decode cX9_init 6 = .ok (.putfield 9, 3) := by decide +kernel
theorem dX9_init_9 : decode cX9_init 9 = .ok (.aload_n 0, 1) := by decide +kernel
theorem dX9_init_10 : decode cX9_init 10 = .ok (.bipush 16, 2) := by decide +kernel
theorem dX9_init_12 : decode cX9_init 12 = .ok (.newarray .int, 2) := by decide +kernel
theorem dX9_init_14 : decode cX9_init 14 = .ok (.putfield 15, 3) := by decide +kernel
theorem dX9_init_17 : decode cX9_init 17 = .ok (.aload_n 0, 1) := by decide +kernel
theorem dX9_init_18 : decode cX9_init 18 = .ok (.bipush 16, 2) := by decide +kernel
theorem dX9_init_20 : decode cX9_init 20 = .ok (.newarray .int, 2) := by decide +kernel
theorem dX9_init_22 : decode cX9_init 22 = .ok (.putfield 19, 3) := by decide +kernel
theorem dX9_init_25 : decode cX9_init 25 = .ok (.aload_n 0, 1) := by decide +kernel
theorem dX9_init_26 : decode cX9_init 26 = .ok (.bipush 16, 2) := by decide +kernel
theorem dX9_init_28 : decode cX9_init 28 = .ok (.newarray .int, 2) := by decide +kernel
theorem dX9_init_30 : decode cX9_init 30 = .ok (.putfield 22, 3) := by decide +kernel
theorem dX9_init_33 : decode cX9_init 33 = .ok (.return_, 1) := by decide +kernel
theorem dX9_isSuch_0 : decode cX9_isSuch 0 = .ok (.aload_n 1, 1) := by decide +kernel
theorem dX9_isSuch_1 : decode cX9_isSuch 1 = .ok (.getfield 25, 3) := by decide +kernel
theorem dX9_isSuch_4 : decode cX9_isSuch 4 = .ok (.ifCond .eq 21, 3) := by decide +kernel
theorem dX9_isSuch_7 : decode cX9_isSuch 7 = .ok (.aload_n 1, 1) := by decide +kernel
theorem dX9_isSuch_8 : decode cX9_isSuch 8 = .ok (.getfield 25, 3) := by decide +kernel
theorem dX9_isSuch_11 : decode cX9_isSuch 11 = .ok (.iconst 4, 1) := by decide +kernel
theorem dX9_isSuch_12 : decode cX9_isSuch 12 = .ok (.irem, 1) := by decide +kernel
theorem dX9_isSuch_13 : decode cX9_isSuch 13 = .ok (.ifCond .ne 12, 3) := by decide +kernel
theorem dX9_isSuch_16 : decode cX9_isSuch 16 = .ok (.aload_n 1, 1) := by decide +kernel
theorem dX9_isSuch_17 : decode cX9_isSuch 17 = .ok (.getfield 25, 3) := by decide +kernel
theorem dX9_isSuch_20 : decode cX9_isSuch 20 = .ok (.bipush 64, 2) := by decide +kernel
theorem dX9_isSuch_22 : decode cX9_isSuch 22 = .ok (.if_icmp .le 5, 3) := by decide +kernel
theorem dX9_isSuch_25 : decode cX9_isSuch 25 = .ok (.iconst 0, 1) := by decide +kernel
theorem dX9_isSuch_26 : decode cX9_isSuch 26 = .ok (.ireturn, 1) := by decide +kernel
theorem dX9_isSuch_27 : decode cX9_isSuch 27 = .ok (.iconst 0, 1) := by decide +kernel
theorem dX9_isSuch_28 : decode cX9_isSuch 28 = .ok (.istore_n 3, 1) := by decide +kernel
theorem dX9_isSuch_29 : decode cX9_isSuch 29 = .ok (.iload_n 3, 1) := by decide +kernel
theorem dX9_isSuch_30 : decode cX9_isSuch 30 = .ok (.aload_n 1, 1) := by decide +kernel
theorem dX9_isSuch_31 : decode cX9_isSuch 31 = .ok (.getfield 25, 3) := by decide +kernel
theorem dX9_isSuch_34 : decode cX9_isSuch 34 = .ok (.if_icmp .ge 37, 3) := by decide +kernel
theorem dX9_isSuch_37 : decode cX9_isSuch 37 = .ok (.aload_n 1, 1) := by decide +kernel
theorem dX9_isSuch_38 : decode cX9_isSuch 38 = .ok (.iload_n 3, 1) := by decide +kernel
theorem dX9_isSuch_39 : decode cX9_isSuch 39 = .ok (.invokevirtual 29, 3) := by decide +kernel
theorem dX9_isSuch_42 : decode cX9_isSuch 42 = .ok (.aload_n 2, 1) := by decide +kernel
theorem dX9_isSuch_43 : decode cX9_isSuch 43 = .ok (.getfield 33, 3) := by decide +kernel
theorem dX9_isSuch_46 : decode cX9_isSuch 46 = .ok (.if_icmp .ge 17, 3) := by decide +kernel
theorem dX9_isSuch_49 : decode cX9_isSuch 49 = .ok (.aload_n 1, 1) := by decide +kernel
theorem dX9_isSuch_50 : decode cX9_isSuch 50 = .ok (.iload_n 3, 1) := by decide +kernel
theorem dX9_isSuch_51 : decode cX9_isSuch 51 = .ok (.iconst 1, 1) := by decide +kernel
theorem dX9_isSuch_52 : decode cX9_isSuch 52 = .ok (.iadd, 1) := by decide +kernel
theorem dX9_isSuch_53 : decode cX9_isSuch 53 = .ok (.invokevirtual 29, 3) := by decide +kernel
theorem dX9_isSuch_56 : decode cX9_isSuch 56 = .ok (.aload_n 2, 1) := by decide +kernel
theorem dX9_isSuch_57 : decode cX9_isSuch 57 = .ok (.getfield 38, 3) := by decide +kernel
theorem dX9_isSuch_60 : decode cX9_isSuch 60 = .ok (.if_icmp .lt 5, 3) := by decide +kernel
theorem dX9_isSuch_63 : decode cX9_isSuch 63 = .ok (.iconst 0, 1) := by decide +kernel
theorem dX9_isSuch_64 : decode cX9_isSuch 64 = .ok (.ireturn, 1) := by decide +kernel
theorem dX9_isSuch_65 : decode cX9_isSuch 65 = .ok (.iinc 3 4, 3) := by decide +kernel
theorem dX9_isSuch_68 : decode cX9_isSuch 68 = .ok (.goto (-39), 3) := by decide +kernel
theorem dX9_isSuch_71 : decode cX9_isSuch 71 = .ok (.iconst 1, 1) := by decide +kernel
theorem dX9_isSuch_72 : decode cX9_isSuch 72 = .ok (.ireturn, 1) := by decide +kernel
theorem dX9_take_0 : decode cX9_take 0 = .ok (.aload_n 0, 1) := by decide +kernel
theorem dX9_take_1 : decode cX9_take 1 = .ok (.bipush 16, 2) := by decide +kernel
theorem dX9_take_3 : decode cX9_take 3 = .ok (.aload_n 1, 1) := by decide +kernel
theorem dX9_take_4 : decode cX9_take 4 = .ok (.getfield 25, 3) := by decide +kernel
theorem dX9_take_7 : decode cX9_take 7 = .ok (.iconst 4, 1) := by decide +kernel
theorem dX9_take_8 : decode cX9_take 8 = .ok (.idiv, 1) := by decide +kernel
theorem dX9_take_9 : decode cX9_take 9 = .ok (.invokestatic 41, 3) := by decide +kernel
theorem dX9_take_12 : decode cX9_take 12 = .ok (.putfield 9, 3) := by decide +kernel
theorem dX9_take_15 : decode cX9_take 15 = .ok (.iconst 0, 1) := by decide +kernel
theorem dX9_take_16 : decode cX9_take 16 = .ok (.istore_n 2, 1) := by decide +kernel
theorem dX9_take_17 : decode cX9_take 17 = .ok (.iload_n 2, 1) := by decide +kernel
theorem dX9_take_18 : decode cX9_take 18 = .ok (.aload_n 0, 1) := by decide +kernel
theorem dX9_take_19 : decode cX9_take 19 = .ok (.getfield 9, 3) := by decide +kernel
theorem dX9_take_22 : decode cX9_take 22 = .ok (.if_icmp .ge 52, 3) := by decide +kernel
theorem dX9_take_25 : decode cX9_take 25 = .ok (.aload_n 0, 1) := by decide +kernel
theorem dX9_take_26 : decode cX9_take 26 = .ok (.getfield 15, 3) := by decide +kernel
theorem dX9_take_29 : decode cX9_take 29 = .ok (.iload_n 2, 1) := by decide +kernel
theorem dX9_take_30 : decode cX9_take 30 = .ok (.aload_n 1, 1) := by decide +kernel
theorem dX9_take_31 : decode cX9_take 31 = .ok (.iconst 4, 1) := by decide +kernel
theorem dX9_take_32 : decode cX9_take 32 = .ok (.iload_n 2, 1) := by decide +kernel
theorem dX9_take_33 : decode cX9_take 33 = .ok (.imul, 1) := by decide +kernel
theorem dX9_take_34 : decode cX9_take 34 = .ok (.invokevirtual 29, 3) := by decide +kernel
theorem dX9_take_37 : decode cX9_take 37 = .ok (.iastore, 1) := by decide +kernel
theorem dX9_take_38 : decode cX9_take 38 = .ok (.aload_n 0, 1) := by decide +kernel
theorem dX9_take_39 : decode cX9_take 39 = .ok (.getfield 19, 3) := by decide +kernel
theorem dX9_take_42 : decode cX9_take 42 = .ok (.iload_n 2, 1) := by decide +kernel
theorem dX9_take_43 : decode cX9_take 43 = .ok (.aload_n 1, 1) := by decide +kernel
theorem dX9_take_44 : decode cX9_take 44 = .ok (.iconst 4, 1) := by decide +kernel
theorem dX9_take_45 : decode cX9_take 45 = .ok (.iload_n 2, 1) := by decide +kernel
theorem dX9_take_46 : decode cX9_take 46 = .ok (.imul, 1) := by decide +kernel
theorem dX9_take_47 : decode cX9_take 47 = .ok (.iconst 1, 1) := by decide +kernel
theorem dX9_take_48 : decode cX9_take 48 = .ok (.iadd, 1) := by decide +kernel
theorem dX9_take_49 : decode cX9_take 49 = .ok (.invokevirtual 29, 3) := by decide +kernel
theorem dX9_take_52 : decode cX9_take 52 = .ok (.iastore, 1) := by decide +kernel
theorem dX9_take_53 : decode cX9_take 53 = .ok (.aload_n 0, 1) := by decide +kernel
theorem dX9_take_54 : decode cX9_take 54 = .ok (.getfield 22, 3) := by decide +kernel
theorem dX9_take_57 : decode cX9_take 57 = .ok (.iload_n 2, 1) := by decide +kernel
theorem dX9_take_58 : decode cX9_take 58 = .ok (.aload_n 1, 1) := by decide +kernel
theorem dX9_take_59 : decode cX9_take 59 = .ok (.iconst 4, 1) := by decide +kernel
theorem dX9_take_60 : decode cX9_take 60 = .ok (.iload_n 2, 1) := by decide +kernel
theorem dX9_take_61 : decode cX9_take 61 = .ok (.imul, 1) := by decide +kernel
theorem dX9_take_62 : decode cX9_take 62 = .ok (.iconst 2, 1) := by decide +kernel
theorem dX9_take_63 : decode cX9_take 63 = .ok (.iadd, 1) := by decide +kernel
theorem dX9_take_64 : decode cX9_take 64 = .ok (.invokevirtual 47, 3) := by decide +kernel
theorem dX9_take_67 : decode cX9_take 67 = .ok (.iastore, 1) := by decide +kernel
theorem dX9_take_68 : decode cX9_take 68 = .ok (.iinc 2 1, 3) := by decide +kernel
theorem dX9_take_71 : decode cX9_take 71 = .ok (.goto (-54), 3) := by decide +kernel
theorem dX9_take_74 : decode cX9_take 74 = .ok (.return_, 1) := by decide +kernel
theorem dX9_wrongRows_0 : decode cX9_wrongRows 0 = .ok (.iconst 0, 1) := by decide +kernel
theorem dX9_wrongRows_1 : decode cX9_wrongRows 1 = .ok (.istore_n 3, 1) := by decide +kernel
theorem dX9_wrongRows_2 : decode cX9_wrongRows 2 = .ok (.iconst 0, 1) := by decide +kernel
theorem dX9_wrongRows_3 : decode cX9_wrongRows 3 = .ok (.istore 4, 2) := by decide +kernel
theorem dX9_wrongRows_5 : decode cX9_wrongRows 5 = .ok (.iload 4, 2) := by decide +kernel
theorem dX9_wrongRows_7 : decode cX9_wrongRows 7 = .ok (.aload_n 0, 1) := by decide +kernel
theorem dX9_wrongRows_8 : decode cX9_wrongRows 8 = .ok (.getfield 9, 3) := by decide +kernel
theorem dX9_wrongRows_11 : decode cX9_wrongRows 11 = .ok (.if_icmp .ge 45, 3) := by decide +kernel
theorem dX9_wrongRows_14 : decode cX9_wrongRows 14 = .ok (.aload_n 1, 1) := by decide +kernel
theorem dX9_wrongRows_15 : decode cX9_wrongRows 15 = .ok (.aload_n 0, 1) := by decide +kernel
theorem dX9_wrongRows_16 : decode cX9_wrongRows 16 = .ok (.getfield 15, 3) := by decide +kernel
theorem dX9_wrongRows_19 : decode cX9_wrongRows 19 = .ok (.iload 4, 2) := by decide +kernel
theorem dX9_wrongRows_21 : decode cX9_wrongRows 21 = .ok (.iaload, 1) := by decide +kernel
theorem dX9_wrongRows_22 : decode cX9_wrongRows 22 = .ok (.aload_n 0, 1) := by decide +kernel
theorem dX9_wrongRows_23 : decode cX9_wrongRows 23 = .ok (.getfield 19, 3) := by decide +kernel
theorem dX9_wrongRows_26 : decode cX9_wrongRows 26 = .ok (.iload 4, 2) := by decide +kernel
theorem dX9_wrongRows_28 : decode cX9_wrongRows 28 = .ok (.iaload, 1) := by decide +kernel
theorem dX9_wrongRows_29 : decode cX9_wrongRows 29 = .ok (.iload_n 2, 1) := by decide +kernel
theorem dX9_wrongRows_30 : decode cX9_wrongRows 30 = .ok (.invokevirtual 50, 3) := by decide +kernel
theorem dX9_wrongRows_33 : decode cX9_wrongRows 33 = .ok (.aload_n 0, 1) := by decide +kernel
theorem dX9_wrongRows_34 : decode cX9_wrongRows 34 = .ok (.getfield 22, 3) := by decide +kernel
theorem dX9_wrongRows_37 : decode cX9_wrongRows 37 = .ok (.iload 4, 2) := by decide +kernel
theorem dX9_wrongRows_39 : decode cX9_wrongRows 39 = .ok (.iaload, 1) := by decide +kernel
theorem dX9_wrongRows_40 : decode cX9_wrongRows 40 = .ok (.if_icmp .eq 10, 3) := by decide +kernel
theorem dX9_wrongRows_43 : decode cX9_wrongRows 43 = .ok (.iload_n 3, 1) := by decide +kernel
theorem dX9_wrongRows_44 : decode cX9_wrongRows 44 = .ok (.iconst 1, 1) := by decide +kernel
theorem dX9_wrongRows_45 : decode cX9_wrongRows 45 = .ok (.iload 4, 2) := by decide +kernel
theorem dX9_wrongRows_47 : decode cX9_wrongRows 47 = .ok (.ishl, 1) := by decide +kernel
theorem dX9_wrongRows_48 : decode cX9_wrongRows 48 = .ok (.ior, 1) := by decide +kernel
theorem dX9_wrongRows_49 : decode cX9_wrongRows 49 = .ok (.istore_n 3, 1) := by decide +kernel
theorem dX9_wrongRows_50 : decode cX9_wrongRows 50 = .ok (.iinc 4 1, 3) := by decide +kernel
theorem dX9_wrongRows_53 : decode cX9_wrongRows 53 = .ok (.goto (-48), 3) := by decide +kernel
theorem dX9_wrongRows_56 : decode cX9_wrongRows 56 = .ok (.iload_n 3, 1) := by decide +kernel
theorem dX9_wrongRows_57 : decode cX9_wrongRows 57 = .ok (.ireturn, 1) := by decide +kernel
theorem dX10_init_0 : decode cX10_init 0 = .ok (.aload_n 0, 1) := by decide +kernel
theorem dX10_init_1 : decode cX10_init 1 = .ok (.invokespecial 3, 3) := by decide +kernel
theorem dX10_init_4 : decode cX10_init 4 = .ok (.aload_n 0, 1) := by decide +kernel
theorem dX10_init_5 : decode cX10_init 5 = .ok (.iconst 0, 1) := by decide +kernel
theorem dX10_init_6 : decode cX10_init 6 = .ok (.putfield 9, 3) := by decide +kernel
theorem dX10_init_9 : decode cX10_init 9 = .ok (.aload_n 0, 1) := by decide +kernel
theorem dX10_init_10 : decode cX10_init 10 = .ok (.iconst 0, 1) := by decide +kernel
theorem dX10_init_11 : decode cX10_init 11 = .ok (.iload_n 1, 1) := by decide +kernel
theorem dX10_init_12 : decode cX10_init 12 = .ok (.invokestatic 15, 3) := by decide +kernel
theorem dX10_init_15 : decode cX10_init 15 = .ok (.newarray .int, 2) := by decide +kernel
theorem dX10_init_17 : decode cX10_init 17 = .ok (.putfield 21, 3) := by decide +kernel
theorem dX10_init_20 : decode cX10_init 20 = .ok (.return_, 1) := by decide +kernel
theorem dX10_put_0 : decode cX10_put 0 = .ok (.aload_n 0, 1) := by decide +kernel
theorem dX10_put_1 : decode cX10_put 1 = .ok (.getfield 9, 3) := by decide +kernel
theorem dX10_put_4 : decode cX10_put 4 = .ok (.ifCond .lt 39, 3) := by decide +kernel
theorem dX10_put_7 : decode cX10_put 7 = .ok (.aload_n 0, 1) := by decide +kernel
theorem dX10_put_8 : decode cX10_put 8 = .ok (.getfield 9, 3) := by decide +kernel
theorem dX10_put_11 : decode cX10_put 11 = .ok (.aload_n 0, 1) := by decide +kernel
theorem dX10_put_12 : decode cX10_put 12 = .ok (.getfield 21, 3) := by decide +kernel
theorem dX10_put_15 : decode cX10_put 15 = .ok (.arraylength, 1) := by decide +kernel
theorem dX10_put_16 : decode cX10_put 16 = .ok (.if_icmp .ge 27, 3) := by decide +kernel
theorem dX10_put_19 : decode cX10_put 19 = .ok (.aload_n 0, 1) := by decide +kernel
theorem dX10_put_20 : decode cX10_put 20 = .ok (.getfield 21, 3) := by decide +kernel
theorem dX10_put_23 : decode cX10_put 23 = .ok (.aload_n 0, 1) := by decide +kernel
theorem dX10_put_24 : decode cX10_put 24 = .ok (.getfield 9, 3) := by decide +kernel
theorem dX10_put_27 : decode cX10_put 27 = .ok (.iload_n 1, 1) := by decide +kernel
theorem dX10_put_28 : decode cX10_put 28 = .ok (.sipush 255, 3) := by decide +kernel
theorem dX10_put_31 : decode cX10_put 31 = .ok (.iand, 1) := by decide +kernel
theorem dX10_put_32 : decode cX10_put 32 = .ok (.iastore, 1) := by decide +kernel
theorem dX10_put_33 : decode cX10_put 33 = .ok (.aload_n 0, 1) := by decide +kernel
theorem dX10_put_34 : decode cX10_put 34 = .ok (.dup, 1) := by decide +kernel
theorem dX10_put_35 : decode cX10_put 35 = .ok (.getfield 9, 3) := by decide +kernel
theorem dX10_put_38 : decode cX10_put 38 = .ok (.iconst 1, 1) := by decide +kernel
theorem dX10_put_39 : decode cX10_put 39 = .ok (.iadd, 1) := by decide +kernel
theorem dX10_put_40 : decode cX10_put 40 = .ok (.putfield 9, 3) := by decide +kernel
theorem dX10_put_43 : decode cX10_put 43 = .ok (.return_, 1) := by decide +kernel
theorem dX10_putTwo_0 : decode cX10_putTwo 0 = .ok (.aload_n 0, 1) := by decide +kernel
theorem dX10_putTwo_1 : decode cX10_putTwo 1 = .ok (.iload_n 1, 1) := by decide +kernel
theorem dX10_putTwo_2 : decode cX10_putTwo 2 = .ok (.bipush 8, 2) := by decide +kernel
theorem dX10_putTwo_4 : decode cX10_putTwo 4 = .ok (.ishr, 1) := by decide +kernel
theorem dX10_putTwo_5 : decode cX10_putTwo 5 = .ok (.invokevirtual 25, 3) := by decide +kernel
theorem dX10_putTwo_8 : decode cX10_putTwo 8 = .ok (.aload_n 0, 1) := by decide +kernel
theorem dX10_putTwo_9 : decode cX10_putTwo 9 = .ok (.iload_n 1, 1) := by decide +kernel
theorem dX10_putTwo_10 : decode cX10_putTwo 10 = .ok (.invokevirtual 25, 3) := by decide +kernel
theorem dX10_putTwo_13 : decode cX10_putTwo 13 = .ok (.return_, 1) := by decide +kernel
theorem dX10_putFour_0 : decode cX10_putFour 0 = .ok (.aload_n 0, 1) := by decide +kernel
theorem dX10_putFour_1 : decode cX10_putFour 1 = .ok (.iload_n 1, 1) := by decide +kernel
theorem dX10_putFour_2 : decode cX10_putFour 2 = .ok (.bipush 16, 2) := by decide +kernel
theorem dX10_putFour_4 : decode cX10_putFour 4 = .ok (.ishr, 1) := by decide +kernel
theorem dX10_putFour_5 : decode cX10_putFour 5 = .ok (.invokevirtual 29, 3) := by decide +kernel
theorem dX10_putFour_8 : decode cX10_putFour 8 = .ok (.aload_n 0, 1) := by decide +kernel
theorem dX10_putFour_9 : decode cX10_putFour 9 = .ok (.iload_n 1, 1) := by decide +kernel
theorem dX10_putFour_10 : decode cX10_putFour 10 = .ok (.invokevirtual 29, 3) := by decide +kernel
theorem dX10_putFour_13 : decode cX10_putFour 13 = .ok (.return_, 1) := by decide +kernel
theorem dX10_at_0 : decode cX10_at 0 = .ok (.iload_n 1, 1) := by decide +kernel
theorem dX10_at_1 : decode cX10_at 1 = .ok (.ifCond .lt 29, 3) := by decide +kernel
theorem dX10_at_4 : decode cX10_at 4 = .ok (.iload_n 1, 1) := by decide +kernel
theorem dX10_at_5 : decode cX10_at 5 = .ok (.aload_n 0, 1) := by decide +kernel
theorem dX10_at_6 : decode cX10_at 6 = .ok (.getfield 9, 3) := by decide +kernel
theorem dX10_at_9 : decode cX10_at 9 = .ok (.if_icmp .ge 21, 3) := by decide +kernel
theorem dX10_at_12 : decode cX10_at 12 = .ok (.iload_n 1, 1) := by decide +kernel
theorem dX10_at_13 : decode cX10_at 13 = .ok (.aload_n 0, 1) := by decide +kernel
theorem dX10_at_14 : decode cX10_at 14 = .ok (.getfield 21, 3) := by decide +kernel
theorem dX10_at_17 : decode cX10_at 17 = .ok (.arraylength, 1) := by decide +kernel
theorem dX10_at_18 : decode cX10_at 18 = .ok (.if_icmp .ge 12, 3) := by decide +kernel
theorem dX10_at_21 : decode cX10_at 21 = .ok (.aload_n 0, 1) := by decide +kernel
theorem dX10_at_22 : decode cX10_at 22 = .ok (.getfield 21, 3) := by decide +kernel
theorem dX10_at_25 : decode cX10_at 25 = .ok (.iload_n 1, 1) := by decide +kernel
theorem dX10_at_26 : decode cX10_at 26 = .ok (.iaload, 1) := by decide +kernel
theorem dX10_at_27 : decode cX10_at 27 = .ok (.goto 4, 3) := by decide +kernel
theorem dX10_at_30 : decode cX10_at 30 = .ok (.iconst (-1), 1) := by decide +kernel
theorem dX10_at_31 : decode cX10_at 31 = .ok (.ireturn, 1) := by decide +kernel
theorem dX10_twoAt_0 : decode cX10_twoAt 0 = .ok (.aload_n 0, 1) := by decide +kernel
theorem dX10_twoAt_1 : decode cX10_twoAt 1 = .ok (.iload_n 1, 1) := by decide +kernel
theorem dX10_twoAt_2 : decode cX10_twoAt 2 = .ok (.invokevirtual 32, 3) := by decide +kernel
theorem dX10_twoAt_5 : decode cX10_twoAt 5 = .ok (.bipush 8, 2) := by decide +kernel
theorem dX10_twoAt_7 : decode cX10_twoAt 7 = .ok (.ishl, 1) := by decide +kernel
theorem dX10_twoAt_8 : decode cX10_twoAt 8 = .ok (.aload_n 0, 1) := by decide +kernel
theorem dX10_twoAt_9 : decode cX10_twoAt 9 = .ok (.iload_n 1, 1) := by decide +kernel
theorem dX10_twoAt_10 : decode cX10_twoAt 10 = .ok (.iconst 1, 1) := by decide +kernel
theorem dX10_twoAt_11 : decode cX10_twoAt 11 = .ok (.iadd, 1) := by decide +kernel
theorem dX10_twoAt_12 : decode cX10_twoAt 12 = .ok (.invokevirtual 32, 3) := by decide +kernel
theorem dX10_twoAt_15 : decode cX10_twoAt 15 = .ok (.ior, 1) := by decide +kernel
theorem dX10_twoAt_16 : decode cX10_twoAt 16 = .ok (.ireturn, 1) := by decide +kernel
theorem dX10_check_0 : decode cX10_check 0 = .ok (.sipush 167, 3) := by decide +kernel
theorem dX10_check_3 : decode cX10_check 3 = .ok (.istore_n 2, 1) := by decide +kernel
theorem dX10_check_4 : decode cX10_check 4 = .ok (.iconst 0, 1) := by decide +kernel
theorem dX10_check_5 : decode cX10_check 5 = .ok (.istore_n 3, 1) := by decide +kernel
theorem dX10_check_6 : decode cX10_check 6 = .ok (.iload_n 3, 1) := by decide +kernel
theorem dX10_check_7 : decode cX10_check 7 = .ok (.iload_n 1, 1) := by decide +kernel
theorem dX10_check_8 : decode cX10_check 8 = .ok (.if_icmp .ge 23, 3) := by decide +kernel
theorem dX10_check_11 : decode cX10_check 11 = .ok (.iconst 3, 1) := by decide +kernel
theorem dX10_check_12 : decode cX10_check 12 = .ok (.iload_n 2, 1) := by decide +kernel
theorem dX10_check_13 : decode cX10_check 13 = .ok (.imul, 1) := by decide +kernel
theorem dX10_check_14 : decode cX10_check 14 = .ok (.aload_n 0, 1) := by decide +kernel
theorem dX10_check_15 : decode cX10_check 15 = .ok (.iload_n 3, 1) := by decide +kernel
theorem dX10_check_16 : decode cX10_check 16 = .ok (.invokevirtual 32, 3) := by decide +kernel
theorem dX10_check_19 : decode cX10_check 19 = .ok (.iadd, 1) := by decide +kernel
theorem dX10_check_20 : decode cX10_check 20 = .ok (.sipush 251, 3) := by decide +kernel
theorem dX10_check_23 : decode cX10_check 23 = .ok (.irem, 1) := by decide +kernel
theorem dX10_check_24 : decode cX10_check 24 = .ok (.istore_n 2, 1) := by decide +kernel
theorem dX10_check_25 : decode cX10_check 25 = .ok (.iinc 3 1, 3) := by decide +kernel
theorem dX10_check_28 : decode cX10_check 28 = .ok (.goto (-22), 3) := by decide +kernel
theorem dX10_check_31 : decode cX10_check 31 = .ok (.iload_n 2, 1) := by decide +kernel
theorem dX10_check_32 : decode cX10_check 32 = .ok (.ireturn, 1) := by decide +kernel
theorem dX11_init_0 : decode cX11_init 0 = .ok (.aload_n 0, 1) := by decide +kernel
theorem dX11_init_1 : decode cX11_init 1 = .ok (.invokespecial 1, 3) := by decide +kernel
theorem dX11_init_4 : decode cX11_init 4 = .ok (.aload_n 0, 1) := by decide +kernel
theorem dX11_init_5 : decode cX11_init 5 = .ok (.new 7, 3) := by decide +kernel
theorem dX11_init_8 : decode cX11_init 8 = .ok (.dup, 1) := by decide +kernel
theorem dX11_init_9 : decode cX11_init 9 = .ok (.sipush 1600, 3) := by decide +kernel
theorem dX11_init_12 : decode cX11_init 12 = .ok (.invokespecial 11, 3) := by decide +kernel
theorem dX11_init_15 : decode cX11_init 15 = .ok (.putfield 14, 3) := by decide +kernel
theorem dX11_init_18 : decode cX11_init 18 = .ok (.aload_n 0, 1) := by decide +kernel
theorem dX11_init_19 : decode cX11_init 19 = .ok (.new 7, 3) := by decide +kernel
theorem dX11_init_22 : decode cX11_init 22 = .ok (.dup, 1) := by decide +kernel
theorem dX11_init_23 : decode cX11_init 23 = .ok (.bipush 38, 2) := by decide +kernel
theorem dX11_init_25 : decode cX11_init 25 = .ok (.invokespecial 11, 3) := by decide +kernel
theorem dX11_init_28 : decode cX11_init 28 = .ok (.putfield 18, 3) := by decide +kernel
theorem dX11_init_31 : decode cX11_init 31 = .ok (.aload_n 0, 1) := by decide +kernel
theorem dX11_init_32 : decode cX11_init 32 = .ok (.new 21, 3) := by decide +kernel
theorem dX11_init_35 : decode cX11_init 35 = .ok (.dup, 1) := by decide +kernel
theorem dX11_init_36 : decode cX11_init 36 = .ok (.aload_n 0, 1) := by decide +kernel
theorem dX11_init_37 : decode cX11_init 37 = .ok (.getfield 14, 3) := by decide +kernel
theorem dX11_init_40 : decode cX11_init 40 = .ok (.invokespecial 23, 3) := by decide +kernel
theorem dX11_init_43 : decode cX11_init 43 = .ok (.putfield 26, 3) := by decide +kernel
theorem dX11_init_46 : decode cX11_init 46 = .ok (.aload_n 0, 1) := by decide +kernel
theorem dX11_init_47 : decode cX11_init 47 = .ok (.new 30, 3) := by decide +kernel
theorem dX11_init_50 : decode cX11_init 50 = .ok (.dup, 1) := by decide +kernel
theorem dX11_init_51 : decode cX11_init 51 = .ok (.invokespecial 32, 3) := by decide +kernel
theorem dX11_init_54 : decode cX11_init 54 = .ok (.putfield 33, 3) := by decide +kernel
theorem dX11_init_57 : decode cX11_init 57 = .ok (.aload_n 0, 1) := by decide +kernel
theorem dX11_init_58 : decode cX11_init 58 = .ok (.new 37, 3) := by decide +kernel
theorem dX11_init_61 : decode cX11_init 61 = .ok (.dup, 1) := by decide +kernel
theorem dX11_init_62 : decode cX11_init 62 = .ok (.aload_n 0, 1) := by decide +kernel
theorem dX11_init_63 : decode cX11_init 63 = .ok (.getfield 26, 3) := by decide +kernel
theorem dX11_init_66 : decode cX11_init 66 = .ok (.aload_n 0, 1) := by decide +kernel
theorem dX11_init_67 : decode cX11_init 67 = .ok (.getfield 33, 3) := by decide +kernel
theorem dX11_init_70 : decode cX11_init 70 = .ok (.invokespecial 39, 3) := by decide +kernel
theorem dX11_init_73 : decode cX11_init 73 = .ok (.putfield 42, 3) := by decide +kernel
theorem dX11_init_76 : decode cX11_init 76 = .ok (.aload_n 0, 1) := by decide +kernel
theorem dX11_init_77 : decode cX11_init 77 = .ok (.new 46, 3) := by decide +kernel
theorem dX11_init_80 : decode cX11_init 80 = .ok (.dup, 1) := by decide +kernel
theorem dX11_init_81 : decode cX11_init 81 = .ok (.aload_n 0, 1) := by decide +kernel
theorem dX11_init_82 : decode cX11_init 82 = .ok (.getfield 26, 3) := by decide +kernel
theorem dX11_init_85 : decode cX11_init 85 = .ok (.aload_n 0, 1) := by decide +kernel
theorem dX11_init_86 : decode cX11_init 86 = .ok (.getfield 42, 3) := by decide +kernel
theorem dX11_init_89 : decode cX11_init 89 = .ok (.invokespecial 48, 3) := by decide +kernel
theorem dX11_init_92 : decode cX11_init 92 = .ok (.putfield 51, 3) := by decide +kernel
theorem dX11_init_95 : decode cX11_init 95 = .ok (.aload_n 0, 1) := by decide +kernel
theorem dX11_init_96 : decode cX11_init 96 = .ok (.new 55, 3) := by decide +kernel
theorem dX11_init_99 : decode cX11_init 99 = .ok (.dup, 1) := by decide +kernel
theorem dX11_init_100 : decode cX11_init 100 = .ok (.invokespecial 57, 3) := by decide +kernel
theorem dX11_init_103 : decode cX11_init 103 = .ok (.putfield 58, 3) := by decide +kernel
theorem dX11_init_106 : decode cX11_init 106 = .ok (.aload_n 0, 1) := by decide +kernel
theorem dX11_init_107 : decode cX11_init 107 = .ok (.new 62, 3) := by decide +kernel
theorem dX11_init_110 : decode cX11_init 110 = .ok (.dup, 1) := by decide +kernel
theorem dX11_init_111 : decode cX11_init 111 = .ok (.invokespecial 64, 3) := by decide +kernel
theorem dX11_init_114 : decode cX11_init 114 = .ok (.putfield 65, 3) := by decide +kernel
theorem dX11_init_117 : decode cX11_init 117 = .ok (.aload_n 0, 1) := by decide +kernel
theorem dX11_init_118 : decode cX11_init 118 = .ok (.new 69, 3) := by decide +kernel
theorem dX11_init_121 : decode cX11_init 121 = .ok (.dup, 1) := by decide +kernel
theorem dX11_init_122 : decode cX11_init 122 = .ok (.invokespecial 71, 3) := by decide +kernel
theorem dX11_init_125 : decode cX11_init 125 = .ok (.putfield 72, 3) := by decide +kernel
theorem dX11_init_128 : decode cX11_init 128 = .ok (.aload_n 0, 1) := by decide +kernel
theorem dX11_init_129 : decode cX11_init 129 = .ok (.new 76, 3) := by decide +kernel
theorem dX11_init_132 : decode cX11_init 132 = .ok (.dup, 1) := by decide +kernel
theorem dX11_init_133 : decode cX11_init 133 = .ok (.invokespecial 78, 3) := by decide +kernel
theorem dX11_init_136 : decode cX11_init 136 = .ok (.putfield 79, 3) := by decide +kernel
theorem dX11_init_139 : decode cX11_init 139 = .ok (.aload_n 0, 1) := by decide +kernel
theorem dX11_init_140 : decode cX11_init 140 = .ok (.bipush 6, 2) := by decide +kernel
theorem dX11_init_142 : decode cX11_init 142 = .ok (.newarray .int, 2) := by decide +kernel
theorem dX11_init_144 : decode cX11_init 144 = .ok (.putfield 83, 3) := by decide +kernel
theorem dX11_init_147 : decode cX11_init 147 = .ok (.aload_n 0, 1) := by decide +kernel
theorem dX11_init_148 : decode cX11_init 148 = .ok (.new 87, 3) := by decide +kernel
theorem dX11_init_151 : decode cX11_init 151 = .ok (.dup, 1) := by decide +kernel
theorem dX11_init_152 : decode cX11_init 152 = .ok (.invokespecial 89, 3) := by decide +kernel
theorem dX11_init_155 : decode cX11_init 155 = .ok (.putfield 90, 3) := by decide +kernel
theorem dX11_init_158 : decode cX11_init 158 = .ok (.aload_n 0, 1) := by decide +kernel
theorem dX11_init_159 : decode cX11_init 159 = .ok (.new 87, 3) := by decide +kernel
theorem dX11_init_162 : decode cX11_init 162 = .ok (.dup, 1) := by decide +kernel
theorem dX11_init_163 : decode cX11_init 163 = .ok (.invokespecial 89, 3) := by decide +kernel
theorem dX11_init_166 : decode cX11_init 166 = .ok (.putfield 94, 3) := by decide +kernel
theorem dX11_init_169 : decode cX11_init 169 = .ok (.aload_n 0, 1) := by decide +kernel
theorem dX11_init_170 : decode cX11_init 170 = .ok (.new 97, 3) := by decide +kernel
theorem dX11_init_173 : decode cX11_init 173 = .ok (.dup, 1) := by decide +kernel
theorem dX11_init_174 : decode cX11_init 174 = .ok (.aload_n 0, 1) := by decide +kernel
theorem dX11_init_175 : decode cX11_init 175 = .ok (.getfield 90, 3) := by decide +kernel
theorem dX11_init_178 : decode cX11_init 178 = .ok (.invokespecial 99, 3) := by decide +kernel
theorem dX11_init_181 : decode cX11_init 181 = .ok (.putfield 102, 3) := by decide +kernel
theorem dX11_init_184 : decode cX11_init 184 = .ok (.aload_n 0, 1) := by decide +kernel
theorem dX11_init_185 : decode cX11_init 185 = .ok (.iconst 0, 1) := by decide +kernel
theorem dX11_init_186 : decode cX11_init 186 = .ok (.putfield 106, 3) := by decide +kernel
theorem dX11_init_189 : decode cX11_init 189 = .ok (.aload_n 0, 1) := by decide +kernel
theorem dX11_init_190 : decode cX11_init 190 = .ok (.iconst (-1), 1) := by decide +kernel
theorem dX11_init_191 : decode cX11_init 191 = .ok (.putfield 110, 3) := by decide +kernel
theorem dX11_init_194 : decode cX11_init 194 = .ok (.return_, 1) := by decide +kernel
theorem dX11_feed_0 : decode cX11_feed 0 = .ok (.aload_n 0, 1) := by decide +kernel
theorem dX11_feed_1 : decode cX11_feed 1 = .ok (.getfield 14, 3) := by decide +kernel
theorem dX11_feed_4 : decode cX11_feed 4 = .ok (.getfield 113, 3) := by decide +kernel
theorem dX11_feed_7 : decode cX11_feed 7 = .ok (.bipush 20, 2) := by decide +kernel
theorem dX11_feed_9 : decode cX11_feed 9 = .ok (.iadd, 1) := by decide +kernel
theorem dX11_feed_10 : decode cX11_feed 10 = .ok (.sipush 1600, 3) := by decide +kernel
theorem dX11_feed_13 : decode cX11_feed 13 = .ok (.if_icmp .le 9, 3) := by decide +kernel
theorem dX11_feed_16 : decode cX11_feed 16 = .ok (.aload_n 0, 1) := by decide +kernel
theorem dX11_feed_17 : decode cX11_feed 17 = .ok (.iconst 0, 1) := by decide +kernel
