theorem dX11_readQuestion_125 : decode cX11_readQuestion 125 = .ok (.getfield 351, 3) := by decide +kernel
theorem dX11_readQuestion_128 : decode cX11_readQuestion 128 = .ok (.invokevirtual 354, 3) := by decide +kernel
theorem dX11_readQuestion_131 : decode cX11_readQuestion 131 = .ok (.iload_n 1, 1) := by decide +kernel
theorem dX11_readQuestion_132 : decode cX11_readQuestion 132 = .ok (.ireturn, 1) := by decide +kernel
theorem dX11_answerTest_0 : decode cX11_answerTest 0 = .ok (.iconst 0, 1) := by decide +kernel
theorem dX11_answerTest_1 : decode cX11_answerTest 1 = .ok (.istore_n 2, 1) := by decide +kernel
theorem dX11_answerTest_2 : decode cX11_answerTest 2 = .ok (.iconst (-1), 1) := by decide +kernel
theorem dX11_answerTest_3 : decode cX11_answerTest 3 = .ok (.istore_n 3, 1) := by decide +kernel
theorem dX11_answerTest_4 : decode cX11_answerTest 4 = .ok (.iconst 0, 1) := by decide +kernel
theorem dX11_answerTest_5 : decode cX11_answerTest 5 = .ok (.istore 4, 2) := by decide +kernel
theorem dX11_answerTest_7 : decode cX11_answerTest 7 = .ok (.iload 4, 2) := by decide +kernel
theorem dX11_answerTest_9 : decode cX11_answerTest 9 = .ok (.aload_n 0, 1) := by decide +kernel
theorem dX11_answerTest_10 : decode cX11_answerTest 10 = .ok (.getfield 90, 3) := by decide +kernel
theorem dX11_answerTest_13 : decode cX11_answerTest 13 = .ok (.getfield 148, 3) := by decide +kernel
theorem dX11_answerTest_16 : decode cX11_answerTest 16 = .ok (.if_icmp .ge 45, 3) := by decide +kernel
theorem dX11_answerTest_19 : decode cX11_answerTest 19 = .ok (.aload_n 0, 1) := by decide +kernel
theorem dX11_answerTest_20 : decode cX11_answerTest 20 = .ok (.iload 4, 2) := by decide +kernel
theorem dX11_answerTest_22 : decode cX11_answerTest 22 = .ok (.invokevirtual 369, 3) := by decide +kernel
theorem dX11_answerTest_25 : decode cX11_answerTest 25 = .ok (.aload_n 0, 1) := by decide +kernel
theorem dX11_answerTest_26 : decode cX11_answerTest 26 = .ok (.getfield 79, 3) := by decide +kernel
theorem dX11_answerTest_29 : decode cX11_answerTest 29 = .ok (.aload_n 0, 1) := by decide +kernel
theorem dX11_answerTest_30 : decode cX11_answerTest 30 = .ok (.getfield 33, 3) := by decide +kernel
theorem dX11_answerTest_33 : decode cX11_answerTest 33 = .ok (.invokevirtual 372, 3) := by decide +kernel
theorem dX11_answerTest_36 : decode cX11_answerTest 36 = .ok (.ifCond .eq 19, 3) := by decide +kernel
theorem dX11_answerTest_39 : decode cX11_answerTest 39 = .ok (.iload_n 1, 1) := by decide +kernel
theorem dX11_answerTest_40 : decode cX11_answerTest 40 = .ok (.bipush 25, 2) := by decide +kernel
theorem dX11_answerTest_42 : decode cX11_answerTest 42 = .ok (.if_icmp .ne 7, 3) := by decide +kernel
theorem dX11_answerTest_45 : decode cX11_answerTest 45 = .ok (.iload 4, 2) := by decide +kernel
theorem dX11_answerTest_47 : decode cX11_answerTest 47 = .ok (.i2l, 1) := by decide +kernel
theorem dX11_answerTest_48 : decode cX11_answerTest 48 = .ok (.lreturn, 1) := by decide +kernel
theorem dX11_answerTest_49 : decode cX11_answerTest 49 = .ok (.iinc 2 1, 3) := by decide +kernel
theorem dX11_answerTest_52 : decode cX11_answerTest 52 = .ok (.iload 4, 2) := by decide +kernel
theorem dX11_answerTest_54 : decode cX11_answerTest 54 = .ok (.istore_n 3, 1) := by decide +kernel
theorem dX11_answerTest_55 : decode cX11_answerTest 55 = .ok (.iinc 4 1, 3) := by decide +kernel
theorem dX11_answerTest_58 : decode cX11_answerTest 58 = .ok (.goto (-51), 3) := by decide +kernel
theorem dX11_answerTest_61 : decode cX11_answerTest 61 = .ok (.iload_n 1, 1) := by decide +kernel
theorem dX11_answerTest_62 : decode cX11_answerTest 62 = .ok (.bipush 27, 2) := by decide +kernel
theorem dX11_answerTest_64 : decode cX11_answerTest 64 = .ok (.if_icmp .ne 8, 3) := by decide +kernel
theorem dX11_answerTest_67 : decode cX11_answerTest 67 = .ok (.iload_n 2, 1) := by decide +kernel
theorem dX11_answerTest_68 : decode cX11_answerTest 68 = .ok (.i2l, 1) := by decide +kernel
theorem dX11_answerTest_69 : decode cX11_answerTest 69 = .ok (.goto 5, 3) := by decide +kernel
theorem dX11_answerTest_72 : decode cX11_answerTest 72 = .ok (.iload_n 3, 1) := by decide +kernel
theorem dX11_answerTest_73 : decode cX11_answerTest 73 = .ok (.i2l, 1) := by decide +kernel
theorem dX11_answerTest_74 : decode cX11_answerTest 74 = .ok (.lreturn, 1) := by decide +kernel
theorem dX11_answerSum_0 : decode cX11_answerSum 0 = .ok (.lconst 0, 1) := by decide +kernel
theorem dX11_answerSum_1 : decode cX11_answerSum 1 = .ok (.lstore_n 2, 1) := by decide +kernel
theorem dX11_answerSum_2 : decode cX11_answerSum 2 = .ok (.iconst 0, 1) := by decide +kernel
theorem dX11_answerSum_3 : decode cX11_answerSum 3 = .ok (.istore 4, 2) := by decide +kernel
theorem dX11_answerSum_5 : decode cX11_answerSum 5 = .ok (.iload 4, 2) := by decide +kernel
theorem dX11_answerSum_7 : decode cX11_answerSum 7 = .ok (.aload_n 0, 1) := by decide +kernel
theorem dX11_answerSum_8 : decode cX11_answerSum 8 = .ok (.getfield 90, 3) := by decide +kernel
theorem dX11_answerSum_11 : decode cX11_answerSum 11 = .ok (.getfield 148, 3) := by decide +kernel
theorem dX11_answerSum_14 : decode cX11_answerSum 14 = .ok (.if_icmp .ge 74, 3) := by decide +kernel
theorem dX11_answerSum_17 : decode cX11_answerSum 17 = .ok (.aload_n 0, 1) := by decide +kernel
theorem dX11_answerSum_18 : decode cX11_answerSum 18 = .ok (.iload 4, 2) := by decide +kernel
theorem dX11_answerSum_20 : decode cX11_answerSum 20 = .ok (.invokevirtual 369, 3) := by decide +kernel
theorem dX11_answerSum_23 : decode cX11_answerSum 23 = .ok (.aload_n 0, 1) := by decide +kernel
theorem dX11_answerSum_24 : decode cX11_answerSum 24 = .ok (.getfield 79, 3) := by decide +kernel
theorem dX11_answerSum_27 : decode cX11_answerSum 27 = .ok (.aload_n 0, 1) := by decide +kernel
theorem dX11_answerSum_28 : decode cX11_answerSum 28 = .ok (.getfield 33, 3) := by decide +kernel
theorem dX11_answerSum_31 : decode cX11_answerSum 31 = .ok (.invokevirtual 372, 3) := by decide +kernel
theorem dX11_answerSum_34 : decode cX11_answerSum 34 = .ok (.i2l, 1) := by decide +kernel
theorem dX11_answerSum_35 : decode cX11_answerSum 35 = .ok (.lstore 5, 2) := by decide +kernel
theorem dX11_answerSum_37 : decode cX11_answerSum 37 = .ok (.iload_n 1, 1) := by decide +kernel
theorem dX11_answerSum_38 : decode cX11_answerSum 38 = .ok (.bipush 28, 2) := by decide +kernel
theorem dX11_answerSum_40 : decode cX11_answerSum 40 = .ok (.if_icmp .ne 11, 3) := by decide +kernel
theorem dX11_answerSum_43 : decode cX11_answerSum 43 = .ok (.lload_n 2, 1) := by decide +kernel
theorem dX11_answerSum_44 : decode cX11_answerSum 44 = .ok (.lload 5, 2) := by decide +kernel
theorem dX11_answerSum_46 : decode cX11_answerSum 46 = .ok (.ladd, 1) := by decide +kernel
theorem dX11_answerSum_47 : decode cX11_answerSum 47 = .ok (.lstore_n 2, 1) := by decide +kernel
theorem dX11_answerSum_48 : decode cX11_answerSum 48 = .ok (.goto 34, 3) := by decide +kernel
theorem dX11_answerSum_51 : decode cX11_answerSum 51 = .ok (.iload 4, 2) := by decide +kernel
theorem dX11_answerSum_53 : decode cX11_answerSum 53 = .ok (.ifCond .eq 26, 3) := by decide +kernel
theorem dX11_answerSum_56 : decode cX11_answerSum 56 = .ok (.iload_n 1, 1) := by decide +kernel
theorem dX11_answerSum_57 : decode cX11_answerSum 57 = .ok (.bipush 29, 2) := by decide +kernel
theorem dX11_answerSum_59 : decode cX11_answerSum 59 = .ok (.if_icmp .ne 13, 3) := by decide +kernel
theorem dX11_answerSum_62 : decode cX11_answerSum 62 = .ok (.lload 5, 2) := by decide +kernel
theorem dX11_answerSum_64 : decode cX11_answerSum 64 = .ok (.lload_n 2, 1) := by decide +kernel
theorem dX11_answerSum_65 : decode cX11_answerSum 65 = .ok (.lcmp, 1) := by decide +kernel
theorem dX11_answerSum_66 : decode cX11_answerSum 66 = .ok (.ifCond .le 16, 3) := by decide +kernel
theorem dX11_answerSum_69 : decode cX11_answerSum 69 = .ok (.goto 10, 3) := by decide +kernel
theorem dX11_answerSum_72 : decode cX11_answerSum 72 = .ok (.lload 5, 2) := by decide +kernel
theorem dX11_answerSum_74 : decode cX11_answerSum 74 = .ok (.lload_n 2, 1) := by decide +kernel
theorem dX11_answerSum_75 : decode cX11_answerSum 75 = .ok (.lcmp, 1) := by decide +kernel
theorem dX11_answerSum_76 : decode cX11_answerSum 76 = .ok (.ifCond .ge 6, 3) := by decide +kernel
theorem dX11_answerSum_79 : decode cX11_answerSum 79 = .ok (.lload 5, 2) := by decide +kernel
theorem dX11_answerSum_81 : decode cX11_answerSum 81 = .ok (.lstore_n 2, 1) := by decide +kernel
theorem dX11_answerSum_82 : decode cX11_answerSum 82 = .ok (.iinc 4 1, 3) := by decide +kernel
theorem dX11_answerSum_85 : decode cX11_answerSum 85 = .ok (.goto (-80), 3) := by decide +kernel
theorem dX11_answerSum_88 : decode cX11_answerSum 88 = .ok (.lload_n 2, 1) := by decide +kernel
theorem dX11_answerSum_89 : decode cX11_answerSum 89 = .ok (.lreturn, 1) := by decide +kernel
theorem dX11_lookAt_0 : decode cX11_lookAt 0 = .ok (.aload_n 0, 1) := by decide +kernel
theorem dX11_lookAt_1 : decode cX11_lookAt 1 = .ok (.getfield 79, 3) := by decide +kernel
theorem dX11_lookAt_4 : decode cX11_lookAt 4 = .ok (.iload_n 1, 1) := by decide +kernel
theorem dX11_lookAt_5 : decode cX11_lookAt 5 = .ok (.putfield 376, 3) := by decide +kernel
theorem dX11_lookAt_8 : decode cX11_lookAt 8 = .ok (.aload_n 0, 1) := by decide +kernel
theorem dX11_lookAt_9 : decode cX11_lookAt 9 = .ok (.getfield 79, 3) := by decide +kernel
theorem dX11_lookAt_12 : decode cX11_lookAt 12 = .ok (.aload_n 0, 1) := by decide +kernel
theorem dX11_lookAt_13 : decode cX11_lookAt 13 = .ok (.getfield 90, 3) := by decide +kernel
theorem dX11_lookAt_16 : decode cX11_lookAt 16 = .ok (.getfield 209, 3) := by decide +kernel
theorem dX11_lookAt_19 : decode cX11_lookAt 19 = .ok (.iload_n 1, 1) := by decide +kernel
theorem dX11_lookAt_20 : decode cX11_lookAt 20 = .ok (.iaload, 1) := by decide +kernel
theorem dX11_lookAt_21 : decode cX11_lookAt 21 = .ok (.putfield 379, 3) := by decide +kernel
theorem dX11_lookAt_24 : decode cX11_lookAt 24 = .ok (.aload_n 0, 1) := by decide +kernel
theorem dX11_lookAt_25 : decode cX11_lookAt 25 = .ok (.getfield 79, 3) := by decide +kernel
theorem dX11_lookAt_28 : decode cX11_lookAt 28 = .ok (.aload_n 0, 1) := by decide +kernel
theorem dX11_lookAt_29 : decode cX11_lookAt 29 = .ok (.getfield 90, 3) := by decide +kernel
theorem dX11_lookAt_32 : decode cX11_lookAt 32 = .ok (.getfield 212, 3) := by decide +kernel
theorem dX11_lookAt_35 : decode cX11_lookAt 35 = .ok (.iload_n 1, 1) := by decide +kernel
theorem dX11_lookAt_36 : decode cX11_lookAt 36 = .ok (.iaload, 1) := by decide +kernel
theorem dX11_lookAt_37 : decode cX11_lookAt 37 = .ok (.putfield 381, 3) := by decide +kernel
theorem dX11_lookAt_40 : decode cX11_lookAt 40 = .ok (.aload_n 0, 1) := by decide +kernel
theorem dX11_lookAt_41 : decode cX11_lookAt 41 = .ok (.getfield 79, 3) := by decide +kernel
theorem dX11_lookAt_44 : decode cX11_lookAt 44 = .ok (.aload_n 0, 1) := by decide +kernel
theorem dX11_lookAt_45 : decode cX11_lookAt 45 = .ok (.getfield 58, 3) := by decide +kernel
theorem dX11_lookAt_48 : decode cX11_lookAt 48 = .ok (.getfield 155, 3) := by decide +kernel
theorem dX11_lookAt_51 : decode cX11_lookAt 51 = .ok (.putfield 383, 3) := by decide +kernel
theorem dX11_lookAt_54 : decode cX11_lookAt 54 = .ok (.aload_n 0, 1) := by decide +kernel
theorem dX11_lookAt_55 : decode cX11_lookAt 55 = .ok (.getfield 79, 3) := by decide +kernel
theorem dX11_lookAt_58 : decode cX11_lookAt 58 = .ok (.iconst (-1), 1) := by decide +kernel
theorem dX11_lookAt_59 : decode cX11_lookAt 59 = .ok (.putfield 384, 3) := by decide +kernel
theorem dX11_lookAt_62 : decode cX11_lookAt 62 = .ok (.aload_n 0, 1) := by decide +kernel
theorem dX11_lookAt_63 : decode cX11_lookAt 63 = .ok (.getfield 79, 3) := by decide +kernel
theorem dX11_lookAt_66 : decode cX11_lookAt 66 = .ok (.aload_n 0, 1) := by decide +kernel
theorem dX11_lookAt_67 : decode cX11_lookAt 67 = .ok (.getfield 90, 3) := by decide +kernel
theorem dX11_lookAt_70 : decode cX11_lookAt 70 = .ok (.getfield 145, 3) := by decide +kernel
theorem dX11_lookAt_73 : decode cX11_lookAt 73 = .ok (.putfield 387, 3) := by decide +kernel
theorem dX11_lookAt_76 : decode cX11_lookAt 76 = .ok (.aload_n 0, 1) := by decide +kernel
theorem dX11_lookAt_77 : decode cX11_lookAt 77 = .ok (.getfield 90, 3) := by decide +kernel
theorem dX11_lookAt_80 : decode cX11_lookAt 80 = .ok (.getfield 145, 3) := by decide +kernel
theorem dX11_lookAt_83 : decode cX11_lookAt 83 = .ok (.iconst 1, 1) := by decide +kernel
theorem dX11_lookAt_84 : decode cX11_lookAt 84 = .ok (.isub, 1) := by decide +kernel
theorem dX11_lookAt_85 : decode cX11_lookAt 85 = .ok (.istore_n 2, 1) := by decide +kernel
theorem dX11_lookAt_86 : decode cX11_lookAt 86 = .ok (.iload_n 2, 1) := by decide +kernel
theorem dX11_lookAt_87 : decode cX11_lookAt 87 = .ok (.ifCond .lt 102, 3) := by decide +kernel
theorem dX11_lookAt_90 : decode cX11_lookAt 90 = .ok (.aload_n 0, 1) := by decide +kernel
theorem dX11_lookAt_91 : decode cX11_lookAt 91 = .ok (.getfield 79, 3) := by decide +kernel
theorem dX11_lookAt_94 : decode cX11_lookAt 94 = .ok (.getfield 388, 3) := by decide +kernel
theorem dX11_lookAt_97 : decode cX11_lookAt 97 = .ok (.iload_n 2, 1) := by decide +kernel
theorem dX11_lookAt_98 : decode cX11_lookAt 98 = .ok (.aload_n 0, 1) := by decide +kernel
theorem dX11_lookAt_99 : decode cX11_lookAt 99 = .ok (.getfield 102, 3) := by decide +kernel
theorem dX11_lookAt_102 : decode cX11_lookAt 102 = .ok (.iload_n 1, 1) := by decide +kernel
theorem dX11_lookAt_103 : decode cX11_lookAt 103 = .ok (.iload_n 2, 1) := by decide +kernel
theorem dX11_lookAt_104 : decode cX11_lookAt 104 = .ok (.aload_n 0, 1) := by decide +kernel
theorem dX11_lookAt_105 : decode cX11_lookAt 105 = .ok (.getfield 58, 3) := by decide +kernel
theorem dX11_lookAt_108 : decode cX11_lookAt 108 = .ok (.getfield 155, 3) := by decide +kernel
theorem dX11_lookAt_111 : decode cX11_lookAt 111 = .ok (.invokevirtual 218, 3) := by decide +kernel
theorem dX11_lookAt_114 : decode cX11_lookAt 114 = .ok (.iastore, 1) := by decide +kernel
theorem dX11_lookAt_115 : decode cX11_lookAt 115 = .ok (.aload_n 0, 1) := by decide +kernel
theorem dX11_lookAt_116 : decode cX11_lookAt 116 = .ok (.getfield 79, 3) := by decide +kernel
theorem dX11_lookAt_119 : decode cX11_lookAt 119 = .ok (.getfield 391, 3) := by decide +kernel
theorem dX11_lookAt_122 : decode cX11_lookAt 122 = .ok (.iload_n 2, 1) := by decide +kernel
theorem dX11_lookAt_123 : decode cX11_lookAt 123 = .ok (.aload_n 0, 1) := by decide +kernel
theorem dX11_lookAt_124 : decode cX11_lookAt 124 = .ok (.getfield 102, 3) := by decide +kernel
theorem dX11_lookAt_127 : decode cX11_lookAt 127 = .ok (.iload_n 1, 1) := by decide +kernel
theorem dX11_lookAt_128 : decode cX11_lookAt 128 = .ok (.iload_n 2, 1) := by decide +kernel
theorem dX11_lookAt_129 : decode cX11_lookAt 129 = .ok (.aload_n 0, 1) := by decide +kernel
theorem dX11_lookAt_130 : decode cX11_lookAt 130 = .ok (.getfield 58, 3) := by decide +kernel
theorem dX11_lookAt_133 : decode cX11_lookAt 133 = .ok (.getfield 155, 3) := by decide +kernel
theorem dX11_lookAt_136 : decode cX11_lookAt 136 = .ok (.invokevirtual 222, 3) := by decide +kernel
theorem dX11_lookAt_139 : decode cX11_lookAt 139 = .ok (.ifCond .eq 7, 3) := by decide +kernel
theorem dX11_lookAt_142 : decode cX11_lookAt 142 = .ok (.iconst 1, 1) := by decide +kernel
theorem dX11_lookAt_143 : decode cX11_lookAt 143 = .ok (.goto 4, 3) := by decide +kernel
theorem dX11_lookAt_146 : decode cX11_lookAt 146 = .ok (.iconst 0, 1) := by decide +kernel
theorem dX11_lookAt_147 : decode cX11_lookAt 147 = .ok (.iastore, 1) := by decide +kernel
theorem dX11_lookAt_148 : decode cX11_lookAt 148 = .ok (.aload_n 0, 1) := by decide +kernel
theorem dX11_lookAt_149 : decode cX11_lookAt 149 = .ok (.getfield 90, 3) := by decide +kernel
theorem dX11_lookAt_152 : decode cX11_lookAt 152 = .ok (.getfield 195, 3) := by decide +kernel
theorem dX11_lookAt_155 : decode cX11_lookAt 155 = .ok (.iload_n 2, 1) := by decide +kernel
theorem dX11_lookAt_156 : decode cX11_lookAt 156 = .ok (.iaload, 1) := by decide +kernel
theorem dX11_lookAt_157 : decode cX11_lookAt 157 = .ok (.aload_n 0, 1) := by decide +kernel
theorem dX11_lookAt_158 : decode cX11_lookAt 158 = .ok (.getfield 58, 3) := by decide +kernel
theorem dX11_lookAt_161 : decode cX11_lookAt 161 = .ok (.getfield 158, 3) := by decide +kernel
theorem dX11_lookAt_164 : decode cX11_lookAt 164 = .ok (.if_icmp .ne 19, 3) := by decide +kernel
theorem dX11_lookAt_167 : decode cX11_lookAt 167 = .ok (.aload_n 0, 1) := by decide +kernel
theorem dX11_lookAt_168 : decode cX11_lookAt 168 = .ok (.getfield 79, 3) := by decide +kernel
theorem dX11_lookAt_171 : decode cX11_lookAt 171 = .ok (.aload_n 0, 1) := by decide +kernel
theorem dX11_lookAt_172 : decode cX11_lookAt 172 = .ok (.getfield 79, 3) := by decide +kernel
theorem dX11_lookAt_175 : decode cX11_lookAt 175 = .ok (.getfield 388, 3) := by decide +kernel
theorem dX11_lookAt_178 : decode cX11_lookAt 178 = .ok (.iload_n 2, 1) := by decide +kernel
theorem dX11_lookAt_179 : decode cX11_lookAt 179 = .ok (.iaload, 1) := by decide +kernel
theorem dX11_lookAt_180 : decode cX11_lookAt 180 = .ok (.putfield 384, 3) := by decide +kernel
theorem dX11_lookAt_183 : decode cX11_lookAt 183 = .ok (.iinc 2 (-1), 3) := by decide +kernel
theorem dX11_lookAt_186 : decode cX11_lookAt 186 = .ok (.goto (-100), 3) := by decide +kernel
theorem dX11_lookAt_189 : decode cX11_lookAt 189 = .ok (.return_, 1) := by decide +kernel
theorem dX11_letterOf_0 : decode cX11_letterOf 0 = .ok (.iload_n 0, 1) := by decide +kernel
theorem dX11_letterOf_1 : decode cX11_letterOf 1 = .ok (.iconst 5, 1) := by decide +kernel
theorem dX11_letterOf_2 : decode cX11_letterOf 2 = .ok (.iload_n 1, 1) := by decide +kernel
theorem dX11_letterOf_3 : decode cX11_letterOf 3 = .ok (.imul, 1) := by decide +kernel
theorem dX11_letterOf_4 : decode cX11_letterOf 4 = .ok (.ishr, 1) := by decide +kernel
theorem dX11_letterOf_5 : decode cX11_letterOf 5 = .ok (.bipush 31, 2) := by decide +kernel
theorem dX11_letterOf_7 : decode cX11_letterOf 7 = .ok (.iand, 1) := by decide +kernel
theorem dX11_letterOf_8 : decode cX11_letterOf 8 = .ok (.ireturn, 1) := by decide +kernel
theorem dX12_init_0 : decode cX12_init 0 = .ok (.aload_n 0, 1) := by decide +kernel
theorem dX12_init_1 : decode cX12_init 1 = .ok (.invokespecial 1, 3) := by decide +kernel
theorem dX12_init_4 : decode cX12_init 4 = .ok (.aload_n 0, 1) := by decide +kernel
theorem dX12_init_5 : decode cX12_init 5 = .ok (.sipush 1600, 3) := by decide +kernel
theorem dX12_init_8 : decode cX12_init 8 = .ok (.newarray .int, 2) := by decide +kernel
theorem dX12_init_10 : decode cX12_init 10 = .ok (.putfield 7, 3) := by decide +kernel
theorem dX12_init_13 : decode cX12_init 13 = .ok (.aload_n 0, 1) := by decide +kernel
theorem dX12_init_14 : decode cX12_init 14 = .ok (.iconst (-1), 1) := by decide +kernel
theorem dX12_init_15 : decode cX12_init 15 = .ok (.putfield 13, 3) := by decide +kernel
theorem dX12_init_18 : decode cX12_init 18 = .ok (.aload_n 0, 1) := by decide +kernel
theorem dX12_init_19 : decode cX12_init 19 = .ok (.bipush 6, 2) := by decide +kernel
theorem dX12_init_21 : decode cX12_init 21 = .ok (.newarray .int, 2) := by decide +kernel
theorem dX12_init_23 : decode cX12_init 23 = .ok (.putfield 17, 3) := by decide +kernel
theorem dX12_init_26 : decode cX12_init 26 = .ok (.aload_n 0, 1) := by decide +kernel
theorem dX12_init_27 : decode cX12_init 27 = .ok (.iconst 4, 1) := by decide +kernel
theorem dX12_init_28 : decode cX12_init 28 = .ok (.newarray .char, 2) := by decide +kernel
theorem dX12_init_30 : decode cX12_init 30 = .ok (.dup, 1) := by decide +kernel
theorem dX12_init_31 : decode cX12_init 31 = .ok (.iconst 0, 1) := by decide +kernel
theorem dX12_init_32 : decode cX12_init 32 = .ok (.bipush 102, 2) := by decide +kernel
theorem dX12_init_34 : decode cX12_init 34 = .ok (.castore, 1) := by decide +kernel
theorem dX12_init_35 : decode cX12_init 35 = .ok (.dup, 1) := by decide +kernel
theorem dX12_init_36 : decode cX12_init 36 = .ok (.iconst 1, 1) := by decide +kernel
theorem dX12_init_37 : decode cX12_init 37 = .ok (.bipush 97, 2) := by decide +kernel
theorem dX12_init_39 : decode cX12_init 39 = .ok (.castore, 1) := by decide +kernel
theorem dX12_init_40 : decode cX12_init 40 = .ok (.dup, 1) := by decide +kernel
theorem dX12_init_41 : decode cX12_init 41 = .ok (.iconst 2, 1) := by decide +kernel
theorem dX12_init_42 : decode cX12_init 42 = .ok (.bipush 105, 2) := by decide +kernel
theorem dX12_init_44 : decode cX12_init 44 = .ok (.castore, 1) := by decide +kernel
theorem dX12_init_45 : decode cX12_init 45 = .ok (.dup, 1) := by decide +kernel
theorem dX12_init_46 : decode cX12_init 46 = .ok (.iconst 3, 1) := by decide +kernel
theorem dX12_init_47 : decode cX12_init 47 = .ok (.bipush 114, 2) := by decide +kernel
theorem dX12_init_49 : decode cX12_init 49 = .ok (.castore, 1) := by decide +kernel
theorem dX12_init_50 : decode cX12_init 50 = .ok (.putfield 20, 3) := by decide +kernel
theorem dX12_init_53 : decode cX12_init 53 = .ok (.aload_n 0, 1) := by decide +kernel
theorem dX12_init_54 : decode cX12_init 54 = .ok (.iconst 5, 1) := by decide +kernel
theorem dX12_init_55 : decode cX12_init 55 = .ok (.newarray .char, 2) := by decide +kernel
theorem dX12_init_57 : decode cX12_init 57 = .ok (.dup, 1) := by decide +kernel
theorem dX12_init_58 : decode cX12_init 58 = .ok (.iconst 0, 1) := by decide +kernel
theorem dX12_init_59 : decode cX12_init 59 = .ok (.bipush 115, 2) := by decide +kernel
theorem dX12_init_61 : decode cX12_init 61 = .ok (.castore, 1) := by decide +kernel
theorem dX12_init_62 : decode cX12_init 62 = .ok (.dup, 1) := by decide +kernel
theorem dX12_init_63 : decode cX12_init 63 = .ok (.iconst 1, 1) := by decide +kernel
theorem dX12_init_64 : decode cX12_init 64 = .ok (.bipush 116, 2) := by decide +kernel
theorem dX12_init_66 : decode cX12_init 66 = .ok (.castore, 1) := by decide +kernel
theorem dX12_init_67 : decode cX12_init 67 = .ok (.dup, 1) := by decide +kernel
theorem dX12_init_68 : decode cX12_init 68 = .ok (.iconst 2, 1) := by decide +kernel
theorem dX12_init_69 : decode cX12_init 69 = .ok (.bipush 97, 2) := by decide +kernel
theorem dX12_init_71 : decode cX12_init 71 = .ok (.castore, 1) := by decide +kernel
theorem dX12_init_72 : decode cX12_init 72 = .ok (.dup, 1) := by decide +kernel
theorem dX12_init_73 : decode cX12_init 73 = .ok (.iconst 3, 1) := by decide +kernel
theorem dX12_init_74 : decode cX12_init 74 = .ok (.bipush 108, 2) := by decide +kernel
theorem dX12_init_76 : decode cX12_init 76 = .ok (.castore, 1) := by decide +kernel
theorem dX12_init_77 : decode cX12_init 77 = .ok (.dup, 1) := by decide +kernel
theorem dX12_init_78 : decode cX12_init 78 = .ok (.iconst 4, 1) := by decide +kernel
theorem dX12_init_79 : decode cX12_init 79 = .ok (.bipush 108, 2) := by decide +kernel
theorem dX12_init_81 : decode cX12_init 81 = .ok (.castore, 1) := by decide +kernel
theorem dX12_init_82 : decode cX12_init 82 = .ok (.putfield 24, 3) := by decide +kernel
theorem dX12_init_85 : decode cX12_init 85 = .ok (.aload_n 0, 1) := by decide +kernel
theorem dX12_init_86 : decode cX12_init 86 = .ok (.iconst 2, 1) := by decide +kernel
theorem dX12_init_87 : decode cX12_init 87 = .ok (.newarray .char, 2) := by decide +kernel
theorem dX12_init_89 : decode cX12_init 89 = .ok (.dup, 1) := by decide +kernel
theorem dX12_init_90 : decode cX12_init 90 = .ok (.iconst 0, 1) := by decide +kernel
theorem dX12_init_91 : decode cX12_init 91 = .ok (.bipush 97, 2) := by decide +kernel
theorem dX12_init_93 : decode cX12_init 93 = .ok (.castore, 1) := by decide +kernel
theorem dX12_init_94 : decode cX12_init 94 = .ok (.dup, 1) := by decide +kernel
theorem dX12_init_95 : decode cX12_init 95 = .ok (.iconst 1, 1) := by decide +kernel
theorem dX12_init_96 : decode cX12_init 96 = .ok (.bipush 116, 2) := by decide +kernel
theorem dX12_init_98 : decode cX12_init 98 = .ok (.castore, 1) := by decide +kernel
theorem dX12_init_99 : decode cX12_init 99 = .ok (.putfield 27, 3) := by decide +kernel
theorem dX12_init_102 : decode cX12_init 102 = .ok (.aload_n 0, 1) := by decide +kernel
theorem dX12_init_103 : decode cX12_init 103 = .ok (.iconst 4, 1) := by decide +kernel
theorem dX12_init_104 : decode cX12_init 104 = .ok (.newarray .char, 2) := by decide +kernel
theorem dX12_init_106 : decode cX12_init 106 = .ok (.dup, 1) := by decide +kernel
theorem dX12_init_107 : decode cX12_init 107 = .ok (.iconst 0, 1) := by decide +kernel
theorem dX12_init_108 : decode cX12_init 108 = .ok (.bipush 116, 2) := by decide +kernel
theorem dX12_init_110 : decode cX12_init 110 = .ok (.castore, 1) := by decide +kernel
theorem dX12_init_111 : decode cX12_init 111 = .ok (.dup, 1) := by decide +kernel
theorem dX12_init_112 : decode cX12_init 112 = .ok (.iconst 1, 1) := by decide +kernel
theorem dX12_init_113 : decode cX12_init 113 = .ok (.bipush 117, 2) := by decide +kernel
theorem dX12_init_115 : decode cX12_init 115 = .ok (.castore, 1) := by decide +kernel
theorem dX12_init_116 : decode cX12_init 116 = .ok (.dup, 1) := by decide +kernel
theorem dX12_init_117 : decode cX12_init 117 = .ok (.iconst 2, 1) := by decide +kernel
theorem dX12_init_118 : decode cX12_init 118 = .ok (.bipush 114, 2) := by decide +kernel
theorem dX12_init_120 : decode cX12_init 120 = .ok (.castore, 1) := by decide +kernel
theorem dX12_init_121 : decode cX12_init 121 = .ok (.dup, 1) := by decide +kernel
theorem dX12_init_122 : decode cX12_init 122 = .ok (.iconst 3, 1) := by decide +kernel
theorem dX12_init_123 : decode cX12_init 123 = .ok (.bipush 110, 2) := by decide +kernel
theorem dX12_init_125 : decode cX12_init 125 = .ok (.castore, 1) := by decide +kernel
theorem dX12_init_126 : decode cX12_init 126 = .ok (.putfield 30, 3) := by decide +kernel
theorem dX12_init_129 : decode cX12_init 129 = .ok (.aload_n 0, 1) := by decide +kernel
theorem dX12_init_130 : decode cX12_init 130 = .ok (.iconst 5, 1) := by decide +kernel
theorem dX12_init_131 : decode cX12_init 131 = .ok (.newarray .char, 2) := by decide +kernel
theorem dX12_init_133 : decode cX12_init 133 = .ok (.dup, 1) := by decide +kernel
theorem dX12_init_134 : decode cX12_init 134 = .ok (.iconst 0, 1) := by decide +kernel
theorem dX12_init_135 : decode cX12_init 135 = .ok (.bipush 112, 2) := by decide +kernel
theorem dX12_init_137 : decode cX12_init 137 = .ok (.castore, 1) := by decide +kernel
theorem dX12_init_138 : decode cX12_init 138 = .ok (.dup, 1) := by decide +kernel
theorem dX12_init_139 : decode cX12_init 139 = .ok (.iconst 1, 1) := by decide +kernel
theorem dX12_init_140 : decode cX12_init 140 = .ok (.bipush 114, 2) := by decide +kernel
theorem dX12_init_142 : decode cX12_init 142 = .ok (.castore, 1) := by decide +kernel
theorem dX12_init_143 : decode cX12_init 143 = .ok (.dup, 1) := by decide +kernel
theorem dX12_init_144 : decode cX12_init 144 = .ok (.iconst 2, 1) := by decide +kernel
theorem dX12_init_145 : decode cX12_init 145 = .ok (.bipush 105, 2) := by decide +kernel
theorem dX12_init_147 : decode cX12_init 147 = .ok (.castore, 1) := by decide +kernel
theorem dX12_init_148 : decode cX12_init 148 = .ok (.dup, 1) := by decide +kernel
theorem dX12_init_149 : decode cX12_init 149 = .ok (.iconst 3, 1) := by decide +kernel
theorem dX12_init_150 : decode cX12_init 150 = .ok (.bipush 99, 2) := by decide +kernel
theorem dX12_init_152 : decode cX12_init 152 = .ok (.castore, 1) := by decide +kernel
theorem dX12_init_153 : decode cX12_init 153 = .ok (.dup, 1) := by decide +kernel
theorem dX12_init_154 : decode cX12_init 154 = .ok (.iconst 4, 1) := by decide +kernel
theorem dX12_init_155 : decode cX12_init 155 = .ok (.bipush 101, 2) := by decide +kernel
theorem dX12_init_157 : decode cX12_init 157 = .ok (.castore, 1) := by decide +kernel
theorem dX12_init_158 : decode cX12_init 158 = .ok (.putfield 33, 3) := by decide +kernel
theorem dX12_init_161 : decode cX12_init 161 = .ok (.aload_n 0, 1) := by decide +kernel
theorem dX12_init_162 : decode cX12_init 162 = .ok (.iconst 4, 1) := by decide +kernel
theorem dX12_init_163 : decode cX12_init 163 = .ok (.newarray .char, 2) := by decide +kernel
theorem dX12_init_165 : decode cX12_init 165 = .ok (.dup, 1) := by decide +kernel
theorem dX12_init_166 : decode cX12_init 166 = .ok (.iconst 0, 1) := by decide +kernel
theorem dX12_init_167 : decode cX12_init 167 = .ok (.bipush 115, 2) := by decide +kernel
theorem dX12_init_169 : decode cX12_init 169 = .ok (.castore, 1) := by decide +kernel
theorem dX12_init_170 : decode cX12_init 170 = .ok (.dup, 1) := by decide +kernel
theorem dX12_init_171 : decode cX12_init 171 = .ok (.iconst 1, 1) := by decide +kernel
theorem dX12_init_172 : decode cX12_init 172 = .ok (.bipush 104, 2) := by decide +kernel
theorem dX12_init_174 : decode cX12_init 174 = .ok (.castore, 1) := by decide +kernel
theorem dX12_init_175 : decode cX12_init 175 = .ok (.dup, 1) := by decide +kernel
theorem dX12_init_176 : decode cX12_init 176 = .ok (.iconst 2, 1) := by decide +kernel
theorem dX12_init_177 : decode cX12_init 177 = .ok (.bipush 117, 2) := by decide +kernel
theorem dX12_init_179 : decode cX12_init 179 = .ok (.castore, 1) := by decide +kernel
theorem dX12_init_180 : decode cX12_init 180 = .ok (.dup, 1) := by decide +kernel
theorem dX12_init_181 : decode cX12_init 181 = .ok (.iconst 3, 1) := by decide +kernel
theorem dX12_init_182 : decode cX12_init 182 = .ok (.bipush 116, 2) := by decide +kernel
theorem dX12_init_184 : decode cX12_init 184 = .ok (.castore, 1) := by decide +kernel
theorem dX12_init_185 : decode cX12_init 185 = .ok (.putfield 36, 3) := by decide +kernel
theorem dX12_init_188 : decode cX12_init 188 = .ok (.aload_n 0, 1) := by decide +kernel
theorem dX12_init_189 : decode cX12_init 189 = .ok (.iconst 4, 1) := by decide +kernel
theorem dX12_init_190 : decode cX12_init 190 = .ok (.newarray .char, 2) := by decide +kernel
theorem dX12_init_192 : decode cX12_init 192 = .ok (.dup, 1) := by decide +kernel
theorem dX12_init_193 : decode cX12_init 193 = .ok (.iconst 0, 1) := by decide +kernel
theorem dX12_init_194 : decode cX12_init 194 = .ok (.bipush 99, 2) := by decide +kernel
theorem dX12_init_196 : decode cX12_init 196 = .ok (.castore, 1) := by decide +kernel
theorem dX12_init_197 : decode cX12_init 197 = .ok (.dup, 1) := by decide +kernel
theorem dX12_init_198 : decode cX12_init 198 = .ok (.iconst 1, 1) := by decide +kernel
theorem dX12_init_199 : decode cX12_init 199 = .ok (.bipush 111, 2) := by decide +kernel
theorem dX12_init_201 : decode cX12_init 201 = .ok (.castore, 1) := by decide +kernel
theorem dX12_init_202 : decode cX12_init 202 = .ok (.dup, 1) := by decide +kernel
theorem dX12_init_203 : decode cX12_init 203 = .ok (.iconst 2, 1) := by decide +kernel
theorem dX12_init_204 : decode cX12_init 204 = .ok (.bipush 105, 2) := by decide +kernel
theorem dX12_init_206 : decode cX12_init 206 = .ok (.castore, 1) := by decide +kernel
theorem dX12_init_207 : decode cX12_init 207 = .ok (.dup, 1) := by decide +kernel
theorem dX12_init_208 : decode cX12_init 208 = .ok (.iconst 3, 1) := by decide +kernel
theorem dX12_init_209 : decode cX12_init 209 = .ok (.bipush 110, 2) := by decide +kernel
theorem dX12_init_211 : decode cX12_init 211 = .ok (.castore, 1) := by decide +kernel
theorem dX12_init_212 : decode cX12_init 212 = .ok (.putfield 39, 3) := by decide +kernel
theorem dX12_init_215 : decode cX12_init 215 = .ok (.aload_n 0, 1) := by decide +kernel
theorem dX12_init_216 : decode cX12_init 216 = .ok (.iconst 5, 1) := by decide +kernel
theorem dX12_init_217 : decode cX12_init 217 = .ok (.newarray .char, 2) := by decide +kernel
theorem dX12_init_219 : decode cX12_init 219 = .ok (.dup, 1) := by decide +kernel
theorem dX12_init_220 : decode cX12_init 220 = .ok (.iconst 0, 1) := by decide +kernel
theorem dX12_init_221 : decode cX12_init 221 = .ok (.bipush 119, 2) := by decide +kernel
theorem dX12_init_223 : decode cX12_init 223 = .ok (.castore, 1) := by decide +kernel
theorem dX12_init_224 : decode cX12_init 224 = .ok (.dup, 1) := by decide +kernel
theorem dX12_init_225 : decode cX12_init 225 = .ok (.iconst 1, 1) := by decide +kernel
theorem dX12_init_226 : decode cX12_init 226 = .ok (.bipush 105, 2) := by decide +kernel
theorem dX12_init_228 : decode cX12_init 228 = .ok (.castore, 1) := by decide +kernel
theorem dX12_init_229 : decode cX12_init 229 = .ok (.dup, 1) := by decide +kernel
theorem dX12_init_230 : decode cX12_init 230 = .ok (.iconst 2, 1) := by decide +kernel
theorem dX12_init_231 : decode cX12_init 231 = .ok (.bipush 100, 2) := by decide +kernel
theorem dX12_init_233 : decode cX12_init 233 = .ok (.castore, 1) := by decide +kernel
theorem dX12_init_234 : decode cX12_init 234 = .ok (.dup, 1) := by decide +kernel
theorem dX12_init_235 : decode cX12_init 235 = .ok (.iconst 3, 1) := by decide +kernel
theorem dX12_init_236 : decode cX12_init 236 = .ok (.bipush 116, 2) := by decide +kernel
theorem dX12_init_238 : decode cX12_init 238 = .ok (.castore, 1) := by decide +kernel
theorem dX12_init_239 : decode cX12_init 239 = .ok (.dup, 1) := by decide +kernel
theorem dX12_init_240 : decode cX12_init 240 = .ok (.iconst 4, 1) := by decide +kernel
theorem dX12_init_241 : decode cX12_init 241 = .ok (.bipush 104, 2) := by decide +kernel
theorem dX12_init_243 : decode cX12_init 243 = .ok (.castore, 1) := by decide +kernel
theorem dX12_init_244 : decode cX12_init 244 = .ok (.putfield 42, 3) := by decide +kernel
theorem dX12_init_247 : decode cX12_init 247 = .ok (.aload_n 0, 1) := by decide +kernel
theorem dX12_init_248 : decode cX12_init 248 = .ok (.iconst 4, 1) := by decide +kernel
theorem dX12_init_249 : decode cX12_init 249 = .ok (.newarray .char, 2) := by decide +kernel
theorem dX12_init_251 : decode cX12_init 251 = .ok (.dup, 1) := by decide +kernel
theorem dX12_init_252 : decode cX12_init 252 = .ok (.iconst 0, 1) := by decide +kernel
theorem dX12_init_253 : decode cX12_init 253 = .ok (.bipush 104, 2) := by decide +kernel
theorem dX12_init_255 : decode cX12_init 255 = .ok (.castore, 1) := by decide +kernel
theorem dX12_init_256 : decode cX12_init 256 = .ok (.dup, 1) := by decide +kernel
theorem dX12_init_257 : decode cX12_init 257 = .ok (.iconst 1, 1) := by decide +kernel
theorem dX12_init_258 : decode cX12_init 258 = .ok (.bipush 111, 2) := by decide +kernel
theorem dX12_init_260 : decode cX12_init 260 = .ok (.castore, 1) := by decide +kernel
theorem dX12_init_261 : decode cX12_init 261 = .ok (.dup, 1) := by decide +kernel
theorem dX12_init_262 : decode cX12_init 262 = .ok (.iconst 2, 1) := by decide +kernel
theorem dX12_init_263 : decode cX12_init 263 = .ok (.bipush 108, 2) := by decide +kernel
theorem dX12_init_265 : decode cX12_init 265 = .ok (.castore, 1) := by decide +kernel
theorem dX12_init_266 : decode cX12_init 266 = .ok (.dup, 1) := by decide +kernel
theorem dX12_init_267 : decode cX12_init 267 = .ok (.iconst 3, 1) := by decide +kernel
theorem dX12_init_268 : decode cX12_init 268 = .ok (.bipush 101, 2) := by decide +kernel
theorem dX12_init_270 : decode cX12_init 270 = .ok (.castore, 1) := by decide +kernel
theorem dX12_init_271 : decode cX12_init 271 = .ok (.putfield 45, 3) := by decide +kernel
theorem dX12_init_274 : decode cX12_init 274 = .ok (.aload_n 0, 1) := by decide +kernel
theorem dX12_init_275 : decode cX12_init 275 = .ok (.iconst 5, 1) := by decide +kernel
theorem dX12_init_276 : decode cX12_init 276 = .ok (.newarray .char, 2) := by decide +kernel
theorem dX12_init_278 : decode cX12_init 278 = .ok (.dup, 1) := by decide +kernel
theorem dX12_init_279 : decode cX12_init 279 = .ok (.iconst 0, 1) := by decide +kernel
theorem dX12_init_280 : decode cX12_init 280 = .ok (.bipush 99, 2) := by decide +kernel
theorem dX12_init_282 : decode cX12_init 282 = .ok (.castore, 1) := by decide +kernel
theorem dX12_init_283 : decode cX12_init 283 = .ok (.dup, 1) := by decide +kernel
theorem dX12_init_284 : decode cX12_init 284 = .ok (.iconst 1, 1) := by decide +kernel
theorem dX12_init_285 : decode cX12_init 285 = .ok (.bipush 108, 2) := by decide +kernel
theorem dX12_init_287 : decode cX12_init 287 = .ok (.castore, 1) := by decide +kernel
theorem dX12_init_288 : decode cX12_init 288 = .ok (.dup, 1) := by decide +kernel
theorem dX12_init_289 : decode cX12_init 289 = .ok (.iconst 2, 1) := by decide +kernel
theorem dX12_init_290 : decode cX12_init 290 = .ok (.bipush 111, 2) := by decide +kernel
theorem dX12_init_292 : decode cX12_init 292 = .ok (.castore, 1) := by decide +kernel
theorem dX12_init_293 : decode cX12_init 293 = .ok (.dup, 1) := by decide +kernel
theorem dX12_init_294 : decode cX12_init 294 = .ok (.iconst 3, 1) := by decide +kernel
theorem dX12_init_295 : decode cX12_init 295 = .ok (.bipush 117, 2) := by decide +kernel
theorem dX12_init_297 : decode cX12_init 297 = .ok (.castore, 1) := by decide +kernel
theorem dX12_init_298 : decode cX12_init 298 = .ok (.dup, 1) := by decide +kernel
theorem dX12_init_299 : decode cX12_init 299 = .ok (.iconst 4, 1) := by decide +kernel
theorem dX12_init_300 : decode cX12_init 300 = .ok (.bipush 100, 2) := by decide +kernel
theorem dX12_init_302 : decode cX12_init 302 = .ok (.castore, 1) := by decide +kernel
theorem dX12_init_303 : decode cX12_init 303 = .ok (.putfield 48, 3) := by decide +kernel
theorem dX12_init_306 : decode cX12_init 306 = .ok (.aload_n 0, 1) := by decide +kernel
theorem dX12_init_307 : decode cX12_init 307 = .ok (.iconst 2, 1) := by decide +kernel
theorem dX12_init_308 : decode cX12_init 308 = .ok (.newarray .char, 2) := by decide +kernel
theorem dX12_init_310 : decode cX12_init 310 = .ok (.dup, 1) := by decide +kernel
theorem dX12_init_311 : decode cX12_init 311 = .ok (.iconst 0, 1) := by decide +kernel
theorem dX12_init_312 : decode cX12_init 312 = .ok (.bipush 116, 2) := by decide +kernel
theorem dX12_init_314 : decode cX12_init 314 = .ok (.castore, 1) := by decide +kernel
theorem dX12_init_315 : decode cX12_init 315 = .ok (.dup, 1) := by decide +kernel
theorem dX12_init_316 : decode cX12_init 316 = .ok (.iconst 1, 1) := by decide +kernel
theorem dX12_init_317 : decode cX12_init 317 = .ok (.bipush 111, 2) := by decide +kernel
theorem dX12_init_319 : decode cX12_init 319 = .ok (.castore, 1) := by decide +kernel
theorem dX12_init_320 : decode cX12_init 320 = .ok (.putfield 51, 3) := by decide +kernel
theorem dX12_init_323 : decode cX12_init 323 = .ok (.aload_n 0, 1) := by decide +kernel
theorem dX12_init_324 : decode cX12_init 324 = .ok (.iconst 5, 1) := by decide +kernel
theorem dX12_init_325 : decode cX12_init 325 = .ok (.newarray .char, 2) := by decide +kernel
theorem dX12_init_327 : decode cX12_init 327 = .ok (.dup, 1) := by decide +kernel
theorem dX12_init_328 : decode cX12_init 328 = .ok (.iconst 0, 1) := by decide +kernel
theorem dX12_init_329 : decode cX12_init 329 = .ok (.bipush 115, 2) := by decide +kernel
theorem dX12_init_331 : decode cX12_init 331 = .ok (.castore, 1) := by decide +kernel
theorem dX12_init_332 : decode cX12_init 332 = .ok (.dup, 1) := by decide +kernel
theorem dX12_init_333 : decode cX12_init 333 = .ok (.iconst 1, 1) := by decide +kernel
theorem dX12_init_334 : decode cX12_init 334 = .ok (.bipush 104, 2) := by decide +kernel
theorem dX12_init_336 : decode cX12_init 336 = .ok (.castore, 1) := by decide +kernel
theorem dX12_init_337 : decode cX12_init 337 = .ok (.dup, 1) := by decide +kernel
theorem dX12_init_338 : decode cX12_init 338 = .ok (.iconst 2, 1) := by decide +kernel
theorem dX12_init_339 : decode cX12_init 339 = .ok (.bipush 97, 2) := by decide +kernel
theorem dX12_init_341 : decode cX12_init 341 = .ok (.castore, 1) := by decide +kernel
theorem dX12_init_342 : decode cX12_init 342 = .ok (.dup, 1) := by decide +kernel
theorem dX12_init_343 : decode cX12_init 343 = .ok (.iconst 3, 1) := by decide +kernel
theorem dX12_init_344 : decode cX12_init 344 = .ok (.bipush 100, 2) := by decide +kernel
theorem dX12_init_346 : decode cX12_init 346 = .ok (.castore, 1) := by decide +kernel
theorem dX12_init_347 : decode cX12_init 347 = .ok (.dup, 1) := by decide +kernel
theorem dX12_init_348 : decode cX12_init 348 = .ok (.iconst 4, 1) := by decide +kernel
theorem dX12_init_349 : decode cX12_init 349 = .ok (.bipush 101, 2) := by decide +kernel
theorem dX12_init_351 : decode cX12_init 351 = .ok (.castore, 1) := by decide +kernel
theorem dX12_init_352 : decode cX12_init 352 = .ok (.putfield 54, 3) := by decide +kernel
theorem dX12_init_355 : decode cX12_init 355 = .ok (.aload_n 0, 1) := by decide +kernel
theorem dX12_init_356 : decode cX12_init 356 = .ok (.bipush 6, 2) := by decide +kernel
theorem dX12_init_358 : decode cX12_init 358 = .ok (.newarray .char, 2) := by decide +kernel
theorem dX12_init_360 : decode cX12_init 360 = .ok (.dup, 1) := by decide +kernel
theorem dX12_init_361 : decode cX12_init 361 = .ok (.iconst 0, 1) := by decide +kernel
theorem dX12_init_362 : decode cX12_init 362 = .ok (.bipush 114, 2) := by decide +kernel
theorem dX12_init_364 : decode cX12_init 364 = .ok (.castore, 1) := by decide +kernel
theorem dX12_init_365 : decode cX12_init 365 = .ok (.dup, 1) := by decide +kernel
theorem dX12_init_366 : decode cX12_init 366 = .ok (.iconst 1, 1) := by decide +kernel
theorem dX12_init_367 : decode cX12_init 367 = .ok (.bipush 101, 2) := by decide +kernel
theorem dX12_init_369 : decode cX12_init 369 = .ok (.castore, 1) := by decide +kernel
theorem dX12_init_370 : decode cX12_init 370 = .ok (.dup, 1) := by decide +kernel
theorem dX12_init_371 : decode cX12_init 371 = .ok (.iconst 2, 1) := by decide +kernel
theorem dX12_init_372 : decode cX12_init 372 = .ok (.bipush 102, 2) := by decide +kernel
theorem dX12_init_374 : decode cX12_init 374 = .ok (.castore, 1) := by decide +kernel
theorem dX12_init_375 : decode cX12_init 375 = .ok (.dup, 1) := by decide +kernel
theorem dX12_init_376 : decode cX12_init 376 = .ok (.iconst 3, 1) := by decide +kernel
theorem dX12_init_377 : decode cX12_init 377 = .ok (.bipush 117, 2) := by decide +kernel
theorem dX12_init_379 : decode cX12_init 379 = .ok (.castore, 1) := by decide +kernel
theorem dX12_init_380 : decode cX12_init 380 = .ok (.dup, 1) := by decide +kernel
theorem dX12_init_381 : decode cX12_init 381 = .ok (.iconst 4, 1) := by decide +kernel
theorem dX12_init_382 : decode cX12_init 382 = .ok (.bipush 115, 2) := by decide +kernel
theorem dX12_init_384 : decode cX12_init 384 = .ok (.castore, 1) := by decide +kernel
theorem dX12_init_385 : decode cX12_init 385 = .ok (.dup, 1) := by decide +kernel
theorem dX12_init_386 : decode cX12_init 386 = .ok (.iconst 5, 1) := by decide +kernel
theorem dX12_init_387 : decode cX12_init 387 = .ok (.bipush 101, 2) := by decide +kernel
theorem dX12_init_389 : decode cX12_init 389 = .ok (.castore, 1) := by decide +kernel
theorem dX12_init_390 : decode cX12_init 390 = .ok (.putfield 57, 3) := by decide +kernel
theorem dX12_init_393 : decode cX12_init 393 = .ok (.aload_n 0, 1) := by decide +kernel
theorem dX12_init_394 : decode cX12_init 394 = .ok (.bipush 6, 2) := by decide +kernel
theorem dX12_init_396 : decode cX12_init 396 = .ok (.newarray .char, 2) := by decide +kernel
theorem dX12_init_398 : decode cX12_init 398 = .ok (.dup, 1) := by decide +kernel
theorem dX12_init_399 : decode cX12_init 399 = .ok (.iconst 0, 1) := by decide +kernel
theorem dX12_init_400 : decode cX12_init 400 = .ok (.bipush 98, 2) := by decide +kernel
theorem dX12_init_402 : decode cX12_init 402 = .ok (.castore, 1) := by decide +kernel
theorem dX12_init_403 : decode cX12_init 403 = .ok (.dup, 1) := by decide +kernel
theorem dX12_init_404 : decode cX12_init 404 = .ok (.iconst 1, 1) := by decide +kernel
theorem dX12_init_405 : decode cX12_init 405 = .ok (.bipush 114, 2) := by decide +kernel
theorem dX12_init_407 : decode cX12_init 407 = .ok (.castore, 1) := by decide +kernel
theorem dX12_init_408 : decode cX12_init 408 = .ok (.dup, 1) := by decide +kernel
theorem dX12_init_409 : decode cX12_init 409 = .ok (.iconst 2, 1) := by decide +kernel
theorem dX12_init_410 : decode cX12_init 410 = .ok (.bipush 105, 2) := by decide +kernel
theorem dX12_init_412 : decode cX12_init 412 = .ok (.castore, 1) := by decide +kernel
theorem dX12_init_413 : decode cX12_init 413 = .ok (.dup, 1) := by decide +kernel
theorem dX12_init_414 : decode cX12_init 414 = .ok (.iconst 3, 1) := by decide +kernel
theorem dX12_init_415 : decode cX12_init 415 = .ok (.bipush 100, 2) := by decide +kernel
theorem dX12_init_417 : decode cX12_init 417 = .ok (.castore, 1) := by decide +kernel
theorem dX12_init_418 : decode cX12_init 418 = .ok (.dup, 1) := by decide +kernel
theorem dX12_init_419 : decode cX12_init 419 = .ok (.iconst 4, 1) := by decide +kernel
theorem dX12_init_420 : decode cX12_init 420 = .ok (.bipush 103, 2) := by decide +kernel
theorem dX12_init_422 : decode cX12_init 422 = .ok (.castore, 1) := by decide +kernel
theorem dX12_init_423 : decode cX12_init 423 = .ok (.dup, 1) := by decide +kernel
theorem dX12_init_424 : decode cX12_init 424 = .ok (.iconst 5, 1) := by decide +kernel
theorem dX12_init_425 : decode cX12_init 425 = .ok (.bipush 101, 2) := by decide +kernel
theorem dX12_init_427 : decode cX12_init 427 = .ok (.castore, 1) := by decide +kernel
theorem dX12_init_428 : decode cX12_init 428 = .ok (.putfield 60, 3) := by decide +kernel
theorem dX12_init_431 : decode cX12_init 431 = .ok (.aload_n 0, 1) := by decide +kernel
theorem dX12_init_432 : decode cX12_init 432 = .ok (.iconst 4, 1) := by decide +kernel
theorem dX12_init_433 : decode cX12_init 433 = .ok (.newarray .char, 2) := by decide +kernel
theorem dX12_init_435 : decode cX12_init 435 = .ok (.dup, 1) := by decide +kernel
theorem dX12_init_436 : decode cX12_init 436 = .ok (.iconst 0, 1) := by decide +kernel
theorem dX12_init_437 : decode cX12_init 437 = .ok (.bipush 103, 2) := by decide +kernel
theorem dX12_init_439 : decode cX12_init 439 = .ok (.castore, 1) := by decide +kernel
theorem dX12_init_440 : decode cX12_init 440 = .ok (.dup, 1) := by decide +kernel
theorem dX12_init_441 : decode cX12_init 441 = .ok (.iconst 1, 1) := by decide +kernel
theorem dX12_init_442 : decode cX12_init 442 = .ok (.bipush 117, 2) := by decide +kernel
theorem dX12_init_444 : decode cX12_init 444 = .ok (.castore, 1) := by decide +kernel
theorem dX12_init_445 : decode cX12_init 445 = .ok (.dup, 1) := by decide +kernel
theorem dX12_init_446 : decode cX12_init 446 = .ok (.iconst 2, 1) := by decide +kernel
theorem dX12_init_447 : decode cX12_init 447 = .ok (.bipush 115, 2) := by decide +kernel
theorem dX12_init_449 : decode cX12_init 449 = .ok (.castore, 1) := by decide +kernel
theorem dX12_init_450 : decode cX12_init 450 = .ok (.dup, 1) := by decide +kernel
theorem dX12_init_451 : decode cX12_init 451 = .ok (.iconst 3, 1) := by decide +kernel
theorem dX12_init_452 : decode cX12_init 452 = .ok (.bipush 116, 2) := by decide +kernel
theorem dX12_init_454 : decode cX12_init 454 = .ok (.castore, 1) := by decide +kernel
theorem dX12_init_455 : decode cX12_init 455 = .ok (.putfield 63, 3) := by decide +kernel
theorem dX12_init_458 : decode cX12_init 458 = .ok (.aload_n 0, 1) := by decide +kernel
theorem dX12_init_459 : decode cX12_init 459 = .ok (.iconst 4, 1) := by decide +kernel
theorem dX12_init_460 : decode cX12_init 460 = .ok (.newarray .char, 2) := by decide +kernel
theorem dX12_init_462 : decode cX12_init 462 = .ok (.dup, 1) := by decide +kernel
theorem dX12_init_463 : decode cX12_init 463 = .ok (.iconst 0, 1) := by decide +kernel
theorem dX12_init_464 : decode cX12_init 464 = .ok (.bipush 108, 2) := by decide +kernel
theorem dX12_init_466 : decode cX12_init 466 = .ok (.castore, 1) := by decide +kernel
theorem dX12_init_467 : decode cX12_init 467 = .ok (.dup, 1) := by decide +kernel
theorem dX12_init_468 : decode cX12_init 468 = .ok (.iconst 1, 1) := by decide +kernel
theorem dX12_init_469 : decode cX12_init 469 = .ok (.bipush 111, 2) := by decide +kernel
theorem dX12_init_471 : decode cX12_init 471 = .ok (.castore, 1) := by decide +kernel
theorem dX12_init_472 : decode cX12_init 472 = .ok (.dup, 1) := by decide +kernel
theorem dX12_init_473 : decode cX12_init 473 = .ok (.iconst 2, 1) := by decide +kernel
theorem dX12_init_474 : decode cX12_init 474 = .ok (.bipush 110, 2) := by decide +kernel
theorem dX12_init_476 : decode cX12_init 476 = .ok (.castore, 1) := by decide +kernel
theorem dX12_init_477 : decode cX12_init 477 = .ok (.dup, 1) := by decide +kernel
theorem dX12_init_478 : decode cX12_init 478 = .ok (.iconst 3, 1) := by decide +kernel
theorem dX12_init_479 : decode cX12_init 479 = .ok (.bipush 103, 2) := by decide +kernel
theorem dX12_init_481 : decode cX12_init 481 = .ok (.castore, 1) := by decide +kernel
theorem dX12_init_482 : decode cX12_init 482 = .ok (.putfield 66, 3) := by decide +kernel
theorem dX12_init_485 : decode cX12_init 485 = .ok (.aload_n 0, 1) := by decide +kernel
theorem dX12_init_486 : decode cX12_init 486 = .ok (.bipush 6, 2) := by decide +kernel
theorem dX12_init_488 : decode cX12_init 488 = .ok (.newarray .char, 2) := by decide +kernel
theorem dX12_init_490 : decode cX12_init 490 = .ok (.dup, 1) := by decide +kernel
theorem dX12_init_491 : decode cX12_init 491 = .ok (.iconst 0, 1) := by decide +kernel
theorem dX12_init_492 : decode cX12_init 492 = .ok (.bipush 109, 2) := by decide +kernel
theorem dX12_init_494 : decode cX12_init 494 = .ok (.castore, 1) := by decide +kernel
theorem dX12_init_495 : decode cX12_init 495 = .ok (.dup, 1) := by decide +kernel
theorem dX12_init_496 : decode cX12_init 496 = .ok (.iconst 1, 1) := by decide +kernel
theorem dX12_init_497 : decode cX12_init 497 = .ok (.bipush 105, 2) := by decide +kernel
theorem dX12_init_499 : decode cX12_init 499 = .ok (.castore, 1) := by decide +kernel
theorem dX12_init_500 : decode cX12_init 500 = .ok (.dup, 1) := by decide +kernel
theorem dX12_init_501 : decode cX12_init 501 = .ok (.iconst 2, 1) := by decide +kernel
theorem dX12_init_502 : decode cX12_init 502 = .ok (.bipush 110, 2) := by decide +kernel
theorem dX12_init_504 : decode cX12_init 504 = .ok (.castore, 1) := by decide +kernel
theorem dX12_init_505 : decode cX12_init 505 = .ok (.dup, 1) := by decide +kernel
theorem dX12_init_506 : decode cX12_init 506 = .ok (.iconst 3, 1) := by decide +kernel
theorem dX12_init_507 : decode cX12_init 507 = .ok (.bipush 117, 2) := by decide +kernel
theorem dX12_init_509 : decode cX12_init 509 = .ok (.castore, 1) := by decide +kernel
theorem dX12_init_510 : decode cX12_init 510 = .ok (.dup, 1) := by decide +kernel
theorem dX12_init_511 : decode cX12_init 511 = .ok (.iconst 4, 1) := by decide +kernel
theorem dX12_init_512 : decode cX12_init 512 = .ok (.bipush 116, 2) := by decide +kernel
theorem dX12_init_514 : decode cX12_init 514 = .ok (.castore, 1) := by decide +kernel
theorem dX12_init_515 : decode cX12_init 515 = .ok (.dup, 1) := by decide +kernel
theorem dX12_init_516 : decode cX12_init 516 = .ok (.iconst 5, 1) := by decide +kernel
theorem dX12_init_517 : decode cX12_init 517 = .ok (.bipush 101, 2) := by decide +kernel
theorem dX12_init_519 : decode cX12_init 519 = .ok (.castore, 1) := by decide +kernel
theorem dX12_init_520 : decode cX12_init 520 = .ok (.putfield 69, 3) := by decide +kernel
theorem dX12_init_523 : decode cX12_init 523 = .ok (.aload_n 0, 1) := by decide +kernel
theorem dX12_init_524 : decode cX12_init 524 = .ok (.bipush 6, 2) := by decide +kernel
theorem dX12_init_526 : decode cX12_init 526 = .ok (.newarray .char, 2) := by decide +kernel
theorem dX12_init_528 : decode cX12_init 528 = .ok (.dup, 1) := by decide +kernel
theorem dX12_init_529 : decode cX12_init 529 = .ok (.iconst 0, 1) := by decide +kernel
theorem dX12_init_530 : decode cX12_init 530 = .ok (.bipush 110, 2) := by decide +kernel
theorem dX12_init_532 : decode cX12_init 532 = .ok (.castore, 1) := by decide +kernel
theorem dX12_init_533 : decode cX12_init 533 = .ok (.dup, 1) := by decide +kernel
theorem dX12_init_534 : decode cX12_init 534 = .ok (.iconst 1, 1) := by decide +kernel
theorem dX12_init_535 : decode cX12_init 535 = .ok (.bipush 117, 2) := by decide +kernel
theorem dX12_init_537 : decode cX12_init 537 = .ok (.castore, 1) := by decide +kernel
theorem dX12_init_538 : decode cX12_init 538 = .ok (.dup, 1) := by decide +kernel
theorem dX12_init_539 : decode cX12_init 539 = .ok (.iconst 2, 1) := by decide +kernel
theorem dX12_init_540 : decode cX12_init 540 = .ok (.bipush 109, 2) := by decide +kernel
theorem dX12_init_542 : decode cX12_init 542 = .ok (.castore, 1) := by decide +kernel
theorem dX12_init_543 : decode cX12_init 543 = .ok (.dup, 1) := by decide +kernel
theorem dX12_init_544 : decode cX12_init 544 = .ok (.iconst 3, 1) := by decide +kernel
theorem dX12_init_545 : decode cX12_init 545 = .ok (.bipush 98, 2) := by decide +kernel
theorem dX12_init_547 : decode cX12_init 547 = .ok (.castore, 1) := by decide +kernel
theorem dX12_init_548 : decode cX12_init 548 = .ok (.dup, 1) := by decide +kernel
theorem dX12_init_549 : decode cX12_init 549 = .ok (.iconst 4, 1) := by decide +kernel
theorem dX12_init_550 : decode cX12_init 550 = .ok (.bipush 101, 2) := by decide +kernel
theorem dX12_init_552 : decode cX12_init 552 = .ok (.castore, 1) := by decide +kernel
theorem dX12_init_553 : decode cX12_init 553 = .ok (.dup, 1) := by decide +kernel
theorem dX12_init_554 : decode cX12_init 554 = .ok (.iconst 5, 1) := by decide +kernel
theorem dX12_init_555 : decode cX12_init 555 = .ok (.bipush 114, 2) := by decide +kernel
theorem dX12_init_557 : decode cX12_init 557 = .ok (.castore, 1) := by decide +kernel
theorem dX12_init_558 : decode cX12_init 558 = .ok (.putfield 72, 3) := by decide +kernel
theorem dX12_init_561 : decode cX12_init 561 = .ok (.aload_n 0, 1) := by decide +kernel
theorem dX12_init_562 : decode cX12_init 562 = .ok (.iconst 4, 1) := by decide +kernel
theorem dX12_init_563 : decode cX12_init 563 = .ok (.newarray .char, 2) := by decide +kernel
theorem dX12_init_565 : decode cX12_init 565 = .ok (.dup, 1) := by decide +kernel
theorem dX12_init_566 : decode cX12_init 566 = .ok (.iconst 0, 1) := by decide +kernel
theorem dX12_init_567 : decode cX12_init 567 = .ok (.bipush 104, 2) := by decide +kernel
theorem dX12_init_569 : decode cX12_init 569 = .ok (.castore, 1) := by decide +kernel
theorem dX12_init_570 : decode cX12_init 570 = .ok (.dup, 1) := by decide +kernel
theorem dX12_init_571 : decode cX12_init 571 = .ok (.iconst 1, 1) := by decide +kernel
theorem dX12_init_572 : decode cX12_init 572 = .ok (.bipush 101, 2) := by decide +kernel
theorem dX12_init_574 : decode cX12_init 574 = .ok (.castore, 1) := by decide +kernel
theorem dX12_init_575 : decode cX12_init 575 = .ok (.dup, 1) := by decide +kernel
theorem dX12_init_576 : decode cX12_init 576 = .ok (.iconst 2, 1) := by decide +kernel
theorem dX12_init_577 : decode cX12_init 577 = .ok (.bipush 114, 2) := by decide +kernel
theorem dX12_init_579 : decode cX12_init 579 = .ok (.castore, 1) := by decide +kernel
theorem dX12_init_580 : decode cX12_init 580 = .ok (.dup, 1) := by decide +kernel
theorem dX12_init_581 : decode cX12_init 581 = .ok (.iconst 3, 1) := by decide +kernel
theorem dX12_init_582 : decode cX12_init 582 = .ok (.bipush 101, 2) := by decide +kernel
theorem dX12_init_584 : decode cX12_init 584 = .ok (.castore, 1) := by decide +kernel
theorem dX12_init_585 : decode cX12_init 585 = .ok (.putfield 75, 3) := by decide +kernel
theorem dX12_init_588 : decode cX12_init 588 = .ok (.aload_n 0, 1) := by decide +kernel
theorem dX12_init_589 : decode cX12_init 589 = .ok (.iconst 2, 1) := by decide +kernel
theorem dX12_init_590 : decode cX12_init 590 = .ok (.newarray .char, 2) := by decide +kernel
theorem dX12_init_592 : decode cX12_init 592 = .ok (.dup, 1) := by decide +kernel
theorem dX12_init_593 : decode cX12_init 593 = .ok (.iconst 0, 1) := by decide +kernel
theorem dX12_init_594 : decode cX12_init 594 = .ok (.bipush 111, 2) := by decide +kernel
theorem dX12_init_596 : decode cX12_init 596 = .ok (.castore, 1) := by decide +kernel
theorem dX12_init_597 : decode cX12_init 597 = .ok (.dup, 1) := by decide +kernel
theorem dX12_init_598 : decode cX12_init 598 = .ok (.iconst 1, 1) := by decide +kernel
theorem dX12_init_599 : decode cX12_init 599 = .ok (.bipush 114, 2) := by decide +kernel
theorem dX12_init_601 : decode cX12_init 601 = .ok (.castore, 1) := by decide +kernel
theorem dX12_init_602 : decode cX12_init 602 = .ok (.putfield 78, 3) := by decide +kernel
theorem dX12_init_605 : decode cX12_init 605 = .ok (.aload_n 0, 1) := by decide +kernel
theorem dX12_init_606 : decode cX12_init 606 = .ok (.iconst 3, 1) := by decide +kernel
theorem dX12_init_607 : decode cX12_init 607 = .ok (.newarray .char, 2) := by decide +kernel
theorem dX12_init_609 : decode cX12_init 609 = .ok (.dup, 1) := by decide +kernel
theorem dX12_init_610 : decode cX12_init 610 = .ok (.iconst 0, 1) := by decide +kernel
theorem dX12_init_611 : decode cX12_init 611 = .ok (.bipush 97, 2) := by decide +kernel
theorem dX12_init_613 : decode cX12_init 613 = .ok (.castore, 1) := by decide +kernel
theorem dX12_init_614 : decode cX12_init 614 = .ok (.dup, 1) := by decide +kernel
theorem dX12_init_615 : decode cX12_init 615 = .ok (.iconst 1, 1) := by decide +kernel
theorem dX12_init_616 : decode cX12_init 616 = .ok (.bipush 110, 2) := by decide +kernel
theorem dX12_init_618 : decode cX12_init 618 = .ok (.castore, 1) := by decide +kernel
theorem dX12_init_619 : decode cX12_init 619 = .ok (.dup, 1) := by decide +kernel
theorem dX12_init_620 : decode cX12_init 620 = .ok (.iconst 2, 1) := by decide +kernel
theorem dX12_init_621 : decode cX12_init 621 = .ok (.bipush 100, 2) := by decide +kernel
theorem dX12_init_623 : decode cX12_init 623 = .ok (.castore, 1) := by decide +kernel
theorem dX12_init_624 : decode cX12_init 624 = .ok (.putfield 81, 3) := by decide +kernel
theorem dX12_init_627 : decode cX12_init 627 = .ok (.aload_n 0, 1) := by decide +kernel
theorem dX12_init_628 : decode cX12_init 628 = .ok (.iconst 3, 1) := by decide +kernel
theorem dX12_init_629 : decode cX12_init 629 = .ok (.newarray .char, 2) := by decide +kernel
theorem dX12_init_631 : decode cX12_init 631 = .ok (.dup, 1) := by decide +kernel
theorem dX12_init_632 : decode cX12_init 632 = .ok (.iconst 0, 1) := by decide +kernel
theorem dX12_init_633 : decode cX12_init 633 = .ok (.bipush 110, 2) := by decide +kernel
theorem dX12_init_635 : decode cX12_init 635 = .ok (.castore, 1) := by decide +kernel
theorem dX12_init_636 : decode cX12_init 636 = .ok (.dup, 1) := by decide +kernel
theorem dX12_init_637 : decode cX12_init 637 = .ok (.iconst 1, 1) := by decide +kernel
theorem dX12_init_638 : decode cX12_init 638 = .ok (.bipush 111, 2) := by decide +kernel
theorem dX12_init_640 : decode cX12_init 640 = .ok (.castore, 1) := by decide +kernel
theorem dX12_init_641 : decode cX12_init 641 = .ok (.dup, 1) := by decide +kernel
theorem dX12_init_642 : decode cX12_init 642 = .ok (.iconst 2, 1) := by decide +kernel
theorem dX12_init_643 : decode cX12_init 643 = .ok (.bipush 116, 2) := by decide +kernel
theorem dX12_init_645 : decode cX12_init 645 = .ok (.castore, 1) := by decide +kernel
theorem dX12_init_646 : decode cX12_init 646 = .ok (.putfield 84, 3) := by decide +kernel
theorem dX12_init_649 : decode cX12_init 649 = .ok (.aload_n 0, 1) := by decide +kernel
theorem dX12_init_650 : decode cX12_init 650 = .ok (.iconst 3, 1) := by decide +kernel
theorem dX12_init_651 : decode cX12_init 651 = .ok (.newarray .char, 2) := by decide +kernel
theorem dX12_init_653 : decode cX12_init 653 = .ok (.dup, 1) := by decide +kernel
theorem dX12_init_654 : decode cX12_init 654 = .ok (.iconst 0, 1) := by decide +kernel
theorem dX12_init_655 : decode cX12_init 655 = .ok (.bipush 97, 2) := by decide +kernel
theorem dX12_init_657 : decode cX12_init 657 = .ok (.castore, 1) := by decide +kernel
theorem dX12_init_658 : decode cX12_init 658 = .ok (.dup, 1) := by decide +kernel
theorem dX12_init_659 : decode cX12_init 659 = .ok (.iconst 1, 1) := by decide +kernel
theorem dX12_init_660 : decode cX12_init 660 = .ok (.bipush 108, 2) := by decide +kernel
theorem dX12_init_662 : decode cX12_init 662 = .ok (.castore, 1) := by decide +kernel
theorem dX12_init_663 : decode cX12_init 663 = .ok (.dup, 1) := by decide +kernel
theorem dX12_init_664 : decode cX12_init 664 = .ok (.iconst 2, 1) := by decide +kernel
theorem dX12_init_665 : decode cX12_init 665 = .ok (.bipush 108, 2) := by decide +kernel
theorem dX12_init_667 : decode cX12_init 667 = .ok (.castore, 1) := by decide +kernel
theorem dX12_init_668 : decode cX12_init 668 = .ok (.putfield 87, 3) := by decide +kernel
theorem dX12_init_671 : decode cX12_init 671 = .ok (.aload_n 0, 1) := by decide +kernel
theorem dX12_init_672 : decode cX12_init 672 = .ok (.iconst 3, 1) := by decide +kernel
theorem dX12_init_673 : decode cX12_init 673 = .ok (.newarray .char, 2) := by decide +kernel
theorem dX12_init_675 : decode cX12_init 675 = .ok (.dup, 1) := by decide +kernel
theorem dX12_init_676 : decode cX12_init 676 = .ok (.iconst 0, 1) := by decide +kernel
theorem dX12_init_677 : decode cX12_init 677 = .ok (.bipush 109, 2) := by decide +kernel
theorem dX12_init_679 : decode cX12_init 679 = .ok (.castore, 1) := by decide +kernel
theorem dX12_init_680 : decode cX12_init 680 = .ok (.dup, 1) := by decide +kernel
theorem dX12_init_681 : decode cX12_init 681 = .ok (.iconst 1, 1) := by decide +kernel
theorem dX12_init_682 : decode cX12_init 682 = .ok (.bipush 105, 2) := by decide +kernel
theorem dX12_init_684 : decode cX12_init 684 = .ok (.castore, 1) := by decide +kernel
theorem dX12_init_685 : decode cX12_init 685 = .ok (.dup, 1) := by decide +kernel
theorem dX12_init_686 : decode cX12_init 686 = .ok (.iconst 2, 1) := by decide +kernel
theorem dX12_init_687 : decode cX12_init 687 = .ok (.bipush 110, 2) := by decide +kernel
theorem dX12_init_689 : decode cX12_init 689 = .ok (.castore, 1) := by decide +kernel
theorem dX12_init_690 : decode cX12_init 690 = .ok (.putfield 90, 3) := by decide +kernel
theorem dX12_init_693 : decode cX12_init 693 = .ok (.aload_n 0, 1) := by decide +kernel
theorem dX12_init_694 : decode cX12_init 694 = .ok (.iconst 3, 1) := by decide +kernel
theorem dX12_init_695 : decode cX12_init 695 = .ok (.newarray .char, 2) := by decide +kernel
theorem dX12_init_697 : decode cX12_init 697 = .ok (.dup, 1) := by decide +kernel
theorem dX12_init_698 : decode cX12_init 698 = .ok (.iconst 0, 1) := by decide +kernel
theorem dX12_init_699 : decode cX12_init 699 = .ok (.bipush 109, 2) := by decide +kernel
theorem dX12_init_701 : decode cX12_init 701 = .ok (.castore, 1) := by decide +kernel
theorem dX12_init_702 : decode cX12_init 702 = .ok (.dup, 1) := by decide +kernel
theorem dX12_init_703 : decode cX12_init 703 = .ok (.iconst 1, 1) := by decide +kernel
theorem dX12_init_704 : decode cX12_init 704 = .ok (.bipush 97, 2) := by decide +kernel
theorem dX12_init_706 : decode cX12_init 706 = .ok (.castore, 1) := by decide +kernel
theorem dX12_init_707 : decode cX12_init 707 = .ok (.dup, 1) := by decide +kernel
theorem dX12_init_708 : decode cX12_init 708 = .ok (.iconst 2, 1) := by decide +kernel
theorem dX12_init_709 : decode cX12_init 709 = .ok (.bipush 120, 2) := by decide +kernel
theorem dX12_init_711 : decode cX12_init 711 = .ok (.castore, 1) := by decide +kernel
theorem dX12_init_712 : decode cX12_init 712 = .ok (.putfield 93, 3) := by decide +kernel
theorem dX12_init_715 : decode cX12_init 715 = .ok (.aload_n 0, 1) := by decide +kernel
theorem dX12_init_716 : decode cX12_init 716 = .ok (.bipush 6, 2) := by decide +kernel
theorem dX12_init_718 : decode cX12_init 718 = .ok (.newarray .int, 2) := by decide +kernel
theorem dX12_init_720 : decode cX12_init 720 = .ok (.putfield 96, 3) := by decide +kernel
theorem dX12_init_723 : decode cX12_init 723 = .ok (.aload_n 0, 1) := by decide +kernel
theorem dX12_init_724 : decode cX12_init 724 = .ok (.bipush 6, 2) := by decide +kernel
theorem dX12_init_726 : decode cX12_init 726 = .ok (.newarray .int, 2) := by decide +kernel
theorem dX12_init_728 : decode cX12_init 728 = .ok (.putfield 99, 3) := by decide +kernel
theorem dX12_init_731 : decode cX12_init 731 = .ok (.aload_n 0, 1) := by decide +kernel
theorem dX12_init_732 : decode cX12_init 732 = .ok (.bipush 32, 2) := by decide +kernel
theorem dX12_init_734 : decode cX12_init 734 = .ok (.newarray .long, 2) := by decide +kernel
theorem dX12_init_736 : decode cX12_init 736 = .ok (.putfield 102, 3) := by decide +kernel
theorem dX12_init_739 : decode cX12_init 739 = .ok (.aload_n 0, 1) := by decide +kernel
theorem dX12_init_740 : decode cX12_init 740 = .ok (.bipush 48, 2) := by decide +kernel
theorem dX12_init_742 : decode cX12_init 742 = .ok (.newarray .int, 2) := by decide +kernel
theorem dX12_init_744 : decode cX12_init 744 = .ok (.putfield 106, 3) := by decide +kernel
theorem dX12_init_747 : decode cX12_init 747 = .ok (.aload_n 0, 1) := by decide +kernel
theorem dX12_init_748 : decode cX12_init 748 = .ok (.bipush 32, 2) := by decide +kernel
theorem dX12_init_750 : decode cX12_init 750 = .ok (.newarray .int, 2) := by decide +kernel
theorem dX12_init_752 : decode cX12_init 752 = .ok (.putfield 109, 3) := by decide +kernel
theorem dX12_init_755 : decode cX12_init 755 = .ok (.aload_n 0, 1) := by decide +kernel
theorem dX12_init_756 : decode cX12_init 756 = .ok (.bipush 32, 2) := by decide +kernel
theorem dX12_init_758 : decode cX12_init 758 = .ok (.newarray .int, 2) := by decide +kernel
theorem dX12_init_760 : decode cX12_init 760 = .ok (.putfield 112, 3) := by decide +kernel
theorem dX12_init_763 : decode cX12_init 763 = .ok (.aload_n 0, 1) := by decide +kernel
theorem dX12_init_764 : decode cX12_init 764 = .ok (.iconst 4, 1) := by decide +kernel
theorem dX12_init_765 : decode cX12_init 765 = .ok (.newarray .int, 2) := by decide +kernel
theorem dX12_init_767 : decode cX12_init 767 = .ok (.dup, 1) := by decide +kernel
theorem dX12_init_768 : decode cX12_init 768 = .ok (.iconst 0, 1) := by decide +kernel
theorem dX12_init_769 : decode cX12_init 769 = .ok (.iconst (-1), 1) := by decide +kernel
theorem dX12_init_770 : decode cX12_init 770 = .ok (.iastore, 1) := by decide +kernel
theorem dX12_init_771 : decode cX12_init 771 = .ok (.dup, 1) := by decide +kernel
theorem dX12_init_772 : decode cX12_init 772 = .ok (.iconst 1, 1) := by decide +kernel
theorem dX12_init_773 : decode cX12_init 773 = .ok (.iconst (-1), 1) := by decide +kernel
theorem dX12_init_774 : decode cX12_init 774 = .ok (.iastore, 1) := by decide +kernel
theorem dX12_init_775 : decode cX12_init 775 = .ok (.dup, 1) := by decide +kernel
theorem dX12_init_776 : decode cX12_init 776 = .ok (.iconst 2, 1) := by decide +kernel
theorem dX12_init_777 : decode cX12_init 777 = .ok (.iconst (-1), 1) := by decide +kernel
theorem dX12_init_778 : decode cX12_init 778 = .ok (.iastore, 1) := by decide +kernel
theorem dX12_init_779 : decode cX12_init 779 = .ok (.dup, 1) := by decide +kernel
theorem dX12_init_780 : decode cX12_init 780 = .ok (.iconst 3, 1) := by decide +kernel
theorem dX12_init_781 : decode cX12_init 781 = .ok (.iconst (-1), 1) := by decide +kernel
theorem dX12_init_782 : decode cX12_init 782 = .ok (.iastore, 1) := by decide +kernel
theorem dX12_init_783 : decode cX12_init 783 = .ok (.putfield 115, 3) := by decide +kernel
theorem dX12_init_786 : decode cX12_init 786 = .ok (.aload_n 0, 1) := by decide +kernel
theorem dX12_init_787 : decode cX12_init 787 = .ok (.iconst 4, 1) := by decide +kernel
theorem dX12_init_788 : decode cX12_init 788 = .ok (.newarray .int, 2) := by decide +kernel
theorem dX12_init_790 : decode cX12_init 790 = .ok (.putfield 118, 3) := by decide +kernel
theorem dX12_init_793 : decode cX12_init 793 = .ok (.aload_n 0, 1) := by decide +kernel
theorem dX12_init_794 : decode cX12_init 794 = .ok (.sipush 3200, 3) := by decide +kernel
theorem dX12_init_797 : decode cX12_init 797 = .ok (.newarray .int, 2) := by decide +kernel
theorem dX12_init_799 : decode cX12_init 799 = .ok (.putfield 121, 3) := by decide +kernel
theorem dX12_init_802 : decode cX12_init 802 = .ok (.aload_n 0, 1) := by decide +kernel
theorem dX12_init_803 : decode cX12_init 803 = .ok (.sipush 141, 3) := by decide +kernel
theorem dX12_init_806 : decode cX12_init 806 = .ok (.newarray .int, 2) := by decide +kernel
theorem dX12_init_808 : decode cX12_init 808 = .ok (.putfield 124, 3) := by decide +kernel
theorem dX12_init_811 : decode cX12_init 811 = .ok (.aload_n 0, 1) := by decide +kernel
theorem dX12_init_812 : decode cX12_init 812 = .ok (.bipush 48, 2) := by decide +kernel
theorem dX12_init_814 : decode cX12_init 814 = .ok (.newarray .int, 2) := by decide +kernel
theorem dX12_init_816 : decode cX12_init 816 = .ok (.putfield 127, 3) := by decide +kernel
theorem dX12_init_819 : decode cX12_init 819 = .ok (.aload_n 0, 1) := by decide +kernel
theorem dX12_init_820 : decode cX12_init 820 = .ok (.bipush 48, 2) := by decide +kernel
theorem dX12_init_822 : decode cX12_init 822 = .ok (.newarray .boolean, 2) := by decide +kernel
theorem dX12_init_824 : decode cX12_init 824 = .ok (.putfield 130, 3) := by decide +kernel
theorem dX12_init_827 : decode cX12_init 827 = .ok (.aload_n 0, 1) := by decide +kernel
theorem dX12_init_828 : decode cX12_init 828 = .ok (.sipush 2412, 3) := by decide +kernel
theorem dX12_init_831 : decode cX12_init 831 = .ok (.newarray .int, 2) := by decide +kernel
theorem dX12_init_833 : decode cX12_init 833 = .ok (.putfield 134, 3) := by decide +kernel
theorem dX12_init_836 : decode cX12_init 836 = .ok (.aload_n 0, 1) := by decide +kernel
theorem dX12_init_837 : decode cX12_init 837 = .ok (.bipush 6, 2) := by decide +kernel
theorem dX12_init_839 : decode cX12_init 839 = .ok (.newarray .int, 2) := by decide +kernel
theorem dX12_init_841 : decode cX12_init 841 = .ok (.putfield 137, 3) := by decide +kernel
theorem dX12_init_844 : decode cX12_init 844 = .ok (.aload_n 0, 1) := by decide +kernel
theorem dX12_init_845 : decode cX12_init 845 = .ok (.bipush 6, 2) := by decide +kernel
theorem dX12_init_847 : decode cX12_init 847 = .ok (.newarray .int, 2) := by decide +kernel
theorem dX12_init_849 : decode cX12_init 849 = .ok (.putfield 140, 3) := by decide +kernel
theorem dX12_init_852 : decode cX12_init 852 = .ok (.aload_n 0, 1) := by decide +kernel
theorem dX12_init_853 : decode cX12_init 853 = .ok (.bipush 8, 2) := by decide +kernel
theorem dX12_init_855 : decode cX12_init 855 = .ok (.newarray .int, 2) := by decide +kernel
theorem dX12_init_857 : decode cX12_init 857 = .ok (.putfield 143, 3) := by decide +kernel
theorem dX12_init_860 : decode cX12_init 860 = .ok (.aload_n 0, 1) := by decide +kernel
theorem dX12_init_861 : decode cX12_init 861 = .ok (.bipush 48, 2) := by decide +kernel
theorem dX12_init_863 : decode cX12_init 863 = .ok (.newarray .int, 2) := by decide +kernel
theorem dX12_init_865 : decode cX12_init 865 = .ok (.putfield 146, 3) := by decide +kernel
theorem dX12_init_868 : decode cX12_init 868 = .ok (.aload_n 0, 1) := by decide +kernel
theorem dX12_init_869 : decode cX12_init 869 = .ok (.sipush 2820, 3) := by decide +kernel
theorem dX12_init_872 : decode cX12_init 872 = .ok (.newarray .int, 2) := by decide +kernel
theorem dX12_init_874 : decode cX12_init 874 = .ok (.putfield 149, 3) := by decide +kernel
theorem dX12_init_877 : decode cX12_init 877 = .ok (.aload_n 0, 1) := by decide +kernel
theorem dX12_init_878 : decode cX12_init 878 = .ok (.lconst 1, 1) := by decide +kernel
theorem dX12_init_879 : decode cX12_init 879 = .ok (.putfield 152, 3) := by decide +kernel
theorem dX12_init_882 : decode cX12_init 882 = .ok (.aload_n 0, 1) := by decide +kernel
theorem dX12_init_883 : decode cX12_init 883 = .ok (.iconst 5, 1) := by decide +kernel
theorem dX12_init_884 : decode cX12_init 884 = .ok (.newarray .char, 2) := by decide +kernel
theorem dX12_init_886 : decode cX12_init 886 = .ok (.dup, 1) := by decide +kernel
theorem dX12_init_887 : decode cX12_init 887 = .ok (.iconst 0, 1) := by decide +kernel
theorem dX12_init_888 : decode cX12_init 888 = .ok (.bipush 102, 2) := by decide +kernel
theorem dX12_init_890 : decode cX12_init 890 = .ok (.castore, 1) := by decide +kernel
theorem dX12_init_891 : decode cX12_init 891 = .ok (.dup, 1) := by decide +kernel
theorem dX12_init_892 : decode cX12_init 892 = .ok (.iconst 1, 1) := by decide +kernel
theorem dX12_init_893 : decode cX12_init 893 = .ok (.bipush 105, 2) := by decide +kernel
theorem dX12_init_895 : decode cX12_init 895 = .ok (.castore, 1) := by decide +kernel
theorem dX12_init_896 : decode cX12_init 896 = .ok (.dup, 1) := by decide +kernel
theorem dX12_init_897 : decode cX12_init 897 = .ok (.iconst 2, 1) := by decide +kernel
theorem dX12_init_898 : decode cX12_init 898 = .ok (.bipush 114, 2) := by decide +kernel
theorem dX12_init_900 : decode cX12_init 900 = .ok (.castore, 1) := by decide +kernel
theorem dX12_init_901 : decode cX12_init 901 = .ok (.dup, 1) := by decide +kernel
theorem dX12_init_902 : decode cX12_init 902 = .ok (.iconst 3, 1) := by decide +kernel
theorem dX12_init_903 : decode cX12_init 903 = .ok (.bipush 115, 2) := by decide +kernel
theorem dX12_init_905 : decode cX12_init 905 = .ok (.castore, 1) := by decide +kernel
theorem dX12_init_906 : decode cX12_init 906 = .ok (.dup, 1) := by decide +kernel
theorem dX12_init_907 : decode cX12_init 907 = .ok (.iconst 4, 1) := by decide +kernel
theorem dX12_init_908 : decode cX12_init 908 = .ok (.bipush 116, 2) := by decide +kernel
theorem dX12_init_910 : decode cX12_init 910 = .ok (.castore, 1) := by decide +kernel
theorem dX12_init_911 : decode cX12_init 911 = .ok (.putfield 156, 3) := by decide +kernel
theorem dX12_init_914 : decode cX12_init 914 = .ok (.aload_n 0, 1) := by decide +kernel
theorem dX12_init_915 : decode cX12_init 915 = .ok (.iconst 4, 1) := by decide +kernel
theorem dX12_init_916 : decode cX12_init 916 = .ok (.newarray .char, 2) := by decide +kernel
theorem dX12_init_918 : decode cX12_init 918 = .ok (.dup, 1) := by decide +kernel
theorem dX12_init_919 : decode cX12_init 919 = .ok (.iconst 0, 1) := by decide +kernel
theorem dX12_init_920 : decode cX12_init 920 = .ok (.bipush 108, 2) := by decide +kernel
theorem dX12_init_922 : decode cX12_init 922 = .ok (.castore, 1) := by decide +kernel
theorem dX12_init_923 : decode cX12_init 923 = .ok (.dup, 1) := by decide +kernel
theorem dX12_init_924 : decode cX12_init 924 = .ok (.iconst 1, 1) := by decide +kernel
theorem dX12_init_925 : decode cX12_init 925 = .ok (.bipush 97, 2) := by decide +kernel
theorem dX12_init_927 : decode cX12_init 927 = .ok (.castore, 1) := by decide +kernel
theorem dX12_init_928 : decode cX12_init 928 = .ok (.dup, 1) := by decide +kernel
theorem dX12_init_929 : decode cX12_init 929 = .ok (.iconst 2, 1) := by decide +kernel
theorem dX12_init_930 : decode cX12_init 930 = .ok (.bipush 115, 2) := by decide +kernel
theorem dX12_init_932 : decode cX12_init 932 = .ok (.castore, 1) := by decide +kernel
theorem dX12_init_933 : decode cX12_init 933 = .ok (.dup, 1) := by decide +kernel
theorem dX12_init_934 : decode cX12_init 934 = .ok (.iconst 3, 1) := by decide +kernel
theorem dX12_init_935 : decode cX12_init 935 = .ok (.bipush 116, 2) := by decide +kernel
theorem dX12_init_937 : decode cX12_init 937 = .ok (.castore, 1) := by decide +kernel
theorem dX12_init_938 : decode cX12_init 938 = .ok (.putfield 159, 3) := by decide +kernel
theorem dX12_init_941 : decode cX12_init 941 = .ok (.aload_n 0, 1) := by decide +kernel
theorem dX12_init_942 : decode cX12_init 942 = .ok (.iconst 5, 1) := by decide +kernel
theorem dX12_init_943 : decode cX12_init 943 = .ok (.newarray .char, 2) := by decide +kernel
theorem dX12_init_945 : decode cX12_init 945 = .ok (.dup, 1) := by decide +kernel
theorem dX12_init_946 : decode cX12_init 946 = .ok (.iconst 0, 1) := by decide +kernel
theorem dX12_init_947 : decode cX12_init 947 = .ok (.bipush 111, 2) := by decide +kernel
theorem dX12_init_949 : decode cX12_init 949 = .ok (.castore, 1) := by decide +kernel
theorem dX12_init_950 : decode cX12_init 950 = .ok (.dup, 1) := by decide +kernel
theorem dX12_init_951 : decode cX12_init 951 = .ok (.iconst 1, 1) := by decide +kernel
theorem dX12_init_952 : decode cX12_init 952 = .ok (.bipush 102, 2) := by decide +kernel
theorem dX12_init_954 : decode cX12_init 954 = .ok (.castore, 1) := by decide +kernel
theorem dX12_init_955 : decode cX12_init 955 = .ok (.dup, 1) := by decide +kernel
theorem dX12_init_956 : decode cX12_init 956 = .ok (.iconst 2, 1) := by decide +kernel
theorem dX12_init_957 : decode cX12_init 957 = .ok (.bipush 116, 2) := by decide +kernel
theorem dX12_init_959 : decode cX12_init 959 = .ok (.castore, 1) := by decide +kernel
theorem dX12_init_960 : decode cX12_init 960 = .ok (.dup, 1) := by decide +kernel
theorem dX12_init_961 : decode cX12_init 961 = .ok (.iconst 3, 1) := by decide +kernel
theorem dX12_init_962 : decode cX12_init 962 = .ok (.bipush 101, 2) := by decide +kernel
theorem dX12_init_964 : decode cX12_init 964 = .ok (.castore, 1) := by decide +kernel
theorem dX12_init_965 : decode cX12_init 965 = .ok (.dup, 1) := by decide +kernel
theorem dX12_init_966 : decode cX12_init 966 = .ok (.iconst 4, 1) := by decide +kernel
theorem dX12_init_967 : decode cX12_init 967 = .ok (.bipush 110, 2) := by decide +kernel
theorem dX12_init_969 : decode cX12_init 969 = .ok (.castore, 1) := by decide +kernel
theorem dX12_init_970 : decode cX12_init 970 = .ok (.putfield 162, 3) := by decide +kernel
theorem dX12_init_973 : decode cX12_init 973 = .ok (.aload_n 0, 1) := by decide +kernel
theorem dX12_init_974 : decode cX12_init 974 = .ok (.iconst 5, 1) := by decide +kernel
theorem dX12_init_975 : decode cX12_init 975 = .ok (.newarray .char, 2) := by decide +kernel
theorem dX12_init_977 : decode cX12_init 977 = .ok (.dup, 1) := by decide +kernel
theorem dX12_init_978 : decode cX12_init 978 = .ok (.iconst 0, 1) := by decide +kernel
theorem dX12_init_979 : decode cX12_init 979 = .ok (.bipush 116, 2) := by decide +kernel
theorem dX12_init_981 : decode cX12_init 981 = .ok (.castore, 1) := by decide +kernel
theorem dX12_init_982 : decode cX12_init 982 = .ok (.dup, 1) := by decide +kernel
theorem dX12_init_983 : decode cX12_init 983 = .ok (.iconst 1, 1) := by decide +kernel
theorem dX12_init_984 : decode cX12_init 984 = .ok (.bipush 111, 2) := by decide +kernel
theorem dX12_init_986 : decode cX12_init 986 = .ok (.castore, 1) := by decide +kernel
theorem dX12_init_987 : decode cX12_init 987 = .ok (.dup, 1) := by decide +kernel
theorem dX12_init_988 : decode cX12_init 988 = .ok (.iconst 2, 1) := by decide +kernel
theorem dX12_init_989 : decode cX12_init 989 = .ok (.bipush 116, 2) := by decide +kernel
theorem dX12_init_991 : decode cX12_init 991 = .ok (.castore, 1) := by decide +kernel
theorem dX12_init_992 : decode cX12_init 992 = .ok (.dup, 1) := by decide +kernel
theorem dX12_init_993 : decode cX12_init 993 = .ok (.iconst 3, 1) := by decide +kernel
theorem dX12_init_994 : decode cX12_init 994 = .ok (.bipush 97, 2) := by decide +kernel
theorem dX12_init_996 : decode cX12_init 996 = .ok (.castore, 1) := by decide +kernel
theorem dX12_init_997 : decode cX12_init 997 = .ok (.dup, 1) := by decide +kernel
theorem dX12_init_998 : decode cX12_init 998 = .ok (.iconst 4, 1) := by decide +kernel
theorem dX12_init_999 : decode cX12_init 999 = .ok (.bipush 108, 2) := by decide +kernel
theorem dX12_init_1001 : decode cX12_init 1001 = .ok (.castore, 1) := by decide +kernel
theorem dX12_init_1002 : decode cX12_init 1002 = .ok (.putfield 165, 3) := by decide +kernel
theorem dX12_init_1005 : decode cX12_init 1005 = .ok (.aload_n 0, 1) := by decide +kernel
theorem dX12_init_1006 : decode cX12_init 1006 = .ok (.iconst 4, 1) := by decide +kernel
theorem dX12_init_1007 : decode cX12_init 1007 = .ok (.newarray .char, 2) := by decide +kernel
theorem dX12_init_1009 : decode cX12_init 1009 = .ok (.dup, 1) := by decide +kernel
theorem dX12_init_1010 : decode cX12_init 1010 = .ok (.iconst 0, 1) := by decide +kernel
theorem dX12_init_1011 : decode cX12_init 1011 = .ok (.bipush 109, 2) := by decide +kernel
theorem dX12_init_1013 : decode cX12_init 1013 = .ok (.castore, 1) := by decide +kernel
theorem dX12_init_1014 : decode cX12_init 1014 = .ok (.dup, 1) := by decide +kernel
theorem dX12_init_1015 : decode cX12_init 1015 = .ok (.iconst 1, 1) := by decide +kernel
theorem dX12_init_1016 : decode cX12_init 1016 = .ok (.bipush 111, 2) := by decide +kernel
theorem dX12_init_1018 : decode cX12_init 1018 = .ok (.castore, 1) := by decide +kernel
theorem dX12_init_1019 : decode cX12_init 1019 = .ok (.dup, 1) := by decide +kernel
theorem dX12_init_1020 : decode cX12_init 1020 = .ok (.iconst 2, 1) := by decide +kernel
theorem dX12_init_1021 : decode cX12_init 1021 = .ok (.bipush 115, 2) := by decide +kernel
theorem dX12_init_1023 : decode cX12_init 1023 = .ok (.castore, 1) := by decide +kernel
theorem dX12_init_1024 : decode cX12_init 1024 = .ok (.dup, 1) := by decide +kernel
theorem dX12_init_1025 : decode cX12_init 1025 = .ok (.iconst 3, 1) := by decide +kernel
theorem dX12_init_1026 : decode cX12_init 1026 = .ok (.bipush 116, 2) := by decide +kernel
theorem dX12_init_1028 : decode cX12_init 1028 = .ok (.castore, 1) := by decide +kernel
theorem dX12_init_1029 : decode cX12_init 1029 = .ok (.putfield 168, 3) := by decide +kernel
theorem dX12_init_1032 : decode cX12_init 1032 = .ok (.aload_n 0, 1) := by decide +kernel
theorem dX12_init_1033 : decode cX12_init 1033 = .ok (.iconst 5, 1) := by decide +kernel
theorem dX12_init_1034 : decode cX12_init 1034 = .ok (.newarray .char, 2) := by decide +kernel
theorem dX12_init_1036 : decode cX12_init 1036 = .ok (.dup, 1) := by decide +kernel
theorem dX12_init_1037 : decode cX12_init 1037 = .ok (.iconst 0, 1) := by decide +kernel
theorem dX12_init_1038 : decode cX12_init 1038 = .ok (.bipush 108, 2) := by decide +kernel
theorem dX12_init_1040 : decode cX12_init 1040 = .ok (.castore, 1) := by decide +kernel
theorem dX12_init_1041 : decode cX12_init 1041 = .ok (.dup, 1) := by decide +kernel
theorem dX12_init_1042 : decode cX12_init 1042 = .ok (.iconst 1, 1) := by decide +kernel
theorem dX12_init_1043 : decode cX12_init 1043 = .ok (.bipush 101, 2) := by decide +kernel
theorem dX12_init_1045 : decode cX12_init 1045 = .ok (.castore, 1) := by decide +kernel
theorem dX12_init_1046 : decode cX12_init 1046 = .ok (.dup, 1) := by decide +kernel
theorem dX12_init_1047 : decode cX12_init 1047 = .ok (.iconst 2, 1) := by decide +kernel
theorem dX12_init_1048 : decode cX12_init 1048 = .ok (.bipush 97, 2) := by decide +kernel
theorem dX12_init_1050 : decode cX12_init 1050 = .ok (.castore, 1) := by decide +kernel
theorem dX12_init_1051 : decode cX12_init 1051 = .ok (.dup, 1) := by decide +kernel
theorem dX12_init_1052 : decode cX12_init 1052 = .ok (.iconst 3, 1) := by decide +kernel
theorem dX12_init_1053 : decode cX12_init 1053 = .ok (.bipush 115, 2) := by decide +kernel
theorem dX12_init_1055 : decode cX12_init 1055 = .ok (.castore, 1) := by decide +kernel
theorem dX12_init_1056 : decode cX12_init 1056 = .ok (.dup, 1) := by decide +kernel
theorem dX12_init_1057 : decode cX12_init 1057 = .ok (.iconst 4, 1) := by decide +kernel
theorem dX12_init_1058 : decode cX12_init 1058 = .ok (.bipush 116, 2) := by decide +kernel
theorem dX12_init_1060 : decode cX12_init 1060 = .ok (.castore, 1) := by decide +kernel
theorem dX12_init_1061 : decode cX12_init 1061 = .ok (.putfield 171, 3) := by decide +kernel
theorem dX12_init_1064 : decode cX12_init 1064 = .ok (.aload_n 0, 1) := by decide +kernel
theorem dX12_init_1065 : decode cX12_init 1065 = .ok (.iconst 3, 1) := by decide +kernel
theorem dX12_init_1066 : decode cX12_init 1066 = .ok (.newarray .char, 2) := by decide +kernel
theorem dX12_init_1068 : decode cX12_init 1068 = .ok (.dup, 1) := by decide +kernel
theorem dX12_init_1069 : decode cX12_init 1069 = .ok (.iconst 0, 1) := by decide +kernel
theorem dX12_init_1070 : decode cX12_init 1070 = .ok (.bipush 110, 2) := by decide +kernel
theorem dX12_init_1072 : decode cX12_init 1072 = .ok (.castore, 1) := by decide +kernel
theorem dX12_init_1073 : decode cX12_init 1073 = .ok (.dup, 1) := by decide +kernel
theorem dX12_init_1074 : decode cX12_init 1074 = .ok (.iconst 1, 1) := by decide +kernel
theorem dX12_init_1075 : decode cX12_init 1075 = .ok (.bipush 111, 2) := by decide +kernel
theorem dX12_init_1077 : decode cX12_init 1077 = .ok (.castore, 1) := by decide +kernel
theorem dX12_init_1078 : decode cX12_init 1078 = .ok (.dup, 1) := by decide +kernel
theorem dX12_init_1079 : decode cX12_init 1079 = .ok (.iconst 2, 1) := by decide +kernel
theorem dX12_init_1080 : decode cX12_init 1080 = .ok (.bipush 116, 2) := by decide +kernel
theorem dX12_init_1082 : decode cX12_init 1082 = .ok (.castore, 1) := by decide +kernel
theorem dX12_init_1083 : decode cX12_init 1083 = .ok (.putfield 174, 3) := by decide +kernel
theorem dX12_init_1086 : decode cX12_init 1086 = .ok (.aload_n 0, 1) := by decide +kernel
theorem dX12_init_1087 : decode cX12_init 1087 = .ok (.iconst 3, 1) := by decide +kernel
theorem dX12_init_1088 : decode cX12_init 1088 = .ok (.newarray .char, 2) := by decide +kernel
theorem dX12_init_1090 : decode cX12_init 1090 = .ok (.dup, 1) := by decide +kernel
theorem dX12_init_1091 : decode cX12_init 1091 = .ok (.iconst 0, 1) := by decide +kernel
theorem dX12_init_1092 : decode cX12_init 1092 = .ok (.bipush 97, 2) := by decide +kernel
theorem dX12_init_1094 : decode cX12_init 1094 = .ok (.castore, 1) := by decide +kernel
theorem dX12_init_1095 : decode cX12_init 1095 = .ok (.dup, 1) := by decide +kernel
theorem dX12_init_1096 : decode cX12_init 1096 = .ok (.iconst 1, 1) := by decide +kernel
theorem dX12_init_1097 : decode cX12_init 1097 = .ok (.bipush 110, 2) := by decide +kernel
theorem dX12_init_1099 : decode cX12_init 1099 = .ok (.castore, 1) := by decide +kernel
theorem dX12_init_1100 : decode cX12_init 1100 = .ok (.dup, 1) := by decide +kernel
theorem dX12_init_1101 : decode cX12_init 1101 = .ok (.iconst 2, 1) := by decide +kernel
theorem dX12_init_1102 : decode cX12_init 1102 = .ok (.bipush 100, 2) := by decide +kernel
theorem dX12_init_1104 : decode cX12_init 1104 = .ok (.castore, 1) := by decide +kernel
theorem dX12_init_1105 : decode cX12_init 1105 = .ok (.putfield 177, 3) := by decide +kernel
theorem dX12_init_1108 : decode cX12_init 1108 = .ok (.aload_n 0, 1) := by decide +kernel
theorem dX12_init_1109 : decode cX12_init 1109 = .ok (.iconst 2, 1) := by decide +kernel
theorem dX12_init_1110 : decode cX12_init 1110 = .ok (.newarray .char, 2) := by decide +kernel
theorem dX12_init_1112 : decode cX12_init 1112 = .ok (.dup, 1) := by decide +kernel
theorem dX12_init_1113 : decode cX12_init 1113 = .ok (.iconst 0, 1) := by decide +kernel
theorem dX12_init_1114 : decode cX12_init 1114 = .ok (.bipush 111, 2) := by decide +kernel
theorem dX12_init_1116 : decode cX12_init 1116 = .ok (.castore, 1) := by decide +kernel
theorem dX12_init_1117 : decode cX12_init 1117 = .ok (.dup, 1) := by decide +kernel
theorem dX12_init_1118 : decode cX12_init 1118 = .ok (.iconst 1, 1) := by decide +kernel
theorem dX12_init_1119 : decode cX12_init 1119 = .ok (.bipush 114, 2) := by decide +kernel
theorem dX12_init_1121 : decode cX12_init 1121 = .ok (.castore, 1) := by decide +kernel
theorem dX12_init_1122 : decode cX12_init 1122 = .ok (.putfield 180, 3) := by decide +kernel
theorem dX12_init_1125 : decode cX12_init 1125 = .ok (.aload_n 0, 1) := by decide +kernel
theorem dX12_init_1126 : decode cX12_init 1126 = .ok (.iconst 3, 1) := by decide +kernel
theorem dX12_init_1127 : decode cX12_init 1127 = .ok (.newarray .char, 2) := by decide +kernel
theorem dX12_init_1129 : decode cX12_init 1129 = .ok (.dup, 1) := by decide +kernel
theorem dX12_init_1130 : decode cX12_init 1130 = .ok (.iconst 0, 1) := by decide +kernel
theorem dX12_init_1131 : decode cX12_init 1131 = .ok (.bipush 97, 2) := by decide +kernel
theorem dX12_init_1133 : decode cX12_init 1133 = .ok (.castore, 1) := by decide +kernel
theorem dX12_init_1134 : decode cX12_init 1134 = .ok (.dup, 1) := by decide +kernel
theorem dX12_init_1135 : decode cX12_init 1135 = .ok (.iconst 1, 1) := by decide +kernel
theorem dX12_init_1136 : decode cX12_init 1136 = .ok (.bipush 108, 2) := by decide +kernel
theorem dX12_init_1138 : decode cX12_init 1138 = .ok (.castore, 1) := by decide +kernel
theorem dX12_init_1139 : decode cX12_init 1139 = .ok (.dup, 1) := by decide +kernel
theorem dX12_init_1140 : decode cX12_init 1140 = .ok (.iconst 2, 1) := by decide +kernel
theorem dX12_init_1141 : decode cX12_init 1141 = .ok (.bipush 108, 2) := by decide +kernel
theorem dX12_init_1143 : decode cX12_init 1143 = .ok (.castore, 1) := by decide +kernel
theorem dX12_init_1144 : decode cX12_init 1144 = .ok (.putfield 183, 3) := by decide +kernel
theorem dX12_init_1147 : decode cX12_init 1147 = .ok (.aload_n 0, 1) := by decide +kernel
theorem dX12_init_1148 : decode cX12_init 1148 = .ok (.iconst 3, 1) := by decide +kernel
theorem dX12_init_1149 : decode cX12_init 1149 = .ok (.newarray .char, 2) := by decide +kernel
theorem dX12_init_1151 : decode cX12_init 1151 = .ok (.dup, 1) := by decide +kernel
theorem dX12_init_1152 : decode cX12_init 1152 = .ok (.iconst 0, 1) := by decide +kernel
theorem dX12_init_1153 : decode cX12_init 1153 = .ok (.bipush 109, 2) := by decide +kernel
theorem dX12_init_1155 : decode cX12_init 1155 = .ok (.castore, 1) := by decide +kernel
theorem dX12_init_1156 : decode cX12_init 1156 = .ok (.dup, 1) := by decide +kernel
theorem dX12_init_1157 : decode cX12_init 1157 = .ok (.iconst 1, 1) := by decide +kernel
theorem dX12_init_1158 : decode cX12_init 1158 = .ok (.bipush 105, 2) := by decide +kernel
theorem dX12_init_1160 : decode cX12_init 1160 = .ok (.castore, 1) := by decide +kernel
theorem dX12_init_1161 : decode cX12_init 1161 = .ok (.dup, 1) := by decide +kernel
theorem dX12_init_1162 : decode cX12_init 1162 = .ok (.iconst 2, 1) := by decide +kernel
theorem dX12_init_1163 : decode cX12_init 1163 = .ok (.bipush 110, 2) := by decide +kernel
theorem dX12_init_1165 : decode cX12_init 1165 = .ok (.castore, 1) := by decide +kernel
theorem dX12_init_1166 : decode cX12_init 1166 = .ok (.putfield 186, 3) := by decide +kernel
theorem dX12_init_1169 : decode cX12_init 1169 = .ok (.aload_n 0, 1) := by decide +kernel
theorem dX12_init_1170 : decode cX12_init 1170 = .ok (.iconst 3, 1) := by decide +kernel
theorem dX12_init_1171 : decode cX12_init 1171 = .ok (.newarray .char, 2) := by decide +kernel
theorem dX12_init_1173 : decode cX12_init 1173 = .ok (.dup, 1) := by decide +kernel
theorem dX12_init_1174 : decode cX12_init 1174 = .ok (.iconst 0, 1) := by decide +kernel
theorem dX12_init_1175 : decode cX12_init 1175 = .ok (.bipush 109, 2) := by decide +kernel
theorem dX12_init_1177 : decode cX12_init 1177 = .ok (.castore, 1) := by decide +kernel
theorem dX12_init_1178 : decode cX12_init 1178 = .ok (.dup, 1) := by decide +kernel
theorem dX12_init_1179 : decode cX12_init 1179 = .ok (.iconst 1, 1) := by decide +kernel
theorem dX12_init_1180 : decode cX12_init 1180 = .ok (.bipush 97, 2) := by decide +kernel
theorem dX12_init_1182 : decode cX12_init 1182 = .ok (.castore, 1) := by decide +kernel
theorem dX12_init_1183 : decode cX12_init 1183 = .ok (.dup, 1) := by decide +kernel
theorem dX12_init_1184 : decode cX12_init 1184 = .ok (.iconst 2, 1) := by decide +kernel
theorem dX12_init_1185 : decode cX12_init 1185 = .ok (.bipush 120, 2) := by decide +kernel
theorem dX12_init_1187 : decode cX12_init 1187 = .ok (.castore, 1) := by decide +kernel
theorem dX12_init_1188 : decode cX12_init 1188 = .ok (.putfield 189, 3) := by decide +kernel
theorem dX12_init_1191 : decode cX12_init 1191 = .ok (.aload_n 0, 1) := by decide +kernel
theorem dX12_init_1192 : decode cX12_init 1192 = .ok (.iconst 5, 1) := by decide +kernel
theorem dX12_init_1193 : decode cX12_init 1193 = .ok (.newarray .char, 2) := by decide +kernel
theorem dX12_init_1195 : decode cX12_init 1195 = .ok (.dup, 1) := by decide +kernel
theorem dX12_init_1196 : decode cX12_init 1196 = .ok (.iconst 0, 1) := by decide +kernel
theorem dX12_init_1197 : decode cX12_init 1197 = .ok (.bipush 119, 2) := by decide +kernel
theorem dX12_init_1199 : decode cX12_init 1199 = .ok (.castore, 1) := by decide +kernel
theorem dX12_init_1200 : decode cX12_init 1200 = .ok (.dup, 1) := by decide +kernel
theorem dX12_init_1201 : decode cX12_init 1201 = .ok (.iconst 1, 1) := by decide +kernel
theorem dX12_init_1202 : decode cX12_init 1202 = .ok (.bipush 105, 2) := by decide +kernel
theorem dX12_init_1204 : decode cX12_init 1204 = .ok (.castore, 1) := by decide +kernel
theorem dX12_init_1205 : decode cX12_init 1205 = .ok (.dup, 1) := by decide +kernel
theorem dX12_init_1206 : decode cX12_init 1206 = .ok (.iconst 2, 1) := by decide +kernel
theorem dX12_init_1207 : decode cX12_init 1207 = .ok (.bipush 100, 2) := by decide +kernel
theorem dX12_init_1209 : decode cX12_init 1209 = .ok (.castore, 1) := by decide +kernel
theorem dX12_init_1210 : decode cX12_init 1210 = .ok (.dup, 1) := by decide +kernel
theorem dX12_init_1211 : decode cX12_init 1211 = .ok (.iconst 3, 1) := by decide +kernel
theorem dX12_init_1212 : decode cX12_init 1212 = .ok (.bipush 116, 2) := by decide +kernel
theorem dX12_init_1214 : decode cX12_init 1214 = .ok (.castore, 1) := by decide +kernel
theorem dX12_init_1215 : decode cX12_init 1215 = .ok (.dup, 1) := by decide +kernel
theorem dX12_init_1216 : decode cX12_init 1216 = .ok (.iconst 4, 1) := by decide +kernel
theorem dX12_init_1217 : decode cX12_init 1217 = .ok (.bipush 104, 2) := by decide +kernel
theorem dX12_init_1219 : decode cX12_init 1219 = .ok (.castore, 1) := by decide +kernel
theorem dX12_init_1220 : decode cX12_init 1220 = .ok (.putfield 192, 3) := by decide +kernel
theorem dX12_init_1223 : decode cX12_init 1223 = .ok (.aload_n 0, 1) := by decide +kernel
theorem dX12_init_1224 : decode cX12_init 1224 = .ok (.iconst 4, 1) := by decide +kernel
theorem dX12_init_1225 : decode cX12_init 1225 = .ok (.newarray .char, 2) := by decide +kernel
theorem dX12_init_1227 : decode cX12_init 1227 = .ok (.dup, 1) := by decide +kernel
theorem dX12_init_1228 : decode cX12_init 1228 = .ok (.iconst 0, 1) := by decide +kernel
theorem dX12_init_1229 : decode cX12_init 1229 = .ok (.bipush 104, 2) := by decide +kernel
theorem dX12_init_1231 : decode cX12_init 1231 = .ok (.castore, 1) := by decide +kernel
theorem dX12_init_1232 : decode cX12_init 1232 = .ok (.dup, 1) := by decide +kernel
theorem dX12_init_1233 : decode cX12_init 1233 = .ok (.iconst 1, 1) := by decide +kernel
theorem dX12_init_1234 : decode cX12_init 1234 = .ok (.bipush 111, 2) := by decide +kernel
theorem dX12_init_1236 : decode cX12_init 1236 = .ok (.castore, 1) := by decide +kernel
theorem dX12_init_1237 : decode cX12_init 1237 = .ok (.dup, 1) := by decide +kernel
theorem dX12_init_1238 : decode cX12_init 1238 = .ok (.iconst 2, 1) := by decide +kernel
theorem dX12_init_1239 : decode cX12_init 1239 = .ok (.bipush 108, 2) := by decide +kernel
theorem dX12_init_1241 : decode cX12_init 1241 = .ok (.castore, 1) := by decide +kernel
theorem dX12_init_1242 : decode cX12_init 1242 = .ok (.dup, 1) := by decide +kernel
theorem dX12_init_1243 : decode cX12_init 1243 = .ok (.iconst 3, 1) := by decide +kernel
theorem dX12_init_1244 : decode cX12_init 1244 = .ok (.bipush 101, 2) := by decide +kernel
theorem dX12_init_1246 : decode cX12_init 1246 = .ok (.castore, 1) := by decide +kernel
theorem dX12_init_1247 : decode cX12_init 1247 = .ok (.putfield 195, 3) := by decide +kernel
theorem dX12_init_1250 : decode cX12_init 1250 = .ok (.aload_n 0, 1) := by decide +kernel
theorem dX12_init_1251 : decode cX12_init 1251 = .ok (.iconst 4, 1) := by decide +kernel
theorem dX12_init_1252 : decode cX12_init 1252 = .ok (.newarray .char, 2) := by decide +kernel
theorem dX12_init_1254 : decode cX12_init 1254 = .ok (.dup, 1) := by decide +kernel
theorem dX12_init_1255 : decode cX12_init 1255 = .ok (.iconst 0, 1) := by decide +kernel
theorem dX12_init_1256 : decode cX12_init 1256 = .ok (.bipush 116, 2) := by decide +kernel
theorem dX12_init_1258 : decode cX12_init 1258 = .ok (.castore, 1) := by decide +kernel
theorem dX12_init_1259 : decode cX12_init 1259 = .ok (.dup, 1) := by decide +kernel
theorem dX12_init_1260 : decode cX12_init 1260 = .ok (.iconst 1, 1) := by decide +kernel
theorem dX12_init_1261 : decode cX12_init 1261 = .ok (.bipush 117, 2) := by decide +kernel
theorem dX12_init_1263 : decode cX12_init 1263 = .ok (.castore, 1) := by decide +kernel
theorem dX12_init_1264 : decode cX12_init 1264 = .ok (.dup, 1) := by decide +kernel
theorem dX12_init_1265 : decode cX12_init 1265 = .ok (.iconst 2, 1) := by decide +kernel
theorem dX12_init_1266 : decode cX12_init 1266 = .ok (.bipush 114, 2) := by decide +kernel
theorem dX12_init_1268 : decode cX12_init 1268 = .ok (.castore, 1) := by decide +kernel
theorem dX12_init_1269 : decode cX12_init 1269 = .ok (.dup, 1) := by decide +kernel
theorem dX12_init_1270 : decode cX12_init 1270 = .ok (.iconst 3, 1) := by decide +kernel
theorem dX12_init_1271 : decode cX12_init 1271 = .ok (.bipush 110, 2) := by decide +kernel
theorem dX12_init_1273 : decode cX12_init 1273 = .ok (.castore, 1) := by decide +kernel
theorem dX12_init_1274 : decode cX12_init 1274 = .ok (.putfield 198, 3) := by decide +kernel
theorem dX12_init_1277 : decode cX12_init 1277 = .ok (.aload_n 0, 1) := by decide +kernel
theorem dX12_init_1278 : decode cX12_init 1278 = .ok (.bipush 6, 2) := by decide +kernel
theorem dX12_init_1280 : decode cX12_init 1280 = .ok (.newarray .char, 2) := by decide +kernel
theorem dX12_init_1282 : decode cX12_init 1282 = .ok (.dup, 1) := by decide +kernel
theorem dX12_init_1283 : decode cX12_init 1283 = .ok (.iconst 0, 1) := by decide +kernel
theorem dX12_init_1284 : decode cX12_init 1284 = .ok (.bipush 109, 2) := by decide +kernel
theorem dX12_init_1286 : decode cX12_init 1286 = .ok (.castore, 1) := by decide +kernel
theorem dX12_init_1287 : decode cX12_init 1287 = .ok (.dup, 1) := by decide +kernel
theorem dX12_init_1288 : decode cX12_init 1288 = .ok (.iconst 1, 1) := by decide +kernel
theorem dX12_init_1289 : decode cX12_init 1289 = .ok (.bipush 105, 2) := by decide +kernel
theorem dX12_init_1291 : decode cX12_init 1291 = .ok (.castore, 1) := by decide +kernel
theorem dX12_init_1292 : decode cX12_init 1292 = .ok (.dup, 1) := by decide +kernel
theorem dX12_init_1293 : decode cX12_init 1293 = .ok (.iconst 2, 1) := by decide +kernel
theorem dX12_init_1294 : decode cX12_init 1294 = .ok (.bipush 110, 2) := by decide +kernel
theorem dX12_init_1296 : decode cX12_init 1296 = .ok (.castore, 1) := by decide +kernel
theorem dX12_init_1297 : decode cX12_init 1297 = .ok (.dup, 1) := by decide +kernel
theorem dX12_init_1298 : decode cX12_init 1298 = .ok (.iconst 3, 1) := by decide +kernel
theorem dX12_init_1299 : decode cX12_init 1299 = .ok (.bipush 117, 2) := by decide +kernel
theorem dX12_init_1301 : decode cX12_init 1301 = .ok (.castore, 1) := by decide +kernel
theorem dX12_init_1302 : decode cX12_init 1302 = .ok (.dup, 1) := by decide +kernel
theorem dX12_init_1303 : decode cX12_init 1303 = .ok (.iconst 4, 1) := by decide +kernel
theorem dX12_init_1304 : decode cX12_init 1304 = .ok (.bipush 116, 2) := by decide +kernel
theorem dX12_init_1306 : decode cX12_init 1306 = .ok (.castore, 1) := by decide +kernel
theorem dX12_init_1307 : decode cX12_init 1307 = .ok (.dup, 1) := by decide +kernel
theorem dX12_init_1308 : decode cX12_init 1308 = .ok (.iconst 5, 1) := by decide +kernel
theorem dX12_init_1309 : decode cX12_init 1309 = .ok (.bipush 101, 2) := by decide +kernel
theorem dX12_init_1311 : decode cX12_init 1311 = .ok (.castore, 1) := by decide +kernel
theorem dX12_init_1312 : decode cX12_init 1312 = .ok (.putfield 201, 3) := by decide +kernel
theorem dX12_init_1315 : decode cX12_init 1315 = .ok (.aload_n 0, 1) := by decide +kernel
theorem dX12_init_1316 : decode cX12_init 1316 = .ok (.iconst 4, 1) := by decide +kernel
theorem dX12_init_1317 : decode cX12_init 1317 = .ok (.newarray .char, 2) := by decide +kernel
theorem dX12_init_1319 : decode cX12_init 1319 = .ok (.dup, 1) := by decide +kernel
theorem dX12_init_1320 : decode cX12_init 1320 = .ok (.iconst 0, 1) := by decide +kernel
theorem dX12_init_1321 : decode cX12_init 1321 = .ok (.bipush 108, 2) := by decide +kernel
theorem dX12_init_1323 : decode cX12_init 1323 = .ok (.castore, 1) := by decide +kernel
theorem dX12_init_1324 : decode cX12_init 1324 = .ok (.dup, 1) := by decide +kernel
theorem dX12_init_1325 : decode cX12_init 1325 = .ok (.iconst 1, 1) := by decide +kernel
theorem dX12_init_1326 : decode cX12_init 1326 = .ok (.bipush 111, 2) := by decide +kernel
theorem dX12_init_1328 : decode cX12_init 1328 = .ok (.castore, 1) := by decide +kernel
theorem dX12_init_1329 : decode cX12_init 1329 = .ok (.dup, 1) := by decide +kernel
theorem dX12_init_1330 : decode cX12_init 1330 = .ok (.iconst 2, 1) := by decide +kernel
theorem dX12_init_1331 : decode cX12_init 1331 = .ok (.bipush 110, 2) := by decide +kernel
theorem dX12_init_1333 : decode cX12_init 1333 = .ok (.castore, 1) := by decide +kernel
theorem dX12_init_1334 : decode cX12_init 1334 = .ok (.dup, 1) := by decide +kernel
theorem dX12_init_1335 : decode cX12_init 1335 = .ok (.iconst 3, 1) := by decide +kernel
theorem dX12_init_1336 : decode cX12_init 1336 = .ok (.bipush 103, 2) := by decide +kernel
theorem dX12_init_1338 : decode cX12_init 1338 = .ok (.castore, 1) := by decide +kernel
theorem dX12_init_1339 : decode cX12_init 1339 = .ok (.putfield 204, 3) := by decide +kernel
theorem dX12_init_1342 : decode cX12_init 1342 = .ok (.aload_n 0, 1) := by decide +kernel
theorem dX12_init_1343 : decode cX12_init 1343 = .ok (.iconst 5, 1) := by decide +kernel
theorem dX12_init_1344 : decode cX12_init 1344 = .ok (.newarray .char, 2) := by decide +kernel
theorem dX12_init_1346 : decode cX12_init 1346 = .ok (.dup, 1) := by decide +kernel
theorem dX12_init_1347 : decode cX12_init 1347 = .ok (.iconst 0, 1) := by decide +kernel
theorem dX12_init_1348 : decode cX12_init 1348 = .ok (.bipush 112, 2) := by decide +kernel
theorem dX12_init_1350 : decode cX12_init 1350 = .ok (.castore, 1) := by decide +kernel
theorem dX12_init_1351 : decode cX12_init 1351 = .ok (.dup, 1) := by decide +kernel
theorem dX12_init_1352 : decode cX12_init 1352 = .ok (.iconst 1, 1) := by decide +kernel
theorem dX12_init_1353 : decode cX12_init 1353 = .ok (.bipush 114, 2) := by decide +kernel
theorem dX12_init_1355 : decode cX12_init 1355 = .ok (.castore, 1) := by decide +kernel
theorem dX12_init_1356 : decode cX12_init 1356 = .ok (.dup, 1) := by decide +kernel
theorem dX12_init_1357 : decode cX12_init 1357 = .ok (.iconst 2, 1) := by decide +kernel
theorem dX12_init_1358 : decode cX12_init 1358 = .ok (.bipush 105, 2) := by decide +kernel
theorem dX12_init_1360 : decode cX12_init 1360 = .ok (.castore, 1) := by decide +kernel
theorem dX12_init_1361 : decode cX12_init 1361 = .ok (.dup, 1) := by decide +kernel
theorem dX12_init_1362 : decode cX12_init 1362 = .ok (.iconst 3, 1) := by decide +kernel
theorem dX12_init_1363 : decode cX12_init 1363 = .ok (.bipush 99, 2) := by decide +kernel
theorem dX12_init_1365 : decode cX12_init 1365 = .ok (.castore, 1) := by decide +kernel
theorem dX12_init_1366 : decode cX12_init 1366 = .ok (.dup, 1) := by decide +kernel
theorem dX12_init_1367 : decode cX12_init 1367 = .ok (.iconst 4, 1) := by decide +kernel
theorem dX12_init_1368 : decode cX12_init 1368 = .ok (.bipush 101, 2) := by decide +kernel
theorem dX12_init_1370 : decode cX12_init 1370 = .ok (.castore, 1) := by decide +kernel
theorem dX12_init_1371 : decode cX12_init 1371 = .ok (.putfield 207, 3) := by decide +kernel
theorem dX12_init_1374 : decode cX12_init 1374 = .ok (.aload_n 0, 1) := by decide +kernel
theorem dX12_init_1375 : decode cX12_init 1375 = .ok (.bipush 6, 2) := by decide +kernel
theorem dX12_init_1377 : decode cX12_init 1377 = .ok (.newarray .char, 2) := by decide +kernel
theorem dX12_init_1379 : decode cX12_init 1379 = .ok (.dup, 1) := by decide +kernel
theorem dX12_init_1380 : decode cX12_init 1380 = .ok (.iconst 0, 1) := by decide +kernel
theorem dX12_init_1381 : decode cX12_init 1381 = .ok (.bipush 110, 2) := by decide +kernel
theorem dX12_init_1383 : decode cX12_init 1383 = .ok (.castore, 1) := by decide +kernel
theorem dX12_init_1384 : decode cX12_init 1384 = .ok (.dup, 1) := by decide +kernel
theorem dX12_init_1385 : decode cX12_init 1385 = .ok (.iconst 1, 1) := by decide +kernel
theorem dX12_init_1386 : decode cX12_init 1386 = .ok (.bipush 117, 2) := by decide +kernel
theorem dX12_init_1388 : decode cX12_init 1388 = .ok (.castore, 1) := by decide +kernel
theorem dX12_init_1389 : decode cX12_init 1389 = .ok (.dup, 1) := by decide +kernel
theorem dX12_init_1390 : decode cX12_init 1390 = .ok (.iconst 2, 1) := by decide +kernel
theorem dX12_init_1391 : decode cX12_init 1391 = .ok (.bipush 109, 2) := by decide +kernel
theorem dX12_init_1393 : decode cX12_init 1393 = .ok (.castore, 1) := by decide +kernel
theorem dX12_init_1394 : decode cX12_init 1394 = .ok (.dup, 1) := by decide +kernel
theorem dX12_init_1395 : decode cX12_init 1395 = .ok (.iconst 3, 1) := by decide +kernel
theorem dX12_init_1396 : decode cX12_init 1396 = .ok (.bipush 98, 2) := by decide +kernel
theorem dX12_init_1398 : decode cX12_init 1398 = .ok (.castore, 1) := by decide +kernel
theorem dX12_init_1399 : decode cX12_init 1399 = .ok (.dup, 1) := by decide +kernel
theorem dX12_init_1400 : decode cX12_init 1400 = .ok (.iconst 4, 1) := by decide +kernel
theorem dX12_init_1401 : decode cX12_init 1401 = .ok (.bipush 101, 2) := by decide +kernel
theorem dX12_init_1403 : decode cX12_init 1403 = .ok (.castore, 1) := by decide +kernel
theorem dX12_init_1404 : decode cX12_init 1404 = .ok (.dup, 1) := by decide +kernel
theorem dX12_init_1405 : decode cX12_init 1405 = .ok (.iconst 5, 1) := by decide +kernel
theorem dX12_init_1406 : decode cX12_init 1406 = .ok (.bipush 114, 2) := by decide +kernel
theorem dX12_init_1408 : decode cX12_init 1408 = .ok (.castore, 1) := by decide +kernel
theorem dX12_init_1409 : decode cX12_init 1409 = .ok (.putfield 210, 3) := by decide +kernel
theorem dX12_init_1412 : decode cX12_init 1412 = .ok (.aload_n 0, 1) := by decide +kernel
theorem dX12_init_1413 : decode cX12_init 1413 = .ok (.iconst 4, 1) := by decide +kernel
theorem dX12_init_1414 : decode cX12_init 1414 = .ok (.newarray .char, 2) := by decide +kernel
theorem dX12_init_1416 : decode cX12_init 1416 = .ok (.dup, 1) := by decide +kernel
theorem dX12_init_1417 : decode cX12_init 1417 = .ok (.iconst 0, 1) := by decide +kernel
theorem dX12_init_1418 : decode cX12_init 1418 = .ok (.bipush 104, 2) := by decide +kernel
theorem dX12_init_1420 : decode cX12_init 1420 = .ok (.castore, 1) := by decide +kernel
theorem dX12_init_1421 : decode cX12_init 1421 = .ok (.dup, 1) := by decide +kernel
theorem dX12_init_1422 : decode cX12_init 1422 = .ok (.iconst 1, 1) := by decide +kernel
theorem dX12_init_1423 : decode cX12_init 1423 = .ok (.bipush 101, 2) := by decide +kernel
theorem dX12_init_1425 : decode cX12_init 1425 = .ok (.castore, 1) := by decide +kernel
theorem dX12_init_1426 : decode cX12_init 1426 = .ok (.dup, 1) := by decide +kernel
theorem dX12_init_1427 : decode cX12_init 1427 = .ok (.iconst 2, 1) := by decide +kernel
theorem dX12_init_1428 : decode cX12_init 1428 = .ok (.bipush 114, 2) := by decide +kernel
theorem dX12_init_1430 : decode cX12_init 1430 = .ok (.castore, 1) := by decide +kernel
theorem dX12_init_1431 : decode cX12_init 1431 = .ok (.dup, 1) := by decide +kernel
theorem dX12_init_1432 : decode cX12_init 1432 = .ok (.iconst 3, 1) := by decide +kernel
theorem dX12_init_1433 : decode cX12_init 1433 = .ok (.bipush 101, 2) := by decide +kernel
theorem dX12_init_1435 : decode cX12_init 1435 = .ok (.castore, 1) := by decide +kernel
theorem dX12_init_1436 : decode cX12_init 1436 = .ok (.putfield 213, 3) := by decide +kernel
theorem dX12_init_1439 : decode cX12_init 1439 = .ok (.aload_n 0, 1) := by decide +kernel
theorem dX12_init_1440 : decode cX12_init 1440 = .ok (.iconst 5, 1) := by decide +kernel
theorem dX12_init_1441 : decode cX12_init 1441 = .ok (.newarray .char, 2) := by decide +kernel
theorem dX12_init_1443 : decode cX12_init 1443 = .ok (.dup, 1) := by decide +kernel
theorem dX12_init_1444 : decode cX12_init 1444 = .ok (.iconst 0, 1) := by decide +kernel
theorem dX12_init_1445 : decode cX12_init 1445 = .ok (.bipush 115, 2) := by decide +kernel
theorem dX12_init_1447 : decode cX12_init 1447 = .ok (.castore, 1) := by decide +kernel
theorem dX12_init_1448 : decode cX12_init 1448 = .ok (.dup, 1) := by decide +kernel
theorem dX12_init_1449 : decode cX12_init 1449 = .ok (.iconst 1, 1) := by decide +kernel
theorem dX12_init_1450 : decode cX12_init 1450 = .ok (.bipush 104, 2) := by decide +kernel
theorem dX12_init_1452 : decode cX12_init 1452 = .ok (.castore, 1) := by decide +kernel
theorem dX12_init_1453 : decode cX12_init 1453 = .ok (.dup, 1) := by decide +kernel
theorem dX12_init_1454 : decode cX12_init 1454 = .ok (.iconst 2, 1) := by decide +kernel
theorem dX12_init_1455 : decode cX12_init 1455 = .ok (.bipush 97, 2) := by decide +kernel
theorem dX12_init_1457 : decode cX12_init 1457 = .ok (.castore, 1) := by decide +kernel
theorem dX12_init_1458 : decode cX12_init 1458 = .ok (.dup, 1) := by decide +kernel
theorem dX12_init_1459 : decode cX12_init 1459 = .ok (.iconst 3, 1) := by decide +kernel
theorem dX12_init_1460 : decode cX12_init 1460 = .ok (.bipush 100, 2) := by decide +kernel
theorem dX12_init_1462 : decode cX12_init 1462 = .ok (.castore, 1) := by decide +kernel
theorem dX12_init_1463 : decode cX12_init 1463 = .ok (.dup, 1) := by decide +kernel
theorem dX12_init_1464 : decode cX12_init 1464 = .ok (.iconst 4, 1) := by decide +kernel
theorem dX12_init_1465 : decode cX12_init 1465 = .ok (.bipush 101, 2) := by decide +kernel
theorem dX12_init_1467 : decode cX12_init 1467 = .ok (.castore, 1) := by decide +kernel
theorem dX12_init_1468 : decode cX12_init 1468 = .ok (.putfield 216, 3) := by decide +kernel
theorem dX12_init_1471 : decode cX12_init 1471 = .ok (.aload_n 0, 1) := by decide +kernel
theorem dX12_init_1472 : decode cX12_init 1472 = .ok (.iconst 2, 1) := by decide +kernel
theorem dX12_init_1473 : decode cX12_init 1473 = .ok (.newarray .char, 2) := by decide +kernel
theorem dX12_init_1475 : decode cX12_init 1475 = .ok (.dup, 1) := by decide +kernel
theorem dX12_init_1476 : decode cX12_init 1476 = .ok (.iconst 0, 1) := by decide +kernel
theorem dX12_init_1477 : decode cX12_init 1477 = .ok (.bipush 97, 2) := by decide +kernel
theorem dX12_init_1479 : decode cX12_init 1479 = .ok (.castore, 1) := by decide +kernel
theorem dX12_init_1480 : decode cX12_init 1480 = .ok (.dup, 1) := by decide +kernel
theorem dX12_init_1481 : decode cX12_init 1481 = .ok (.iconst 1, 1) := by decide +kernel
theorem dX12_init_1482 : decode cX12_init 1482 = .ok (.bipush 116, 2) := by decide +kernel
theorem dX12_init_1484 : decode cX12_init 1484 = .ok (.castore, 1) := by decide +kernel
theorem dX12_init_1485 : decode cX12_init 1485 = .ok (.putfield 219, 3) := by decide +kernel
theorem dX12_init_1488 : decode cX12_init 1488 = .ok (.aload_n 0, 1) := by decide +kernel
theorem dX12_init_1489 : decode cX12_init 1489 = .ok (.sipush 1700, 3) := by decide +kernel
theorem dX12_init_1492 : decode cX12_init 1492 = .ok (.newarray .int, 2) := by decide +kernel
theorem dX12_init_1494 : decode cX12_init 1494 = .ok (.putfield 222, 3) := by decide +kernel
theorem dX12_init_1497 : decode cX12_init 1497 = .ok (.aload_n 0, 1) := by decide +kernel
theorem dX12_init_1498 : decode cX12_init 1498 = .ok (.sipush 1700, 3) := by decide +kernel
theorem dX12_init_1501 : decode cX12_init 1501 = .ok (.newarray .int, 2) := by decide +kernel
theorem dX12_init_1503 : decode cX12_init 1503 = .ok (.putfield 225, 3) := by decide +kernel
theorem dX12_init_1506 : decode cX12_init 1506 = .ok (.aload_n 0, 1) := by decide +kernel
theorem dX12_init_1507 : decode cX12_init 1507 = .ok (.sipush 1700, 3) := by decide +kernel
theorem dX12_init_1510 : decode cX12_init 1510 = .ok (.newarray .long, 2) := by decide +kernel
theorem dX12_init_1512 : decode cX12_init 1512 = .ok (.putfield 228, 3) := by decide +kernel
theorem dX12_init_1515 : decode cX12_init 1515 = .ok (.aload_n 0, 1) := by decide +kernel
theorem dX12_init_1516 : decode cX12_init 1516 = .ok (.bipush 38, 2) := by decide +kernel
theorem dX12_init_1518 : decode cX12_init 1518 = .ok (.newarray .int, 2) := by decide +kernel
theorem dX12_init_1520 : decode cX12_init 1520 = .ok (.putfield 231, 3) := by decide +kernel
theorem dX12_init_1523 : decode cX12_init 1523 = .ok (.return_, 1) := by decide +kernel
theorem dX12_isIn_0 : decode cX12_isIn 0 = .ok (.lload_n 0, 1) := by decide +kernel
theorem dX12_isIn_1 : decode cX12_isIn 1 = .ok (.lload_n 2, 1) := by decide +kernel
theorem dX12_isIn_2 : decode cX12_isIn 2 = .ok (.lcmp, 1) := by decide +kernel
theorem dX12_isIn_3 : decode cX12_isIn 3 = .ok (.ifCond .lt 14, 3) := by decide +kernel
theorem dX12_isIn_6 : decode cX12_isIn 6 = .ok (.lload_n 0, 1) := by decide +kernel
theorem dX12_isIn_7 : decode cX12_isIn 7 = .ok (.lload 4, 2) := by decide +kernel
theorem dX12_isIn_9 : decode cX12_isIn 9 = .ok (.lcmp, 1) := by decide +kernel
theorem dX12_isIn_10 : decode cX12_isIn 10 = .ok (.ifCond .gt 7, 3) := by decide +kernel
theorem dX12_isIn_13 : decode cX12_isIn 13 = .ok (.iconst 1, 1) := by decide +kernel
theorem dX12_isIn_14 : decode cX12_isIn 14 = .ok (.goto 4, 3) := by decide +kernel
theorem dX12_isIn_17 : decode cX12_isIn 17 = .ok (.iconst 0, 1) := by decide +kernel
theorem dX12_isIn_18 : decode cX12_isIn 18 = .ok (.ireturn, 1) := by decide +kernel
theorem dX12_feed_0 : decode cX12_feed 0 = .ok (.aload_n 0, 1) := by decide +kernel
theorem dX12_feed_1 : decode cX12_feed 1 = .ok (.getfield 234, 3) := by decide +kernel
theorem dX12_feed_4 : decode cX12_feed 4 = .ok (.bipush 20, 2) := by decide +kernel
theorem dX12_feed_6 : decode cX12_feed 6 = .ok (.iadd, 1) := by decide +kernel
theorem dX12_feed_7 : decode cX12_feed 7 = .ok (.sipush 1600, 3) := by decide +kernel
theorem dX12_feed_10 : decode cX12_feed 10 = .ok (.if_icmp .le 15, 3) := by decide +kernel
theorem dX12_feed_13 : decode cX12_feed 13 = .ok (.aload_n 0, 1) := by decide +kernel
theorem dX12_feed_14 : decode cX12_feed 14 = .ok (.getfield 17, 3) := by decide +kernel
theorem dX12_feed_17 : decode cX12_feed 17 = .ok (.iconst 0, 1) := by decide +kernel
theorem dX12_feed_18 : decode cX12_feed 18 = .ok (.dup2, 1) := by decide +kernel
theorem dX12_feed_19 : decode cX12_feed 19 = .ok (.iaload, 1) := by decide +kernel
theorem dX12_feed_20 : decode cX12_feed 20 = .ok (.iconst 1, 1) := by decide +kernel
theorem dX12_feed_21 : decode cX12_feed 21 = .ok (.iadd, 1) := by decide +kernel
theorem dX12_feed_22 : decode cX12_feed 22 = .ok (.iastore, 1) := by decide +kernel
theorem dX12_feed_23 : decode cX12_feed 23 = .ok (.iconst (-1), 1) := by decide +kernel
theorem dX12_feed_24 : decode cX12_feed 24 = .ok (.ireturn, 1) := by decide +kernel
theorem dX12_feed_25 : decode cX12_feed 25 = .ok (.iconst 0, 1) := by decide +kernel
theorem dX12_feed_26 : decode cX12_feed 26 = .ok (.istore 6, 2) := by decide +kernel
theorem dX12_feed_28 : decode cX12_feed 28 = .ok (.iload 6, 2) := by decide +kernel
theorem dX12_feed_30 : decode cX12_feed 30 = .ok (.bipush 20, 2) := by decide +kernel
theorem dX12_feed_32 : decode cX12_feed 32 = .ok (.if_icmp .ge 92, 3) := by decide +kernel
theorem dX12_feed_35 : decode cX12_feed 35 = .ok (.iload 6, 2) := by decide +kernel
theorem dX12_feed_37 : decode cX12_feed 37 = .ok (.iconst 4, 1) := by decide +kernel
theorem dX12_feed_38 : decode cX12_feed 38 = .ok (.if_icmp .ge 7, 3) := by decide +kernel
theorem dX12_feed_41 : decode cX12_feed 41 = .ok (.iload_n 1, 1) := by decide +kernel
theorem dX12_feed_42 : decode cX12_feed 42 = .ok (.goto 39, 3) := by decide +kernel
theorem dX12_feed_45 : decode cX12_feed 45 = .ok (.iload 6, 2) := by decide +kernel
theorem dX12_feed_47 : decode cX12_feed 47 = .ok (.bipush 8, 2) := by decide +kernel
theorem dX12_feed_49 : decode cX12_feed 49 = .ok (.if_icmp .ge 7, 3) := by decide +kernel
theorem dX12_feed_52 : decode cX12_feed 52 = .ok (.iload_n 2, 1) := by decide +kernel
theorem dX12_feed_53 : decode cX12_feed 53 = .ok (.goto 28, 3) := by decide +kernel
theorem dX12_feed_56 : decode cX12_feed 56 = .ok (.iload 6, 2) := by decide +kernel
theorem dX12_feed_58 : decode cX12_feed 58 = .ok (.bipush 12, 2) := by decide +kernel
theorem dX12_feed_60 : decode cX12_feed 60 = .ok (.if_icmp .ge 7, 3) := by decide +kernel
theorem dX12_feed_63 : decode cX12_feed 63 = .ok (.iload_n 3, 1) := by decide +kernel
theorem dX12_feed_64 : decode cX12_feed 64 = .ok (.goto 17, 3) := by decide +kernel
theorem dX12_feed_67 : decode cX12_feed 67 = .ok (.iload 6, 2) := by decide +kernel
theorem dX12_feed_69 : decode cX12_feed 69 = .ok (.bipush 16, 2) := by decide +kernel
theorem dX12_feed_71 : decode cX12_feed 71 = .ok (.if_icmp .ge 8, 3) := by decide +kernel
theorem dX12_feed_74 : decode cX12_feed 74 = .ok (.iload 4, 2) := by decide +kernel
theorem dX12_feed_76 : decode cX12_feed 76 = .ok (.goto 5, 3) := by decide +kernel
theorem dX12_feed_79 : decode cX12_feed 79 = .ok (.iload 5, 2) := by decide +kernel
theorem dX12_feed_81 : decode cX12_feed 81 = .ok (.istore 7, 2) := by decide +kernel
theorem dX12_feed_83 : decode cX12_feed 83 = .ok (.aload_n 0, 1) := by decide +kernel
theorem dX12_feed_84 : decode cX12_feed 84 = .ok (.getfield 7, 3) := by decide +kernel
theorem dX12_feed_87 : decode cX12_feed 87 = .ok (.aload_n 0, 1) := by decide +kernel
theorem dX12_feed_88 : decode cX12_feed 88 = .ok (.getfield 234, 3) := by decide +kernel
theorem dX12_feed_91 : decode cX12_feed 91 = .ok (.iload 7, 2) := by decide +kernel
theorem dX12_feed_93 : decode cX12_feed 93 = .ok (.bipush 8, 2) := by decide +kernel
theorem dX12_feed_95 : decode cX12_feed 95 = .ok (.iconst 3, 1) := by decide +kernel
theorem dX12_feed_96 : decode cX12_feed 96 = .ok (.iload 6, 2) := by decide +kernel
theorem dX12_feed_98 : decode cX12_feed 98 = .ok (.iconst 4, 1) := by decide +kernel
theorem dX12_feed_99 : decode cX12_feed 99 = .ok (.irem, 1) := by decide +kernel
theorem dX12_feed_100 : decode cX12_feed 100 = .ok (.isub, 1) := by decide +kernel
theorem dX12_feed_101 : decode cX12_feed 101 = .ok (.imul, 1) := by decide +kernel
theorem dX12_feed_102 : decode cX12_feed 102 = .ok (.ishr, 1) := by decide +kernel
theorem dX12_feed_103 : decode cX12_feed 103 = .ok (.sipush 255, 3) := by decide +kernel
theorem dX12_feed_106 : decode cX12_feed 106 = .ok (.iand, 1) := by decide +kernel
theorem dX12_feed_107 : decode cX12_feed 107 = .ok (.iastore, 1) := by decide +kernel
theorem dX12_feed_108 : decode cX12_feed 108 = .ok (.aload_n 0, 1) := by decide +kernel
theorem dX12_feed_109 : decode cX12_feed 109 = .ok (.dup, 1) := by decide +kernel
theorem dX12_feed_110 : decode cX12_feed 110 = .ok (.getfield 234, 3) := by decide +kernel
theorem dX12_feed_113 : decode cX12_feed 113 = .ok (.iconst 1, 1) := by decide +kernel
theorem dX12_feed_114 : decode cX12_feed 114 = .ok (.iadd, 1) := by decide +kernel
theorem dX12_feed_115 : decode cX12_feed 115 = .ok (.putfield 234, 3) := by decide +kernel
theorem dX12_feed_118 : decode cX12_feed 118 = .ok (.iinc 6 1, 3) := by decide +kernel
theorem dX12_feed_121 : decode cX12_feed 121 = .ok (.goto (-93), 3) := by decide +kernel
theorem dX12_feed_124 : decode cX12_feed 124 = .ok (.aload_n 0, 1) := by decide +kernel
theorem dX12_feed_125 : decode cX12_feed 125 = .ok (.getfield 234, 3) := by decide +kernel
theorem dX12_feed_128 : decode cX12_feed 128 = .ok (.ireturn, 1) := by decide +kernel
theorem dX12_end_0 : decode cX12_end 0 = .ok (.iload_n 1, 1) := by decide +kernel
theorem dX12_end_1 : decode cX12_end 1 = .ok (.ifCond .lt 11, 3) := by decide +kernel
theorem dX12_end_4 : decode cX12_end 4 = .ok (.iload_n 1, 1) := by decide +kernel
theorem dX12_end_5 : decode cX12_end 5 = .ok (.aload_n 0, 1) := by decide +kernel
theorem dX12_end_6 : decode cX12_end 6 = .ok (.getfield 234, 3) := by decide +kernel
theorem dX12_end_9 : decode cX12_end 9 = .ok (.if_icmp .le 15, 3) := by decide +kernel
theorem dX12_end_12 : decode cX12_end 12 = .ok (.aload_n 0, 1) := by decide +kernel
theorem dX12_end_13 : decode cX12_end 13 = .ok (.getfield 17, 3) := by decide +kernel
theorem dX12_end_16 : decode cX12_end 16 = .ok (.iconst 0, 1) := by decide +kernel
theorem dX12_end_17 : decode cX12_end 17 = .ok (.dup2, 1) := by decide +kernel
theorem dX12_end_18 : decode cX12_end 18 = .ok (.iaload, 1) := by decide +kernel
theorem dX12_end_19 : decode cX12_end 19 = .ok (.iconst 1, 1) := by decide +kernel
theorem dX12_end_20 : decode cX12_end 20 = .ok (.iadd, 1) := by decide +kernel
theorem dX12_end_21 : decode cX12_end 21 = .ok (.iastore, 1) := by decide +kernel
theorem dX12_end_22 : decode cX12_end 22 = .ok (.iconst 0, 1) := by decide +kernel
theorem dX12_end_23 : decode cX12_end 23 = .ok (.ireturn, 1) := by decide +kernel
theorem dX12_end_24 : decode cX12_end 24 = .ok (.aload_n 0, 1) := by decide +kernel
theorem dX12_end_25 : decode cX12_end 25 = .ok (.iload_n 1, 1) := by decide +kernel
theorem dX12_end_26 : decode cX12_end 26 = .ok (.putfield 234, 3) := by decide +kernel
theorem dX12_end_29 : decode cX12_end 29 = .ok (.iconst 1, 1) := by decide +kernel
theorem dX12_end_30 : decode cX12_end 30 = .ok (.ireturn, 1) := by decide +kernel
theorem dX12_fail_0 : decode cX12_fail 0 = .ok (.aload_n 0, 1) := by decide +kernel
theorem dX12_fail_1 : decode cX12_fail 1 = .ok (.getfield 237, 3) := by decide +kernel
theorem dX12_fail_4 : decode cX12_fail 4 = .ok (.ifCond .eq 4, 3) := by decide +kernel
theorem dX12_fail_7 : decode cX12_fail 7 = .ok (.return_, 1) := by decide +kernel
theorem dX12_fail_8 : decode cX12_fail 8 = .ok (.aload_n 0, 1) := by decide +kernel
theorem dX12_fail_9 : decode cX12_fail 9 = .ok (.iload_n 1, 1) := by decide +kernel
theorem dX12_fail_10 : decode cX12_fail 10 = .ok (.putfield 237, 3) := by decide +kernel
theorem dX12_fail_13 : decode cX12_fail 13 = .ok (.aload_n 0, 1) := by decide +kernel
theorem dX12_fail_14 : decode cX12_fail 14 = .ok (.iload_n 2, 1) := by decide +kernel
theorem dX12_fail_15 : decode cX12_fail 15 = .ok (.putfield 240, 3) := by decide +kernel
theorem dX12_fail_18 : decode cX12_fail 18 = .ok (.return_, 1) := by decide +kernel
theorem dX12_isLetter_0 : decode cX12_isLetter 0 = .ok (.iload_n 0, 1) := by decide +kernel
theorem dX12_isLetter_1 : decode cX12_isLetter 1 = .ok (.bipush 97, 2) := by decide +kernel
theorem dX12_isLetter_3 : decode cX12_isLetter 3 = .ok (.if_icmp .lt 13, 3) := by decide +kernel
theorem dX12_isLetter_6 : decode cX12_isLetter 6 = .ok (.iload_n 0, 1) := by decide +kernel
theorem dX12_isLetter_7 : decode cX12_isLetter 7 = .ok (.bipush 122, 2) := by decide +kernel
theorem dX12_isLetter_9 : decode cX12_isLetter 9 = .ok (.if_icmp .gt 7, 3) := by decide +kernel
theorem dX12_isLetter_12 : decode cX12_isLetter 12 = .ok (.iconst 1, 1) := by decide +kernel
theorem dX12_isLetter_13 : decode cX12_isLetter 13 = .ok (.goto 4, 3) := by decide +kernel
theorem dX12_isLetter_16 : decode cX12_isLetter 16 = .ok (.iconst 0, 1) := by decide +kernel
theorem dX12_isLetter_17 : decode cX12_isLetter 17 = .ok (.ireturn, 1) := by decide +kernel
theorem dX12_isDigit_0 : decode cX12_isDigit 0 = .ok (.iload_n 0, 1) := by decide +kernel
theorem dX12_isDigit_1 : decode cX12_isDigit 1 = .ok (.bipush 48, 2) := by decide +kernel
theorem dX12_isDigit_3 : decode cX12_isDigit 3 = .ok (.if_icmp .lt 13, 3) := by decide +kernel
theorem dX12_isDigit_6 : decode cX12_isDigit 6 = .ok (.iload_n 0, 1) := by decide +kernel
theorem dX12_isDigit_7 : decode cX12_isDigit 7 = .ok (.bipush 57, 2) := by decide +kernel
theorem dX12_isDigit_9 : decode cX12_isDigit 9 = .ok (.if_icmp .gt 7, 3) := by decide +kernel
theorem dX12_isDigit_12 : decode cX12_isDigit 12 = .ok (.iconst 1, 1) := by decide +kernel
theorem dX12_isDigit_13 : decode cX12_isDigit 13 = .ok (.goto 4, 3) := by decide +kernel
theorem dX12_isDigit_16 : decode cX12_isDigit 16 = .ok (.iconst 0, 1) := by decide +kernel
theorem dX12_isDigit_17 : decode cX12_isDigit 17 = .ok (.ireturn, 1) := by decide +kernel
theorem dX12_look_0 : decode cX12_look 0 = .ok (.aload_n 0, 1) := by decide +kernel
theorem dX12_look_1 : decode cX12_look 1 = .ok (.getfield 243, 3) := by decide +kernel
theorem dX12_look_4 : decode cX12_look 4 = .ok (.aload_n 0, 1) := by decide +kernel
theorem dX12_look_5 : decode cX12_look 5 = .ok (.getfield 246, 3) := by decide +kernel
theorem dX12_look_8 : decode cX12_look 8 = .ok (.if_icmp .ge 44, 3) := by decide +kernel
theorem dX12_look_11 : decode cX12_look 11 = .ok (.aload_n 0, 1) := by decide +kernel
theorem dX12_look_12 : decode cX12_look 12 = .ok (.getfield 7, 3) := by decide +kernel
theorem dX12_look_15 : decode cX12_look 15 = .ok (.aload_n 0, 1) := by decide +kernel
theorem dX12_look_16 : decode cX12_look 16 = .ok (.getfield 243, 3) := by decide +kernel
theorem dX12_look_19 : decode cX12_look 19 = .ok (.iaload, 1) := by decide +kernel
theorem dX12_look_20 : decode cX12_look 20 = .ok (.bipush 10, 2) := by decide +kernel
theorem dX12_look_22 : decode cX12_look 22 = .ok (.if_icmp .eq 17, 3) := by decide +kernel
theorem dX12_look_25 : decode cX12_look 25 = .ok (.aload_n 0, 1) := by decide +kernel
theorem dX12_look_26 : decode cX12_look 26 = .ok (.getfield 7, 3) := by decide +kernel
theorem dX12_look_29 : decode cX12_look 29 = .ok (.aload_n 0, 1) := by decide +kernel
theorem dX12_look_30 : decode cX12_look 30 = .ok (.getfield 243, 3) := by decide +kernel
theorem dX12_look_33 : decode cX12_look 33 = .ok (.iaload, 1) := by decide +kernel
theorem dX12_look_34 : decode cX12_look 34 = .ok (.bipush 32, 2) := by decide +kernel
theorem dX12_look_36 : decode cX12_look 36 = .ok (.if_icmp .ne 16, 3) := by decide +kernel
theorem dX12_look_39 : decode cX12_look 39 = .ok (.aload_n 0, 1) := by decide +kernel
theorem dX12_look_40 : decode cX12_look 40 = .ok (.dup, 1) := by decide +kernel
theorem dX12_look_41 : decode cX12_look 41 = .ok (.getfield 243, 3) := by decide +kernel
theorem dX12_look_44 : decode cX12_look 44 = .ok (.iconst 1, 1) := by decide +kernel
theorem dX12_look_45 : decode cX12_look 45 = .ok (.iadd, 1) := by decide +kernel
theorem dX12_look_46 : decode cX12_look 46 = .ok (.putfield 243, 3) := by decide +kernel
theorem dX12_look_49 : decode cX12_look 49 = .ok (.goto (-49), 3) := by decide +kernel
theorem dX12_look_52 : decode cX12_look 52 = .ok (.aload_n 0, 1) := by decide +kernel
theorem dX12_look_53 : decode cX12_look 53 = .ok (.getfield 243, 3) := by decide +kernel
theorem dX12_look_56 : decode cX12_look 56 = .ok (.aload_n 0, 1) := by decide +kernel
theorem dX12_look_57 : decode cX12_look 57 = .ok (.getfield 246, 3) := by decide +kernel
theorem dX12_look_60 : decode cX12_look 60 = .ok (.if_icmp .ge 15, 3) := by decide +kernel
theorem dX12_look_63 : decode cX12_look 63 = .ok (.aload_n 0, 1) := by decide +kernel
theorem dX12_look_64 : decode cX12_look 64 = .ok (.getfield 7, 3) := by decide +kernel
theorem dX12_look_67 : decode cX12_look 67 = .ok (.aload_n 0, 1) := by decide +kernel
theorem dX12_look_68 : decode cX12_look 68 = .ok (.getfield 243, 3) := by decide +kernel
theorem dX12_look_71 : decode cX12_look 71 = .ok (.iaload, 1) := by decide +kernel
theorem dX12_look_72 : decode cX12_look 72 = .ok (.goto 4, 3) := by decide +kernel
theorem dX12_look_75 : decode cX12_look 75 = .ok (.iconst (-1), 1) := by decide +kernel
theorem dX12_look_76 : decode cX12_look 76 = .ok (.ireturn, 1) := by decide +kernel
theorem dX12_isHere_0 : decode cX12_isHere 0 = .ok (.aload_n 0, 1) := by decide +kernel
theorem dX12_isHere_1 : decode cX12_isHere 1 = .ok (.getfield 237, 3) := by decide +kernel
theorem dX12_isHere_4 : decode cX12_isHere 4 = .ok (.ifCond .ne 24, 3) := by decide +kernel
theorem dX12_isHere_7 : decode cX12_isHere 7 = .ok (.aload_n 0, 1) := by decide +kernel
theorem dX12_isHere_8 : decode cX12_isHere 8 = .ok (.invokevirtual 249, 3) := by decide +kernel
theorem dX12_isHere_11 : decode cX12_isHere 11 = .ok (.invokestatic 253, 3) := by decide +kernel
theorem dX12_isHere_14 : decode cX12_isHere 14 = .ok (.ifCond .eq 14, 3) := by decide +kernel
theorem dX12_isHere_17 : decode cX12_isHere 17 = .ok (.aload_n 0, 1) := by decide +kernel
theorem dX12_isHere_18 : decode cX12_isHere 18 = .ok (.getfield 243, 3) := by decide +kernel
theorem dX12_isHere_21 : decode cX12_isHere 21 = .ok (.aload_n 0, 1) := by decide +kernel
theorem dX12_isHere_22 : decode cX12_isHere 22 = .ok (.getfield 257, 3) := by decide +kernel
theorem dX12_isHere_25 : decode cX12_isHere 25 = .ok (.if_icmp .ne 5, 3) := by decide +kernel
theorem dX12_isHere_28 : decode cX12_isHere 28 = .ok (.iconst 0, 1) := by decide +kernel
theorem dX12_isHere_29 : decode cX12_isHere 29 = .ok (.ireturn, 1) := by decide +kernel
theorem dX12_isHere_30 : decode cX12_isHere 30 = .ok (.aload_n 0, 1) := by decide +kernel
theorem dX12_isHere_31 : decode cX12_isHere 31 = .ok (.getfield 243, 3) := by decide +kernel
theorem dX12_isHere_34 : decode cX12_isHere 34 = .ok (.istore_n 2, 1) := by decide +kernel
theorem dX12_isHere_35 : decode cX12_isHere 35 = .ok (.iload_n 2, 1) := by decide +kernel
theorem dX12_isHere_36 : decode cX12_isHere 36 = .ok (.aload_n 0, 1) := by decide +kernel
theorem dX12_isHere_37 : decode cX12_isHere 37 = .ok (.getfield 246, 3) := by decide +kernel
theorem dX12_isHere_40 : decode cX12_isHere 40 = .ok (.if_icmp .ge 21, 3) := by decide +kernel
theorem dX12_isHere_43 : decode cX12_isHere 43 = .ok (.aload_n 0, 1) := by decide +kernel
theorem dX12_isHere_44 : decode cX12_isHere 44 = .ok (.getfield 7, 3) := by decide +kernel
theorem dX12_isHere_47 : decode cX12_isHere 47 = .ok (.iload_n 2, 1) := by decide +kernel
theorem dX12_isHere_48 : decode cX12_isHere 48 = .ok (.iaload, 1) := by decide +kernel
theorem dX12_isHere_49 : decode cX12_isHere 49 = .ok (.invokestatic 253, 3) := by decide +kernel
theorem dX12_isHere_52 : decode cX12_isHere 52 = .ok (.ifCond .eq 9, 3) := by decide +kernel
theorem dX12_isHere_55 : decode cX12_isHere 55 = .ok (.iinc 2 1, 3) := by decide +kernel
theorem dX12_isHere_58 : decode cX12_isHere 58 = .ok (.goto (-23), 3) := by decide +kernel
theorem dX12_isHere_61 : decode cX12_isHere 61 = .ok (.iload_n 2, 1) := by decide +kernel
theorem dX12_isHere_62 : decode cX12_isHere 62 = .ok (.aload_n 0, 1) := by decide +kernel
theorem dX12_isHere_63 : decode cX12_isHere 63 = .ok (.getfield 243, 3) := by decide +kernel
theorem dX12_isHere_66 : decode cX12_isHere 66 = .ok (.isub, 1) := by decide +kernel
theorem dX12_isHere_67 : decode cX12_isHere 67 = .ok (.aload_n 1, 1) := by decide +kernel
theorem dX12_isHere_68 : decode cX12_isHere 68 = .ok (.arraylength, 1) := by decide +kernel
theorem dX12_isHere_69 : decode cX12_isHere 69 = .ok (.if_icmp .eq 5, 3) := by decide +kernel
theorem dX12_isHere_72 : decode cX12_isHere 72 = .ok (.iconst 0, 1) := by decide +kernel
theorem dX12_isHere_73 : decode cX12_isHere 73 = .ok (.ireturn, 1) := by decide +kernel
theorem dX12_isHere_74 : decode cX12_isHere 74 = .ok (.iconst 0, 1) := by decide +kernel
theorem dX12_isHere_75 : decode cX12_isHere 75 = .ok (.istore_n 3, 1) := by decide +kernel
theorem dX12_isHere_76 : decode cX12_isHere 76 = .ok (.iload_n 3, 1) := by decide +kernel
theorem dX12_isHere_77 : decode cX12_isHere 77 = .ok (.aload_n 1, 1) := by decide +kernel
theorem dX12_isHere_78 : decode cX12_isHere 78 = .ok (.arraylength, 1) := by decide +kernel
theorem dX12_isHere_79 : decode cX12_isHere 79 = .ok (.if_icmp .ge 28, 3) := by decide +kernel
theorem dX12_isHere_82 : decode cX12_isHere 82 = .ok (.aload_n 0, 1) := by decide +kernel
theorem dX12_isHere_83 : decode cX12_isHere 83 = .ok (.getfield 7, 3) := by decide +kernel
theorem dX12_isHere_86 : decode cX12_isHere 86 = .ok (.aload_n 0, 1) := by decide +kernel
theorem dX12_isHere_87 : decode cX12_isHere 87 = .ok (.getfield 243, 3) := by decide +kernel
theorem dX12_isHere_90 : decode cX12_isHere 90 = .ok (.iload_n 3, 1) := by decide +kernel
theorem dX12_isHere_91 : decode cX12_isHere 91 = .ok (.iadd, 1) := by decide +kernel
theorem dX12_isHere_92 : decode cX12_isHere 92 = .ok (.iaload, 1) := by decide +kernel
theorem dX12_isHere_93 : decode cX12_isHere 93 = .ok (.aload_n 1, 1) := by decide +kernel
theorem dX12_isHere_94 : decode cX12_isHere 94 = .ok (.iload_n 3, 1) := by decide +kernel
theorem dX12_isHere_95 : decode cX12_isHere 95 = .ok (.caload, 1) := by decide +kernel
theorem dX12_isHere_96 : decode cX12_isHere 96 = .ok (.if_icmp .eq 5, 3) := by decide +kernel
theorem dX12_isHere_99 : decode cX12_isHere 99 = .ok (.iconst 0, 1) := by decide +kernel
theorem dX12_isHere_100 : decode cX12_isHere 100 = .ok (.ireturn, 1) := by decide +kernel
