theorem dX12_isHere_101 : decode cX12_isHere 101 = .ok (.iinc 3 1, 3) := by decide +kernel
theorem dX12_isHere_104 : decode cX12_isHere 104 = .ok (.goto (-28), 3) := by decide +kernel
theorem dX12_isHere_107 : decode cX12_isHere 107 = .ok (.iconst 1, 1) := by decide +kernel
theorem dX12_isHere_108 : decode cX12_isHere 108 = .ok (.ireturn, 1) := by decide +kernel
theorem dX12_takes_0 : decode cX12_takes 0 = .ok (.aload_n 0, 1) := by decide +kernel
theorem dX12_takes_1 : decode cX12_takes 1 = .ok (.aload_n 1, 1) := by decide +kernel
theorem dX12_takes_2 : decode cX12_takes 2 = .ok (.invokevirtual 260, 3) := by decide +kernel
theorem dX12_takes_5 : decode cX12_takes 5 = .ok (.ifCond .ne 5, 3) := by decide +kernel
theorem dX12_takes_8 : decode cX12_takes 8 = .ok (.iconst 0, 1) := by decide +kernel
theorem dX12_takes_9 : decode cX12_takes 9 = .ok (.ireturn, 1) := by decide +kernel
theorem dX12_takes_10 : decode cX12_takes 10 = .ok (.aload_n 0, 1) := by decide +kernel
theorem dX12_takes_11 : decode cX12_takes 11 = .ok (.dup, 1) := by decide +kernel
theorem dX12_takes_12 : decode cX12_takes 12 = .ok (.getfield 243, 3) := by decide +kernel
theorem dX12_takes_15 : decode cX12_takes 15 = .ok (.aload_n 1, 1) := by decide +kernel
theorem dX12_takes_16 : decode cX12_takes 16 = .ok (.arraylength, 1) := by decide +kernel
theorem dX12_takes_17 : decode cX12_takes 17 = .ok (.iadd, 1) := by decide +kernel
theorem dX12_takes_18 : decode cX12_takes 18 = .ok (.putfield 243, 3) := by decide +kernel
theorem dX12_takes_21 : decode cX12_takes 21 = .ok (.aload_n 0, 1) := by decide +kernel
theorem dX12_takes_22 : decode cX12_takes 22 = .ok (.aload_n 0, 1) := by decide +kernel
theorem dX12_takes_23 : decode cX12_takes 23 = .ok (.getfield 243, 3) := by decide +kernel
theorem dX12_takes_26 : decode cX12_takes 26 = .ok (.putfield 257, 3) := by decide +kernel
theorem dX12_takes_29 : decode cX12_takes 29 = .ok (.iconst 1, 1) := by decide +kernel
theorem dX12_takes_30 : decode cX12_takes 30 = .ok (.ireturn, 1) := by decide +kernel
theorem dX12_asks_0 : decode cX12_asks 0 = .ok (.aload_n 0, 1) := by decide +kernel
theorem dX12_asks_1 : decode cX12_asks 1 = .ok (.getfield 237, 3) := by decide +kernel
theorem dX12_asks_4 : decode cX12_asks 4 = .ok (.ifCond .ne 20, 3) := by decide +kernel
theorem dX12_asks_7 : decode cX12_asks 7 = .ok (.aload_n 0, 1) := by decide +kernel
theorem dX12_asks_8 : decode cX12_asks 8 = .ok (.aload_n 1, 1) := by decide +kernel
theorem dX12_asks_9 : decode cX12_asks 9 = .ok (.invokevirtual 264, 3) := by decide +kernel
theorem dX12_asks_12 : decode cX12_asks 12 = .ok (.ifCond .ne 12, 3) := by decide +kernel
theorem dX12_asks_15 : decode cX12_asks 15 = .ok (.aload_n 0, 1) := by decide +kernel
theorem dX12_asks_16 : decode cX12_asks 16 = .ok (.iconst 1, 1) := by decide +kernel
theorem dX12_asks_17 : decode cX12_asks 17 = .ok (.aload_n 0, 1) := by decide +kernel
theorem dX12_asks_18 : decode cX12_asks 18 = .ok (.getfield 243, 3) := by decide +kernel
theorem dX12_asks_21 : decode cX12_asks 21 = .ok (.invokevirtual 267, 3) := by decide +kernel
theorem dX12_asks_24 : decode cX12_asks 24 = .ok (.return_, 1) := by decide +kernel
theorem dX12_takesSign_0 : decode cX12_takesSign 0 = .ok (.aload_n 0, 1) := by decide +kernel
theorem dX12_takesSign_1 : decode cX12_takesSign 1 = .ok (.getfield 237, 3) := by decide +kernel
theorem dX12_takesSign_4 : decode cX12_takesSign 4 = .ok (.ifCond .ne 11, 3) := by decide +kernel
theorem dX12_takesSign_7 : decode cX12_takesSign 7 = .ok (.aload_n 0, 1) := by decide +kernel
theorem dX12_takesSign_8 : decode cX12_takesSign 8 = .ok (.invokevirtual 249, 3) := by decide +kernel
theorem dX12_takesSign_11 : decode cX12_takesSign 11 = .ok (.iload_n 1, 1) := by decide +kernel
theorem dX12_takesSign_12 : decode cX12_takesSign 12 = .ok (.if_icmp .eq 5, 3) := by decide +kernel
theorem dX12_takesSign_15 : decode cX12_takesSign 15 = .ok (.iconst 0, 1) := by decide +kernel
theorem dX12_takesSign_16 : decode cX12_takesSign 16 = .ok (.ireturn, 1) := by decide +kernel
theorem dX12_takesSign_17 : decode cX12_takesSign 17 = .ok (.aload_n 0, 1) := by decide +kernel
theorem dX12_takesSign_18 : decode cX12_takesSign 18 = .ok (.dup, 1) := by decide +kernel
theorem dX12_takesSign_19 : decode cX12_takesSign 19 = .ok (.getfield 243, 3) := by decide +kernel
theorem dX12_takesSign_22 : decode cX12_takesSign 22 = .ok (.iconst 1, 1) := by decide +kernel
theorem dX12_takesSign_23 : decode cX12_takesSign 23 = .ok (.iadd, 1) := by decide +kernel
theorem dX12_takesSign_24 : decode cX12_takesSign 24 = .ok (.putfield 243, 3) := by decide +kernel
theorem dX12_takesSign_27 : decode cX12_takesSign 27 = .ok (.iconst 1, 1) := by decide +kernel
theorem dX12_takesSign_28 : decode cX12_takesSign 28 = .ok (.ireturn, 1) := by decide +kernel
theorem dX12_asksSign_0 : decode cX12_asksSign 0 = .ok (.aload_n 0, 1) := by decide +kernel
theorem dX12_asksSign_1 : decode cX12_asksSign 1 = .ok (.getfield 237, 3) := by decide +kernel
theorem dX12_asksSign_4 : decode cX12_asksSign 4 = .ok (.ifCond .ne 20, 3) := by decide +kernel
theorem dX12_asksSign_7 : decode cX12_asksSign 7 = .ok (.aload_n 0, 1) := by decide +kernel
theorem dX12_asksSign_8 : decode cX12_asksSign 8 = .ok (.iload_n 1, 1) := by decide +kernel
theorem dX12_asksSign_9 : decode cX12_asksSign 9 = .ok (.invokevirtual 271, 3) := by decide +kernel
theorem dX12_asksSign_12 : decode cX12_asksSign 12 = .ok (.ifCond .ne 12, 3) := by decide +kernel
theorem dX12_asksSign_15 : decode cX12_asksSign 15 = .ok (.aload_n 0, 1) := by decide +kernel
theorem dX12_asksSign_16 : decode cX12_asksSign 16 = .ok (.iconst 1, 1) := by decide +kernel
theorem dX12_asksSign_17 : decode cX12_asksSign 17 = .ok (.aload_n 0, 1) := by decide +kernel
theorem dX12_asksSign_18 : decode cX12_asksSign 18 = .ok (.getfield 243, 3) := by decide +kernel
theorem dX12_asksSign_21 : decode cX12_asksSign 21 = .ok (.invokevirtual 267, 3) := by decide +kernel
theorem dX12_asksSign_24 : decode cX12_asksSign 24 = .ok (.return_, 1) := by decide +kernel
theorem dX12_number_0 : decode cX12_number 0 = .ok (.aload_n 0, 1) := by decide +kernel
theorem dX12_number_1 : decode cX12_number 1 = .ok (.getfield 237, 3) := by decide +kernel
theorem dX12_number_4 : decode cX12_number 4 = .ok (.ifCond .eq 5, 3) := by decide +kernel
theorem dX12_number_7 : decode cX12_number 7 = .ok (.iconst 0, 1) := by decide +kernel
theorem dX12_number_8 : decode cX12_number 8 = .ok (.ireturn, 1) := by decide +kernel
theorem dX12_number_9 : decode cX12_number 9 = .ok (.aload_n 0, 1) := by decide +kernel
theorem dX12_number_10 : decode cX12_number 10 = .ok (.invokevirtual 249, 3) := by decide +kernel
theorem dX12_number_13 : decode cX12_number 13 = .ok (.invokestatic 274, 3) := by decide +kernel
theorem dX12_number_16 : decode cX12_number 16 = .ok (.ifCond .eq 14, 3) := by decide +kernel
theorem dX12_number_19 : decode cX12_number 19 = .ok (.aload_n 0, 1) := by decide +kernel
theorem dX12_number_20 : decode cX12_number 20 = .ok (.getfield 243, 3) := by decide +kernel
theorem dX12_number_23 : decode cX12_number 23 = .ok (.aload_n 0, 1) := by decide +kernel
theorem dX12_number_24 : decode cX12_number 24 = .ok (.getfield 257, 3) := by decide +kernel
theorem dX12_number_27 : decode cX12_number 27 = .ok (.if_icmp .ne 14, 3) := by decide +kernel
theorem dX12_number_30 : decode cX12_number 30 = .ok (.aload_n 0, 1) := by decide +kernel
theorem dX12_number_31 : decode cX12_number 31 = .ok (.iconst 1, 1) := by decide +kernel
theorem dX12_number_32 : decode cX12_number 32 = .ok (.aload_n 0, 1) := by decide +kernel
theorem dX12_number_33 : decode cX12_number 33 = .ok (.getfield 243, 3) := by decide +kernel
theorem dX12_number_36 : decode cX12_number 36 = .ok (.invokevirtual 267, 3) := by decide +kernel
theorem dX12_number_39 : decode cX12_number 39 = .ok (.iconst 0, 1) := by decide +kernel
theorem dX12_number_40 : decode cX12_number 40 = .ok (.ireturn, 1) := by decide +kernel
theorem dX12_number_41 : decode cX12_number 41 = .ok (.aload_n 0, 1) := by decide +kernel
theorem dX12_number_42 : decode cX12_number 42 = .ok (.getfield 243, 3) := by decide +kernel
theorem dX12_number_45 : decode cX12_number 45 = .ok (.istore_n 3, 1) := by decide +kernel
theorem dX12_number_46 : decode cX12_number 46 = .ok (.iconst 0, 1) := by decide +kernel
theorem dX12_number_47 : decode cX12_number 47 = .ok (.istore 4, 2) := by decide +kernel
theorem dX12_number_49 : decode cX12_number 49 = .ok (.aload_n 0, 1) := by decide +kernel
theorem dX12_number_50 : decode cX12_number 50 = .ok (.getfield 243, 3) := by decide +kernel
theorem dX12_number_53 : decode cX12_number 53 = .ok (.aload_n 0, 1) := by decide +kernel
theorem dX12_number_54 : decode cX12_number 54 = .ok (.getfield 246, 3) := by decide +kernel
theorem dX12_number_57 : decode cX12_number 57 = .ok (.if_icmp .ge 72, 3) := by decide +kernel
theorem dX12_number_60 : decode cX12_number 60 = .ok (.aload_n 0, 1) := by decide +kernel
theorem dX12_number_61 : decode cX12_number 61 = .ok (.getfield 7, 3) := by decide +kernel
theorem dX12_number_64 : decode cX12_number 64 = .ok (.aload_n 0, 1) := by decide +kernel
theorem dX12_number_65 : decode cX12_number 65 = .ok (.getfield 243, 3) := by decide +kernel
theorem dX12_number_68 : decode cX12_number 68 = .ok (.iaload, 1) := by decide +kernel
theorem dX12_number_69 : decode cX12_number 69 = .ok (.invokestatic 274, 3) := by decide +kernel
theorem dX12_number_72 : decode cX12_number 72 = .ok (.ifCond .eq 57, 3) := by decide +kernel
theorem dX12_number_75 : decode cX12_number 75 = .ok (.aload_n 0, 1) := by decide +kernel
theorem dX12_number_76 : decode cX12_number 76 = .ok (.getfield 243, 3) := by decide +kernel
theorem dX12_number_79 : decode cX12_number 79 = .ok (.iload_n 3, 1) := by decide +kernel
theorem dX12_number_80 : decode cX12_number 80 = .ok (.isub, 1) := by decide +kernel
theorem dX12_number_81 : decode cX12_number 81 = .ok (.iconst 4, 1) := by decide +kernel
theorem dX12_number_82 : decode cX12_number 82 = .ok (.if_icmp .ne 14, 3) := by decide +kernel
theorem dX12_number_85 : decode cX12_number 85 = .ok (.aload_n 0, 1) := by decide +kernel
theorem dX12_number_86 : decode cX12_number 86 = .ok (.iconst 1, 1) := by decide +kernel
theorem dX12_number_87 : decode cX12_number 87 = .ok (.aload_n 0, 1) := by decide +kernel
theorem dX12_number_88 : decode cX12_number 88 = .ok (.getfield 243, 3) := by decide +kernel
theorem dX12_number_91 : decode cX12_number 91 = .ok (.invokevirtual 267, 3) := by decide +kernel
theorem dX12_number_94 : decode cX12_number 94 = .ok (.iconst 0, 1) := by decide +kernel
theorem dX12_number_95 : decode cX12_number 95 = .ok (.ireturn, 1) := by decide +kernel
theorem dX12_number_96 : decode cX12_number 96 = .ok (.bipush 10, 2) := by decide +kernel
theorem dX12_number_98 : decode cX12_number 98 = .ok (.iload 4, 2) := by decide +kernel
theorem dX12_number_100 : decode cX12_number 100 = .ok (.imul, 1) := by decide +kernel
theorem dX12_number_101 : decode cX12_number 101 = .ok (.aload_n 0, 1) := by decide +kernel
theorem dX12_number_102 : decode cX12_number 102 = .ok (.getfield 7, 3) := by decide +kernel
theorem dX12_number_105 : decode cX12_number 105 = .ok (.aload_n 0, 1) := by decide +kernel
theorem dX12_number_106 : decode cX12_number 106 = .ok (.getfield 243, 3) := by decide +kernel
theorem dX12_number_109 : decode cX12_number 109 = .ok (.iaload, 1) := by decide +kernel
theorem dX12_number_110 : decode cX12_number 110 = .ok (.iadd, 1) := by decide +kernel
theorem dX12_number_111 : decode cX12_number 111 = .ok (.bipush 48, 2) := by decide +kernel
theorem dX12_number_113 : decode cX12_number 113 = .ok (.isub, 1) := by decide +kernel
theorem dX12_number_114 : decode cX12_number 114 = .ok (.istore 4, 2) := by decide +kernel
theorem dX12_number_116 : decode cX12_number 116 = .ok (.aload_n 0, 1) := by decide +kernel
theorem dX12_number_117 : decode cX12_number 117 = .ok (.dup, 1) := by decide +kernel
theorem dX12_number_118 : decode cX12_number 118 = .ok (.getfield 243, 3) := by decide +kernel
theorem dX12_number_121 : decode cX12_number 121 = .ok (.iconst 1, 1) := by decide +kernel
theorem dX12_number_122 : decode cX12_number 122 = .ok (.iadd, 1) := by decide +kernel
theorem dX12_number_123 : decode cX12_number 123 = .ok (.putfield 243, 3) := by decide +kernel
theorem dX12_number_126 : decode cX12_number 126 = .ok (.goto (-77), 3) := by decide +kernel
theorem dX12_number_129 : decode cX12_number 129 = .ok (.aload_n 0, 1) := by decide +kernel
theorem dX12_number_130 : decode cX12_number 130 = .ok (.aload_n 0, 1) := by decide +kernel
theorem dX12_number_131 : decode cX12_number 131 = .ok (.getfield 243, 3) := by decide +kernel
theorem dX12_number_134 : decode cX12_number 134 = .ok (.putfield 257, 3) := by decide +kernel
theorem dX12_number_137 : decode cX12_number 137 = .ok (.iload 4, 2) := by decide +kernel
theorem dX12_number_139 : decode cX12_number 139 = .ok (.i2l, 1) := by decide +kernel
theorem dX12_number_140 : decode cX12_number 140 = .ok (.iload_n 1, 1) := by decide +kernel
theorem dX12_number_141 : decode cX12_number 141 = .ok (.i2l, 1) := by decide +kernel
theorem dX12_number_142 : decode cX12_number 142 = .ok (.iload_n 2, 1) := by decide +kernel
theorem dX12_number_143 : decode cX12_number 143 = .ok (.i2l, 1) := by decide +kernel
theorem dX12_number_144 : decode cX12_number 144 = .ok (.invokestatic 277, 3) := by decide +kernel
theorem dX12_number_147 : decode cX12_number 147 = .ok (.ifCond .ne 9, 3) := by decide +kernel
theorem dX12_number_150 : decode cX12_number 150 = .ok (.aload_n 0, 1) := by decide +kernel
theorem dX12_number_151 : decode cX12_number 151 = .ok (.iconst 2, 1) := by decide +kernel
theorem dX12_number_152 : decode cX12_number 152 = .ok (.iload_n 3, 1) := by decide +kernel
theorem dX12_number_153 : decode cX12_number 153 = .ok (.invokevirtual 267, 3) := by decide +kernel
theorem dX12_number_156 : decode cX12_number 156 = .ok (.iload 4, 2) := by decide +kernel
theorem dX12_number_158 : decode cX12_number 158 = .ok (.ireturn, 1) := by decide +kernel
theorem dX12_isOwnHere_0 : decode cX12_isOwnHere 0 = .ok (.aload_n 0, 1) := by decide +kernel
theorem dX12_isOwnHere_1 : decode cX12_isOwnHere 1 = .ok (.aload_n 0, 1) := by decide +kernel
theorem dX12_isOwnHere_2 : decode cX12_isOwnHere 2 = .ok (.getfield 20, 3) := by decide +kernel
theorem dX12_isOwnHere_5 : decode cX12_isOwnHere 5 = .ok (.invokevirtual 260, 3) := by decide +kernel
theorem dX12_isOwnHere_8 : decode cX12_isOwnHere 8 = .ok (.ifCond .ne 58, 3) := by decide +kernel
theorem dX12_isOwnHere_11 : decode cX12_isOwnHere 11 = .ok (.aload_n 0, 1) := by decide +kernel
theorem dX12_isOwnHere_12 : decode cX12_isOwnHere 12 = .ok (.aload_n 0, 1) := by decide +kernel
theorem dX12_isOwnHere_13 : decode cX12_isOwnHere 13 = .ok (.getfield 24, 3) := by decide +kernel
theorem dX12_isOwnHere_16 : decode cX12_isOwnHere 16 = .ok (.invokevirtual 260, 3) := by decide +kernel
theorem dX12_isOwnHere_19 : decode cX12_isOwnHere 19 = .ok (.ifCond .ne 47, 3) := by decide +kernel
theorem dX12_isOwnHere_22 : decode cX12_isOwnHere 22 = .ok (.aload_n 0, 1) := by decide +kernel
theorem dX12_isOwnHere_23 : decode cX12_isOwnHere 23 = .ok (.aload_n 0, 1) := by decide +kernel
theorem dX12_isOwnHere_24 : decode cX12_isOwnHere 24 = .ok (.getfield 27, 3) := by decide +kernel
theorem dX12_isOwnHere_27 : decode cX12_isOwnHere 27 = .ok (.invokevirtual 260, 3) := by decide +kernel
theorem dX12_isOwnHere_30 : decode cX12_isOwnHere 30 = .ok (.ifCond .ne 36, 3) := by decide +kernel
theorem dX12_isOwnHere_33 : decode cX12_isOwnHere 33 = .ok (.aload_n 0, 1) := by decide +kernel
theorem dX12_isOwnHere_34 : decode cX12_isOwnHere 34 = .ok (.aload_n 0, 1) := by decide +kernel
theorem dX12_isOwnHere_35 : decode cX12_isOwnHere 35 = .ok (.getfield 30, 3) := by decide +kernel
theorem dX12_isOwnHere_38 : decode cX12_isOwnHere 38 = .ok (.invokevirtual 260, 3) := by decide +kernel
theorem dX12_isOwnHere_41 : decode cX12_isOwnHere 41 = .ok (.ifCond .ne 25, 3) := by decide +kernel
theorem dX12_isOwnHere_44 : decode cX12_isOwnHere 44 = .ok (.aload_n 0, 1) := by decide +kernel
theorem dX12_isOwnHere_45 : decode cX12_isOwnHere 45 = .ok (.aload_n 0, 1) := by decide +kernel
theorem dX12_isOwnHere_46 : decode cX12_isOwnHere 46 = .ok (.getfield 33, 3) := by decide +kernel
theorem dX12_isOwnHere_49 : decode cX12_isOwnHere 49 = .ok (.invokevirtual 260, 3) := by decide +kernel
theorem dX12_isOwnHere_52 : decode cX12_isOwnHere 52 = .ok (.ifCond .ne 14, 3) := by decide +kernel
theorem dX12_isOwnHere_55 : decode cX12_isOwnHere 55 = .ok (.aload_n 0, 1) := by decide +kernel
theorem dX12_isOwnHere_56 : decode cX12_isOwnHere 56 = .ok (.aload_n 0, 1) := by decide +kernel
theorem dX12_isOwnHere_57 : decode cX12_isOwnHere 57 = .ok (.getfield 36, 3) := by decide +kernel
theorem dX12_isOwnHere_60 : decode cX12_isOwnHere 60 = .ok (.invokevirtual 260, 3) := by decide +kernel
theorem dX12_isOwnHere_63 : decode cX12_isOwnHere 63 = .ok (.ifCond .eq 7, 3) := by decide +kernel
theorem dX12_isOwnHere_66 : decode cX12_isOwnHere 66 = .ok (.iconst 1, 1) := by decide +kernel
theorem dX12_isOwnHere_67 : decode cX12_isOwnHere 67 = .ok (.goto 4, 3) := by decide +kernel
theorem dX12_isOwnHere_70 : decode cX12_isOwnHere 70 = .ok (.iconst 0, 1) := by decide +kernel
theorem dX12_isOwnHere_71 : decode cX12_isOwnHere 71 = .ok (.istore_n 1, 1) := by decide +kernel
theorem dX12_isOwnHere_72 : decode cX12_isOwnHere 72 = .ok (.iload_n 1, 1) := by decide +kernel
theorem dX12_isOwnHere_73 : decode cX12_isOwnHere 73 = .ok (.ifCond .ne 69, 3) := by decide +kernel
theorem dX12_isOwnHere_76 : decode cX12_isOwnHere 76 = .ok (.aload_n 0, 1) := by decide +kernel
theorem dX12_isOwnHere_77 : decode cX12_isOwnHere 77 = .ok (.aload_n 0, 1) := by decide +kernel
theorem dX12_isOwnHere_78 : decode cX12_isOwnHere 78 = .ok (.getfield 39, 3) := by decide +kernel
theorem dX12_isOwnHere_81 : decode cX12_isOwnHere 81 = .ok (.invokevirtual 260, 3) := by decide +kernel
theorem dX12_isOwnHere_84 : decode cX12_isOwnHere 84 = .ok (.ifCond .ne 58, 3) := by decide +kernel
theorem dX12_isOwnHere_87 : decode cX12_isOwnHere 87 = .ok (.aload_n 0, 1) := by decide +kernel
theorem dX12_isOwnHere_88 : decode cX12_isOwnHere 88 = .ok (.aload_n 0, 1) := by decide +kernel
theorem dX12_isOwnHere_89 : decode cX12_isOwnHere 89 = .ok (.getfield 42, 3) := by decide +kernel
theorem dX12_isOwnHere_92 : decode cX12_isOwnHere 92 = .ok (.invokevirtual 260, 3) := by decide +kernel
theorem dX12_isOwnHere_95 : decode cX12_isOwnHere 95 = .ok (.ifCond .ne 47, 3) := by decide +kernel
theorem dX12_isOwnHere_98 : decode cX12_isOwnHere 98 = .ok (.aload_n 0, 1) := by decide +kernel
theorem dX12_isOwnHere_99 : decode cX12_isOwnHere 99 = .ok (.aload_n 0, 1) := by decide +kernel
theorem dX12_isOwnHere_100 : decode cX12_isOwnHere 100 = .ok (.getfield 45, 3) := by decide +kernel
theorem dX12_isOwnHere_103 : decode cX12_isOwnHere 103 = .ok (.invokevirtual 260, 3) := by decide +kernel
theorem dX12_isOwnHere_106 : decode cX12_isOwnHere 106 = .ok (.ifCond .ne 36, 3) := by decide +kernel
theorem dX12_isOwnHere_109 : decode cX12_isOwnHere 109 = .ok (.aload_n 0, 1) := by decide +kernel
theorem dX12_isOwnHere_110 : decode cX12_isOwnHere 110 = .ok (.aload_n 0, 1) := by decide +kernel
theorem dX12_isOwnHere_111 : decode cX12_isOwnHere 111 = .ok (.getfield 48, 3) := by decide +kernel
theorem dX12_isOwnHere_114 : decode cX12_isOwnHere 114 = .ok (.invokevirtual 260, 3) := by decide +kernel
theorem dX12_isOwnHere_117 : decode cX12_isOwnHere 117 = .ok (.ifCond .ne 25, 3) := by decide +kernel
theorem dX12_isOwnHere_120 : decode cX12_isOwnHere 120 = .ok (.aload_n 0, 1) := by decide +kernel
theorem dX12_isOwnHere_121 : decode cX12_isOwnHere 121 = .ok (.aload_n 0, 1) := by decide +kernel
theorem dX12_isOwnHere_122 : decode cX12_isOwnHere 122 = .ok (.getfield 51, 3) := by decide +kernel
theorem dX12_isOwnHere_125 : decode cX12_isOwnHere 125 = .ok (.invokevirtual 260, 3) := by decide +kernel
theorem dX12_isOwnHere_128 : decode cX12_isOwnHere 128 = .ok (.ifCond .ne 14, 3) := by decide +kernel
theorem dX12_isOwnHere_131 : decode cX12_isOwnHere 131 = .ok (.aload_n 0, 1) := by decide +kernel
theorem dX12_isOwnHere_132 : decode cX12_isOwnHere 132 = .ok (.aload_n 0, 1) := by decide +kernel
theorem dX12_isOwnHere_133 : decode cX12_isOwnHere 133 = .ok (.getfield 54, 3) := by decide +kernel
theorem dX12_isOwnHere_136 : decode cX12_isOwnHere 136 = .ok (.invokevirtual 260, 3) := by decide +kernel
theorem dX12_isOwnHere_139 : decode cX12_isOwnHere 139 = .ok (.ifCond .eq 7, 3) := by decide +kernel
theorem dX12_isOwnHere_142 : decode cX12_isOwnHere 142 = .ok (.iconst 1, 1) := by decide +kernel
theorem dX12_isOwnHere_143 : decode cX12_isOwnHere 143 = .ok (.goto 4, 3) := by decide +kernel
theorem dX12_isOwnHere_146 : decode cX12_isOwnHere 146 = .ok (.iconst 0, 1) := by decide +kernel
theorem dX12_isOwnHere_147 : decode cX12_isOwnHere 147 = .ok (.istore_n 1, 1) := by decide +kernel
theorem dX12_isOwnHere_148 : decode cX12_isOwnHere 148 = .ok (.iload_n 1, 1) := by decide +kernel
theorem dX12_isOwnHere_149 : decode cX12_isOwnHere 149 = .ok (.ifCond .ne 69, 3) := by decide +kernel
theorem dX12_isOwnHere_152 : decode cX12_isOwnHere 152 = .ok (.aload_n 0, 1) := by decide +kernel
theorem dX12_isOwnHere_153 : decode cX12_isOwnHere 153 = .ok (.aload_n 0, 1) := by decide +kernel
theorem dX12_isOwnHere_154 : decode cX12_isOwnHere 154 = .ok (.getfield 57, 3) := by decide +kernel
theorem dX12_isOwnHere_157 : decode cX12_isOwnHere 157 = .ok (.invokevirtual 260, 3) := by decide +kernel
theorem dX12_isOwnHere_160 : decode cX12_isOwnHere 160 = .ok (.ifCond .ne 58, 3) := by decide +kernel
theorem dX12_isOwnHere_163 : decode cX12_isOwnHere 163 = .ok (.aload_n 0, 1) := by decide +kernel
theorem dX12_isOwnHere_164 : decode cX12_isOwnHere 164 = .ok (.aload_n 0, 1) := by decide +kernel
theorem dX12_isOwnHere_165 : decode cX12_isOwnHere 165 = .ok (.getfield 60, 3) := by decide +kernel
theorem dX12_isOwnHere_168 : decode cX12_isOwnHere 168 = .ok (.invokevirtual 260, 3) := by decide +kernel
theorem dX12_isOwnHere_171 : decode cX12_isOwnHere 171 = .ok (.ifCond .ne 47, 3) := by decide +kernel
theorem dX12_isOwnHere_174 : decode cX12_isOwnHere 174 = .ok (.aload_n 0, 1) := by decide +kernel
theorem dX12_isOwnHere_175 : decode cX12_isOwnHere 175 = .ok (.aload_n 0, 1) := by decide +kernel
theorem dX12_isOwnHere_176 : decode cX12_isOwnHere 176 = .ok (.getfield 63, 3) := by decide +kernel
theorem dX12_isOwnHere_179 : decode cX12_isOwnHere 179 = .ok (.invokevirtual 260, 3) := by decide +kernel
theorem dX12_isOwnHere_182 : decode cX12_isOwnHere 182 = .ok (.ifCond .ne 36, 3) := by decide +kernel
theorem dX12_isOwnHere_185 : decode cX12_isOwnHere 185 = .ok (.aload_n 0, 1) := by decide +kernel
theorem dX12_isOwnHere_186 : decode cX12_isOwnHere 186 = .ok (.aload_n 0, 1) := by decide +kernel
theorem dX12_isOwnHere_187 : decode cX12_isOwnHere 187 = .ok (.getfield 66, 3) := by decide +kernel
theorem dX12_isOwnHere_190 : decode cX12_isOwnHere 190 = .ok (.invokevirtual 260, 3) := by decide +kernel
theorem dX12_isOwnHere_193 : decode cX12_isOwnHere 193 = .ok (.ifCond .ne 25, 3) := by decide +kernel
theorem dX12_isOwnHere_196 : decode cX12_isOwnHere 196 = .ok (.aload_n 0, 1) := by decide +kernel
theorem dX12_isOwnHere_197 : decode cX12_isOwnHere 197 = .ok (.aload_n 0, 1) := by decide +kernel
theorem dX12_isOwnHere_198 : decode cX12_isOwnHere 198 = .ok (.getfield 69, 3) := by decide +kernel
theorem dX12_isOwnHere_201 : decode cX12_isOwnHere 201 = .ok (.invokevirtual 260, 3) := by decide +kernel
theorem dX12_isOwnHere_204 : decode cX12_isOwnHere 204 = .ok (.ifCond .ne 14, 3) := by decide +kernel
theorem dX12_isOwnHere_207 : decode cX12_isOwnHere 207 = .ok (.aload_n 0, 1) := by decide +kernel
theorem dX12_isOwnHere_208 : decode cX12_isOwnHere 208 = .ok (.aload_n 0, 1) := by decide +kernel
theorem dX12_isOwnHere_209 : decode cX12_isOwnHere 209 = .ok (.getfield 72, 3) := by decide +kernel
theorem dX12_isOwnHere_212 : decode cX12_isOwnHere 212 = .ok (.invokevirtual 260, 3) := by decide +kernel
theorem dX12_isOwnHere_215 : decode cX12_isOwnHere 215 = .ok (.ifCond .eq 7, 3) := by decide +kernel
theorem dX12_isOwnHere_218 : decode cX12_isOwnHere 218 = .ok (.iconst 1, 1) := by decide +kernel
theorem dX12_isOwnHere_219 : decode cX12_isOwnHere 219 = .ok (.goto 4, 3) := by decide +kernel
theorem dX12_isOwnHere_222 : decode cX12_isOwnHere 222 = .ok (.iconst 0, 1) := by decide +kernel
theorem dX12_isOwnHere_223 : decode cX12_isOwnHere 223 = .ok (.istore_n 1, 1) := by decide +kernel
theorem dX12_isOwnHere_224 : decode cX12_isOwnHere 224 = .ok (.iload_n 1, 1) := by decide +kernel
theorem dX12_isOwnHere_225 : decode cX12_isOwnHere 225 = .ok (.ifCond .ne 69, 3) := by decide +kernel
theorem dX12_isOwnHere_228 : decode cX12_isOwnHere 228 = .ok (.aload_n 0, 1) := by decide +kernel
theorem dX12_isOwnHere_229 : decode cX12_isOwnHere 229 = .ok (.aload_n 0, 1) := by decide +kernel
theorem dX12_isOwnHere_230 : decode cX12_isOwnHere 230 = .ok (.getfield 75, 3) := by decide +kernel
theorem dX12_isOwnHere_233 : decode cX12_isOwnHere 233 = .ok (.invokevirtual 260, 3) := by decide +kernel
theorem dX12_isOwnHere_236 : decode cX12_isOwnHere 236 = .ok (.ifCond .ne 58, 3) := by decide +kernel
theorem dX12_isOwnHere_239 : decode cX12_isOwnHere 239 = .ok (.aload_n 0, 1) := by decide +kernel
theorem dX12_isOwnHere_240 : decode cX12_isOwnHere 240 = .ok (.aload_n 0, 1) := by decide +kernel
theorem dX12_isOwnHere_241 : decode cX12_isOwnHere 241 = .ok (.getfield 78, 3) := by decide +kernel
theorem dX12_isOwnHere_244 : decode cX12_isOwnHere 244 = .ok (.invokevirtual 260, 3) := by decide +kernel
theorem dX12_isOwnHere_247 : decode cX12_isOwnHere 247 = .ok (.ifCond .ne 47, 3) := by decide +kernel
theorem dX12_isOwnHere_250 : decode cX12_isOwnHere 250 = .ok (.aload_n 0, 1) := by decide +kernel
theorem dX12_isOwnHere_251 : decode cX12_isOwnHere 251 = .ok (.aload_n 0, 1) := by decide +kernel
theorem dX12_isOwnHere_252 : decode cX12_isOwnHere 252 = .ok (.getfield 81, 3) := by decide +kernel
theorem dX12_isOwnHere_255 : decode cX12_isOwnHere 255 = .ok (.invokevirtual 260, 3) := by decide +kernel
theorem dX12_isOwnHere_258 : decode cX12_isOwnHere 258 = .ok (.ifCond .ne 36, 3) := by decide +kernel
theorem dX12_isOwnHere_261 : decode cX12_isOwnHere 261 = .ok (.aload_n 0, 1) := by decide +kernel
theorem dX12_isOwnHere_262 : decode cX12_isOwnHere 262 = .ok (.aload_n 0, 1) := by decide +kernel
theorem dX12_isOwnHere_263 : decode cX12_isOwnHere 263 = .ok (.getfield 84, 3) := by decide +kernel
theorem dX12_isOwnHere_266 : decode cX12_isOwnHere 266 = .ok (.invokevirtual 260, 3) := by decide +kernel
theorem dX12_isOwnHere_269 : decode cX12_isOwnHere 269 = .ok (.ifCond .ne 25, 3) := by decide +kernel
theorem dX12_isOwnHere_272 : decode cX12_isOwnHere 272 = .ok (.aload_n 0, 1) := by decide +kernel
theorem dX12_isOwnHere_273 : decode cX12_isOwnHere 273 = .ok (.aload_n 0, 1) := by decide +kernel
theorem dX12_isOwnHere_274 : decode cX12_isOwnHere 274 = .ok (.getfield 87, 3) := by decide +kernel
theorem dX12_isOwnHere_277 : decode cX12_isOwnHere 277 = .ok (.invokevirtual 260, 3) := by decide +kernel
theorem dX12_isOwnHere_280 : decode cX12_isOwnHere 280 = .ok (.ifCond .ne 14, 3) := by decide +kernel
theorem dX12_isOwnHere_283 : decode cX12_isOwnHere 283 = .ok (.aload_n 0, 1) := by decide +kernel
theorem dX12_isOwnHere_284 : decode cX12_isOwnHere 284 = .ok (.aload_n 0, 1) := by decide +kernel
theorem dX12_isOwnHere_285 : decode cX12_isOwnHere 285 = .ok (.getfield 90, 3) := by decide +kernel
theorem dX12_isOwnHere_288 : decode cX12_isOwnHere 288 = .ok (.invokevirtual 260, 3) := by decide +kernel
theorem dX12_isOwnHere_291 : decode cX12_isOwnHere 291 = .ok (.ifCond .eq 7, 3) := by decide +kernel
theorem dX12_isOwnHere_294 : decode cX12_isOwnHere 294 = .ok (.iconst 1, 1) := by decide +kernel
theorem dX12_isOwnHere_295 : decode cX12_isOwnHere 295 = .ok (.goto 4, 3) := by decide +kernel
theorem dX12_isOwnHere_298 : decode cX12_isOwnHere 298 = .ok (.iconst 0, 1) := by decide +kernel
theorem dX12_isOwnHere_299 : decode cX12_isOwnHere 299 = .ok (.istore_n 1, 1) := by decide +kernel
theorem dX12_isOwnHere_300 : decode cX12_isOwnHere 300 = .ok (.iload_n 1, 1) := by decide +kernel
theorem dX12_isOwnHere_301 : decode cX12_isOwnHere 301 = .ok (.ifCond .ne 14, 3) := by decide +kernel
theorem dX12_isOwnHere_304 : decode cX12_isOwnHere 304 = .ok (.aload_n 0, 1) := by decide +kernel
theorem dX12_isOwnHere_305 : decode cX12_isOwnHere 305 = .ok (.aload_n 0, 1) := by decide +kernel
theorem dX12_isOwnHere_306 : decode cX12_isOwnHere 306 = .ok (.getfield 93, 3) := by decide +kernel
theorem dX12_isOwnHere_309 : decode cX12_isOwnHere 309 = .ok (.invokevirtual 260, 3) := by decide +kernel
theorem dX12_isOwnHere_312 : decode cX12_isOwnHere 312 = .ok (.ifCond .eq 7, 3) := by decide +kernel
theorem dX12_isOwnHere_315 : decode cX12_isOwnHere 315 = .ok (.iconst 1, 1) := by decide +kernel
theorem dX12_isOwnHere_316 : decode cX12_isOwnHere 316 = .ok (.goto 4, 3) := by decide +kernel
theorem dX12_isOwnHere_319 : decode cX12_isOwnHere 319 = .ok (.iconst 0, 1) := by decide +kernel
theorem dX12_isOwnHere_320 : decode cX12_isOwnHere 320 = .ok (.istore_n 1, 1) := by decide +kernel
theorem dX12_isOwnHere_321 : decode cX12_isOwnHere 321 = .ok (.iload_n 1, 1) := by decide +kernel
theorem dX12_isOwnHere_322 : decode cX12_isOwnHere 322 = .ok (.ireturn, 1) := by decide +kernel
theorem dX12_name_0 : decode cX12_name 0 = .ok (.aload_n 0, 1) := by decide +kernel
theorem dX12_name_1 : decode cX12_name 1 = .ok (.getfield 237, 3) := by decide +kernel
theorem dX12_name_4 : decode cX12_name 4 = .ok (.ifCond .eq 5, 3) := by decide +kernel
theorem dX12_name_7 : decode cX12_name 7 = .ok (.lconst 0, 1) := by decide +kernel
theorem dX12_name_8 : decode cX12_name 8 = .ok (.lreturn, 1) := by decide +kernel
theorem dX12_name_9 : decode cX12_name 9 = .ok (.aload_n 0, 1) := by decide +kernel
theorem dX12_name_10 : decode cX12_name 10 = .ok (.invokevirtual 249, 3) := by decide +kernel
theorem dX12_name_13 : decode cX12_name 13 = .ok (.invokestatic 253, 3) := by decide +kernel
theorem dX12_name_16 : decode cX12_name 16 = .ok (.ifCond .eq 21, 3) := by decide +kernel
theorem dX12_name_19 : decode cX12_name 19 = .ok (.aload_n 0, 1) := by decide +kernel
theorem dX12_name_20 : decode cX12_name 20 = .ok (.getfield 243, 3) := by decide +kernel
theorem dX12_name_23 : decode cX12_name 23 = .ok (.aload_n 0, 1) := by decide +kernel
theorem dX12_name_24 : decode cX12_name 24 = .ok (.getfield 257, 3) := by decide +kernel
theorem dX12_name_27 : decode cX12_name 27 = .ok (.if_icmp .eq 10, 3) := by decide +kernel
theorem dX12_name_30 : decode cX12_name 30 = .ok (.aload_n 0, 1) := by decide +kernel
theorem dX12_name_31 : decode cX12_name 31 = .ok (.invokevirtual 281, 3) := by decide +kernel
theorem dX12_name_34 : decode cX12_name 34 = .ok (.ifCond .eq 14, 3) := by decide +kernel
theorem dX12_name_37 : decode cX12_name 37 = .ok (.aload_n 0, 1) := by decide +kernel
theorem dX12_name_38 : decode cX12_name 38 = .ok (.iconst 1, 1) := by decide +kernel
theorem dX12_name_39 : decode cX12_name 39 = .ok (.aload_n 0, 1) := by decide +kernel
theorem dX12_name_40 : decode cX12_name 40 = .ok (.getfield 243, 3) := by decide +kernel
theorem dX12_name_43 : decode cX12_name 43 = .ok (.invokevirtual 267, 3) := by decide +kernel
theorem dX12_name_46 : decode cX12_name 46 = .ok (.lconst 0, 1) := by decide +kernel
theorem dX12_name_47 : decode cX12_name 47 = .ok (.lreturn, 1) := by decide +kernel
theorem dX12_name_48 : decode cX12_name 48 = .ok (.aload_n 0, 1) := by decide +kernel
theorem dX12_name_49 : decode cX12_name 49 = .ok (.aload_n 0, 1) := by decide +kernel
theorem dX12_name_50 : decode cX12_name 50 = .ok (.getfield 243, 3) := by decide +kernel
theorem dX12_name_53 : decode cX12_name 53 = .ok (.putfield 285, 3) := by decide +kernel
theorem dX12_name_56 : decode cX12_name 56 = .ok (.lconst 0, 1) := by decide +kernel
theorem dX12_name_57 : decode cX12_name 57 = .ok (.lstore_n 1, 1) := by decide +kernel
theorem dX12_name_58 : decode cX12_name 58 = .ok (.aload_n 0, 1) := by decide +kernel
theorem dX12_name_59 : decode cX12_name 59 = .ok (.getfield 243, 3) := by decide +kernel
theorem dX12_name_62 : decode cX12_name 62 = .ok (.aload_n 0, 1) := by decide +kernel
theorem dX12_name_63 : decode cX12_name 63 = .ok (.getfield 246, 3) := by decide +kernel
theorem dX12_name_66 : decode cX12_name 66 = .ok (.if_icmp .ge 79, 3) := by decide +kernel
theorem dX12_name_69 : decode cX12_name 69 = .ok (.aload_n 0, 1) := by decide +kernel
theorem dX12_name_70 : decode cX12_name 70 = .ok (.getfield 7, 3) := by decide +kernel
theorem dX12_name_73 : decode cX12_name 73 = .ok (.aload_n 0, 1) := by decide +kernel
theorem dX12_name_74 : decode cX12_name 74 = .ok (.getfield 243, 3) := by decide +kernel
theorem dX12_name_77 : decode cX12_name 77 = .ok (.iaload, 1) := by decide +kernel
theorem dX12_name_78 : decode cX12_name 78 = .ok (.invokestatic 253, 3) := by decide +kernel
theorem dX12_name_81 : decode cX12_name 81 = .ok (.ifCond .eq 64, 3) := by decide +kernel
theorem dX12_name_84 : decode cX12_name 84 = .ok (.aload_n 0, 1) := by decide +kernel
theorem dX12_name_85 : decode cX12_name 85 = .ok (.getfield 243, 3) := by decide +kernel
theorem dX12_name_88 : decode cX12_name 88 = .ok (.aload_n 0, 1) := by decide +kernel
theorem dX12_name_89 : decode cX12_name 89 = .ok (.getfield 285, 3) := by decide +kernel
theorem dX12_name_92 : decode cX12_name 92 = .ok (.isub, 1) := by decide +kernel
theorem dX12_name_93 : decode cX12_name 93 = .ok (.bipush 6, 2) := by decide +kernel
theorem dX12_name_95 : decode cX12_name 95 = .ok (.if_icmp .ne 14, 3) := by decide +kernel
theorem dX12_name_98 : decode cX12_name 98 = .ok (.aload_n 0, 1) := by decide +kernel
theorem dX12_name_99 : decode cX12_name 99 = .ok (.iconst 1, 1) := by decide +kernel
theorem dX12_name_100 : decode cX12_name 100 = .ok (.aload_n 0, 1) := by decide +kernel
theorem dX12_name_101 : decode cX12_name 101 = .ok (.getfield 243, 3) := by decide +kernel
theorem dX12_name_104 : decode cX12_name 104 = .ok (.invokevirtual 267, 3) := by decide +kernel
theorem dX12_name_107 : decode cX12_name 107 = .ok (.lconst 0, 1) := by decide +kernel
theorem dX12_name_108 : decode cX12_name 108 = .ok (.lreturn, 1) := by decide +kernel
theorem dX12_name_109 : decode cX12_name 109 = .ok (.ldc2_w 288, 3) := by decide +kernel
theorem dX12_name_112 : decode cX12_name 112 = .ok (.lload_n 1, 1) := by decide +kernel
theorem dX12_name_113 : decode cX12_name 113 = .ok (.lmul, 1) := by decide +kernel
theorem dX12_name_114 : decode cX12_name 114 = .ok (.aload_n 0, 1) := by decide +kernel
theorem dX12_name_115 : decode cX12_name 115 = .ok (.getfield 7, 3) := by decide +kernel
theorem dX12_name_118 : decode cX12_name 118 = .ok (.aload_n 0, 1) := by decide +kernel
theorem dX12_name_119 : decode cX12_name 119 = .ok (.getfield 243, 3) := by decide +kernel
theorem dX12_name_122 : decode cX12_name 122 = .ok (.iaload, 1) := by decide +kernel
theorem dX12_name_123 : decode cX12_name 123 = .ok (.i2l, 1) := by decide +kernel
theorem dX12_name_124 : decode cX12_name 124 = .ok (.ladd, 1) := by decide +kernel
theorem dX12_name_125 : decode cX12_name 125 = .ok (.ldc2_w 290, 3) := by decide +kernel
theorem dX12_name_128 : decode cX12_name 128 = .ok (.lsub, 1) := by decide +kernel
theorem dX12_name_129 : decode cX12_name 129 = .ok (.lconst 1, 1) := by decide +kernel
theorem dX12_name_130 : decode cX12_name 130 = .ok (.ladd, 1) := by decide +kernel
theorem dX12_name_131 : decode cX12_name 131 = .ok (.lstore_n 1, 1) := by decide +kernel
theorem dX12_name_132 : decode cX12_name 132 = .ok (.aload_n 0, 1) := by decide +kernel
theorem dX12_name_133 : decode cX12_name 133 = .ok (.dup, 1) := by decide +kernel
theorem dX12_name_134 : decode cX12_name 134 = .ok (.getfield 243, 3) := by decide +kernel
theorem dX12_name_137 : decode cX12_name 137 = .ok (.iconst 1, 1) := by decide +kernel
theorem dX12_name_138 : decode cX12_name 138 = .ok (.iadd, 1) := by decide +kernel
theorem dX12_name_139 : decode cX12_name 139 = .ok (.putfield 243, 3) := by decide +kernel
theorem dX12_name_142 : decode cX12_name 142 = .ok (.goto (-84), 3) := by decide +kernel
theorem dX12_name_145 : decode cX12_name 145 = .ok (.aload_n 0, 1) := by decide +kernel
theorem dX12_name_146 : decode cX12_name 146 = .ok (.aload_n 0, 1) := by decide +kernel
theorem dX12_name_147 : decode cX12_name 147 = .ok (.getfield 243, 3) := by decide +kernel
theorem dX12_name_150 : decode cX12_name 150 = .ok (.putfield 257, 3) := by decide +kernel
theorem dX12_name_153 : decode cX12_name 153 = .ok (.lload_n 1, 1) := by decide +kernel
theorem dX12_name_154 : decode cX12_name 154 = .ok (.lreturn, 1) := by decide +kernel
theorem dX12_isAllowed_0 : decode cX12_isAllowed 0 = .ok (.aload_n 0, 1) := by decide +kernel
theorem dX12_isAllowed_1 : decode cX12_isAllowed 1 = .ok (.getfield 292, 3) := by decide +kernel
theorem dX12_isAllowed_4 : decode cX12_isAllowed 4 = .ok (.ifCond .ne 16, 3) := by decide +kernel
theorem dX12_isAllowed_7 : decode cX12_isAllowed 7 = .ok (.iload_n 1, 1) := by decide +kernel
theorem dX12_isAllowed_8 : decode cX12_isAllowed 8 = .ok (.iconst 4, 1) := by decide +kernel
theorem dX12_isAllowed_9 : decode cX12_isAllowed 9 = .ok (.if_icmp .ge 7, 3) := by decide +kernel
theorem dX12_isAllowed_12 : decode cX12_isAllowed 12 = .ok (.iconst 1, 1) := by decide +kernel
theorem dX12_isAllowed_13 : decode cX12_isAllowed 13 = .ok (.goto 49, 3) := by decide +kernel
theorem dX12_isAllowed_16 : decode cX12_isAllowed 16 = .ok (.iconst 0, 1) := by decide +kernel
theorem dX12_isAllowed_17 : decode cX12_isAllowed 17 = .ok (.goto 45, 3) := by decide +kernel
theorem dX12_isAllowed_20 : decode cX12_isAllowed 20 = .ok (.aload_n 0, 1) := by decide +kernel
theorem dX12_isAllowed_21 : decode cX12_isAllowed 21 = .ok (.getfield 292, 3) := by decide +kernel
theorem dX12_isAllowed_24 : decode cX12_isAllowed 24 = .ok (.iconst 1, 1) := by decide +kernel
theorem dX12_isAllowed_25 : decode cX12_isAllowed 25 = .ok (.if_icmp .ne 17, 3) := by decide +kernel
theorem dX12_isAllowed_28 : decode cX12_isAllowed 28 = .ok (.iload_n 1, 1) := by decide +kernel
theorem dX12_isAllowed_29 : decode cX12_isAllowed 29 = .ok (.bipush 6, 2) := by decide +kernel
theorem dX12_isAllowed_31 : decode cX12_isAllowed 31 = .ok (.if_icmp .ge 7, 3) := by decide +kernel
theorem dX12_isAllowed_34 : decode cX12_isAllowed 34 = .ok (.iconst 1, 1) := by decide +kernel
theorem dX12_isAllowed_35 : decode cX12_isAllowed 35 = .ok (.goto 27, 3) := by decide +kernel
theorem dX12_isAllowed_38 : decode cX12_isAllowed 38 = .ok (.iconst 0, 1) := by decide +kernel
theorem dX12_isAllowed_39 : decode cX12_isAllowed 39 = .ok (.goto 23, 3) := by decide +kernel
theorem dX12_isAllowed_42 : decode cX12_isAllowed 42 = .ok (.iload_n 1, 1) := by decide +kernel
theorem dX12_isAllowed_43 : decode cX12_isAllowed 43 = .ok (.iconst 2, 1) := by decide +kernel
theorem dX12_isAllowed_44 : decode cX12_isAllowed 44 = .ok (.if_icmp .lt 13, 3) := by decide +kernel
theorem dX12_isAllowed_47 : decode cX12_isAllowed 47 = .ok (.iload_n 1, 1) := by decide +kernel
theorem dX12_isAllowed_48 : decode cX12_isAllowed 48 = .ok (.iconst 3, 1) := by decide +kernel
theorem dX12_isAllowed_49 : decode cX12_isAllowed 49 = .ok (.if_icmp .eq 8, 3) := by decide +kernel
theorem dX12_isAllowed_52 : decode cX12_isAllowed 52 = .ok (.iload_n 1, 1) := by decide +kernel
theorem dX12_isAllowed_53 : decode cX12_isAllowed 53 = .ok (.iconst 5, 1) := by decide +kernel
theorem dX12_isAllowed_54 : decode cX12_isAllowed 54 = .ok (.if_icmp .le 7, 3) := by decide +kernel
theorem dX12_isAllowed_57 : decode cX12_isAllowed 57 = .ok (.iconst 1, 1) := by decide +kernel
theorem dX12_isAllowed_58 : decode cX12_isAllowed 58 = .ok (.goto 4, 3) := by decide +kernel
theorem dX12_isAllowed_61 : decode cX12_isAllowed 61 = .ok (.iconst 0, 1) := by decide +kernel
theorem dX12_isAllowed_62 : decode cX12_isAllowed 62 = .ok (.ireturn, 1) := by decide +kernel
theorem dX12_isFull_0 : decode cX12_isFull 0 = .ok (.aload_n 0, 1) := by decide +kernel
theorem dX12_isFull_1 : decode cX12_isFull 1 = .ok (.getfield 237, 3) := by decide +kernel
theorem dX12_isFull_4 : decode cX12_isFull 4 = .ok (.ifCond .ne 19, 3) := by decide +kernel
theorem dX12_isFull_7 : decode cX12_isFull 7 = .ok (.aload_n 0, 1) := by decide +kernel
theorem dX12_isFull_8 : decode cX12_isFull 8 = .ok (.getfield 99, 3) := by decide +kernel
theorem dX12_isFull_11 : decode cX12_isFull 11 = .ok (.iload_n 1, 1) := by decide +kernel
theorem dX12_isFull_12 : decode cX12_isFull 12 = .ok (.iaload, 1) := by decide +kernel
theorem dX12_isFull_13 : decode cX12_isFull 13 = .ok (.iload_n 2, 1) := by decide +kernel
theorem dX12_isFull_14 : decode cX12_isFull 14 = .ok (.if_icmp .ne 9, 3) := by decide +kernel
theorem dX12_isFull_17 : decode cX12_isFull 17 = .ok (.aload_n 0, 1) := by decide +kernel
theorem dX12_isFull_18 : decode cX12_isFull 18 = .ok (.iconst 5, 1) := by decide +kernel
theorem dX12_isFull_19 : decode cX12_isFull 19 = .ok (.iload_n 3, 1) := by decide +kernel
theorem dX12_isFull_20 : decode cX12_isFull 20 = .ok (.invokevirtual 267, 3) := by decide +kernel
theorem dX12_isFull_23 : decode cX12_isFull 23 = .ok (.aload_n 0, 1) := by decide +kernel
theorem dX12_isFull_24 : decode cX12_isFull 24 = .ok (.getfield 237, 3) := by decide +kernel
theorem dX12_isFull_27 : decode cX12_isFull 27 = .ok (.ifCond .eq 7, 3) := by decide +kernel
theorem dX12_isFull_30 : decode cX12_isFull 30 = .ok (.iconst 1, 1) := by decide +kernel
theorem dX12_isFull_31 : decode cX12_isFull 31 = .ok (.goto 4, 3) := by decide +kernel
theorem dX12_isFull_34 : decode cX12_isFull 34 = .ok (.iconst 0, 1) := by decide +kernel
theorem dX12_isFull_35 : decode cX12_isFull 35 = .ok (.ireturn, 1) := by decide +kernel
theorem dX12_newName_0 : decode cX12_newName 0 = .ok (.aload_n 0, 1) := by decide +kernel
theorem dX12_newName_1 : decode cX12_newName 1 = .ok (.invokevirtual 295, 3) := by decide +kernel
theorem dX12_newName_4 : decode cX12_newName 4 = .ok (.lstore_n 1, 1) := by decide +kernel
theorem dX12_newName_5 : decode cX12_newName 5 = .ok (.iconst 0, 1) := by decide +kernel
theorem dX12_newName_6 : decode cX12_newName 6 = .ok (.istore_n 3, 1) := by decide +kernel
theorem dX12_newName_7 : decode cX12_newName 7 = .ok (.iload_n 3, 1) := by decide +kernel
theorem dX12_newName_8 : decode cX12_newName 8 = .ok (.iconst 2, 1) := by decide +kernel
theorem dX12_newName_9 : decode cX12_newName 9 = .ok (.if_icmp .ge 62, 3) := by decide +kernel
theorem dX12_newName_12 : decode cX12_newName 12 = .ok (.iconst 0, 1) := by decide +kernel
theorem dX12_newName_13 : decode cX12_newName 13 = .ok (.istore 4, 2) := by decide +kernel
theorem dX12_newName_15 : decode cX12_newName 15 = .ok (.iload 4, 2) := by decide +kernel
theorem dX12_newName_17 : decode cX12_newName 17 = .ok (.aload_n 0, 1) := by decide +kernel
theorem dX12_newName_18 : decode cX12_newName 18 = .ok (.getfield 99, 3) := by decide +kernel
theorem dX12_newName_21 : decode cX12_newName 21 = .ok (.iload_n 3, 1) := by decide +kernel
theorem dX12_newName_22 : decode cX12_newName 22 = .ok (.iaload, 1) := by decide +kernel
theorem dX12_newName_23 : decode cX12_newName 23 = .ok (.if_icmp .ge 42, 3) := by decide +kernel
theorem dX12_newName_26 : decode cX12_newName 26 = .ok (.aload_n 0, 1) := by decide +kernel
theorem dX12_newName_27 : decode cX12_newName 27 = .ok (.getfield 237, 3) := by decide +kernel
theorem dX12_newName_30 : decode cX12_newName 30 = .ok (.ifCond .ne 29, 3) := by decide +kernel
theorem dX12_newName_33 : decode cX12_newName 33 = .ok (.aload_n 0, 1) := by decide +kernel
theorem dX12_newName_34 : decode cX12_newName 34 = .ok (.getfield 102, 3) := by decide +kernel
theorem dX12_newName_37 : decode cX12_newName 37 = .ok (.bipush 8, 2) := by decide +kernel
theorem dX12_newName_39 : decode cX12_newName 39 = .ok (.iload_n 3, 1) := by decide +kernel
theorem dX12_newName_40 : decode cX12_newName 40 = .ok (.imul, 1) := by decide +kernel
theorem dX12_newName_41 : decode cX12_newName 41 = .ok (.iload 4, 2) := by decide +kernel
theorem dX12_newName_43 : decode cX12_newName 43 = .ok (.iadd, 1) := by decide +kernel
theorem dX12_newName_44 : decode cX12_newName 44 = .ok (.laload, 1) := by decide +kernel
theorem dX12_newName_45 : decode cX12_newName 45 = .ok (.lload_n 1, 1) := by decide +kernel
theorem dX12_newName_46 : decode cX12_newName 46 = .ok (.lcmp, 1) := by decide +kernel
theorem dX12_newName_47 : decode cX12_newName 47 = .ok (.ifCond .ne 12, 3) := by decide +kernel
theorem dX12_newName_50 : decode cX12_newName 50 = .ok (.aload_n 0, 1) := by decide +kernel
theorem dX12_newName_51 : decode cX12_newName 51 = .ok (.iconst 3, 1) := by decide +kernel
theorem dX12_newName_52 : decode cX12_newName 52 = .ok (.aload_n 0, 1) := by decide +kernel
theorem dX12_newName_53 : decode cX12_newName 53 = .ok (.getfield 285, 3) := by decide +kernel
theorem dX12_newName_56 : decode cX12_newName 56 = .ok (.invokevirtual 267, 3) := by decide +kernel
theorem dX12_newName_59 : decode cX12_newName 59 = .ok (.iinc 4 1, 3) := by decide +kernel
theorem dX12_newName_62 : decode cX12_newName 62 = .ok (.goto (-47), 3) := by decide +kernel
theorem dX12_newName_65 : decode cX12_newName 65 = .ok (.iinc 3 1, 3) := by decide +kernel
theorem dX12_newName_68 : decode cX12_newName 68 = .ok (.goto (-61), 3) := by decide +kernel
theorem dX12_newName_71 : decode cX12_newName 71 = .ok (.lload_n 1, 1) := by decide +kernel
theorem dX12_newName_72 : decode cX12_newName 72 = .ok (.lreturn, 1) := by decide +kernel
theorem dX12_fairTold_0 : decode cX12_fairTold 0 = .ok (.aload_n 0, 1) := by decide +kernel
theorem dX12_fairTold_1 : decode cX12_fairTold 1 = .ok (.aload_n 0, 1) := by decide +kernel
theorem dX12_fairTold_2 : decode cX12_fairTold 2 = .ok (.getfield 20, 3) := by decide +kernel
theorem dX12_fairTold_5 : decode cX12_fairTold 5 = .ok (.invokevirtual 299, 3) := by decide +kernel
theorem dX12_fairTold_8 : decode cX12_fairTold 8 = .ok (.aload_n 0, 1) := by decide +kernel
theorem dX12_fairTold_9 : decode cX12_fairTold 9 = .ok (.getfield 96, 3) := by decide +kernel
theorem dX12_fairTold_12 : decode cX12_fairTold 12 = .ok (.iconst 0, 1) := by decide +kernel
theorem dX12_fairTold_13 : decode cX12_fairTold 13 = .ok (.aload_n 0, 1) := by decide +kernel
theorem dX12_fairTold_14 : decode cX12_fairTold 14 = .ok (.bipush 10, 2) := by decide +kernel
theorem dX12_fairTold_16 : decode cX12_fairTold 16 = .ok (.sipush 400, 3) := by decide +kernel
theorem dX12_fairTold_19 : decode cX12_fairTold 19 = .ok (.invokevirtual 303, 3) := by decide +kernel
theorem dX12_fairTold_22 : decode cX12_fairTold 22 = .ok (.iastore, 1) := by decide +kernel
theorem dX12_fairTold_23 : decode cX12_fairTold 23 = .ok (.aload_n 0, 1) := by decide +kernel
theorem dX12_fairTold_24 : decode cX12_fairTold 24 = .ok (.bipush 59, 2) := by decide +kernel
theorem dX12_fairTold_26 : decode cX12_fairTold 26 = .ok (.invokevirtual 307, 3) := by decide +kernel
theorem dX12_fairTold_29 : decode cX12_fairTold 29 = .ok (.return_, 1) := by decide +kernel
theorem dX12_stallTold_0 : decode cX12_stallTold 0 = .ok (.aload_n 0, 1) := by decide +kernel
theorem dX12_stallTold_1 : decode cX12_stallTold 1 = .ok (.iconst 0, 1) := by decide +kernel
theorem dX12_stallTold_2 : decode cX12_stallTold 2 = .ok (.bipush 6, 2) := by decide +kernel
theorem dX12_stallTold_4 : decode cX12_stallTold 4 = .ok (.iload_n 1, 1) := by decide +kernel
theorem dX12_stallTold_5 : decode cX12_stallTold 5 = .ok (.invokevirtual 311, 3) := by decide +kernel
theorem dX12_stallTold_8 : decode cX12_stallTold 8 = .ok (.ifCond .eq 4, 3) := by decide +kernel
theorem dX12_stallTold_11 : decode cX12_stallTold 11 = .ok (.return_, 1) := by decide +kernel
theorem dX12_stallTold_12 : decode cX12_stallTold 12 = .ok (.aload_n 0, 1) := by decide +kernel
theorem dX12_stallTold_13 : decode cX12_stallTold 13 = .ok (.invokevirtual 315, 3) := by decide +kernel
theorem dX12_stallTold_16 : decode cX12_stallTold 16 = .ok (.lstore_n 2, 1) := by decide +kernel
theorem dX12_stallTold_17 : decode cX12_stallTold 17 = .ok (.aload_n 0, 1) := by decide +kernel
theorem dX12_stallTold_18 : decode cX12_stallTold 18 = .ok (.aload_n 0, 1) := by decide +kernel
theorem dX12_stallTold_19 : decode cX12_stallTold 19 = .ok (.getfield 27, 3) := by decide +kernel
theorem dX12_stallTold_22 : decode cX12_stallTold 22 = .ok (.invokevirtual 299, 3) := by decide +kernel
theorem dX12_stallTold_25 : decode cX12_stallTold 25 = .ok (.aload_n 0, 1) := by decide +kernel
theorem dX12_stallTold_26 : decode cX12_stallTold 26 = .ok (.iconst 0, 1) := by decide +kernel
theorem dX12_stallTold_27 : decode cX12_stallTold 27 = .ok (.bipush 99, 2) := by decide +kernel
theorem dX12_stallTold_29 : decode cX12_stallTold 29 = .ok (.invokevirtual 303, 3) := by decide +kernel
theorem dX12_stallTold_32 : decode cX12_stallTold 32 = .ok (.istore 4, 2) := by decide +kernel
theorem dX12_stallTold_34 : decode cX12_stallTold 34 = .ok (.aload_n 0, 1) := by decide +kernel
theorem dX12_stallTold_35 : decode cX12_stallTold 35 = .ok (.aload_n 0, 1) := by decide +kernel
theorem dX12_stallTold_36 : decode cX12_stallTold 36 = .ok (.getfield 30, 3) := by decide +kernel
theorem dX12_stallTold_39 : decode cX12_stallTold 39 = .ok (.invokevirtual 299, 3) := by decide +kernel
theorem dX12_stallTold_42 : decode cX12_stallTold 42 = .ok (.aload_n 0, 1) := by decide +kernel
theorem dX12_stallTold_43 : decode cX12_stallTold 43 = .ok (.iconst 0, 1) := by decide +kernel
theorem dX12_stallTold_44 : decode cX12_stallTold 44 = .ok (.bipush 9, 2) := by decide +kernel
theorem dX12_stallTold_46 : decode cX12_stallTold 46 = .ok (.invokevirtual 303, 3) := by decide +kernel
theorem dX12_stallTold_49 : decode cX12_stallTold 49 = .ok (.istore 5, 2) := by decide +kernel
theorem dX12_stallTold_51 : decode cX12_stallTold 51 = .ok (.aload_n 0, 1) := by decide +kernel
theorem dX12_stallTold_52 : decode cX12_stallTold 52 = .ok (.aload_n 0, 1) := by decide +kernel
theorem dX12_stallTold_53 : decode cX12_stallTold 53 = .ok (.getfield 33, 3) := by decide +kernel
theorem dX12_stallTold_56 : decode cX12_stallTold 56 = .ok (.invokevirtual 299, 3) := by decide +kernel
theorem dX12_stallTold_59 : decode cX12_stallTold 59 = .ok (.aload_n 0, 1) := by decide +kernel
theorem dX12_stallTold_60 : decode cX12_stallTold 60 = .ok (.iconst 0, 1) := by decide +kernel
theorem dX12_stallTold_61 : decode cX12_stallTold 61 = .ok (.sipush 999, 3) := by decide +kernel
theorem dX12_stallTold_64 : decode cX12_stallTold 64 = .ok (.invokevirtual 303, 3) := by decide +kernel
theorem dX12_stallTold_67 : decode cX12_stallTold 67 = .ok (.istore 6, 2) := by decide +kernel
theorem dX12_stallTold_69 : decode cX12_stallTold 69 = .ok (.aload_n 0, 1) := by decide +kernel
theorem dX12_stallTold_70 : decode cX12_stallTold 70 = .ok (.aload_n 0, 1) := by decide +kernel
theorem dX12_stallTold_71 : decode cX12_stallTold 71 = .ok (.getfield 36, 3) := by decide +kernel
theorem dX12_stallTold_74 : decode cX12_stallTold 74 = .ok (.invokevirtual 299, 3) := by decide +kernel
theorem dX12_stallTold_77 : decode cX12_stallTold 77 = .ok (.aload_n 0, 1) := by decide +kernel
theorem dX12_stallTold_78 : decode cX12_stallTold 78 = .ok (.iconst 0, 1) := by decide +kernel
theorem dX12_stallTold_79 : decode cX12_stallTold 79 = .ok (.sipush 400, 3) := by decide +kernel
theorem dX12_stallTold_82 : decode cX12_stallTold 82 = .ok (.invokevirtual 303, 3) := by decide +kernel
theorem dX12_stallTold_85 : decode cX12_stallTold 85 = .ok (.istore 7, 2) := by decide +kernel
theorem dX12_stallTold_87 : decode cX12_stallTold 87 = .ok (.aload_n 0, 1) := by decide +kernel
theorem dX12_stallTold_88 : decode cX12_stallTold 88 = .ok (.getfield 237, 3) := by decide +kernel
theorem dX12_stallTold_91 : decode cX12_stallTold 91 = .ok (.ifCond .eq 4, 3) := by decide +kernel
theorem dX12_stallTold_94 : decode cX12_stallTold 94 = .ok (.return_, 1) := by decide +kernel
theorem dX12_stallTold_95 : decode cX12_stallTold 95 = .ok (.iconst 4, 1) := by decide +kernel
theorem dX12_stallTold_96 : decode cX12_stallTold 96 = .ok (.aload_n 0, 1) := by decide +kernel
theorem dX12_stallTold_97 : decode cX12_stallTold 97 = .ok (.getfield 99, 3) := by decide +kernel
theorem dX12_stallTold_100 : decode cX12_stallTold 100 = .ok (.iconst 0, 1) := by decide +kernel
theorem dX12_stallTold_101 : decode cX12_stallTold 101 = .ok (.iaload, 1) := by decide +kernel
theorem dX12_stallTold_102 : decode cX12_stallTold 102 = .ok (.imul, 1) := by decide +kernel
theorem dX12_stallTold_103 : decode cX12_stallTold 103 = .ok (.istore 8, 2) := by decide +kernel
theorem dX12_stallTold_105 : decode cX12_stallTold 105 = .ok (.aload_n 0, 1) := by decide +kernel
theorem dX12_stallTold_106 : decode cX12_stallTold 106 = .ok (.getfield 102, 3) := by decide +kernel
theorem dX12_stallTold_109 : decode cX12_stallTold 109 = .ok (.aload_n 0, 1) := by decide +kernel
theorem dX12_stallTold_110 : decode cX12_stallTold 110 = .ok (.getfield 99, 3) := by decide +kernel
theorem dX12_stallTold_113 : decode cX12_stallTold 113 = .ok (.iconst 0, 1) := by decide +kernel
theorem dX12_stallTold_114 : decode cX12_stallTold 114 = .ok (.iaload, 1) := by decide +kernel
theorem dX12_stallTold_115 : decode cX12_stallTold 115 = .ok (.lload_n 2, 1) := by decide +kernel
theorem dX12_stallTold_116 : decode cX12_stallTold 116 = .ok (.lastore, 1) := by decide +kernel
theorem dX12_stallTold_117 : decode cX12_stallTold 117 = .ok (.aload_n 0, 1) := by decide +kernel
theorem dX12_stallTold_118 : decode cX12_stallTold 118 = .ok (.getfield 106, 3) := by decide +kernel
theorem dX12_stallTold_121 : decode cX12_stallTold 121 = .ok (.iload 8, 2) := by decide +kernel
theorem dX12_stallTold_123 : decode cX12_stallTold 123 = .ok (.iload 4, 2) := by decide +kernel
theorem dX12_stallTold_125 : decode cX12_stallTold 125 = .ok (.iastore, 1) := by decide +kernel
theorem dX12_stallTold_126 : decode cX12_stallTold 126 = .ok (.aload_n 0, 1) := by decide +kernel
theorem dX12_stallTold_127 : decode cX12_stallTold 127 = .ok (.getfield 106, 3) := by decide +kernel
theorem dX12_stallTold_130 : decode cX12_stallTold 130 = .ok (.iload 8, 2) := by decide +kernel
theorem dX12_stallTold_132 : decode cX12_stallTold 132 = .ok (.iconst 1, 1) := by decide +kernel
theorem dX12_stallTold_133 : decode cX12_stallTold 133 = .ok (.iadd, 1) := by decide +kernel
theorem dX12_stallTold_134 : decode cX12_stallTold 134 = .ok (.iload 5, 2) := by decide +kernel
theorem dX12_stallTold_136 : decode cX12_stallTold 136 = .ok (.iastore, 1) := by decide +kernel
theorem dX12_stallTold_137 : decode cX12_stallTold 137 = .ok (.aload_n 0, 1) := by decide +kernel
theorem dX12_stallTold_138 : decode cX12_stallTold 138 = .ok (.getfield 106, 3) := by decide +kernel
theorem dX12_stallTold_141 : decode cX12_stallTold 141 = .ok (.iload 8, 2) := by decide +kernel
theorem dX12_stallTold_143 : decode cX12_stallTold 143 = .ok (.iconst 2, 1) := by decide +kernel
theorem dX12_stallTold_144 : decode cX12_stallTold 144 = .ok (.iadd, 1) := by decide +kernel
theorem dX12_stallTold_145 : decode cX12_stallTold 145 = .ok (.iload 6, 2) := by decide +kernel
theorem dX12_stallTold_147 : decode cX12_stallTold 147 = .ok (.iastore, 1) := by decide +kernel
theorem dX12_stallTold_148 : decode cX12_stallTold 148 = .ok (.aload_n 0, 1) := by decide +kernel
theorem dX12_stallTold_149 : decode cX12_stallTold 149 = .ok (.getfield 106, 3) := by decide +kernel
theorem dX12_stallTold_152 : decode cX12_stallTold 152 = .ok (.iload 8, 2) := by decide +kernel
theorem dX12_stallTold_154 : decode cX12_stallTold 154 = .ok (.iconst 3, 1) := by decide +kernel
theorem dX12_stallTold_155 : decode cX12_stallTold 155 = .ok (.iadd, 1) := by decide +kernel
theorem dX12_stallTold_156 : decode cX12_stallTold 156 = .ok (.iload 7, 2) := by decide +kernel
theorem dX12_stallTold_158 : decode cX12_stallTold 158 = .ok (.iastore, 1) := by decide +kernel
theorem dX12_stallTold_159 : decode cX12_stallTold 159 = .ok (.aload_n 0, 1) := by decide +kernel
theorem dX12_stallTold_160 : decode cX12_stallTold 160 = .ok (.getfield 99, 3) := by decide +kernel
theorem dX12_stallTold_163 : decode cX12_stallTold 163 = .ok (.iconst 0, 1) := by decide +kernel
theorem dX12_stallTold_164 : decode cX12_stallTold 164 = .ok (.dup2, 1) := by decide +kernel
theorem dX12_stallTold_165 : decode cX12_stallTold 165 = .ok (.iaload, 1) := by decide +kernel
theorem dX12_stallTold_166 : decode cX12_stallTold 166 = .ok (.iconst 1, 1) := by decide +kernel
theorem dX12_stallTold_167 : decode cX12_stallTold 167 = .ok (.iadd, 1) := by decide +kernel
theorem dX12_stallTold_168 : decode cX12_stallTold 168 = .ok (.iastore, 1) := by decide +kernel
theorem dX12_stallTold_169 : decode cX12_stallTold 169 = .ok (.return_, 1) := by decide +kernel
theorem dX12_coinTold_0 : decode cX12_coinTold 0 = .ok (.aload_n 0, 1) := by decide +kernel
theorem dX12_coinTold_1 : decode cX12_coinTold 1 = .ok (.iconst 1, 1) := by decide +kernel
theorem dX12_coinTold_2 : decode cX12_coinTold 2 = .ok (.bipush 8, 2) := by decide +kernel
theorem dX12_coinTold_4 : decode cX12_coinTold 4 = .ok (.iload_n 1, 1) := by decide +kernel
theorem dX12_coinTold_5 : decode cX12_coinTold 5 = .ok (.invokevirtual 311, 3) := by decide +kernel
theorem dX12_coinTold_8 : decode cX12_coinTold 8 = .ok (.ifCond .eq 4, 3) := by decide +kernel
theorem dX12_coinTold_11 : decode cX12_coinTold 11 = .ok (.return_, 1) := by decide +kernel
theorem dX12_coinTold_12 : decode cX12_coinTold 12 = .ok (.aload_n 0, 1) := by decide +kernel
theorem dX12_coinTold_13 : decode cX12_coinTold 13 = .ok (.invokevirtual 315, 3) := by decide +kernel
theorem dX12_coinTold_16 : decode cX12_coinTold 16 = .ok (.lstore_n 2, 1) := by decide +kernel
theorem dX12_coinTold_17 : decode cX12_coinTold 17 = .ok (.aload_n 0, 1) := by decide +kernel
theorem dX12_coinTold_18 : decode cX12_coinTold 18 = .ok (.aload_n 0, 1) := by decide +kernel
theorem dX12_coinTold_19 : decode cX12_coinTold 19 = .ok (.getfield 42, 3) := by decide +kernel
theorem dX12_coinTold_22 : decode cX12_coinTold 22 = .ok (.invokevirtual 299, 3) := by decide +kernel
theorem dX12_coinTold_25 : decode cX12_coinTold 25 = .ok (.aload_n 0, 1) := by decide +kernel
theorem dX12_coinTold_26 : decode cX12_coinTold 26 = .ok (.iconst 0, 1) := by decide +kernel
theorem dX12_coinTold_27 : decode cX12_coinTold 27 = .ok (.bipush 99, 2) := by decide +kernel
theorem dX12_coinTold_29 : decode cX12_coinTold 29 = .ok (.invokevirtual 303, 3) := by decide +kernel
theorem dX12_coinTold_32 : decode cX12_coinTold 32 = .ok (.istore 4, 2) := by decide +kernel
theorem dX12_coinTold_34 : decode cX12_coinTold 34 = .ok (.aload_n 0, 1) := by decide +kernel
theorem dX12_coinTold_35 : decode cX12_coinTold 35 = .ok (.aload_n 0, 1) := by decide +kernel
theorem dX12_coinTold_36 : decode cX12_coinTold 36 = .ok (.getfield 45, 3) := by decide +kernel
theorem dX12_coinTold_39 : decode cX12_coinTold 39 = .ok (.invokevirtual 299, 3) := by decide +kernel
theorem dX12_coinTold_42 : decode cX12_coinTold 42 = .ok (.aload_n 0, 1) := by decide +kernel
theorem dX12_coinTold_43 : decode cX12_coinTold 43 = .ok (.iconst 0, 1) := by decide +kernel
theorem dX12_coinTold_44 : decode cX12_coinTold 44 = .ok (.bipush 9, 2) := by decide +kernel
theorem dX12_coinTold_46 : decode cX12_coinTold 46 = .ok (.invokevirtual 303, 3) := by decide +kernel
theorem dX12_coinTold_49 : decode cX12_coinTold 49 = .ok (.istore 5, 2) := by decide +kernel
theorem dX12_coinTold_51 : decode cX12_coinTold 51 = .ok (.aload_n 0, 1) := by decide +kernel
theorem dX12_coinTold_52 : decode cX12_coinTold 52 = .ok (.getfield 237, 3) := by decide +kernel
theorem dX12_coinTold_55 : decode cX12_coinTold 55 = .ok (.ifCond .eq 4, 3) := by decide +kernel
theorem dX12_coinTold_58 : decode cX12_coinTold 58 = .ok (.return_, 1) := by decide +kernel
theorem dX12_coinTold_59 : decode cX12_coinTold 59 = .ok (.aload_n 0, 1) := by decide +kernel
theorem dX12_coinTold_60 : decode cX12_coinTold 60 = .ok (.getfield 102, 3) := by decide +kernel
theorem dX12_coinTold_63 : decode cX12_coinTold 63 = .ok (.bipush 8, 2) := by decide +kernel
theorem dX12_coinTold_65 : decode cX12_coinTold 65 = .ok (.aload_n 0, 1) := by decide +kernel
theorem dX12_coinTold_66 : decode cX12_coinTold 66 = .ok (.getfield 99, 3) := by decide +kernel
theorem dX12_coinTold_69 : decode cX12_coinTold 69 = .ok (.iconst 1, 1) := by decide +kernel
theorem dX12_coinTold_70 : decode cX12_coinTold 70 = .ok (.iaload, 1) := by decide +kernel
theorem dX12_coinTold_71 : decode cX12_coinTold 71 = .ok (.iadd, 1) := by decide +kernel
theorem dX12_coinTold_72 : decode cX12_coinTold 72 = .ok (.lload_n 2, 1) := by decide +kernel
theorem dX12_coinTold_73 : decode cX12_coinTold 73 = .ok (.lastore, 1) := by decide +kernel
theorem dX12_coinTold_74 : decode cX12_coinTold 74 = .ok (.aload_n 0, 1) := by decide +kernel
theorem dX12_coinTold_75 : decode cX12_coinTold 75 = .ok (.getfield 109, 3) := by decide +kernel
theorem dX12_coinTold_78 : decode cX12_coinTold 78 = .ok (.iconst 2, 1) := by decide +kernel
theorem dX12_coinTold_79 : decode cX12_coinTold 79 = .ok (.aload_n 0, 1) := by decide +kernel
theorem dX12_coinTold_80 : decode cX12_coinTold 80 = .ok (.getfield 99, 3) := by decide +kernel
theorem dX12_coinTold_83 : decode cX12_coinTold 83 = .ok (.iconst 1, 1) := by decide +kernel
theorem dX12_coinTold_84 : decode cX12_coinTold 84 = .ok (.iaload, 1) := by decide +kernel
theorem dX12_coinTold_85 : decode cX12_coinTold 85 = .ok (.imul, 1) := by decide +kernel
theorem dX12_coinTold_86 : decode cX12_coinTold 86 = .ok (.iload 4, 2) := by decide +kernel
theorem dX12_coinTold_88 : decode cX12_coinTold 88 = .ok (.iastore, 1) := by decide +kernel
theorem dX12_coinTold_89 : decode cX12_coinTold 89 = .ok (.aload_n 0, 1) := by decide +kernel
theorem dX12_coinTold_90 : decode cX12_coinTold 90 = .ok (.getfield 109, 3) := by decide +kernel
theorem dX12_coinTold_93 : decode cX12_coinTold 93 = .ok (.iconst 2, 1) := by decide +kernel
theorem dX12_coinTold_94 : decode cX12_coinTold 94 = .ok (.aload_n 0, 1) := by decide +kernel
theorem dX12_coinTold_95 : decode cX12_coinTold 95 = .ok (.getfield 99, 3) := by decide +kernel
theorem dX12_coinTold_98 : decode cX12_coinTold 98 = .ok (.iconst 1, 1) := by decide +kernel
theorem dX12_coinTold_99 : decode cX12_coinTold 99 = .ok (.iaload, 1) := by decide +kernel
theorem dX12_coinTold_100 : decode cX12_coinTold 100 = .ok (.imul, 1) := by decide +kernel
theorem dX12_coinTold_101 : decode cX12_coinTold 101 = .ok (.iconst 1, 1) := by decide +kernel
theorem dX12_coinTold_102 : decode cX12_coinTold 102 = .ok (.iadd, 1) := by decide +kernel
theorem dX12_coinTold_103 : decode cX12_coinTold 103 = .ok (.iload 5, 2) := by decide +kernel
theorem dX12_coinTold_105 : decode cX12_coinTold 105 = .ok (.iastore, 1) := by decide +kernel
theorem dX12_coinTold_106 : decode cX12_coinTold 106 = .ok (.aload_n 0, 1) := by decide +kernel
theorem dX12_coinTold_107 : decode cX12_coinTold 107 = .ok (.getfield 99, 3) := by decide +kernel
theorem dX12_coinTold_110 : decode cX12_coinTold 110 = .ok (.iconst 1, 1) := by decide +kernel
theorem dX12_coinTold_111 : decode cX12_coinTold 111 = .ok (.dup2, 1) := by decide +kernel
theorem dX12_coinTold_112 : decode cX12_coinTold 112 = .ok (.iaload, 1) := by decide +kernel
theorem dX12_coinTold_113 : decode cX12_coinTold 113 = .ok (.iconst 1, 1) := by decide +kernel
theorem dX12_coinTold_114 : decode cX12_coinTold 114 = .ok (.iadd, 1) := by decide +kernel
theorem dX12_coinTold_115 : decode cX12_coinTold 115 = .ok (.iastore, 1) := by decide +kernel
theorem dX12_coinTold_116 : decode cX12_coinTold 116 = .ok (.return_, 1) := by decide +kernel
theorem dX12_cloudTold_0 : decode cX12_cloudTold 0 = .ok (.aload_n 0, 1) := by decide +kernel
theorem dX12_cloudTold_1 : decode cX12_cloudTold 1 = .ok (.iconst 2, 1) := by decide +kernel
theorem dX12_cloudTold_2 : decode cX12_cloudTold 2 = .ok (.bipush 8, 2) := by decide +kernel
theorem dX12_cloudTold_4 : decode cX12_cloudTold 4 = .ok (.iload_n 1, 1) := by decide +kernel
theorem dX12_cloudTold_5 : decode cX12_cloudTold 5 = .ok (.invokevirtual 311, 3) := by decide +kernel
theorem dX12_cloudTold_8 : decode cX12_cloudTold 8 = .ok (.ifCond .eq 4, 3) := by decide +kernel
theorem dX12_cloudTold_11 : decode cX12_cloudTold 11 = .ok (.return_, 1) := by decide +kernel
theorem dX12_cloudTold_12 : decode cX12_cloudTold 12 = .ok (.aload_n 0, 1) := by decide +kernel
theorem dX12_cloudTold_13 : decode cX12_cloudTold 13 = .ok (.iconst 0, 1) := by decide +kernel
theorem dX12_cloudTold_14 : decode cX12_cloudTold 14 = .ok (.sipush 400, 3) := by decide +kernel
theorem dX12_cloudTold_17 : decode cX12_cloudTold 17 = .ok (.invokevirtual 303, 3) := by decide +kernel
theorem dX12_cloudTold_20 : decode cX12_cloudTold 20 = .ok (.istore_n 2, 1) := by decide +kernel
theorem dX12_cloudTold_21 : decode cX12_cloudTold 21 = .ok (.aload_n 0, 1) := by decide +kernel
theorem dX12_cloudTold_22 : decode cX12_cloudTold 22 = .ok (.aload_n 0, 1) := by decide +kernel
theorem dX12_cloudTold_23 : decode cX12_cloudTold 23 = .ok (.getfield 51, 3) := by decide +kernel
theorem dX12_cloudTold_26 : decode cX12_cloudTold 26 = .ok (.invokevirtual 299, 3) := by decide +kernel
theorem dX12_cloudTold_29 : decode cX12_cloudTold 29 = .ok (.aload_n 0, 1) := by decide +kernel
theorem dX12_cloudTold_30 : decode cX12_cloudTold 30 = .ok (.iload_n 2, 1) := by decide +kernel
theorem dX12_cloudTold_31 : decode cX12_cloudTold 31 = .ok (.sipush 400, 3) := by decide +kernel
theorem dX12_cloudTold_34 : decode cX12_cloudTold 34 = .ok (.invokevirtual 303, 3) := by decide +kernel
theorem dX12_cloudTold_37 : decode cX12_cloudTold 37 = .ok (.istore_n 3, 1) := by decide +kernel
theorem dX12_cloudTold_38 : decode cX12_cloudTold 38 = .ok (.aload_n 0, 1) := by decide +kernel
theorem dX12_cloudTold_39 : decode cX12_cloudTold 39 = .ok (.getfield 237, 3) := by decide +kernel
theorem dX12_cloudTold_42 : decode cX12_cloudTold 42 = .ok (.ifCond .eq 4, 3) := by decide +kernel
theorem dX12_cloudTold_45 : decode cX12_cloudTold 45 = .ok (.return_, 1) := by decide +kernel
theorem dX12_cloudTold_46 : decode cX12_cloudTold 46 = .ok (.aload_n 0, 1) := by decide +kernel
theorem dX12_cloudTold_47 : decode cX12_cloudTold 47 = .ok (.getfield 112, 3) := by decide +kernel
theorem dX12_cloudTold_50 : decode cX12_cloudTold 50 = .ok (.iconst 2, 1) := by decide +kernel
theorem dX12_cloudTold_51 : decode cX12_cloudTold 51 = .ok (.aload_n 0, 1) := by decide +kernel
theorem dX12_cloudTold_52 : decode cX12_cloudTold 52 = .ok (.getfield 99, 3) := by decide +kernel
theorem dX12_cloudTold_55 : decode cX12_cloudTold 55 = .ok (.iconst 2, 1) := by decide +kernel
theorem dX12_cloudTold_56 : decode cX12_cloudTold 56 = .ok (.iaload, 1) := by decide +kernel
theorem dX12_cloudTold_57 : decode cX12_cloudTold 57 = .ok (.imul, 1) := by decide +kernel
theorem dX12_cloudTold_58 : decode cX12_cloudTold 58 = .ok (.iload_n 2, 1) := by decide +kernel
theorem dX12_cloudTold_59 : decode cX12_cloudTold 59 = .ok (.iastore, 1) := by decide +kernel
theorem dX12_cloudTold_60 : decode cX12_cloudTold 60 = .ok (.aload_n 0, 1) := by decide +kernel
theorem dX12_cloudTold_61 : decode cX12_cloudTold 61 = .ok (.getfield 112, 3) := by decide +kernel
theorem dX12_cloudTold_64 : decode cX12_cloudTold 64 = .ok (.iconst 2, 1) := by decide +kernel
theorem dX12_cloudTold_65 : decode cX12_cloudTold 65 = .ok (.aload_n 0, 1) := by decide +kernel
theorem dX12_cloudTold_66 : decode cX12_cloudTold 66 = .ok (.getfield 99, 3) := by decide +kernel
theorem dX12_cloudTold_69 : decode cX12_cloudTold 69 = .ok (.iconst 2, 1) := by decide +kernel
theorem dX12_cloudTold_70 : decode cX12_cloudTold 70 = .ok (.iaload, 1) := by decide +kernel
theorem dX12_cloudTold_71 : decode cX12_cloudTold 71 = .ok (.imul, 1) := by decide +kernel
theorem dX12_cloudTold_72 : decode cX12_cloudTold 72 = .ok (.iconst 1, 1) := by decide +kernel
theorem dX12_cloudTold_73 : decode cX12_cloudTold 73 = .ok (.iadd, 1) := by decide +kernel
theorem dX12_cloudTold_74 : decode cX12_cloudTold 74 = .ok (.iload_n 3, 1) := by decide +kernel
theorem dX12_cloudTold_75 : decode cX12_cloudTold 75 = .ok (.iastore, 1) := by decide +kernel
theorem dX12_cloudTold_76 : decode cX12_cloudTold 76 = .ok (.aload_n 0, 1) := by decide +kernel
theorem dX12_cloudTold_77 : decode cX12_cloudTold 77 = .ok (.getfield 99, 3) := by decide +kernel
theorem dX12_cloudTold_80 : decode cX12_cloudTold 80 = .ok (.iconst 2, 1) := by decide +kernel
theorem dX12_cloudTold_81 : decode cX12_cloudTold 81 = .ok (.dup2, 1) := by decide +kernel
theorem dX12_cloudTold_82 : decode cX12_cloudTold 82 = .ok (.iaload, 1) := by decide +kernel
theorem dX12_cloudTold_83 : decode cX12_cloudTold 83 = .ok (.iconst 1, 1) := by decide +kernel
theorem dX12_cloudTold_84 : decode cX12_cloudTold 84 = .ok (.iadd, 1) := by decide +kernel
theorem dX12_cloudTold_85 : decode cX12_cloudTold 85 = .ok (.iastore, 1) := by decide +kernel
theorem dX12_cloudTold_86 : decode cX12_cloudTold 86 = .ok (.return_, 1) := by decide +kernel
theorem dX12_codesTold_0 : decode cX12_codesTold 0 = .ok (.aload_n 0, 1) := by decide +kernel
theorem dX12_codesTold_1 : decode cX12_codesTold 1 = .ok (.getfield 237, 3) := by decide +kernel
theorem dX12_codesTold_4 : decode cX12_codesTold 4 = .ok (.ifCond .ne 19, 3) := by decide +kernel
theorem dX12_codesTold_7 : decode cX12_codesTold 7 = .ok (.aload_n 0, 1) := by decide +kernel
theorem dX12_codesTold_8 : decode cX12_codesTold 8 = .ok (.getfield 115, 3) := by decide +kernel
theorem dX12_codesTold_11 : decode cX12_codesTold 11 = .ok (.iload_n 1, 1) := by decide +kernel
theorem dX12_codesTold_12 : decode cX12_codesTold 12 = .ok (.iaload, 1) := by decide +kernel
theorem dX12_codesTold_13 : decode cX12_codesTold 13 = .ok (.iconst (-1), 1) := by decide +kernel
theorem dX12_codesTold_14 : decode cX12_codesTold 14 = .ok (.if_icmp .eq 9, 3) := by decide +kernel
theorem dX12_codesTold_17 : decode cX12_codesTold 17 = .ok (.aload_n 0, 1) := by decide +kernel
theorem dX12_codesTold_18 : decode cX12_codesTold 18 = .ok (.iconst 5, 1) := by decide +kernel
theorem dX12_codesTold_19 : decode cX12_codesTold 19 = .ok (.iload_n 2, 1) := by decide +kernel
theorem dX12_codesTold_20 : decode cX12_codesTold 20 = .ok (.invokevirtual 267, 3) := by decide +kernel
theorem dX12_codesTold_23 : decode cX12_codesTold 23 = .ok (.aload_n 0, 1) := by decide +kernel
theorem dX12_codesTold_24 : decode cX12_codesTold 24 = .ok (.getfield 237, 3) := by decide +kernel
theorem dX12_codesTold_27 : decode cX12_codesTold 27 = .ok (.ifCond .eq 4, 3) := by decide +kernel
theorem dX12_codesTold_30 : decode cX12_codesTold 30 = .ok (.return_, 1) := by decide +kernel
theorem dX12_codesTold_31 : decode cX12_codesTold 31 = .ok (.aload_n 0, 1) := by decide +kernel
theorem dX12_codesTold_32 : decode cX12_codesTold 32 = .ok (.iload_n 1, 1) := by decide +kernel
theorem dX12_codesTold_33 : decode cX12_codesTold 33 = .ok (.putfield 292, 3) := by decide +kernel
theorem dX12_codesTold_36 : decode cX12_codesTold 36 = .ok (.aload_n 0, 1) := by decide +kernel
theorem dX12_codesTold_37 : decode cX12_codesTold 37 = .ok (.iconst 0, 1) := by decide +kernel
theorem dX12_codesTold_38 : decode cX12_codesTold 38 = .ok (.putfield 318, 3) := by decide +kernel
theorem dX12_codesTold_41 : decode cX12_codesTold 41 = .ok (.aload_n 0, 1) := by decide +kernel
theorem dX12_codesTold_42 : decode cX12_codesTold 42 = .ok (.iconst 0, 1) := by decide +kernel
theorem dX12_codesTold_43 : decode cX12_codesTold 43 = .ok (.putfield 321, 3) := by decide +kernel
theorem dX12_codesTold_46 : decode cX12_codesTold 46 = .ok (.aload_n 0, 1) := by decide +kernel
theorem dX12_codesTold_47 : decode cX12_codesTold 47 = .ok (.iconst 0, 1) := by decide +kernel
theorem dX12_codesTold_48 : decode cX12_codesTold 48 = .ok (.putfield 324, 3) := by decide +kernel
theorem dX12_codesTold_51 : decode cX12_codesTold 51 = .ok (.aload_n 0, 1) := by decide +kernel
theorem dX12_codesTold_52 : decode cX12_codesTold 52 = .ok (.iconst 0, 1) := by decide +kernel
theorem dX12_codesTold_53 : decode cX12_codesTold 53 = .ok (.putfield 327, 3) := by decide +kernel
theorem dX12_codesTold_56 : decode cX12_codesTold 56 = .ok (.iload_n 1, 1) := by decide +kernel
theorem dX12_codesTold_57 : decode cX12_codesTold 57 = .ok (.iconst 1, 1) := by decide +kernel
theorem dX12_codesTold_58 : decode cX12_codesTold 58 = .ok (.if_icmp .ne 10, 3) := by decide +kernel
theorem dX12_codesTold_61 : decode cX12_codesTold 61 = .ok (.aload_n 0, 1) := by decide +kernel
theorem dX12_codesTold_62 : decode cX12_codesTold 62 = .ok (.invokevirtual 330, 3) := by decide +kernel
theorem dX12_codesTold_65 : decode cX12_codesTold 65 = .ok (.goto 7, 3) := by decide +kernel
theorem dX12_codesTold_68 : decode cX12_codesTold 68 = .ok (.aload_n 0, 1) := by decide +kernel
theorem dX12_codesTold_69 : decode cX12_codesTold 69 = .ok (.invokevirtual 333, 3) := by decide +kernel
theorem dX12_codesTold_72 : decode cX12_codesTold 72 = .ok (.aload_n 0, 1) := by decide +kernel
theorem dX12_codesTold_73 : decode cX12_codesTold 73 = .ok (.getfield 237, 3) := by decide +kernel
theorem dX12_codesTold_76 : decode cX12_codesTold 76 = .ok (.ifCond .eq 4, 3) := by decide +kernel
theorem dX12_codesTold_79 : decode cX12_codesTold 79 = .ok (.return_, 1) := by decide +kernel
theorem dX12_codesTold_80 : decode cX12_codesTold 80 = .ok (.aload_n 0, 1) := by decide +kernel
theorem dX12_codesTold_81 : decode cX12_codesTold 81 = .ok (.getfield 115, 3) := by decide +kernel
theorem dX12_codesTold_84 : decode cX12_codesTold 84 = .ok (.iload_n 1, 1) := by decide +kernel
theorem dX12_codesTold_85 : decode cX12_codesTold 85 = .ok (.aload_n 0, 1) := by decide +kernel
theorem dX12_codesTold_86 : decode cX12_codesTold 86 = .ok (.getfield 336, 3) := by decide +kernel
theorem dX12_codesTold_89 : decode cX12_codesTold 89 = .ok (.iastore, 1) := by decide +kernel
theorem dX12_codesTold_90 : decode cX12_codesTold 90 = .ok (.iconst 0, 1) := by decide +kernel
theorem dX12_codesTold_91 : decode cX12_codesTold 91 = .ok (.istore_n 3, 1) := by decide +kernel
theorem dX12_codesTold_92 : decode cX12_codesTold 92 = .ok (.iload_n 3, 1) := by decide +kernel
theorem dX12_codesTold_93 : decode cX12_codesTold 93 = .ok (.aload_n 0, 1) := by decide +kernel
theorem dX12_codesTold_94 : decode cX12_codesTold 94 = .ok (.getfield 318, 3) := by decide +kernel
theorem dX12_codesTold_97 : decode cX12_codesTold 97 = .ok (.if_icmp .ge 34, 3) := by decide +kernel
theorem dX12_codesTold_100 : decode cX12_codesTold 100 = .ok (.aload_n 0, 1) := by decide +kernel
theorem dX12_codesTold_101 : decode cX12_codesTold 101 = .ok (.getfield 121, 3) := by decide +kernel
theorem dX12_codesTold_104 : decode cX12_codesTold 104 = .ok (.aload_n 0, 1) := by decide +kernel
theorem dX12_codesTold_105 : decode cX12_codesTold 105 = .ok (.getfield 336, 3) := by decide +kernel
theorem dX12_codesTold_108 : decode cX12_codesTold 108 = .ok (.aload_n 0, 1) := by decide +kernel
theorem dX12_codesTold_109 : decode cX12_codesTold 109 = .ok (.getfield 222, 3) := by decide +kernel
theorem dX12_codesTold_112 : decode cX12_codesTold 112 = .ok (.iload_n 3, 1) := by decide +kernel
theorem dX12_codesTold_113 : decode cX12_codesTold 113 = .ok (.iaload, 1) := by decide +kernel
theorem dX12_codesTold_114 : decode cX12_codesTold 114 = .ok (.iastore, 1) := by decide +kernel
theorem dX12_codesTold_115 : decode cX12_codesTold 115 = .ok (.aload_n 0, 1) := by decide +kernel
theorem dX12_codesTold_116 : decode cX12_codesTold 116 = .ok (.dup, 1) := by decide +kernel
theorem dX12_codesTold_117 : decode cX12_codesTold 117 = .ok (.getfield 336, 3) := by decide +kernel
theorem dX12_codesTold_120 : decode cX12_codesTold 120 = .ok (.iconst 1, 1) := by decide +kernel
theorem dX12_codesTold_121 : decode cX12_codesTold 121 = .ok (.iadd, 1) := by decide +kernel
theorem dX12_codesTold_122 : decode cX12_codesTold 122 = .ok (.putfield 336, 3) := by decide +kernel
theorem dX12_codesTold_125 : decode cX12_codesTold 125 = .ok (.iinc 3 1, 3) := by decide +kernel
theorem dX12_codesTold_128 : decode cX12_codesTold 128 = .ok (.goto (-36), 3) := by decide +kernel
theorem dX12_codesTold_131 : decode cX12_codesTold 131 = .ok (.aload_n 0, 1) := by decide +kernel
theorem dX12_codesTold_132 : decode cX12_codesTold 132 = .ok (.getfield 118, 3) := by decide +kernel
theorem dX12_codesTold_135 : decode cX12_codesTold 135 = .ok (.iload_n 1, 1) := by decide +kernel
theorem dX12_codesTold_136 : decode cX12_codesTold 136 = .ok (.aload_n 0, 1) := by decide +kernel
theorem dX12_codesTold_137 : decode cX12_codesTold 137 = .ok (.getfield 336, 3) := by decide +kernel
theorem dX12_codesTold_140 : decode cX12_codesTold 140 = .ok (.iastore, 1) := by decide +kernel
theorem dX12_codesTold_141 : decode cX12_codesTold 141 = .ok (.return_, 1) := by decide +kernel
theorem dX12_statementTold_0 : decode cX12_statementTold 0 = .ok (.aload_n 0, 1) := by decide +kernel
theorem dX12_statementTold_1 : decode cX12_statementTold 1 = .ok (.getfield 243, 3) := by decide +kernel
theorem dX12_statementTold_4 : decode cX12_statementTold 4 = .ok (.istore_n 1, 1) := by decide +kernel
theorem dX12_statementTold_5 : decode cX12_statementTold 5 = .ok (.aload_n 0, 1) := by decide +kernel
theorem dX12_statementTold_6 : decode cX12_statementTold 6 = .ok (.getfield 339, 3) := by decide +kernel
theorem dX12_statementTold_9 : decode cX12_statementTold 9 = .ok (.bipush 80, 2) := by decide +kernel
theorem dX12_statementTold_11 : decode cX12_statementTold 11 = .ok (.if_icmp .ne 10, 3) := by decide +kernel
theorem dX12_statementTold_14 : decode cX12_statementTold 14 = .ok (.aload_n 0, 1) := by decide +kernel
theorem dX12_statementTold_15 : decode cX12_statementTold 15 = .ok (.iconst 5, 1) := by decide +kernel
theorem dX12_statementTold_16 : decode cX12_statementTold 16 = .ok (.iload_n 1, 1) := by decide +kernel
theorem dX12_statementTold_17 : decode cX12_statementTold 17 = .ok (.invokevirtual 267, 3) := by decide +kernel
theorem dX12_statementTold_20 : decode cX12_statementTold 20 = .ok (.return_, 1) := by decide +kernel
theorem dX12_statementTold_21 : decode cX12_statementTold 21 = .ok (.aload_n 0, 1) := by decide +kernel
theorem dX12_statementTold_22 : decode cX12_statementTold 22 = .ok (.aload_n 0, 1) := by decide +kernel
theorem dX12_statementTold_23 : decode cX12_statementTold 23 = .ok (.getfield 24, 3) := by decide +kernel
theorem dX12_statementTold_26 : decode cX12_statementTold 26 = .ok (.invokevirtual 264, 3) := by decide +kernel
theorem dX12_statementTold_29 : decode cX12_statementTold 29 = .ok (.ifCond .eq 11, 3) := by decide +kernel
theorem dX12_statementTold_32 : decode cX12_statementTold 32 = .ok (.aload_n 0, 1) := by decide +kernel
theorem dX12_statementTold_33 : decode cX12_statementTold 33 = .ok (.iload_n 1, 1) := by decide +kernel
theorem dX12_statementTold_34 : decode cX12_statementTold 34 = .ok (.invokevirtual 342, 3) := by decide +kernel
theorem dX12_statementTold_37 : decode cX12_statementTold 37 = .ok (.goto 130, 3) := by decide +kernel
theorem dX12_statementTold_40 : decode cX12_statementTold 40 = .ok (.aload_n 0, 1) := by decide +kernel
theorem dX12_statementTold_41 : decode cX12_statementTold 41 = .ok (.aload_n 0, 1) := by decide +kernel
theorem dX12_statementTold_42 : decode cX12_statementTold 42 = .ok (.getfield 39, 3) := by decide +kernel
theorem dX12_statementTold_45 : decode cX12_statementTold 45 = .ok (.invokevirtual 264, 3) := by decide +kernel
theorem dX12_statementTold_48 : decode cX12_statementTold 48 = .ok (.ifCond .eq 11, 3) := by decide +kernel
theorem dX12_statementTold_51 : decode cX12_statementTold 51 = .ok (.aload_n 0, 1) := by decide +kernel
theorem dX12_statementTold_52 : decode cX12_statementTold 52 = .ok (.iload_n 1, 1) := by decide +kernel
theorem dX12_statementTold_53 : decode cX12_statementTold 53 = .ok (.invokevirtual 345, 3) := by decide +kernel
theorem dX12_statementTold_56 : decode cX12_statementTold 56 = .ok (.goto 111, 3) := by decide +kernel
theorem dX12_statementTold_59 : decode cX12_statementTold 59 = .ok (.aload_n 0, 1) := by decide +kernel
theorem dX12_statementTold_60 : decode cX12_statementTold 60 = .ok (.aload_n 0, 1) := by decide +kernel
theorem dX12_statementTold_61 : decode cX12_statementTold 61 = .ok (.getfield 48, 3) := by decide +kernel
theorem dX12_statementTold_64 : decode cX12_statementTold 64 = .ok (.invokevirtual 264, 3) := by decide +kernel
theorem dX12_statementTold_67 : decode cX12_statementTold 67 = .ok (.ifCond .eq 11, 3) := by decide +kernel
theorem dX12_statementTold_70 : decode cX12_statementTold 70 = .ok (.aload_n 0, 1) := by decide +kernel
theorem dX12_statementTold_71 : decode cX12_statementTold 71 = .ok (.iload_n 1, 1) := by decide +kernel
theorem dX12_statementTold_72 : decode cX12_statementTold 72 = .ok (.invokevirtual 348, 3) := by decide +kernel
theorem dX12_statementTold_75 : decode cX12_statementTold 75 = .ok (.goto 92, 3) := by decide +kernel
theorem dX12_statementTold_78 : decode cX12_statementTold 78 = .ok (.aload_n 0, 1) := by decide +kernel
theorem dX12_statementTold_79 : decode cX12_statementTold 79 = .ok (.aload_n 0, 1) := by decide +kernel
theorem dX12_statementTold_80 : decode cX12_statementTold 80 = .ok (.getfield 54, 3) := by decide +kernel
theorem dX12_statementTold_83 : decode cX12_statementTold 83 = .ok (.invokevirtual 264, 3) := by decide +kernel
theorem dX12_statementTold_86 : decode cX12_statementTold 86 = .ok (.ifCond .eq 12, 3) := by decide +kernel
theorem dX12_statementTold_89 : decode cX12_statementTold 89 = .ok (.aload_n 0, 1) := by decide +kernel
theorem dX12_statementTold_90 : decode cX12_statementTold 90 = .ok (.iconst 0, 1) := by decide +kernel
theorem dX12_statementTold_91 : decode cX12_statementTold 91 = .ok (.iload_n 1, 1) := by decide +kernel
theorem dX12_statementTold_92 : decode cX12_statementTold 92 = .ok (.invokevirtual 351, 3) := by decide +kernel
theorem dX12_statementTold_95 : decode cX12_statementTold 95 = .ok (.goto 72, 3) := by decide +kernel
theorem dX12_statementTold_98 : decode cX12_statementTold 98 = .ok (.aload_n 0, 1) := by decide +kernel
theorem dX12_statementTold_99 : decode cX12_statementTold 99 = .ok (.aload_n 0, 1) := by decide +kernel
theorem dX12_statementTold_100 : decode cX12_statementTold 100 = .ok (.getfield 57, 3) := by decide +kernel
theorem dX12_statementTold_103 : decode cX12_statementTold 103 = .ok (.invokevirtual 264, 3) := by decide +kernel
theorem dX12_statementTold_106 : decode cX12_statementTold 106 = .ok (.ifCond .eq 12, 3) := by decide +kernel
theorem dX12_statementTold_109 : decode cX12_statementTold 109 = .ok (.aload_n 0, 1) := by decide +kernel
theorem dX12_statementTold_110 : decode cX12_statementTold 110 = .ok (.iconst 1, 1) := by decide +kernel
theorem dX12_statementTold_111 : decode cX12_statementTold 111 = .ok (.iload_n 1, 1) := by decide +kernel
theorem dX12_statementTold_112 : decode cX12_statementTold 112 = .ok (.invokevirtual 351, 3) := by decide +kernel
theorem dX12_statementTold_115 : decode cX12_statementTold 115 = .ok (.goto 52, 3) := by decide +kernel
theorem dX12_statementTold_118 : decode cX12_statementTold 118 = .ok (.aload_n 0, 1) := by decide +kernel
theorem dX12_statementTold_119 : decode cX12_statementTold 119 = .ok (.aload_n 0, 1) := by decide +kernel
theorem dX12_statementTold_120 : decode cX12_statementTold 120 = .ok (.getfield 60, 3) := by decide +kernel
theorem dX12_statementTold_123 : decode cX12_statementTold 123 = .ok (.invokevirtual 264, 3) := by decide +kernel
theorem dX12_statementTold_126 : decode cX12_statementTold 126 = .ok (.ifCond .eq 20, 3) := by decide +kernel
theorem dX12_statementTold_129 : decode cX12_statementTold 129 = .ok (.aload_n 0, 1) := by decide +kernel
theorem dX12_statementTold_130 : decode cX12_statementTold 130 = .ok (.getfield 96, 3) := by decide +kernel
theorem dX12_statementTold_133 : decode cX12_statementTold 133 = .ok (.iconst 1, 1) := by decide +kernel
theorem dX12_statementTold_134 : decode cX12_statementTold 134 = .ok (.aload_n 0, 1) := by decide +kernel
theorem dX12_statementTold_135 : decode cX12_statementTold 135 = .ok (.iconst 0, 1) := by decide +kernel
theorem dX12_statementTold_136 : decode cX12_statementTold 136 = .ok (.sipush 9999, 3) := by decide +kernel
theorem dX12_statementTold_139 : decode cX12_statementTold 139 = .ok (.invokevirtual 303, 3) := by decide +kernel
theorem dX12_statementTold_142 : decode cX12_statementTold 142 = .ok (.iastore, 1) := by decide +kernel
theorem dX12_statementTold_143 : decode cX12_statementTold 143 = .ok (.goto 24, 3) := by decide +kernel
theorem dX12_statementTold_146 : decode cX12_statementTold 146 = .ok (.aload_n 0, 1) := by decide +kernel
theorem dX12_statementTold_147 : decode cX12_statementTold 147 = .ok (.aload_n 0, 1) := by decide +kernel
theorem dX12_statementTold_148 : decode cX12_statementTold 148 = .ok (.getfield 63, 3) := by decide +kernel
theorem dX12_statementTold_151 : decode cX12_statementTold 151 = .ok (.invokevirtual 299, 3) := by decide +kernel
theorem dX12_statementTold_154 : decode cX12_statementTold 154 = .ok (.aload_n 0, 1) := by decide +kernel
theorem dX12_statementTold_155 : decode cX12_statementTold 155 = .ok (.getfield 96, 3) := by decide +kernel
theorem dX12_statementTold_158 : decode cX12_statementTold 158 = .ok (.iconst 2, 1) := by decide +kernel
theorem dX12_statementTold_159 : decode cX12_statementTold 159 = .ok (.aload_n 0, 1) := by decide +kernel
theorem dX12_statementTold_160 : decode cX12_statementTold 160 = .ok (.iconst 0, 1) := by decide +kernel
theorem dX12_statementTold_161 : decode cX12_statementTold 161 = .ok (.bipush 100, 2) := by decide +kernel
theorem dX12_statementTold_163 : decode cX12_statementTold 163 = .ok (.invokevirtual 303, 3) := by decide +kernel
theorem dX12_statementTold_166 : decode cX12_statementTold 166 = .ok (.iastore, 1) := by decide +kernel
theorem dX12_statementTold_167 : decode cX12_statementTold 167 = .ok (.aload_n 0, 1) := by decide +kernel
theorem dX12_statementTold_168 : decode cX12_statementTold 168 = .ok (.bipush 59, 2) := by decide +kernel
theorem dX12_statementTold_170 : decode cX12_statementTold 170 = .ok (.invokevirtual 307, 3) := by decide +kernel
theorem dX12_statementTold_173 : decode cX12_statementTold 173 = .ok (.aload_n 0, 1) := by decide +kernel
theorem dX12_statementTold_174 : decode cX12_statementTold 174 = .ok (.dup, 1) := by decide +kernel
theorem dX12_statementTold_175 : decode cX12_statementTold 175 = .ok (.getfield 339, 3) := by decide +kernel
theorem dX12_statementTold_178 : decode cX12_statementTold 178 = .ok (.iconst 1, 1) := by decide +kernel
theorem dX12_statementTold_179 : decode cX12_statementTold 179 = .ok (.iadd, 1) := by decide +kernel
theorem dX12_statementTold_180 : decode cX12_statementTold 180 = .ok (.putfield 339, 3) := by decide +kernel
theorem dX12_statementTold_183 : decode cX12_statementTold 183 = .ok (.return_, 1) := by decide +kernel
theorem dX12_fair_0 : decode cX12_fair 0 = .ok (.aload_n 0, 1) := by decide +kernel
theorem dX12_fair_1 : decode cX12_fair 1 = .ok (.aload_n 0, 1) := by decide +kernel
theorem dX12_fair_2 : decode cX12_fair 2 = .ok (.getfield 234, 3) := by decide +kernel
theorem dX12_fair_5 : decode cX12_fair 5 = .ok (.putfield 246, 3) := by decide +kernel
theorem dX12_fair_8 : decode cX12_fair 8 = .ok (.aload_n 0, 1) := by decide +kernel
theorem dX12_fair_9 : decode cX12_fair 9 = .ok (.iconst 0, 1) := by decide +kernel
theorem dX12_fair_10 : decode cX12_fair 10 = .ok (.putfield 234, 3) := by decide +kernel
theorem dX12_fair_13 : decode cX12_fair 13 = .ok (.aload_n 0, 1) := by decide +kernel
theorem dX12_fair_14 : decode cX12_fair 14 = .ok (.iconst 0, 1) := by decide +kernel
theorem dX12_fair_15 : decode cX12_fair 15 = .ok (.putfield 243, 3) := by decide +kernel
theorem dX12_fair_18 : decode cX12_fair 18 = .ok (.aload_n 0, 1) := by decide +kernel
theorem dX12_fair_19 : decode cX12_fair 19 = .ok (.iconst (-1), 1) := by decide +kernel
theorem dX12_fair_20 : decode cX12_fair 20 = .ok (.putfield 257, 3) := by decide +kernel
theorem dX12_fair_23 : decode cX12_fair 23 = .ok (.aload_n 0, 1) := by decide +kernel
theorem dX12_fair_24 : decode cX12_fair 24 = .ok (.iconst 0, 1) := by decide +kernel
theorem dX12_fair_25 : decode cX12_fair 25 = .ok (.putfield 237, 3) := by decide +kernel
theorem dX12_fair_28 : decode cX12_fair 28 = .ok (.aload_n 0, 1) := by decide +kernel
theorem dX12_fair_29 : decode cX12_fair 29 = .ok (.iconst (-1), 1) := by decide +kernel
theorem dX12_fair_30 : decode cX12_fair 30 = .ok (.putfield 240, 3) := by decide +kernel
theorem dX12_fair_33 : decode cX12_fair 33 = .ok (.aload_n 0, 1) := by decide +kernel
theorem dX12_fair_34 : decode cX12_fair 34 = .ok (.iconst 0, 1) := by decide +kernel
theorem dX12_fair_35 : decode cX12_fair 35 = .ok (.putfield 336, 3) := by decide +kernel
theorem dX12_fair_38 : decode cX12_fair 38 = .ok (.iconst 0, 1) := by decide +kernel
theorem dX12_fair_39 : decode cX12_fair 39 = .ok (.istore_n 1, 1) := by decide +kernel
theorem dX12_fair_40 : decode cX12_fair 40 = .ok (.iload_n 1, 1) := by decide +kernel
theorem dX12_fair_41 : decode cX12_fair 41 = .ok (.iconst 3, 1) := by decide +kernel
theorem dX12_fair_42 : decode cX12_fair 42 = .ok (.if_icmp .ge 16, 3) := by decide +kernel
theorem dX12_fair_45 : decode cX12_fair 45 = .ok (.aload_n 0, 1) := by decide +kernel
theorem dX12_fair_46 : decode cX12_fair 46 = .ok (.getfield 99, 3) := by decide +kernel
theorem dX12_fair_49 : decode cX12_fair 49 = .ok (.iload_n 1, 1) := by decide +kernel
theorem dX12_fair_50 : decode cX12_fair 50 = .ok (.iconst 0, 1) := by decide +kernel
theorem dX12_fair_51 : decode cX12_fair 51 = .ok (.iastore, 1) := by decide +kernel
theorem dX12_fair_52 : decode cX12_fair 52 = .ok (.iinc 1 1, 3) := by decide +kernel
theorem dX12_fair_55 : decode cX12_fair 55 = .ok (.goto (-15), 3) := by decide +kernel
theorem dX12_fair_58 : decode cX12_fair 58 = .ok (.aload_n 0, 1) := by decide +kernel
theorem dX12_fair_59 : decode cX12_fair 59 = .ok (.getfield 115, 3) := by decide +kernel
theorem dX12_fair_62 : decode cX12_fair 62 = .ok (.iconst 0, 1) := by decide +kernel
theorem dX12_fair_63 : decode cX12_fair 63 = .ok (.iconst (-1), 1) := by decide +kernel
theorem dX12_fair_64 : decode cX12_fair 64 = .ok (.iastore, 1) := by decide +kernel
theorem dX12_fair_65 : decode cX12_fair 65 = .ok (.aload_n 0, 1) := by decide +kernel
theorem dX12_fair_66 : decode cX12_fair 66 = .ok (.getfield 115, 3) := by decide +kernel
theorem dX12_fair_69 : decode cX12_fair 69 = .ok (.iconst 1, 1) := by decide +kernel
theorem dX12_fair_70 : decode cX12_fair 70 = .ok (.iconst (-1), 1) := by decide +kernel
theorem dX12_fair_71 : decode cX12_fair 71 = .ok (.iastore, 1) := by decide +kernel
theorem dX12_fair_72 : decode cX12_fair 72 = .ok (.aload_n 0, 1) := by decide +kernel
theorem dX12_fair_73 : decode cX12_fair 73 = .ok (.getfield 96, 3) := by decide +kernel
theorem dX12_fair_76 : decode cX12_fair 76 = .ok (.iconst 1, 1) := by decide +kernel
theorem dX12_fair_77 : decode cX12_fair 77 = .ok (.iconst 0, 1) := by decide +kernel
theorem dX12_fair_78 : decode cX12_fair 78 = .ok (.iastore, 1) := by decide +kernel
theorem dX12_fair_79 : decode cX12_fair 79 = .ok (.aload_n 0, 1) := by decide +kernel
theorem dX12_fair_80 : decode cX12_fair 80 = .ok (.getfield 96, 3) := by decide +kernel
theorem dX12_fair_83 : decode cX12_fair 83 = .ok (.iconst 2, 1) := by decide +kernel
theorem dX12_fair_84 : decode cX12_fair 84 = .ok (.iconst 0, 1) := by decide +kernel
theorem dX12_fair_85 : decode cX12_fair 85 = .ok (.iastore, 1) := by decide +kernel
theorem dX12_fair_86 : decode cX12_fair 86 = .ok (.aload_n 0, 1) := by decide +kernel
theorem dX12_fair_87 : decode cX12_fair 87 = .ok (.invokevirtual 354, 3) := by decide +kernel
theorem dX12_fair_90 : decode cX12_fair 90 = .ok (.aload_n 0, 1) := by decide +kernel
theorem dX12_fair_91 : decode cX12_fair 91 = .ok (.iconst 1, 1) := by decide +kernel
theorem dX12_fair_92 : decode cX12_fair 92 = .ok (.putfield 339, 3) := by decide +kernel
theorem dX12_fair_95 : decode cX12_fair 95 = .ok (.aload_n 0, 1) := by decide +kernel
theorem dX12_fair_96 : decode cX12_fair 96 = .ok (.getfield 237, 3) := by decide +kernel
theorem dX12_fair_99 : decode cX12_fair 99 = .ok (.ifCond .ne 18, 3) := by decide +kernel
theorem dX12_fair_102 : decode cX12_fair 102 = .ok (.aload_n 0, 1) := by decide +kernel
theorem dX12_fair_103 : decode cX12_fair 103 = .ok (.invokevirtual 249, 3) := by decide +kernel
theorem dX12_fair_106 : decode cX12_fair 106 = .ok (.iconst (-1), 1) := by decide +kernel
theorem dX12_fair_107 : decode cX12_fair 107 = .ok (.if_icmp .eq 10, 3) := by decide +kernel
theorem dX12_fair_110 : decode cX12_fair 110 = .ok (.aload_n 0, 1) := by decide +kernel
theorem dX12_fair_111 : decode cX12_fair 111 = .ok (.invokevirtual 357, 3) := by decide +kernel
theorem dX12_fair_114 : decode cX12_fair 114 = .ok (.goto (-19), 3) := by decide +kernel
theorem dX12_fair_117 : decode cX12_fair 117 = .ok (.aload_n 0, 1) := by decide +kernel
theorem dX12_fair_118 : decode cX12_fair 118 = .ok (.aload_n 0, 1) := by decide +kernel
theorem dX12_fair_119 : decode cX12_fair 119 = .ok (.getfield 237, 3) := by decide +kernel
theorem dX12_fair_122 : decode cX12_fair 122 = .ok (.putfield 360, 3) := by decide +kernel
theorem dX12_fair_125 : decode cX12_fair 125 = .ok (.aload_n 0, 1) := by decide +kernel
theorem dX12_fair_126 : decode cX12_fair 126 = .ok (.aload_n 0, 1) := by decide +kernel
theorem dX12_fair_127 : decode cX12_fair 127 = .ok (.getfield 240, 3) := by decide +kernel
theorem dX12_fair_130 : decode cX12_fair 130 = .ok (.putfield 13, 3) := by decide +kernel
theorem dX12_fair_133 : decode cX12_fair 133 = .ok (.aload_n 0, 1) := by decide +kernel
theorem dX12_fair_134 : decode cX12_fair 134 = .ok (.getfield 237, 3) := by decide +kernel
theorem dX12_fair_137 : decode cX12_fair 137 = .ok (.ifCond .eq 15, 3) := by decide +kernel
theorem dX12_fair_140 : decode cX12_fair 140 = .ok (.aload_n 0, 1) := by decide +kernel
theorem dX12_fair_141 : decode cX12_fair 141 = .ok (.getfield 17, 3) := by decide +kernel
theorem dX12_fair_144 : decode cX12_fair 144 = .ok (.iconst 1, 1) := by decide +kernel
theorem dX12_fair_145 : decode cX12_fair 145 = .ok (.dup2, 1) := by decide +kernel
theorem dX12_fair_146 : decode cX12_fair 146 = .ok (.iaload, 1) := by decide +kernel
theorem dX12_fair_147 : decode cX12_fair 147 = .ok (.iconst 1, 1) := by decide +kernel
theorem dX12_fair_148 : decode cX12_fair 148 = .ok (.iadd, 1) := by decide +kernel
theorem dX12_fair_149 : decode cX12_fair 149 = .ok (.iastore, 1) := by decide +kernel
theorem dX12_fair_150 : decode cX12_fair 150 = .ok (.iconst (-1), 1) := by decide +kernel
theorem dX12_fair_151 : decode cX12_fair 151 = .ok (.ireturn, 1) := by decide +kernel
theorem dX12_fair_152 : decode cX12_fair 152 = .ok (.aload_n 0, 1) := by decide +kernel
theorem dX12_fair_153 : decode cX12_fair 153 = .ok (.invokevirtual 363, 3) := by decide +kernel
theorem dX12_fair_156 : decode cX12_fair 156 = .ok (.aload_n 0, 1) := by decide +kernel
theorem dX12_fair_157 : decode cX12_fair 157 = .ok (.getfield 339, 3) := by decide +kernel
theorem dX12_fair_160 : decode cX12_fair 160 = .ok (.ireturn, 1) := by decide +kernel
theorem dX12_stands_0 : decode cX12_stands 0 = .ok (.aload_n 0, 1) := by decide +kernel
theorem dX12_stands_1 : decode cX12_stands 1 = .ok (.iconst 1, 1) := by decide +kernel
theorem dX12_stands_2 : decode cX12_stands 2 = .ok (.putfield 366, 3) := by decide +kernel
theorem dX12_stands_5 : decode cX12_stands 5 = .ok (.iconst 0, 1) := by decide +kernel
theorem dX12_stands_6 : decode cX12_stands 6 = .ok (.istore_n 1, 1) := by decide +kernel
theorem dX12_stands_7 : decode cX12_stands 7 = .ok (.iload_n 1, 1) := by decide +kernel
theorem dX12_stands_8 : decode cX12_stands 8 = .ok (.iconst 3, 1) := by decide +kernel
theorem dX12_stands_9 : decode cX12_stands 9 = .ok (.if_icmp .ge 37, 3) := by decide +kernel
theorem dX12_stands_12 : decode cX12_stands 12 = .ok (.aload_n 0, 1) := by decide +kernel
theorem dX12_stands_13 : decode cX12_stands 13 = .ok (.getfield 96, 3) := by decide +kernel
theorem dX12_stands_16 : decode cX12_stands 16 = .ok (.iconst 3, 1) := by decide +kernel
theorem dX12_stands_17 : decode cX12_stands 17 = .ok (.iload_n 1, 1) := by decide +kernel
theorem dX12_stands_18 : decode cX12_stands 18 = .ok (.iadd, 1) := by decide +kernel
theorem dX12_stands_19 : decode cX12_stands 19 = .ok (.aload_n 0, 1) := by decide +kernel
theorem dX12_stands_20 : decode cX12_stands 20 = .ok (.getfield 96, 3) := by decide +kernel
theorem dX12_stands_23 : decode cX12_stands 23 = .ok (.iload_n 1, 1) := by decide +kernel
theorem dX12_stands_24 : decode cX12_stands 24 = .ok (.iaload, 1) := by decide +kernel
theorem dX12_stands_25 : decode cX12_stands 25 = .ok (.iastore, 1) := by decide +kernel
theorem dX12_stands_26 : decode cX12_stands 26 = .ok (.aload_n 0, 1) := by decide +kernel
theorem dX12_stands_27 : decode cX12_stands 27 = .ok (.getfield 99, 3) := by decide +kernel
theorem dX12_stands_30 : decode cX12_stands 30 = .ok (.iconst 3, 1) := by decide +kernel
theorem dX12_stands_31 : decode cX12_stands 31 = .ok (.iload_n 1, 1) := by decide +kernel
theorem dX12_stands_32 : decode cX12_stands 32 = .ok (.iadd, 1) := by decide +kernel
theorem dX12_stands_33 : decode cX12_stands 33 = .ok (.aload_n 0, 1) := by decide +kernel
theorem dX12_stands_34 : decode cX12_stands 34 = .ok (.getfield 99, 3) := by decide +kernel
theorem dX12_stands_37 : decode cX12_stands 37 = .ok (.iload_n 1, 1) := by decide +kernel
theorem dX12_stands_38 : decode cX12_stands 38 = .ok (.iaload, 1) := by decide +kernel
theorem dX12_stands_39 : decode cX12_stands 39 = .ok (.iastore, 1) := by decide +kernel
theorem dX12_stands_40 : decode cX12_stands 40 = .ok (.iinc 1 1, 3) := by decide +kernel
theorem dX12_stands_43 : decode cX12_stands 43 = .ok (.goto (-36), 3) := by decide +kernel
theorem dX12_stands_46 : decode cX12_stands 46 = .ok (.iconst 0, 1) := by decide +kernel
theorem dX12_stands_47 : decode cX12_stands 47 = .ok (.istore_n 1, 1) := by decide +kernel
theorem dX12_stands_48 : decode cX12_stands 48 = .ok (.iload_n 1, 1) := by decide +kernel
theorem dX12_stands_49 : decode cX12_stands 49 = .ok (.iconst 2, 1) := by decide +kernel
theorem dX12_stands_50 : decode cX12_stands 50 = .ok (.if_icmp .ge 37, 3) := by decide +kernel
theorem dX12_stands_53 : decode cX12_stands 53 = .ok (.aload_n 0, 1) := by decide +kernel
theorem dX12_stands_54 : decode cX12_stands 54 = .ok (.getfield 115, 3) := by decide +kernel
theorem dX12_stands_57 : decode cX12_stands 57 = .ok (.iconst 2, 1) := by decide +kernel
theorem dX12_stands_58 : decode cX12_stands 58 = .ok (.iload_n 1, 1) := by decide +kernel
theorem dX12_stands_59 : decode cX12_stands 59 = .ok (.iadd, 1) := by decide +kernel
theorem dX12_stands_60 : decode cX12_stands 60 = .ok (.aload_n 0, 1) := by decide +kernel
theorem dX12_stands_61 : decode cX12_stands 61 = .ok (.getfield 115, 3) := by decide +kernel
theorem dX12_stands_64 : decode cX12_stands 64 = .ok (.iload_n 1, 1) := by decide +kernel
theorem dX12_stands_65 : decode cX12_stands 65 = .ok (.iaload, 1) := by decide +kernel
theorem dX12_stands_66 : decode cX12_stands 66 = .ok (.iastore, 1) := by decide +kernel
theorem dX12_stands_67 : decode cX12_stands 67 = .ok (.aload_n 0, 1) := by decide +kernel
theorem dX12_stands_68 : decode cX12_stands 68 = .ok (.getfield 118, 3) := by decide +kernel
theorem dX12_stands_71 : decode cX12_stands 71 = .ok (.iconst 2, 1) := by decide +kernel
theorem dX12_stands_72 : decode cX12_stands 72 = .ok (.iload_n 1, 1) := by decide +kernel
theorem dX12_stands_73 : decode cX12_stands 73 = .ok (.iadd, 1) := by decide +kernel
theorem dX12_stands_74 : decode cX12_stands 74 = .ok (.aload_n 0, 1) := by decide +kernel
theorem dX12_stands_75 : decode cX12_stands 75 = .ok (.getfield 118, 3) := by decide +kernel
theorem dX12_stands_78 : decode cX12_stands 78 = .ok (.iload_n 1, 1) := by decide +kernel
theorem dX12_stands_79 : decode cX12_stands 79 = .ok (.iaload, 1) := by decide +kernel
theorem dX12_stands_80 : decode cX12_stands 80 = .ok (.iastore, 1) := by decide +kernel
theorem dX12_stands_81 : decode cX12_stands 81 = .ok (.iinc 1 1, 3) := by decide +kernel
theorem dX12_stands_84 : decode cX12_stands 84 = .ok (.goto (-36), 3) := by decide +kernel
theorem dX12_stands_87 : decode cX12_stands 87 = .ok (.iconst 0, 1) := by decide +kernel
theorem dX12_stands_88 : decode cX12_stands 88 = .ok (.istore_n 1, 1) := by decide +kernel
theorem dX12_stands_89 : decode cX12_stands 89 = .ok (.iload_n 1, 1) := by decide +kernel
theorem dX12_stands_90 : decode cX12_stands 90 = .ok (.bipush 16, 2) := by decide +kernel
theorem dX12_stands_92 : decode cX12_stands 92 = .ok (.if_icmp .ge 54, 3) := by decide +kernel
theorem dX12_stands_95 : decode cX12_stands 95 = .ok (.aload_n 0, 1) := by decide +kernel
theorem dX12_stands_96 : decode cX12_stands 96 = .ok (.getfield 102, 3) := by decide +kernel
theorem dX12_stands_99 : decode cX12_stands 99 = .ok (.bipush 16, 2) := by decide +kernel
theorem dX12_stands_101 : decode cX12_stands 101 = .ok (.iload_n 1, 1) := by decide +kernel
theorem dX12_stands_102 : decode cX12_stands 102 = .ok (.iadd, 1) := by decide +kernel
theorem dX12_stands_103 : decode cX12_stands 103 = .ok (.aload_n 0, 1) := by decide +kernel
theorem dX12_stands_104 : decode cX12_stands 104 = .ok (.getfield 102, 3) := by decide +kernel
theorem dX12_stands_107 : decode cX12_stands 107 = .ok (.iload_n 1, 1) := by decide +kernel
theorem dX12_stands_108 : decode cX12_stands 108 = .ok (.laload, 1) := by decide +kernel
theorem dX12_stands_109 : decode cX12_stands 109 = .ok (.lastore, 1) := by decide +kernel
theorem dX12_stands_110 : decode cX12_stands 110 = .ok (.aload_n 0, 1) := by decide +kernel
theorem dX12_stands_111 : decode cX12_stands 111 = .ok (.getfield 109, 3) := by decide +kernel
theorem dX12_stands_114 : decode cX12_stands 114 = .ok (.bipush 16, 2) := by decide +kernel
theorem dX12_stands_116 : decode cX12_stands 116 = .ok (.iload_n 1, 1) := by decide +kernel
theorem dX12_stands_117 : decode cX12_stands 117 = .ok (.iadd, 1) := by decide +kernel
theorem dX12_stands_118 : decode cX12_stands 118 = .ok (.aload_n 0, 1) := by decide +kernel
theorem dX12_stands_119 : decode cX12_stands 119 = .ok (.getfield 109, 3) := by decide +kernel
theorem dX12_stands_122 : decode cX12_stands 122 = .ok (.iload_n 1, 1) := by decide +kernel
theorem dX12_stands_123 : decode cX12_stands 123 = .ok (.iaload, 1) := by decide +kernel
theorem dX12_stands_124 : decode cX12_stands 124 = .ok (.iastore, 1) := by decide +kernel
theorem dX12_stands_125 : decode cX12_stands 125 = .ok (.aload_n 0, 1) := by decide +kernel
theorem dX12_stands_126 : decode cX12_stands 126 = .ok (.getfield 112, 3) := by decide +kernel
theorem dX12_stands_129 : decode cX12_stands 129 = .ok (.bipush 16, 2) := by decide +kernel
theorem dX12_stands_131 : decode cX12_stands 131 = .ok (.iload_n 1, 1) := by decide +kernel
theorem dX12_stands_132 : decode cX12_stands 132 = .ok (.iadd, 1) := by decide +kernel
theorem dX12_stands_133 : decode cX12_stands 133 = .ok (.aload_n 0, 1) := by decide +kernel
theorem dX12_stands_134 : decode cX12_stands 134 = .ok (.getfield 112, 3) := by decide +kernel
theorem dX12_stands_137 : decode cX12_stands 137 = .ok (.iload_n 1, 1) := by decide +kernel
theorem dX12_stands_138 : decode cX12_stands 138 = .ok (.iaload, 1) := by decide +kernel
theorem dX12_stands_139 : decode cX12_stands 139 = .ok (.iastore, 1) := by decide +kernel
theorem dX12_stands_140 : decode cX12_stands 140 = .ok (.iinc 1 1, 3) := by decide +kernel
theorem dX12_stands_143 : decode cX12_stands 143 = .ok (.goto (-54), 3) := by decide +kernel
theorem dX12_stands_146 : decode cX12_stands 146 = .ok (.iconst 0, 1) := by decide +kernel
theorem dX12_stands_147 : decode cX12_stands 147 = .ok (.istore_n 1, 1) := by decide +kernel
theorem dX12_stands_148 : decode cX12_stands 148 = .ok (.iload_n 1, 1) := by decide +kernel
theorem dX12_stands_149 : decode cX12_stands 149 = .ok (.bipush 24, 2) := by decide +kernel
theorem dX12_stands_151 : decode cX12_stands 151 = .ok (.if_icmp .ge 24, 3) := by decide +kernel
theorem dX12_stands_154 : decode cX12_stands 154 = .ok (.aload_n 0, 1) := by decide +kernel
theorem dX12_stands_155 : decode cX12_stands 155 = .ok (.getfield 106, 3) := by decide +kernel
theorem dX12_stands_158 : decode cX12_stands 158 = .ok (.bipush 24, 2) := by decide +kernel
theorem dX12_stands_160 : decode cX12_stands 160 = .ok (.iload_n 1, 1) := by decide +kernel
theorem dX12_stands_161 : decode cX12_stands 161 = .ok (.iadd, 1) := by decide +kernel
theorem dX12_stands_162 : decode cX12_stands 162 = .ok (.aload_n 0, 1) := by decide +kernel
theorem dX12_stands_163 : decode cX12_stands 163 = .ok (.getfield 106, 3) := by decide +kernel
theorem dX12_stands_166 : decode cX12_stands 166 = .ok (.iload_n 1, 1) := by decide +kernel
theorem dX12_stands_167 : decode cX12_stands 167 = .ok (.iaload, 1) := by decide +kernel
theorem dX12_stands_168 : decode cX12_stands 168 = .ok (.iastore, 1) := by decide +kernel
theorem dX12_stands_169 : decode cX12_stands 169 = .ok (.iinc 1 1, 3) := by decide +kernel
theorem dX12_stands_172 : decode cX12_stands 172 = .ok (.goto (-24), 3) := by decide +kernel
theorem dX12_stands_175 : decode cX12_stands 175 = .ok (.iconst 0, 1) := by decide +kernel
theorem dX12_stands_176 : decode cX12_stands 176 = .ok (.istore_n 1, 1) := by decide +kernel
theorem dX12_stands_177 : decode cX12_stands 177 = .ok (.iload_n 1, 1) := by decide +kernel
theorem dX12_stands_178 : decode cX12_stands 178 = .ok (.aload_n 0, 1) := by decide +kernel
theorem dX12_stands_179 : decode cX12_stands 179 = .ok (.getfield 336, 3) := by decide +kernel
theorem dX12_stands_182 : decode cX12_stands 182 = .ok (.if_icmp .ge 25, 3) := by decide +kernel
theorem dX12_stands_185 : decode cX12_stands 185 = .ok (.aload_n 0, 1) := by decide +kernel
theorem dX12_stands_186 : decode cX12_stands 186 = .ok (.getfield 121, 3) := by decide +kernel
theorem dX12_stands_189 : decode cX12_stands 189 = .ok (.sipush 1600, 3) := by decide +kernel
theorem dX12_stands_192 : decode cX12_stands 192 = .ok (.iload_n 1, 1) := by decide +kernel
theorem dX12_stands_193 : decode cX12_stands 193 = .ok (.iadd, 1) := by decide +kernel
theorem dX12_stands_194 : decode cX12_stands 194 = .ok (.aload_n 0, 1) := by decide +kernel
theorem dX12_stands_195 : decode cX12_stands 195 = .ok (.getfield 121, 3) := by decide +kernel
theorem dX12_stands_198 : decode cX12_stands 198 = .ok (.iload_n 1, 1) := by decide +kernel
theorem dX12_stands_199 : decode cX12_stands 199 = .ok (.iaload, 1) := by decide +kernel
theorem dX12_stands_200 : decode cX12_stands 200 = .ok (.iastore, 1) := by decide +kernel
theorem dX12_stands_201 : decode cX12_stands 201 = .ok (.iinc 1 1, 3) := by decide +kernel
theorem dX12_stands_204 : decode cX12_stands 204 = .ok (.goto (-27), 3) := by decide +kernel
theorem dX12_stands_207 : decode cX12_stands 207 = .ok (.iconst 0, 1) := by decide +kernel
theorem dX12_stands_208 : decode cX12_stands 208 = .ok (.istore_n 1, 1) := by decide +kernel
theorem dX12_stands_209 : decode cX12_stands 209 = .ok (.iload_n 1, 1) := by decide +kernel
theorem dX12_stands_210 : decode cX12_stands 210 = .ok (.sipush 141, 3) := by decide +kernel
theorem dX12_stands_213 : decode cX12_stands 213 = .ok (.if_icmp .ge 16, 3) := by decide +kernel
theorem dX12_stands_216 : decode cX12_stands 216 = .ok (.aload_n 0, 1) := by decide +kernel
theorem dX12_stands_217 : decode cX12_stands 217 = .ok (.getfield 124, 3) := by decide +kernel
theorem dX12_stands_220 : decode cX12_stands 220 = .ok (.iload_n 1, 1) := by decide +kernel
theorem dX12_stands_221 : decode cX12_stands 221 = .ok (.iconst 0, 1) := by decide +kernel
theorem dX12_stands_222 : decode cX12_stands 222 = .ok (.iastore, 1) := by decide +kernel
theorem dX12_stands_223 : decode cX12_stands 223 = .ok (.iinc 1 1, 3) := by decide +kernel
theorem dX12_stands_226 : decode cX12_stands 226 = .ok (.goto (-17), 3) := by decide +kernel
theorem dX12_stands_229 : decode cX12_stands 229 = .ok (.aload_n 0, 1) := by decide +kernel
theorem dX12_stands_230 : decode cX12_stands 230 = .ok (.iconst 0, 1) := by decide +kernel
theorem dX12_stands_231 : decode cX12_stands 231 = .ok (.putfield 370, 3) := by decide +kernel
theorem dX12_stands_234 : decode cX12_stands 234 = .ok (.aload_n 0, 1) := by decide +kernel
theorem dX12_stands_235 : decode cX12_stands 235 = .ok (.iconst 0, 1) := by decide +kernel
theorem dX12_stands_236 : decode cX12_stands 236 = .ok (.putfield 373, 3) := by decide +kernel
theorem dX12_stands_239 : decode cX12_stands 239 = .ok (.return_, 1) := by decide +kernel
theorem dX12_fault_0 : decode cX12_fault 0 = .ok (.iload_n 1, 1) := by decide +kernel
theorem dX12_fault_1 : decode cX12_fault 1 = .ok (.ifCond .ne 10, 3) := by decide +kernel
theorem dX12_fault_4 : decode cX12_fault 4 = .ok (.aload_n 0, 1) := by decide +kernel
theorem dX12_fault_5 : decode cX12_fault 5 = .ok (.getfield 360, 3) := by decide +kernel
theorem dX12_fault_8 : decode cX12_fault 8 = .ok (.goto 16, 3) := by decide +kernel
theorem dX12_fault_11 : decode cX12_fault 11 = .ok (.iload_n 1, 1) := by decide +kernel
theorem dX12_fault_12 : decode cX12_fault 12 = .ok (.iconst 1, 1) := by decide +kernel
theorem dX12_fault_13 : decode cX12_fault 13 = .ok (.if_icmp .ne 10, 3) := by decide +kernel
theorem dX12_fault_16 : decode cX12_fault 16 = .ok (.aload_n 0, 1) := by decide +kernel
theorem dX12_fault_17 : decode cX12_fault 17 = .ok (.getfield 13, 3) := by decide +kernel
theorem dX12_fault_20 : decode cX12_fault 20 = .ok (.goto 4, 3) := by decide +kernel
theorem dX12_fault_23 : decode cX12_fault 23 = .ok (.iconst (-1), 1) := by decide +kernel
theorem dX12_fault_24 : decode cX12_fault 24 = .ok (.ireturn, 1) := by decide +kernel
theorem dX12_fairMinutes_0 : decode cX12_fairMinutes 0 = .ok (.aload_n 0, 1) := by decide +kernel
theorem dX12_fairMinutes_1 : decode cX12_fairMinutes 1 = .ok (.getfield 96, 3) := by decide +kernel
theorem dX12_fairMinutes_4 : decode cX12_fairMinutes 4 = .ok (.iconst 3, 1) := by decide +kernel
theorem dX12_fairMinutes_5 : decode cX12_fairMinutes 5 = .ok (.iaload, 1) := by decide +kernel
theorem dX12_fairMinutes_6 : decode cX12_fairMinutes 6 = .ok (.ireturn, 1) := by decide +kernel
theorem dX12_stallMany_0 : decode cX12_stallMany 0 = .ok (.aload_n 0, 1) := by decide +kernel
theorem dX12_stallMany_1 : decode cX12_stallMany 1 = .ok (.getfield 99, 3) := by decide +kernel
theorem dX12_stallMany_4 : decode cX12_stallMany 4 = .ok (.iconst 3, 1) := by decide +kernel
theorem dX12_stallMany_5 : decode cX12_stallMany 5 = .ok (.iaload, 1) := by decide +kernel
theorem dX12_stallMany_6 : decode cX12_stallMany 6 = .ok (.ireturn, 1) := by decide +kernel
theorem dX12_coinMany_0 : decode cX12_coinMany 0 = .ok (.aload_n 0, 1) := by decide +kernel
theorem dX12_coinMany_1 : decode cX12_coinMany 1 = .ok (.getfield 99, 3) := by decide +kernel
theorem dX12_coinMany_4 : decode cX12_coinMany 4 = .ok (.iconst 4, 1) := by decide +kernel
theorem dX12_coinMany_5 : decode cX12_coinMany 5 = .ok (.iaload, 1) := by decide +kernel
theorem dX12_coinMany_6 : decode cX12_coinMany 6 = .ok (.ireturn, 1) := by decide +kernel
theorem dX12_isStall_0 : decode cX12_isStall 0 = .ok (.lload_n 1, 1) := by decide +kernel
theorem dX12_isStall_1 : decode cX12_isStall 1 = .ok (.lconst 0, 1) := by decide +kernel
theorem dX12_isStall_2 : decode cX12_isStall 2 = .ok (.aload_n 0, 1) := by decide +kernel
theorem dX12_isStall_3 : decode cX12_isStall 3 = .ok (.invokevirtual 376, 3) := by decide +kernel
theorem dX12_isStall_6 : decode cX12_isStall 6 = .ok (.iconst 1, 1) := by decide +kernel
theorem dX12_isStall_7 : decode cX12_isStall 7 = .ok (.isub, 1) := by decide +kernel
theorem dX12_isStall_8 : decode cX12_isStall 8 = .ok (.i2l, 1) := by decide +kernel
theorem dX12_isStall_9 : decode cX12_isStall 9 = .ok (.invokestatic 277, 3) := by decide +kernel
theorem dX12_isStall_12 : decode cX12_isStall 12 = .ok (.ireturn, 1) := by decide +kernel
theorem dX12_isCoin_0 : decode cX12_isCoin 0 = .ok (.iload_n 1, 1) := by decide +kernel
theorem dX12_isCoin_1 : decode cX12_isCoin 1 = .ok (.i2l, 1) := by decide +kernel
theorem dX12_isCoin_2 : decode cX12_isCoin 2 = .ok (.lconst 0, 1) := by decide +kernel
theorem dX12_isCoin_3 : decode cX12_isCoin 3 = .ok (.aload_n 0, 1) := by decide +kernel
theorem dX12_isCoin_4 : decode cX12_isCoin 4 = .ok (.invokevirtual 379, 3) := by decide +kernel
theorem dX12_isCoin_7 : decode cX12_isCoin 7 = .ok (.iconst 1, 1) := by decide +kernel
theorem dX12_isCoin_8 : decode cX12_isCoin 8 = .ok (.isub, 1) := by decide +kernel
theorem dX12_isCoin_9 : decode cX12_isCoin 9 = .ok (.i2l, 1) := by decide +kernel
theorem dX12_isCoin_10 : decode cX12_isCoin 10 = .ok (.invokestatic 277, 3) := by decide +kernel
theorem dX12_isCoin_13 : decode cX12_isCoin 13 = .ok (.ireturn, 1) := by decide +kernel
theorem dX12_isMinute_0 : decode cX12_isMinute 0 = .ok (.aload_n 0, 1) := by decide +kernel
theorem dX12_isMinute_1 : decode cX12_isMinute 1 = .ok (.getfield 366, 3) := by decide +kernel
theorem dX12_isMinute_4 : decode cX12_isMinute 4 = .ok (.ifCond .eq 21, 3) := by decide +kernel
theorem dX12_isMinute_7 : decode cX12_isMinute 7 = .ok (.iload_n 1, 1) := by decide +kernel
theorem dX12_isMinute_8 : decode cX12_isMinute 8 = .ok (.i2l, 1) := by decide +kernel
theorem dX12_isMinute_9 : decode cX12_isMinute 9 = .ok (.lconst 0, 1) := by decide +kernel
theorem dX12_isMinute_10 : decode cX12_isMinute 10 = .ok (.aload_n 0, 1) := by decide +kernel
theorem dX12_isMinute_11 : decode cX12_isMinute 11 = .ok (.invokevirtual 382, 3) := by decide +kernel
theorem dX12_isMinute_14 : decode cX12_isMinute 14 = .ok (.i2l, 1) := by decide +kernel
theorem dX12_isMinute_15 : decode cX12_isMinute 15 = .ok (.invokestatic 277, 3) := by decide +kernel
theorem dX12_isMinute_18 : decode cX12_isMinute 18 = .ok (.ifCond .eq 7, 3) := by decide +kernel
theorem dX12_isMinute_21 : decode cX12_isMinute 21 = .ok (.iconst 1, 1) := by decide +kernel
theorem dX12_isMinute_22 : decode cX12_isMinute 22 = .ok (.goto 4, 3) := by decide +kernel
theorem dX12_isMinute_25 : decode cX12_isMinute 25 = .ok (.iconst 0, 1) := by decide +kernel
theorem dX12_isMinute_26 : decode cX12_isMinute 26 = .ok (.ireturn, 1) := by decide +kernel
theorem dX12_placeOf_0 : decode cX12_placeOf 0 = .ok (.aload_n 0, 1) := by decide +kernel
theorem dX12_placeOf_1 : decode cX12_placeOf 1 = .ok (.getfield 106, 3) := by decide +kernel
theorem dX12_placeOf_4 : decode cX12_placeOf 4 = .ok (.bipush 24, 2) := by decide +kernel
theorem dX12_placeOf_6 : decode cX12_placeOf 6 = .ok (.iconst 4, 1) := by decide +kernel
theorem dX12_placeOf_7 : decode cX12_placeOf 7 = .ok (.iload_n 1, 1) := by decide +kernel
theorem dX12_placeOf_8 : decode cX12_placeOf 8 = .ok (.imul, 1) := by decide +kernel
theorem dX12_placeOf_9 : decode cX12_placeOf 9 = .ok (.iadd, 1) := by decide +kernel
theorem dX12_placeOf_10 : decode cX12_placeOf 10 = .ok (.iaload, 1) := by decide +kernel
theorem dX12_placeOf_11 : decode cX12_placeOf 11 = .ok (.ireturn, 1) := by decide +kernel
theorem dX12_turnOf_0 : decode cX12_turnOf 0 = .ok (.aload_n 0, 1) := by decide +kernel
theorem dX12_turnOf_1 : decode cX12_turnOf 1 = .ok (.getfield 106, 3) := by decide +kernel
theorem dX12_turnOf_4 : decode cX12_turnOf 4 = .ok (.bipush 25, 2) := by decide +kernel
theorem dX12_turnOf_6 : decode cX12_turnOf 6 = .ok (.iconst 4, 1) := by decide +kernel
theorem dX12_turnOf_7 : decode cX12_turnOf 7 = .ok (.iload_n 1, 1) := by decide +kernel
theorem dX12_turnOf_8 : decode cX12_turnOf 8 = .ok (.imul, 1) := by decide +kernel
theorem dX12_turnOf_9 : decode cX12_turnOf 9 = .ok (.iadd, 1) := by decide +kernel
theorem dX12_turnOf_10 : decode cX12_turnOf 10 = .ok (.iaload, 1) := by decide +kernel
theorem dX12_turnOf_11 : decode cX12_turnOf 11 = .ok (.ireturn, 1) := by decide +kernel
theorem dX12_priceOf_0 : decode cX12_priceOf 0 = .ok (.aload_n 0, 1) := by decide +kernel
theorem dX12_priceOf_1 : decode cX12_priceOf 1 = .ok (.getfield 106, 3) := by decide +kernel
theorem dX12_priceOf_4 : decode cX12_priceOf 4 = .ok (.bipush 26, 2) := by decide +kernel
theorem dX12_priceOf_6 : decode cX12_priceOf 6 = .ok (.iconst 4, 1) := by decide +kernel
theorem dX12_priceOf_7 : decode cX12_priceOf 7 = .ok (.iload_n 1, 1) := by decide +kernel
theorem dX12_priceOf_8 : decode cX12_priceOf 8 = .ok (.imul, 1) := by decide +kernel
theorem dX12_priceOf_9 : decode cX12_priceOf 9 = .ok (.iadd, 1) := by decide +kernel
theorem dX12_priceOf_10 : decode cX12_priceOf 10 = .ok (.iaload, 1) := by decide +kernel
theorem dX12_priceOf_11 : decode cX12_priceOf 11 = .ok (.ireturn, 1) := by decide +kernel
theorem dX12_shutOf_0 : decode cX12_shutOf 0 = .ok (.aload_n 0, 1) := by decide +kernel
theorem dX12_shutOf_1 : decode cX12_shutOf 1 = .ok (.getfield 106, 3) := by decide +kernel
theorem dX12_shutOf_4 : decode cX12_shutOf 4 = .ok (.bipush 27, 2) := by decide +kernel
theorem dX12_shutOf_6 : decode cX12_shutOf 6 = .ok (.iconst 4, 1) := by decide +kernel
theorem dX12_shutOf_7 : decode cX12_shutOf 7 = .ok (.iload_n 1, 1) := by decide +kernel
theorem dX12_shutOf_8 : decode cX12_shutOf 8 = .ok (.imul, 1) := by decide +kernel
theorem dX12_shutOf_9 : decode cX12_shutOf 9 = .ok (.iadd, 1) := by decide +kernel
theorem dX12_shutOf_10 : decode cX12_shutOf 10 = .ok (.iaload, 1) := by decide +kernel
theorem dX12_shutOf_11 : decode cX12_shutOf 11 = .ok (.ireturn, 1) := by decide +kernel
theorem dX12_isBought_0 : decode cX12_isBought 0 = .ok (.aload_n 0, 1) := by decide +kernel
theorem dX12_isBought_1 : decode cX12_isBought 1 = .ok (.getfield 124, 3) := by decide +kernel
theorem dX12_isBought_4 : decode cX12_isBought 4 = .ok (.iconst 2, 1) := by decide +kernel
theorem dX12_isBought_5 : decode cX12_isBought 5 = .ok (.iaload, 1) := by decide +kernel
theorem dX12_isBought_6 : decode cX12_isBought 6 = .ok (.iload_n 1, 1) := by decide +kernel
theorem dX12_isBought_7 : decode cX12_isBought 7 = .ok (.ishr, 1) := by decide +kernel
theorem dX12_isBought_8 : decode cX12_isBought 8 = .ok (.iconst 1, 1) := by decide +kernel
theorem dX12_isBought_9 : decode cX12_isBought 9 = .ok (.iand, 1) := by decide +kernel
theorem dX12_isBought_10 : decode cX12_isBought 10 = .ok (.iconst 1, 1) := by decide +kernel
theorem dX12_isBought_11 : decode cX12_isBought 11 = .ok (.if_icmp .ne 7, 3) := by decide +kernel
theorem dX12_isBought_14 : decode cX12_isBought 14 = .ok (.iconst 1, 1) := by decide +kernel
theorem dX12_isBought_15 : decode cX12_isBought 15 = .ok (.goto 4, 3) := by decide +kernel
theorem dX12_isBought_18 : decode cX12_isBought 18 = .ok (.iconst 0, 1) := by decide +kernel
theorem dX12_isBought_19 : decode cX12_isBought 19 = .ok (.ireturn, 1) := by decide +kernel
theorem dX12_isCloud_0 : decode cX12_isCloud 0 = .ok (.iconst 0, 1) := by decide +kernel
theorem dX12_isCloud_1 : decode cX12_isCloud 1 = .ok (.istore_n 2, 1) := by decide +kernel
theorem dX12_isCloud_2 : decode cX12_isCloud 2 = .ok (.iload_n 2, 1) := by decide +kernel
theorem dX12_isCloud_3 : decode cX12_isCloud 3 = .ok (.aload_n 0, 1) := by decide +kernel
theorem dX12_isCloud_4 : decode cX12_isCloud 4 = .ok (.getfield 99, 3) := by decide +kernel
theorem dX12_isCloud_7 : decode cX12_isCloud 7 = .ok (.iconst 5, 1) := by decide +kernel
theorem dX12_isCloud_8 : decode cX12_isCloud 8 = .ok (.iaload, 1) := by decide +kernel
theorem dX12_isCloud_9 : decode cX12_isCloud 9 = .ok (.if_icmp .ge 43, 3) := by decide +kernel
theorem dX12_isCloud_12 : decode cX12_isCloud 12 = .ok (.iload_n 1, 1) := by decide +kernel
theorem dX12_isCloud_13 : decode cX12_isCloud 13 = .ok (.i2l, 1) := by decide +kernel
theorem dX12_isCloud_14 : decode cX12_isCloud 14 = .ok (.aload_n 0, 1) := by decide +kernel
theorem dX12_isCloud_15 : decode cX12_isCloud 15 = .ok (.getfield 112, 3) := by decide +kernel
theorem dX12_isCloud_18 : decode cX12_isCloud 18 = .ok (.bipush 16, 2) := by decide +kernel
theorem dX12_isCloud_20 : decode cX12_isCloud 20 = .ok (.iconst 2, 1) := by decide +kernel
theorem dX12_isCloud_21 : decode cX12_isCloud 21 = .ok (.iload_n 2, 1) := by decide +kernel
theorem dX12_isCloud_22 : decode cX12_isCloud 22 = .ok (.imul, 1) := by decide +kernel
theorem dX12_isCloud_23 : decode cX12_isCloud 23 = .ok (.iadd, 1) := by decide +kernel
theorem dX12_isCloud_24 : decode cX12_isCloud 24 = .ok (.iaload, 1) := by decide +kernel
theorem dX12_isCloud_25 : decode cX12_isCloud 25 = .ok (.i2l, 1) := by decide +kernel
theorem dX12_isCloud_26 : decode cX12_isCloud 26 = .ok (.aload_n 0, 1) := by decide +kernel
theorem dX12_isCloud_27 : decode cX12_isCloud 27 = .ok (.getfield 112, 3) := by decide +kernel
theorem dX12_isCloud_30 : decode cX12_isCloud 30 = .ok (.bipush 17, 2) := by decide +kernel
theorem dX12_isCloud_32 : decode cX12_isCloud 32 = .ok (.iconst 2, 1) := by decide +kernel
theorem dX12_isCloud_33 : decode cX12_isCloud 33 = .ok (.iload_n 2, 1) := by decide +kernel
theorem dX12_isCloud_34 : decode cX12_isCloud 34 = .ok (.imul, 1) := by decide +kernel
theorem dX12_isCloud_35 : decode cX12_isCloud 35 = .ok (.iadd, 1) := by decide +kernel
theorem dX12_isCloud_36 : decode cX12_isCloud 36 = .ok (.iaload, 1) := by decide +kernel
theorem dX12_isCloud_37 : decode cX12_isCloud 37 = .ok (.i2l, 1) := by decide +kernel
theorem dX12_isCloud_38 : decode cX12_isCloud 38 = .ok (.invokestatic 277, 3) := by decide +kernel
theorem dX12_isCloud_41 : decode cX12_isCloud 41 = .ok (.ifCond .eq 5, 3) := by decide +kernel
theorem dX12_isCloud_44 : decode cX12_isCloud 44 = .ok (.iconst 1, 1) := by decide +kernel
theorem dX12_isCloud_45 : decode cX12_isCloud 45 = .ok (.ireturn, 1) := by decide +kernel
theorem dX12_isCloud_46 : decode cX12_isCloud 46 = .ok (.iinc 2 1, 3) := by decide +kernel
theorem dX12_isCloud_49 : decode cX12_isCloud 49 = .ok (.goto (-47), 3) := by decide +kernel
theorem dX12_isCloud_52 : decode cX12_isCloud 52 = .ok (.iconst 0, 1) := by decide +kernel
theorem dX12_isCloud_53 : decode cX12_isCloud 53 = .ok (.istore_n 2, 1) := by decide +kernel
theorem dX12_isCloud_54 : decode cX12_isCloud 54 = .ok (.iload_n 2, 1) := by decide +kernel
theorem dX12_isCloud_55 : decode cX12_isCloud 55 = .ok (.aload_n 0, 1) := by decide +kernel
theorem dX12_isCloud_56 : decode cX12_isCloud 56 = .ok (.getfield 124, 3) := by decide +kernel
theorem dX12_isCloud_59 : decode cX12_isCloud 59 = .ok (.iconst 3, 1) := by decide +kernel
theorem dX12_isCloud_60 : decode cX12_isCloud 60 = .ok (.iaload, 1) := by decide +kernel
theorem dX12_isCloud_61 : decode cX12_isCloud 61 = .ok (.if_icmp .ge 23, 3) := by decide +kernel
theorem dX12_isCloud_64 : decode cX12_isCloud 64 = .ok (.aload_n 0, 1) := by decide +kernel
theorem dX12_isCloud_65 : decode cX12_isCloud 65 = .ok (.getfield 124, 3) := by decide +kernel
theorem dX12_isCloud_68 : decode cX12_isCloud 68 = .ok (.iconst 4, 1) := by decide +kernel
theorem dX12_isCloud_69 : decode cX12_isCloud 69 = .ok (.iload_n 2, 1) := by decide +kernel
theorem dX12_isCloud_70 : decode cX12_isCloud 70 = .ok (.iadd, 1) := by decide +kernel
theorem dX12_isCloud_71 : decode cX12_isCloud 71 = .ok (.iaload, 1) := by decide +kernel
theorem dX12_isCloud_72 : decode cX12_isCloud 72 = .ok (.iload_n 1, 1) := by decide +kernel
theorem dX12_isCloud_73 : decode cX12_isCloud 73 = .ok (.if_icmp .ne 5, 3) := by decide +kernel
theorem dX12_isCloud_76 : decode cX12_isCloud 76 = .ok (.iconst 1, 1) := by decide +kernel
theorem dX12_isCloud_77 : decode cX12_isCloud 77 = .ok (.ireturn, 1) := by decide +kernel
theorem dX12_isCloud_78 : decode cX12_isCloud 78 = .ok (.iinc 2 1, 3) := by decide +kernel
theorem dX12_isCloud_81 : decode cX12_isCloud 81 = .ok (.goto (-27), 3) := by decide +kernel
theorem dX12_isCloud_84 : decode cX12_isCloud 84 = .ok (.iconst 0, 1) := by decide +kernel
theorem dX12_isCloud_85 : decode cX12_isCloud 85 = .ok (.ireturn, 1) := by decide +kernel
theorem dX12_codesTell_0 : decode cX12_codesTell 0 = .ok (.aload_n 0, 1) := by decide +kernel
theorem dX12_codesTell_1 : decode cX12_codesTell 1 = .ok (.iload_n 1, 1) := by decide +kernel
theorem dX12_codesTell_2 : decode cX12_codesTell 2 = .ok (.putfield 292, 3) := by decide +kernel
theorem dX12_codesTell_5 : decode cX12_codesTell 5 = .ok (.aload_n 0, 1) := by decide +kernel
theorem dX12_codesTell_6 : decode cX12_codesTell 6 = .ok (.iconst 0, 1) := by decide +kernel
theorem dX12_codesTell_7 : decode cX12_codesTell 7 = .ok (.putfield 385, 3) := by decide +kernel
theorem dX12_codesTell_10 : decode cX12_codesTell 10 = .ok (.aload_n 0, 1) := by decide +kernel
theorem dX12_codesTell_11 : decode cX12_codesTell 11 = .ok (.getfield 115, 3) := by decide +kernel
theorem dX12_codesTell_14 : decode cX12_codesTell 14 = .ok (.iconst 2, 1) := by decide +kernel
theorem dX12_codesTell_15 : decode cX12_codesTell 15 = .ok (.iload_n 1, 1) := by decide +kernel
theorem dX12_codesTell_16 : decode cX12_codesTell 16 = .ok (.iadd, 1) := by decide +kernel
theorem dX12_codesTell_17 : decode cX12_codesTell 17 = .ok (.iaload, 1) := by decide +kernel
theorem dX12_codesTell_18 : decode cX12_codesTell 18 = .ok (.istore_n 3, 1) := by decide +kernel
theorem dX12_codesTell_19 : decode cX12_codesTell 19 = .ok (.iload_n 3, 1) := by decide +kernel
theorem dX12_codesTell_20 : decode cX12_codesTell 20 = .ok (.aload_n 0, 1) := by decide +kernel
theorem dX12_codesTell_21 : decode cX12_codesTell 21 = .ok (.getfield 118, 3) := by decide +kernel
theorem dX12_codesTell_24 : decode cX12_codesTell 24 = .ok (.iconst 2, 1) := by decide +kernel
theorem dX12_codesTell_25 : decode cX12_codesTell 25 = .ok (.iload_n 1, 1) := by decide +kernel
theorem dX12_codesTell_26 : decode cX12_codesTell 26 = .ok (.iadd, 1) := by decide +kernel
theorem dX12_codesTell_27 : decode cX12_codesTell 27 = .ok (.iaload, 1) := by decide +kernel
theorem dX12_codesTell_28 : decode cX12_codesTell 28 = .ok (.if_icmp .ge 122, 3) := by decide +kernel
theorem dX12_codesTell_31 : decode cX12_codesTell 31 = .ok (.aload_n 0, 1) := by decide +kernel
theorem dX12_codesTell_32 : decode cX12_codesTell 32 = .ok (.getfield 121, 3) := by decide +kernel
theorem dX12_codesTell_35 : decode cX12_codesTell 35 = .ok (.sipush 1600, 3) := by decide +kernel
theorem dX12_codesTell_38 : decode cX12_codesTell 38 = .ok (.iload_n 3, 1) := by decide +kernel
theorem dX12_codesTell_39 : decode cX12_codesTell 39 = .ok (.iadd, 1) := by decide +kernel
theorem dX12_codesTell_40 : decode cX12_codesTell 40 = .ok (.iaload, 1) := by decide +kernel
theorem dX12_codesTell_41 : decode cX12_codesTell 41 = .ok (.istore 4, 2) := by decide +kernel
theorem dX12_codesTell_43 : decode cX12_codesTell 43 = .ok (.iload 4, 2) := by decide +kernel
theorem dX12_codesTell_45 : decode cX12_codesTell 45 = .ok (.sipush 1000, 3) := by decide +kernel
theorem dX12_codesTell_48 : decode cX12_codesTell 48 = .ok (.if_icmp .lt 17, 3) := by decide +kernel
theorem dX12_codesTell_51 : decode cX12_codesTell 51 = .ok (.aload_n 0, 1) := by decide +kernel
theorem dX12_codesTell_52 : decode cX12_codesTell 52 = .ok (.iload 4, 2) := by decide +kernel
theorem dX12_codesTell_54 : decode cX12_codesTell 54 = .ok (.sipush 1000, 3) := by decide +kernel
theorem dX12_codesTell_57 : decode cX12_codesTell 57 = .ok (.isub, 1) := by decide +kernel
theorem dX12_codesTell_58 : decode cX12_codesTell 58 = .ok (.i2l, 1) := by decide +kernel
theorem dX12_codesTell_59 : decode cX12_codesTell 59 = .ok (.invokevirtual 388, 3) := by decide +kernel
theorem dX12_codesTell_62 : decode cX12_codesTell 62 = .ok (.goto 82, 3) := by decide +kernel
theorem dX12_codesTell_65 : decode cX12_codesTell 65 = .ok (.iload 4, 2) := by decide +kernel
theorem dX12_codesTell_67 : decode cX12_codesTell 67 = .ok (.bipush 40, 2) := by decide +kernel
theorem dX12_codesTell_69 : decode cX12_codesTell 69 = .ok (.if_icmp .lt 20, 3) := by decide +kernel
theorem dX12_codesTell_72 : decode cX12_codesTell 72 = .ok (.aload_n 0, 1) := by decide +kernel
theorem dX12_codesTell_73 : decode cX12_codesTell 73 = .ok (.aload_n 0, 1) := by decide +kernel
theorem dX12_codesTell_74 : decode cX12_codesTell 74 = .ok (.iload 4, 2) := by decide +kernel
theorem dX12_codesTell_76 : decode cX12_codesTell 76 = .ok (.bipush 40, 2) := by decide +kernel
theorem dX12_codesTell_78 : decode cX12_codesTell 78 = .ok (.isub, 1) := by decide +kernel
theorem dX12_codesTell_79 : decode cX12_codesTell 79 = .ok (.iload_n 2, 1) := by decide +kernel
theorem dX12_codesTell_80 : decode cX12_codesTell 80 = .ok (.invokevirtual 392, 3) := by decide +kernel
theorem dX12_codesTell_83 : decode cX12_codesTell 83 = .ok (.invokevirtual 388, 3) := by decide +kernel
theorem dX12_codesTell_86 : decode cX12_codesTell 86 = .ok (.goto 58, 3) := by decide +kernel
theorem dX12_codesTell_89 : decode cX12_codesTell 89 = .ok (.iload 4, 2) := by decide +kernel
theorem dX12_codesTell_91 : decode cX12_codesTell 91 = .ok (.bipush 13, 2) := by decide +kernel
theorem dX12_codesTell_93 : decode cX12_codesTell 93 = .ok (.if_icmp .ne 11, 3) := by decide +kernel
theorem dX12_codesTell_96 : decode cX12_codesTell 96 = .ok (.aload_n 0, 1) := by decide +kernel
theorem dX12_codesTell_97 : decode cX12_codesTell 97 = .ok (.lconst 1, 1) := by decide +kernel
theorem dX12_codesTell_98 : decode cX12_codesTell 98 = .ok (.invokevirtual 388, 3) := by decide +kernel
theorem dX12_codesTell_101 : decode cX12_codesTell 101 = .ok (.goto 43, 3) := by decide +kernel
theorem dX12_codesTell_104 : decode cX12_codesTell 104 = .ok (.iload 4, 2) := by decide +kernel
theorem dX12_codesTell_106 : decode cX12_codesTell 106 = .ok (.bipush 12, 2) := by decide +kernel
theorem dX12_codesTell_108 : decode cX12_codesTell 108 = .ok (.if_icmp .ne 30, 3) := by decide +kernel
theorem dX12_codesTell_111 : decode cX12_codesTell 111 = .ok (.aload_n 0, 1) := by decide +kernel
theorem dX12_codesTell_112 : decode cX12_codesTell 112 = .ok (.getfield 228, 3) := by decide +kernel
theorem dX12_codesTell_115 : decode cX12_codesTell 115 = .ok (.aload_n 0, 1) := by decide +kernel
theorem dX12_codesTell_116 : decode cX12_codesTell 116 = .ok (.getfield 385, 3) := by decide +kernel
theorem dX12_codesTell_119 : decode cX12_codesTell 119 = .ok (.iconst 1, 1) := by decide +kernel
theorem dX12_codesTell_120 : decode cX12_codesTell 120 = .ok (.isub, 1) := by decide +kernel
theorem dX12_codesTell_121 : decode cX12_codesTell 121 = .ok (.lconst 1, 1) := by decide +kernel
theorem dX12_codesTell_122 : decode cX12_codesTell 122 = .ok (.aload_n 0, 1) := by decide +kernel
theorem dX12_codesTell_123 : decode cX12_codesTell 123 = .ok (.getfield 228, 3) := by decide +kernel
theorem dX12_codesTell_126 : decode cX12_codesTell 126 = .ok (.aload_n 0, 1) := by decide +kernel
theorem dX12_codesTell_127 : decode cX12_codesTell 127 = .ok (.getfield 385, 3) := by decide +kernel
theorem dX12_codesTell_130 : decode cX12_codesTell 130 = .ok (.iconst 1, 1) := by decide +kernel
theorem dX12_codesTell_131 : decode cX12_codesTell 131 = .ok (.isub, 1) := by decide +kernel
theorem dX12_codesTell_132 : decode cX12_codesTell 132 = .ok (.laload, 1) := by decide +kernel
theorem dX12_codesTell_133 : decode cX12_codesTell 133 = .ok (.lsub, 1) := by decide +kernel
theorem dX12_codesTell_134 : decode cX12_codesTell 134 = .ok (.lastore, 1) := by decide +kernel
theorem dX12_codesTell_135 : decode cX12_codesTell 135 = .ok (.goto 9, 3) := by decide +kernel
theorem dX12_codesTell_138 : decode cX12_codesTell 138 = .ok (.aload_n 0, 1) := by decide +kernel
theorem dX12_codesTell_139 : decode cX12_codesTell 139 = .ok (.iload 4, 2) := by decide +kernel
theorem dX12_codesTell_141 : decode cX12_codesTell 141 = .ok (.invokevirtual 396, 3) := by decide +kernel
theorem dX12_codesTell_144 : decode cX12_codesTell 144 = .ok (.iinc 3 1, 3) := by decide +kernel
theorem dX12_codesTell_147 : decode cX12_codesTell 147 = .ok (.goto (-128), 3) := by decide +kernel
theorem dX12_codesTell_150 : decode cX12_codesTell 150 = .ok (.aload_n 0, 1) := by decide +kernel
theorem dX12_codesTell_151 : decode cX12_codesTell 151 = .ok (.getfield 228, 3) := by decide +kernel
theorem dX12_codesTell_154 : decode cX12_codesTell 154 = .ok (.iconst 0, 1) := by decide +kernel
theorem dX12_codesTell_155 : decode cX12_codesTell 155 = .ok (.laload, 1) := by decide +kernel
theorem dX12_codesTell_156 : decode cX12_codesTell 156 = .ok (.lreturn, 1) := by decide +kernel
theorem dX12_shadowOf_0 : decode cX12_shadowOf 0 = .ok (.aload_n 0, 1) := by decide +kernel
theorem dX12_shadowOf_1 : decode cX12_shadowOf 1 = .ok (.iload_n 3, 1) := by decide +kernel
theorem dX12_shadowOf_2 : decode cX12_shadowOf 2 = .ok (.invokevirtual 399, 3) := by decide +kernel
theorem dX12_shadowOf_5 : decode cX12_shadowOf 5 = .ok (.ifCond .eq 5, 3) := by decide +kernel
theorem dX12_shadowOf_8 : decode cX12_shadowOf 8 = .ok (.iconst 0, 1) := by decide +kernel
theorem dX12_shadowOf_9 : decode cX12_shadowOf 9 = .ok (.ireturn, 1) := by decide +kernel
theorem dX12_shadowOf_10 : decode cX12_shadowOf 10 = .ok (.aload_n 0, 1) := by decide +kernel
theorem dX12_shadowOf_11 : decode cX12_shadowOf 11 = .ok (.getfield 115, 3) := by decide +kernel
theorem dX12_shadowOf_14 : decode cX12_shadowOf 14 = .ok (.iconst 2, 1) := by decide +kernel
theorem dX12_shadowOf_15 : decode cX12_shadowOf 15 = .ok (.iaload, 1) := by decide +kernel
theorem dX12_shadowOf_16 : decode cX12_shadowOf 16 = .ok (.iconst (-1), 1) := by decide +kernel
theorem dX12_shadowOf_17 : decode cX12_shadowOf 17 = .ok (.if_icmp .ne 15, 3) := by decide +kernel
theorem dX12_shadowOf_20 : decode cX12_shadowOf 20 = .ok (.aload_n 0, 1) := by decide +kernel
theorem dX12_shadowOf_21 : decode cX12_shadowOf 21 = .ok (.getfield 109, 3) := by decide +kernel
theorem dX12_shadowOf_24 : decode cX12_shadowOf 24 = .ok (.bipush 16, 2) := by decide +kernel
theorem dX12_shadowOf_26 : decode cX12_shadowOf 26 = .ok (.iconst 2, 1) := by decide +kernel
theorem dX12_shadowOf_27 : decode cX12_shadowOf 27 = .ok (.iload_n 1, 1) := by decide +kernel
theorem dX12_shadowOf_28 : decode cX12_shadowOf 28 = .ok (.imul, 1) := by decide +kernel
theorem dX12_shadowOf_29 : decode cX12_shadowOf 29 = .ok (.iadd, 1) := by decide +kernel
theorem dX12_shadowOf_30 : decode cX12_shadowOf 30 = .ok (.iaload, 1) := by decide +kernel
theorem dX12_shadowOf_31 : decode cX12_shadowOf 31 = .ok (.ireturn, 1) := by decide +kernel
theorem dX12_shadowOf_32 : decode cX12_shadowOf 32 = .ok (.aload_n 0, 1) := by decide +kernel
theorem dX12_shadowOf_33 : decode cX12_shadowOf 33 = .ok (.iload_n 2, 1) := by decide +kernel
theorem dX12_shadowOf_34 : decode cX12_shadowOf 34 = .ok (.putfield 402, 3) := by decide +kernel
theorem dX12_shadowOf_37 : decode cX12_shadowOf 37 = .ok (.aload_n 0, 1) := by decide +kernel
theorem dX12_shadowOf_38 : decode cX12_shadowOf 38 = .ok (.iload_n 3, 1) := by decide +kernel
theorem dX12_shadowOf_39 : decode cX12_shadowOf 39 = .ok (.putfield 405, 3) := by decide +kernel
theorem dX12_shadowOf_42 : decode cX12_shadowOf 42 = .ok (.aload_n 0, 1) := by decide +kernel
theorem dX12_shadowOf_43 : decode cX12_shadowOf 43 = .ok (.iconst 0, 1) := by decide +kernel
theorem dX12_shadowOf_44 : decode cX12_shadowOf 44 = .ok (.iload_n 1, 1) := by decide +kernel
theorem dX12_shadowOf_45 : decode cX12_shadowOf 45 = .ok (.invokevirtual 408, 3) := by decide +kernel
theorem dX12_shadowOf_48 : decode cX12_shadowOf 48 = .ok (.lstore 4, 2) := by decide +kernel
theorem dX12_shadowOf_50 : decode cX12_shadowOf 50 = .ok (.lload 4, 2) := by decide +kernel
theorem dX12_shadowOf_52 : decode cX12_shadowOf 52 = .ok (.lconst 0, 1) := by decide +kernel
theorem dX12_shadowOf_53 : decode cX12_shadowOf 53 = .ok (.lcmp, 1) := by decide +kernel
theorem dX12_shadowOf_54 : decode cX12_shadowOf 54 = .ok (.ifCond .ge 7, 3) := by decide +kernel
theorem dX12_shadowOf_57 : decode cX12_shadowOf 57 = .ok (.iconst 0, 1) := by decide +kernel
theorem dX12_shadowOf_58 : decode cX12_shadowOf 58 = .ok (.goto 21, 3) := by decide +kernel
theorem dX12_shadowOf_61 : decode cX12_shadowOf 61 = .ok (.lload 4, 2) := by decide +kernel
theorem dX12_shadowOf_63 : decode cX12_shadowOf 63 = .ok (.ldc2_w 411, 3) := by decide +kernel
theorem dX12_shadowOf_66 : decode cX12_shadowOf 66 = .ok (.lcmp, 1) := by decide +kernel
theorem dX12_shadowOf_67 : decode cX12_shadowOf 67 = .ok (.ifCond .le 9, 3) := by decide +kernel
theorem dX12_shadowOf_70 : decode cX12_shadowOf 70 = .ok (.sipush 999, 3) := by decide +kernel
theorem dX12_shadowOf_73 : decode cX12_shadowOf 73 = .ok (.goto 6, 3) := by decide +kernel
theorem dX12_shadowOf_76 : decode cX12_shadowOf 76 = .ok (.lload 4, 2) := by decide +kernel
theorem dX12_shadowOf_78 : decode cX12_shadowOf 78 = .ok (.l2i, 1) := by decide +kernel
theorem dX12_shadowOf_79 : decode cX12_shadowOf 79 = .ok (.ireturn, 1) := by decide +kernel
theorem dX12_doesBuy_0 : decode cX12_doesBuy 0 = .ok (.iload_n 3, 1) := by decide +kernel
theorem dX12_doesBuy_1 : decode cX12_doesBuy 1 = .ok (.aload_n 0, 1) := by decide +kernel
theorem dX12_doesBuy_2 : decode cX12_doesBuy 2 = .ok (.iload_n 2, 1) := by decide +kernel
theorem dX12_doesBuy_3 : decode cX12_doesBuy 3 = .ok (.invokevirtual 413, 3) := by decide +kernel
theorem dX12_doesBuy_6 : decode cX12_doesBuy 6 = .ok (.if_icmp .ge 19, 3) := by decide +kernel
theorem dX12_doesBuy_9 : decode cX12_doesBuy 9 = .ok (.iload_n 3, 1) := by decide +kernel
theorem dX12_doesBuy_10 : decode cX12_doesBuy 10 = .ok (.aload_n 0, 1) := by decide +kernel
theorem dX12_doesBuy_11 : decode cX12_doesBuy 11 = .ok (.invokevirtual 382, 3) := by decide +kernel
theorem dX12_doesBuy_14 : decode cX12_doesBuy 14 = .ok (.if_icmp .gt 11, 3) := by decide +kernel
theorem dX12_doesBuy_17 : decode cX12_doesBuy 17 = .ok (.aload_n 0, 1) := by decide +kernel
theorem dX12_doesBuy_18 : decode cX12_doesBuy 18 = .ok (.iload_n 3, 1) := by decide +kernel
theorem dX12_doesBuy_19 : decode cX12_doesBuy 19 = .ok (.invokevirtual 399, 3) := by decide +kernel
theorem dX12_doesBuy_22 : decode cX12_doesBuy 22 = .ok (.ifCond .eq 5, 3) := by decide +kernel
theorem dX12_doesBuy_25 : decode cX12_doesBuy 25 = .ok (.iconst 0, 1) := by decide +kernel
theorem dX12_doesBuy_26 : decode cX12_doesBuy 26 = .ok (.ireturn, 1) := by decide +kernel
theorem dX12_doesBuy_27 : decode cX12_doesBuy 27 = .ok (.aload_n 0, 1) := by decide +kernel
theorem dX12_doesBuy_28 : decode cX12_doesBuy 28 = .ok (.iload_n 1, 1) := by decide +kernel
theorem dX12_doesBuy_29 : decode cX12_doesBuy 29 = .ok (.iload_n 2, 1) := by decide +kernel
theorem dX12_doesBuy_30 : decode cX12_doesBuy 30 = .ok (.iload_n 3, 1) := by decide +kernel
theorem dX12_doesBuy_31 : decode cX12_doesBuy 31 = .ok (.invokevirtual 417, 3) := by decide +kernel
theorem dX12_doesBuy_34 : decode cX12_doesBuy 34 = .ok (.istore 4, 2) := by decide +kernel
theorem dX12_doesBuy_36 : decode cX12_doesBuy 36 = .ok (.iload 4, 2) := by decide +kernel
theorem dX12_doesBuy_38 : decode cX12_doesBuy 38 = .ok (.aload_n 0, 1) := by decide +kernel
theorem dX12_doesBuy_39 : decode cX12_doesBuy 39 = .ok (.iload_n 2, 1) := by decide +kernel
theorem dX12_doesBuy_40 : decode cX12_doesBuy 40 = .ok (.invokevirtual 421, 3) := by decide +kernel
theorem dX12_doesBuy_43 : decode cX12_doesBuy 43 = .ok (.if_icmp .ge 5, 3) := by decide +kernel
theorem dX12_doesBuy_46 : decode cX12_doesBuy 46 = .ok (.iconst 0, 1) := by decide +kernel
theorem dX12_doesBuy_47 : decode cX12_doesBuy 47 = .ok (.ireturn, 1) := by decide +kernel
theorem dX12_doesBuy_48 : decode cX12_doesBuy 48 = .ok (.aload_n 0, 1) := by decide +kernel
theorem dX12_doesBuy_49 : decode cX12_doesBuy 49 = .ok (.getfield 115, 3) := by decide +kernel
theorem dX12_doesBuy_52 : decode cX12_doesBuy 52 = .ok (.iconst 3, 1) := by decide +kernel
theorem dX12_doesBuy_53 : decode cX12_doesBuy 53 = .ok (.iaload, 1) := by decide +kernel
theorem dX12_doesBuy_54 : decode cX12_doesBuy 54 = .ok (.iconst (-1), 1) := by decide +kernel
theorem dX12_doesBuy_55 : decode cX12_doesBuy 55 = .ok (.if_icmp .ne 5, 3) := by decide +kernel
theorem dX12_doesBuy_58 : decode cX12_doesBuy 58 = .ok (.iconst 1, 1) := by decide +kernel
theorem dX12_doesBuy_59 : decode cX12_doesBuy 59 = .ok (.ireturn, 1) := by decide +kernel
theorem dX12_doesBuy_60 : decode cX12_doesBuy 60 = .ok (.aload_n 0, 1) := by decide +kernel
theorem dX12_doesBuy_61 : decode cX12_doesBuy 61 = .ok (.iload_n 2, 1) := by decide +kernel
theorem dX12_doesBuy_62 : decode cX12_doesBuy 62 = .ok (.putfield 402, 3) := by decide +kernel
theorem dX12_doesBuy_65 : decode cX12_doesBuy 65 = .ok (.aload_n 0, 1) := by decide +kernel
theorem dX12_doesBuy_66 : decode cX12_doesBuy 66 = .ok (.iload_n 3, 1) := by decide +kernel
theorem dX12_doesBuy_67 : decode cX12_doesBuy 67 = .ok (.putfield 405, 3) := by decide +kernel
theorem dX12_doesBuy_70 : decode cX12_doesBuy 70 = .ok (.aload_n 0, 1) := by decide +kernel
theorem dX12_doesBuy_71 : decode cX12_doesBuy 71 = .ok (.iload 4, 2) := by decide +kernel
theorem dX12_doesBuy_73 : decode cX12_doesBuy 73 = .ok (.putfield 424, 3) := by decide +kernel
theorem dX12_doesBuy_76 : decode cX12_doesBuy 76 = .ok (.aload_n 0, 1) := by decide +kernel
theorem dX12_doesBuy_77 : decode cX12_doesBuy 77 = .ok (.iconst 1, 1) := by decide +kernel
