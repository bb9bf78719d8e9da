theorem dX12_doesBuy_78 : decode cX12_doesBuy 78 = .ok (.iload_n 1, 1) := by decide +kernel
theorem dX12_doesBuy_79 : decode cX12_doesBuy 79 = .ok (.invokevirtual 408, 3) := by decide +kernel
theorem dX12_doesBuy_82 : decode cX12_doesBuy 82 = .ok (.lconst 1, 1) := by decide +kernel
theorem dX12_doesBuy_83 : decode cX12_doesBuy 83 = .ok (.lcmp, 1) := by decide +kernel
theorem dX12_doesBuy_84 : decode cX12_doesBuy 84 = .ok (.ifCond .eq 7, 3) := by decide +kernel
theorem dX12_doesBuy_87 : decode cX12_doesBuy 87 = .ok (.iconst 1, 1) := by decide +kernel
theorem dX12_doesBuy_88 : decode cX12_doesBuy 88 = .ok (.goto 4, 3) := by decide +kernel
theorem dX12_doesBuy_91 : decode cX12_doesBuy 91 = .ok (.iconst 0, 1) := by decide +kernel
theorem dX12_doesBuy_92 : decode cX12_doesBuy 92 = .ok (.ireturn, 1) := by decide +kernel
theorem dX12_laysNow_0 : decode cX12_laysNow 0 = .ok (.aload_n 0, 1) := by decide +kernel
theorem dX12_laysNow_1 : decode cX12_laysNow 1 = .ok (.iconst (-1), 1) := by decide +kernel
theorem dX12_laysNow_2 : decode cX12_laysNow 2 = .ok (.putfield 427, 3) := by decide +kernel
theorem dX12_laysNow_5 : decode cX12_laysNow 5 = .ok (.aload_n 0, 1) := by decide +kernel
theorem dX12_laysNow_6 : decode cX12_laysNow 6 = .ok (.invokevirtual 376, 3) := by decide +kernel
theorem dX12_laysNow_9 : decode cX12_laysNow 9 = .ok (.iconst 1, 1) := by decide +kernel
theorem dX12_laysNow_10 : decode cX12_laysNow 10 = .ok (.isub, 1) := by decide +kernel
theorem dX12_laysNow_11 : decode cX12_laysNow 11 = .ok (.istore_n 1, 1) := by decide +kernel
theorem dX12_laysNow_12 : decode cX12_laysNow 12 = .ok (.iload_n 1, 1) := by decide +kernel
theorem dX12_laysNow_13 : decode cX12_laysNow 13 = .ok (.ifCond .lt 90, 3) := by decide +kernel
theorem dX12_laysNow_16 : decode cX12_laysNow 16 = .ok (.aload_n 0, 1) := by decide +kernel
theorem dX12_laysNow_17 : decode cX12_laysNow 17 = .ok (.iload_n 1, 1) := by decide +kernel
theorem dX12_laysNow_18 : decode cX12_laysNow 18 = .ok (.invokevirtual 430, 3) := by decide +kernel
theorem dX12_laysNow_21 : decode cX12_laysNow 21 = .ok (.aload_n 0, 1) := by decide +kernel
theorem dX12_laysNow_22 : decode cX12_laysNow 22 = .ok (.getfield 124, 3) := by decide +kernel
theorem dX12_laysNow_25 : decode cX12_laysNow 25 = .ok (.iconst 1, 1) := by decide +kernel
theorem dX12_laysNow_26 : decode cX12_laysNow 26 = .ok (.iaload, 1) := by decide +kernel
theorem dX12_laysNow_27 : decode cX12_laysNow 27 = .ok (.if_icmp .ne 8, 3) := by decide +kernel
theorem dX12_laysNow_30 : decode cX12_laysNow 30 = .ok (.aload_n 0, 1) := by decide +kernel
theorem dX12_laysNow_31 : decode cX12_laysNow 31 = .ok (.iload_n 1, 1) := by decide +kernel
theorem dX12_laysNow_32 : decode cX12_laysNow 32 = .ok (.putfield 427, 3) := by decide +kernel
theorem dX12_laysNow_35 : decode cX12_laysNow 35 = .ok (.iconst 0, 1) := by decide +kernel
theorem dX12_laysNow_36 : decode cX12_laysNow 36 = .ok (.istore_n 2, 1) := by decide +kernel
theorem dX12_laysNow_37 : decode cX12_laysNow 37 = .ok (.iload_n 2, 1) := by decide +kernel
theorem dX12_laysNow_38 : decode cX12_laysNow 38 = .ok (.aload_n 0, 1) := by decide +kernel
theorem dX12_laysNow_39 : decode cX12_laysNow 39 = .ok (.invokevirtual 379, 3) := by decide +kernel
theorem dX12_laysNow_42 : decode cX12_laysNow 42 = .ok (.if_icmp .ge 55, 3) := by decide +kernel
theorem dX12_laysNow_45 : decode cX12_laysNow 45 = .ok (.aload_n 0, 1) := by decide +kernel
theorem dX12_laysNow_46 : decode cX12_laysNow 46 = .ok (.getfield 127, 3) := by decide +kernel
theorem dX12_laysNow_49 : decode cX12_laysNow 49 = .ok (.bipush 6, 2) := by decide +kernel
theorem dX12_laysNow_51 : decode cX12_laysNow 51 = .ok (.iload_n 2, 1) := by decide +kernel
theorem dX12_laysNow_52 : decode cX12_laysNow 52 = .ok (.imul, 1) := by decide +kernel
theorem dX12_laysNow_53 : decode cX12_laysNow 53 = .ok (.iload_n 1, 1) := by decide +kernel
theorem dX12_laysNow_54 : decode cX12_laysNow 54 = .ok (.iadd, 1) := by decide +kernel
theorem dX12_laysNow_55 : decode cX12_laysNow 55 = .ok (.aload_n 0, 1) := by decide +kernel
theorem dX12_laysNow_56 : decode cX12_laysNow 56 = .ok (.iload_n 2, 1) := by decide +kernel
theorem dX12_laysNow_57 : decode cX12_laysNow 57 = .ok (.iload_n 1, 1) := by decide +kernel
theorem dX12_laysNow_58 : decode cX12_laysNow 58 = .ok (.aload_n 0, 1) := by decide +kernel
theorem dX12_laysNow_59 : decode cX12_laysNow 59 = .ok (.getfield 124, 3) := by decide +kernel
theorem dX12_laysNow_62 : decode cX12_laysNow 62 = .ok (.iconst 0, 1) := by decide +kernel
theorem dX12_laysNow_63 : decode cX12_laysNow 63 = .ok (.iaload, 1) := by decide +kernel
theorem dX12_laysNow_64 : decode cX12_laysNow 64 = .ok (.invokevirtual 417, 3) := by decide +kernel
theorem dX12_laysNow_67 : decode cX12_laysNow 67 = .ok (.iastore, 1) := by decide +kernel
theorem dX12_laysNow_68 : decode cX12_laysNow 68 = .ok (.aload_n 0, 1) := by decide +kernel
theorem dX12_laysNow_69 : decode cX12_laysNow 69 = .ok (.getfield 130, 3) := by decide +kernel
theorem dX12_laysNow_72 : decode cX12_laysNow 72 = .ok (.bipush 6, 2) := by decide +kernel
theorem dX12_laysNow_74 : decode cX12_laysNow 74 = .ok (.iload_n 2, 1) := by decide +kernel
theorem dX12_laysNow_75 : decode cX12_laysNow 75 = .ok (.imul, 1) := by decide +kernel
theorem dX12_laysNow_76 : decode cX12_laysNow 76 = .ok (.iload_n 1, 1) := by decide +kernel
theorem dX12_laysNow_77 : decode cX12_laysNow 77 = .ok (.iadd, 1) := by decide +kernel
theorem dX12_laysNow_78 : decode cX12_laysNow 78 = .ok (.aload_n 0, 1) := by decide +kernel
theorem dX12_laysNow_79 : decode cX12_laysNow 79 = .ok (.iload_n 2, 1) := by decide +kernel
theorem dX12_laysNow_80 : decode cX12_laysNow 80 = .ok (.iload_n 1, 1) := by decide +kernel
theorem dX12_laysNow_81 : decode cX12_laysNow 81 = .ok (.aload_n 0, 1) := by decide +kernel
theorem dX12_laysNow_82 : decode cX12_laysNow 82 = .ok (.getfield 124, 3) := by decide +kernel
theorem dX12_laysNow_85 : decode cX12_laysNow 85 = .ok (.iconst 0, 1) := by decide +kernel
theorem dX12_laysNow_86 : decode cX12_laysNow 86 = .ok (.iaload, 1) := by decide +kernel
theorem dX12_laysNow_87 : decode cX12_laysNow 87 = .ok (.invokevirtual 433, 3) := by decide +kernel
theorem dX12_laysNow_90 : decode cX12_laysNow 90 = .ok (.bastore, 1) := by decide +kernel
theorem dX12_laysNow_91 : decode cX12_laysNow 91 = .ok (.iinc 2 1, 3) := by decide +kernel
theorem dX12_laysNow_94 : decode cX12_laysNow 94 = .ok (.goto (-57), 3) := by decide +kernel
theorem dX12_laysNow_97 : decode cX12_laysNow 97 = .ok (.iinc 1 (-1), 3) := by decide +kernel
theorem dX12_laysNow_100 : decode cX12_laysNow 100 = .ok (.goto (-88), 3) := by decide +kernel
theorem dX12_laysNow_103 : decode cX12_laysNow 103 = .ok (.return_, 1) := by decide +kernel
theorem dX12_bits_0 : decode cX12_bits 0 = .ok (.iconst 0, 1) := by decide +kernel
theorem dX12_bits_1 : decode cX12_bits 1 = .ok (.istore_n 1, 1) := by decide +kernel
theorem dX12_bits_2 : decode cX12_bits 2 = .ok (.iload_n 0, 1) := by decide +kernel
theorem dX12_bits_3 : decode cX12_bits 3 = .ok (.istore_n 2, 1) := by decide +kernel
theorem dX12_bits_4 : decode cX12_bits 4 = .ok (.iload_n 2, 1) := by decide +kernel
theorem dX12_bits_5 : decode cX12_bits 5 = .ok (.ifCond .eq 15, 3) := by decide +kernel
theorem dX12_bits_8 : decode cX12_bits 8 = .ok (.iinc 1 1, 3) := by decide +kernel
theorem dX12_bits_11 : decode cX12_bits 11 = .ok (.iload_n 2, 1) := by decide +kernel
theorem dX12_bits_12 : decode cX12_bits 12 = .ok (.iload_n 2, 1) := by decide +kernel
theorem dX12_bits_13 : decode cX12_bits 13 = .ok (.iconst 1, 1) := by decide +kernel
theorem dX12_bits_14 : decode cX12_bits 14 = .ok (.isub, 1) := by decide +kernel
theorem dX12_bits_15 : decode cX12_bits 15 = .ok (.iand, 1) := by decide +kernel
theorem dX12_bits_16 : decode cX12_bits 16 = .ok (.istore_n 2, 1) := by decide +kernel
theorem dX12_bits_17 : decode cX12_bits 17 = .ok (.goto (-13), 3) := by decide +kernel
theorem dX12_bits_20 : decode cX12_bits 20 = .ok (.iload_n 1, 1) := by decide +kernel
theorem dX12_bits_21 : decode cX12_bits 21 = .ok (.ireturn, 1) := by decide +kernel
theorem dX12_has_0 : decode cX12_has 0 = .ok (.iload_n 1, 1) := by decide +kernel
theorem dX12_has_1 : decode cX12_has 1 = .ok (.tableswitch 145 0 10 #[59, 64, 64, 75, 89, 89, 98, 108, 127, 135, 140], 59) := by decide +kernel
theorem dX12_has_60 : decode cX12_has 60 = .ok (.aload_n 0, 1) := by decide +kernel
theorem dX12_has_61 : decode cX12_has 61 = .ok (.invokevirtual 382, 3) := by decide +kernel
theorem dX12_has_64 : decode cX12_has 64 = .ok (.ireturn, 1) := by decide +kernel
theorem dX12_has_65 : decode cX12_has 65 = .ok (.aload_n 0, 1) := by decide +kernel
theorem dX12_has_66 : decode cX12_has 66 = .ok (.getfield 99, 3) := by decide +kernel
theorem dX12_has_69 : decode cX12_has 69 = .ok (.iconst 3, 1) := by decide +kernel
theorem dX12_has_70 : decode cX12_has 70 = .ok (.iload_n 1, 1) := by decide +kernel
theorem dX12_has_71 : decode cX12_has 71 = .ok (.iadd, 1) := by decide +kernel
theorem dX12_has_72 : decode cX12_has 72 = .ok (.iconst 1, 1) := by decide +kernel
theorem dX12_has_73 : decode cX12_has 73 = .ok (.isub, 1) := by decide +kernel
theorem dX12_has_74 : decode cX12_has 74 = .ok (.iaload, 1) := by decide +kernel
theorem dX12_has_75 : decode cX12_has 75 = .ok (.ireturn, 1) := by decide +kernel
theorem dX12_has_76 : decode cX12_has 76 = .ok (.aload_n 0, 1) := by decide +kernel
theorem dX12_has_77 : decode cX12_has 77 = .ok (.getfield 99, 3) := by decide +kernel
theorem dX12_has_80 : decode cX12_has 80 = .ok (.iconst 5, 1) := by decide +kernel
theorem dX12_has_81 : decode cX12_has 81 = .ok (.iaload, 1) := by decide +kernel
theorem dX12_has_82 : decode cX12_has 82 = .ok (.aload_n 0, 1) := by decide +kernel
theorem dX12_has_83 : decode cX12_has 83 = .ok (.getfield 124, 3) := by decide +kernel
theorem dX12_has_86 : decode cX12_has 86 = .ok (.iconst 3, 1) := by decide +kernel
theorem dX12_has_87 : decode cX12_has 87 = .ok (.iaload, 1) := by decide +kernel
theorem dX12_has_88 : decode cX12_has 88 = .ok (.iadd, 1) := by decide +kernel
theorem dX12_has_89 : decode cX12_has 89 = .ok (.ireturn, 1) := by decide +kernel
theorem dX12_has_90 : decode cX12_has 90 = .ok (.aload_n 0, 1) := by decide +kernel
theorem dX12_has_91 : decode cX12_has 91 = .ok (.getfield 124, 3) := by decide +kernel
theorem dX12_has_94 : decode cX12_has 94 = .ok (.iload_n 1, 1) := by decide +kernel
theorem dX12_has_95 : decode cX12_has 95 = .ok (.iconst 4, 1) := by decide +kernel
theorem dX12_has_96 : decode cX12_has 96 = .ok (.isub, 1) := by decide +kernel
theorem dX12_has_97 : decode cX12_has 97 = .ok (.iaload, 1) := by decide +kernel
theorem dX12_has_98 : decode cX12_has 98 = .ok (.ireturn, 1) := by decide +kernel
theorem dX12_has_99 : decode cX12_has 99 = .ok (.aload_n 0, 1) := by decide +kernel
theorem dX12_has_100 : decode cX12_has 100 = .ok (.getfield 124, 3) := by decide +kernel
theorem dX12_has_103 : decode cX12_has 103 = .ok (.iconst 2, 1) := by decide +kernel
theorem dX12_has_104 : decode cX12_has 104 = .ok (.iaload, 1) := by decide +kernel
theorem dX12_has_105 : decode cX12_has 105 = .ok (.invokestatic 436, 3) := by decide +kernel
theorem dX12_has_108 : decode cX12_has 108 = .ok (.ireturn, 1) := by decide +kernel
theorem dX12_has_109 : decode cX12_has 109 = .ok (.aload_n 0, 1) := by decide +kernel
theorem dX12_has_110 : decode cX12_has 110 = .ok (.aload_n 0, 1) := by decide +kernel
theorem dX12_has_111 : decode cX12_has 111 = .ok (.getfield 124, 3) := by decide +kernel
theorem dX12_has_114 : decode cX12_has 114 = .ok (.iconst 0, 1) := by decide +kernel
theorem dX12_has_115 : decode cX12_has 115 = .ok (.iaload, 1) := by decide +kernel
theorem dX12_has_116 : decode cX12_has 116 = .ok (.invokevirtual 399, 3) := by decide +kernel
theorem dX12_has_119 : decode cX12_has 119 = .ok (.ifCond .eq 7, 3) := by decide +kernel
theorem dX12_has_122 : decode cX12_has 122 = .ok (.iconst 1, 1) := by decide +kernel
theorem dX12_has_123 : decode cX12_has 123 = .ok (.goto 4, 3) := by decide +kernel
theorem dX12_has_126 : decode cX12_has 126 = .ok (.iconst 0, 1) := by decide +kernel
theorem dX12_has_127 : decode cX12_has 127 = .ok (.ireturn, 1) := by decide +kernel
theorem dX12_has_128 : decode cX12_has 128 = .ok (.aload_n 0, 1) := by decide +kernel
theorem dX12_has_129 : decode cX12_has 129 = .ok (.getfield 124, 3) := by decide +kernel
theorem dX12_has_132 : decode cX12_has 132 = .ok (.bipush 20, 2) := by decide +kernel
theorem dX12_has_134 : decode cX12_has 134 = .ok (.iaload, 1) := by decide +kernel
theorem dX12_has_135 : decode cX12_has 135 = .ok (.ireturn, 1) := by decide +kernel
theorem dX12_has_136 : decode cX12_has 136 = .ok (.aload_n 0, 1) := by decide +kernel
theorem dX12_has_137 : decode cX12_has 137 = .ok (.getfield 373, 3) := by decide +kernel
theorem dX12_has_140 : decode cX12_has 140 = .ok (.ireturn, 1) := by decide +kernel
theorem dX12_has_141 : decode cX12_has 141 = .ok (.aload_n 0, 1) := by decide +kernel
theorem dX12_has_142 : decode cX12_has 142 = .ok (.getfield 370, 3) := by decide +kernel
theorem dX12_has_145 : decode cX12_has 145 = .ok (.ireturn, 1) := by decide +kernel
theorem dX12_has_146 : decode cX12_has 146 = .ok (.iconst (-1), 1) := by decide +kernel
theorem dX12_has_147 : decode cX12_has 147 = .ok (.ireturn, 1) := by decide +kernel
theorem dX12_letter_0 : decode cX12_letter 0 = .ok (.iload_n 1, 1) := by decide +kernel
theorem dX12_letter_1 : decode cX12_letter 1 = .ok (.i2l, 1) := by decide +kernel
theorem dX12_letter_2 : decode cX12_letter 2 = .ok (.lconst 0, 1) := by decide +kernel
theorem dX12_letter_3 : decode cX12_letter 3 = .ok (.lconst 1, 1) := by decide +kernel
theorem dX12_letter_4 : decode cX12_letter 4 = .ok (.invokestatic 277, 3) := by decide +kernel
theorem dX12_letter_7 : decode cX12_letter 7 = .ok (.ifCond .eq 35, 3) := by decide +kernel
theorem dX12_letter_10 : decode cX12_letter 10 = .ok (.iload_n 2, 1) := by decide +kernel
theorem dX12_letter_11 : decode cX12_letter 11 = .ok (.i2l, 1) := by decide +kernel
theorem dX12_letter_12 : decode cX12_letter 12 = .ok (.lconst 0, 1) := by decide +kernel
theorem dX12_letter_13 : decode cX12_letter 13 = .ok (.aload_n 0, 1) := by decide +kernel
theorem dX12_letter_14 : decode cX12_letter 14 = .ok (.getfield 99, 3) := by decide +kernel
theorem dX12_letter_17 : decode cX12_letter 17 = .ok (.iconst 3, 1) := by decide +kernel
theorem dX12_letter_18 : decode cX12_letter 18 = .ok (.iload_n 1, 1) := by decide +kernel
theorem dX12_letter_19 : decode cX12_letter 19 = .ok (.iadd, 1) := by decide +kernel
theorem dX12_letter_20 : decode cX12_letter 20 = .ok (.iaload, 1) := by decide +kernel
theorem dX12_letter_21 : decode cX12_letter 21 = .ok (.iconst 1, 1) := by decide +kernel
theorem dX12_letter_22 : decode cX12_letter 22 = .ok (.isub, 1) := by decide +kernel
theorem dX12_letter_23 : decode cX12_letter 23 = .ok (.i2l, 1) := by decide +kernel
theorem dX12_letter_24 : decode cX12_letter 24 = .ok (.invokestatic 277, 3) := by decide +kernel
theorem dX12_letter_27 : decode cX12_letter 27 = .ok (.ifCond .eq 15, 3) := by decide +kernel
theorem dX12_letter_30 : decode cX12_letter 30 = .ok (.iload_n 3, 1) := by decide +kernel
theorem dX12_letter_31 : decode cX12_letter 31 = .ok (.i2l, 1) := by decide +kernel
theorem dX12_letter_32 : decode cX12_letter 32 = .ok (.lconst 0, 1) := by decide +kernel
theorem dX12_letter_33 : decode cX12_letter 33 = .ok (.ldc2_w 439, 3) := by decide +kernel
theorem dX12_letter_36 : decode cX12_letter 36 = .ok (.invokestatic 277, 3) := by decide +kernel
theorem dX12_letter_39 : decode cX12_letter 39 = .ok (.ifCond .ne 5, 3) := by decide +kernel
theorem dX12_letter_42 : decode cX12_letter 42 = .ok (.iconst (-1), 1) := by decide +kernel
theorem dX12_letter_43 : decode cX12_letter 43 = .ok (.ireturn, 1) := by decide +kernel
theorem dX12_letter_44 : decode cX12_letter 44 = .ok (.aload_n 0, 1) := by decide +kernel
theorem dX12_letter_45 : decode cX12_letter 45 = .ok (.getfield 102, 3) := by decide +kernel
theorem dX12_letter_48 : decode cX12_letter 48 = .ok (.bipush 16, 2) := by decide +kernel
theorem dX12_letter_50 : decode cX12_letter 50 = .ok (.bipush 8, 2) := by decide +kernel
theorem dX12_letter_52 : decode cX12_letter 52 = .ok (.iload_n 1, 1) := by decide +kernel
theorem dX12_letter_53 : decode cX12_letter 53 = .ok (.imul, 1) := by decide +kernel
theorem dX12_letter_54 : decode cX12_letter 54 = .ok (.iadd, 1) := by decide +kernel
theorem dX12_letter_55 : decode cX12_letter 55 = .ok (.iload_n 2, 1) := by decide +kernel
theorem dX12_letter_56 : decode cX12_letter 56 = .ok (.iadd, 1) := by decide +kernel
theorem dX12_letter_57 : decode cX12_letter 57 = .ok (.laload, 1) := by decide +kernel
theorem dX12_letter_58 : decode cX12_letter 58 = .ok (.lstore 4, 2) := by decide +kernel
theorem dX12_letter_60 : decode cX12_letter 60 = .ok (.iconst 0, 1) := by decide +kernel
theorem dX12_letter_61 : decode cX12_letter 61 = .ok (.istore 6, 2) := by decide +kernel
theorem dX12_letter_63 : decode cX12_letter 63 = .ok (.lload 4, 2) := by decide +kernel
theorem dX12_letter_65 : decode cX12_letter 65 = .ok (.lstore 7, 2) := by decide +kernel
theorem dX12_letter_67 : decode cX12_letter 67 = .ok (.lload 7, 2) := by decide +kernel
theorem dX12_letter_69 : decode cX12_letter 69 = .ok (.lconst 0, 1) := by decide +kernel
theorem dX12_letter_70 : decode cX12_letter 70 = .ok (.lcmp, 1) := by decide +kernel
theorem dX12_letter_71 : decode cX12_letter 71 = .ok (.ifCond .le 17, 3) := by decide +kernel
theorem dX12_letter_74 : decode cX12_letter 74 = .ok (.iinc 6 1, 3) := by decide +kernel
theorem dX12_letter_77 : decode cX12_letter 77 = .ok (.lload 7, 2) := by decide +kernel
theorem dX12_letter_79 : decode cX12_letter 79 = .ok (.ldc2_w 288, 3) := by decide +kernel
theorem dX12_letter_82 : decode cX12_letter 82 = .ok (.ldiv, 1) := by decide +kernel
theorem dX12_letter_83 : decode cX12_letter 83 = .ok (.lstore 7, 2) := by decide +kernel
theorem dX12_letter_85 : decode cX12_letter 85 = .ok (.goto (-18), 3) := by decide +kernel
theorem dX12_letter_88 : decode cX12_letter 88 = .ok (.iload_n 3, 1) := by decide +kernel
theorem dX12_letter_89 : decode cX12_letter 89 = .ok (.iload 6, 2) := by decide +kernel
theorem dX12_letter_91 : decode cX12_letter 91 = .ok (.if_icmp .lt 5, 3) := by decide +kernel
theorem dX12_letter_94 : decode cX12_letter 94 = .ok (.iconst 0, 1) := by decide +kernel
theorem dX12_letter_95 : decode cX12_letter 95 = .ok (.ireturn, 1) := by decide +kernel
theorem dX12_letter_96 : decode cX12_letter 96 = .ok (.iload 6, 2) := by decide +kernel
theorem dX12_letter_98 : decode cX12_letter 98 = .ok (.iconst 1, 1) := by decide +kernel
theorem dX12_letter_99 : decode cX12_letter 99 = .ok (.isub, 1) := by decide +kernel
theorem dX12_letter_100 : decode cX12_letter 100 = .ok (.istore 7, 2) := by decide +kernel
theorem dX12_letter_102 : decode cX12_letter 102 = .ok (.iload 7, 2) := by decide +kernel
theorem dX12_letter_104 : decode cX12_letter 104 = .ok (.iload_n 3, 1) := by decide +kernel
theorem dX12_letter_105 : decode cX12_letter 105 = .ok (.if_icmp .le 17, 3) := by decide +kernel
theorem dX12_letter_108 : decode cX12_letter 108 = .ok (.lload 4, 2) := by decide +kernel
theorem dX12_letter_110 : decode cX12_letter 110 = .ok (.ldc2_w 288, 3) := by decide +kernel
theorem dX12_letter_113 : decode cX12_letter 113 = .ok (.ldiv, 1) := by decide +kernel
theorem dX12_letter_114 : decode cX12_letter 114 = .ok (.lstore 4, 2) := by decide +kernel
theorem dX12_letter_116 : decode cX12_letter 116 = .ok (.iinc 7 (-1), 3) := by decide +kernel
theorem dX12_letter_119 : decode cX12_letter 119 = .ok (.goto (-17), 3) := by decide +kernel
theorem dX12_letter_122 : decode cX12_letter 122 = .ok (.lload 4, 2) := by decide +kernel
theorem dX12_letter_124 : decode cX12_letter 124 = .ok (.ldc2_w 288, 3) := by decide +kernel
theorem dX12_letter_127 : decode cX12_letter 127 = .ok (.lrem, 1) := by decide +kernel
theorem dX12_letter_128 : decode cX12_letter 128 = .ok (.l2i, 1) := by decide +kernel
theorem dX12_letter_129 : decode cX12_letter 129 = .ok (.ireturn, 1) := by decide +kernel
theorem dX12_stall_0 : decode cX12_stall 0 = .ok (.aload_n 0, 1) := by decide +kernel
theorem dX12_stall_1 : decode cX12_stall 1 = .ok (.iload_n 1, 1) := by decide +kernel
theorem dX12_stall_2 : decode cX12_stall 2 = .ok (.i2l, 1) := by decide +kernel
theorem dX12_stall_3 : decode cX12_stall 3 = .ok (.invokevirtual 441, 3) := by decide +kernel
theorem dX12_stall_6 : decode cX12_stall 6 = .ok (.ifCond .ne 5, 3) := by decide +kernel
theorem dX12_stall_9 : decode cX12_stall 9 = .ok (.iconst (-1), 1) := by decide +kernel
theorem dX12_stall_10 : decode cX12_stall 10 = .ok (.ireturn, 1) := by decide +kernel
theorem dX12_stall_11 : decode cX12_stall 11 = .ok (.iload_n 2, 1) := by decide +kernel
theorem dX12_stall_12 : decode cX12_stall 12 = .ok (.i2l, 1) := by decide +kernel
theorem dX12_stall_13 : decode cX12_stall 13 = .ok (.lconst 0, 1) := by decide +kernel
theorem dX12_stall_14 : decode cX12_stall 14 = .ok (.ldc2_w 445, 3) := by decide +kernel
theorem dX12_stall_17 : decode cX12_stall 17 = .ok (.invokestatic 277, 3) := by decide +kernel
theorem dX12_stall_20 : decode cX12_stall 20 = .ok (.ifCond .eq 19, 3) := by decide +kernel
theorem dX12_stall_23 : decode cX12_stall 23 = .ok (.aload_n 0, 1) := by decide +kernel
theorem dX12_stall_24 : decode cX12_stall 24 = .ok (.getfield 106, 3) := by decide +kernel
theorem dX12_stall_27 : decode cX12_stall 27 = .ok (.bipush 24, 2) := by decide +kernel
theorem dX12_stall_29 : decode cX12_stall 29 = .ok (.iconst 4, 1) := by decide +kernel
theorem dX12_stall_30 : decode cX12_stall 30 = .ok (.iload_n 1, 1) := by decide +kernel
theorem dX12_stall_31 : decode cX12_stall 31 = .ok (.imul, 1) := by decide +kernel
theorem dX12_stall_32 : decode cX12_stall 32 = .ok (.iadd, 1) := by decide +kernel
theorem dX12_stall_33 : decode cX12_stall 33 = .ok (.iload_n 2, 1) := by decide +kernel
theorem dX12_stall_34 : decode cX12_stall 34 = .ok (.iadd, 1) := by decide +kernel
theorem dX12_stall_35 : decode cX12_stall 35 = .ok (.iaload, 1) := by decide +kernel
theorem dX12_stall_36 : decode cX12_stall 36 = .ok (.goto 25, 3) := by decide +kernel
theorem dX12_stall_39 : decode cX12_stall 39 = .ok (.iload_n 2, 1) := by decide +kernel
theorem dX12_stall_40 : decode cX12_stall 40 = .ok (.iconst 4, 1) := by decide +kernel
theorem dX12_stall_41 : decode cX12_stall 41 = .ok (.if_icmp .ne 19, 3) := by decide +kernel
theorem dX12_stall_44 : decode cX12_stall 44 = .ok (.aload_n 0, 1) := by decide +kernel
theorem dX12_stall_45 : decode cX12_stall 45 = .ok (.iload_n 1, 1) := by decide +kernel
theorem dX12_stall_46 : decode cX12_stall 46 = .ok (.invokevirtual 447, 3) := by decide +kernel
theorem dX12_stall_49 : decode cX12_stall 49 = .ok (.ifCond .eq 7, 3) := by decide +kernel
theorem dX12_stall_52 : decode cX12_stall 52 = .ok (.iconst 1, 1) := by decide +kernel
theorem dX12_stall_53 : decode cX12_stall 53 = .ok (.goto 8, 3) := by decide +kernel
theorem dX12_stall_56 : decode cX12_stall 56 = .ok (.iconst 0, 1) := by decide +kernel
theorem dX12_stall_57 : decode cX12_stall 57 = .ok (.goto 4, 3) := by decide +kernel
theorem dX12_stall_60 : decode cX12_stall 60 = .ok (.iconst (-1), 1) := by decide +kernel
theorem dX12_stall_61 : decode cX12_stall 61 = .ok (.ireturn, 1) := by decide +kernel
theorem dX12_coin_0 : decode cX12_coin 0 = .ok (.aload_n 0, 1) := by decide +kernel
theorem dX12_coin_1 : decode cX12_coin 1 = .ok (.iload_n 1, 1) := by decide +kernel
theorem dX12_coin_2 : decode cX12_coin 2 = .ok (.invokevirtual 450, 3) := by decide +kernel
theorem dX12_coin_5 : decode cX12_coin 5 = .ok (.ifCond .eq 29, 3) := by decide +kernel
theorem dX12_coin_8 : decode cX12_coin 8 = .ok (.iload_n 2, 1) := by decide +kernel
theorem dX12_coin_9 : decode cX12_coin 9 = .ok (.i2l, 1) := by decide +kernel
theorem dX12_coin_10 : decode cX12_coin 10 = .ok (.lconst 0, 1) := by decide +kernel
theorem dX12_coin_11 : decode cX12_coin 11 = .ok (.lconst 1, 1) := by decide +kernel
theorem dX12_coin_12 : decode cX12_coin 12 = .ok (.invokestatic 277, 3) := by decide +kernel
theorem dX12_coin_15 : decode cX12_coin 15 = .ok (.ifCond .eq 19, 3) := by decide +kernel
theorem dX12_coin_18 : decode cX12_coin 18 = .ok (.aload_n 0, 1) := by decide +kernel
theorem dX12_coin_19 : decode cX12_coin 19 = .ok (.getfield 109, 3) := by decide +kernel
theorem dX12_coin_22 : decode cX12_coin 22 = .ok (.bipush 16, 2) := by decide +kernel
theorem dX12_coin_24 : decode cX12_coin 24 = .ok (.iconst 2, 1) := by decide +kernel
theorem dX12_coin_25 : decode cX12_coin 25 = .ok (.iload_n 1, 1) := by decide +kernel
theorem dX12_coin_26 : decode cX12_coin 26 = .ok (.imul, 1) := by decide +kernel
theorem dX12_coin_27 : decode cX12_coin 27 = .ok (.iadd, 1) := by decide +kernel
theorem dX12_coin_28 : decode cX12_coin 28 = .ok (.iload_n 2, 1) := by decide +kernel
theorem dX12_coin_29 : decode cX12_coin 29 = .ok (.iadd, 1) := by decide +kernel
theorem dX12_coin_30 : decode cX12_coin 30 = .ok (.iaload, 1) := by decide +kernel
theorem dX12_coin_31 : decode cX12_coin 31 = .ok (.goto 4, 3) := by decide +kernel
theorem dX12_coin_34 : decode cX12_coin 34 = .ok (.iconst (-1), 1) := by decide +kernel
theorem dX12_coin_35 : decode cX12_coin 35 = .ok (.ireturn, 1) := by decide +kernel
theorem dX12_shadow_0 : decode cX12_shadow 0 = .ok (.aload_n 0, 1) := by decide +kernel
theorem dX12_shadow_1 : decode cX12_shadow 1 = .ok (.iload_n 1, 1) := by decide +kernel
theorem dX12_shadow_2 : decode cX12_shadow 2 = .ok (.invokevirtual 450, 3) := by decide +kernel
theorem dX12_shadow_5 : decode cX12_shadow 5 = .ok (.ifCond .eq 30, 3) := by decide +kernel
theorem dX12_shadow_8 : decode cX12_shadow 8 = .ok (.aload_n 0, 1) := by decide +kernel
theorem dX12_shadow_9 : decode cX12_shadow 9 = .ok (.iload_n 2, 1) := by decide +kernel
theorem dX12_shadow_10 : decode cX12_shadow 10 = .ok (.i2l, 1) := by decide +kernel
theorem dX12_shadow_11 : decode cX12_shadow 11 = .ok (.invokevirtual 441, 3) := by decide +kernel
theorem dX12_shadow_14 : decode cX12_shadow 14 = .ok (.ifCond .eq 21, 3) := by decide +kernel
theorem dX12_shadow_17 : decode cX12_shadow 17 = .ok (.aload_n 0, 1) := by decide +kernel
theorem dX12_shadow_18 : decode cX12_shadow 18 = .ok (.iload_n 3, 1) := by decide +kernel
theorem dX12_shadow_19 : decode cX12_shadow 19 = .ok (.invokevirtual 453, 3) := by decide +kernel
theorem dX12_shadow_22 : decode cX12_shadow 22 = .ok (.ifCond .eq 13, 3) := by decide +kernel
theorem dX12_shadow_25 : decode cX12_shadow 25 = .ok (.aload_n 0, 1) := by decide +kernel
theorem dX12_shadow_26 : decode cX12_shadow 26 = .ok (.iload_n 1, 1) := by decide +kernel
theorem dX12_shadow_27 : decode cX12_shadow 27 = .ok (.iload_n 2, 1) := by decide +kernel
theorem dX12_shadow_28 : decode cX12_shadow 28 = .ok (.iload_n 3, 1) := by decide +kernel
theorem dX12_shadow_29 : decode cX12_shadow 29 = .ok (.invokevirtual 417, 3) := by decide +kernel
theorem dX12_shadow_32 : decode cX12_shadow 32 = .ok (.goto 4, 3) := by decide +kernel
theorem dX12_shadow_35 : decode cX12_shadow 35 = .ok (.iconst (-1), 1) := by decide +kernel
theorem dX12_shadow_36 : decode cX12_shadow 36 = .ok (.ireturn, 1) := by decide +kernel
theorem dX12_buys_0 : decode cX12_buys 0 = .ok (.aload_n 0, 1) := by decide +kernel
theorem dX12_buys_1 : decode cX12_buys 1 = .ok (.iload_n 1, 1) := by decide +kernel
theorem dX12_buys_2 : decode cX12_buys 2 = .ok (.invokevirtual 450, 3) := by decide +kernel
theorem dX12_buys_5 : decode cX12_buys 5 = .ok (.ifCond .eq 20, 3) := by decide +kernel
theorem dX12_buys_8 : decode cX12_buys 8 = .ok (.aload_n 0, 1) := by decide +kernel
theorem dX12_buys_9 : decode cX12_buys 9 = .ok (.iload_n 2, 1) := by decide +kernel
theorem dX12_buys_10 : decode cX12_buys 10 = .ok (.i2l, 1) := by decide +kernel
theorem dX12_buys_11 : decode cX12_buys 11 = .ok (.invokevirtual 441, 3) := by decide +kernel
theorem dX12_buys_14 : decode cX12_buys 14 = .ok (.ifCond .eq 11, 3) := by decide +kernel
theorem dX12_buys_17 : decode cX12_buys 17 = .ok (.aload_n 0, 1) := by decide +kernel
theorem dX12_buys_18 : decode cX12_buys 18 = .ok (.iload_n 3, 1) := by decide +kernel
theorem dX12_buys_19 : decode cX12_buys 19 = .ok (.invokevirtual 453, 3) := by decide +kernel
theorem dX12_buys_22 : decode cX12_buys 22 = .ok (.ifCond .ne 5, 3) := by decide +kernel
theorem dX12_buys_25 : decode cX12_buys 25 = .ok (.iconst (-1), 1) := by decide +kernel
theorem dX12_buys_26 : decode cX12_buys 26 = .ok (.ireturn, 1) := by decide +kernel
theorem dX12_buys_27 : decode cX12_buys 27 = .ok (.aload_n 0, 1) := by decide +kernel
theorem dX12_buys_28 : decode cX12_buys 28 = .ok (.iload_n 1, 1) := by decide +kernel
theorem dX12_buys_29 : decode cX12_buys 29 = .ok (.iload_n 2, 1) := by decide +kernel
theorem dX12_buys_30 : decode cX12_buys 30 = .ok (.iload_n 3, 1) := by decide +kernel
theorem dX12_buys_31 : decode cX12_buys 31 = .ok (.invokevirtual 433, 3) := by decide +kernel
theorem dX12_buys_34 : decode cX12_buys 34 = .ok (.ifCond .eq 7, 3) := by decide +kernel
theorem dX12_buys_37 : decode cX12_buys 37 = .ok (.iconst 1, 1) := by decide +kernel
theorem dX12_buys_38 : decode cX12_buys 38 = .ok (.goto 4, 3) := by decide +kernel
theorem dX12_buys_41 : decode cX12_buys 41 = .ok (.iconst 0, 1) := by decide +kernel
theorem dX12_buys_42 : decode cX12_buys 42 = .ok (.ireturn, 1) := by decide +kernel
theorem dX12_kept_0 : decode cX12_kept 0 = .ok (.iload_n 1, 1) := by decide +kernel
theorem dX12_kept_1 : decode cX12_kept 1 = .ok (.i2l, 1) := by decide +kernel
theorem dX12_kept_2 : decode cX12_kept 2 = .ok (.lconst 0, 1) := by decide +kernel
theorem dX12_kept_3 : decode cX12_kept 3 = .ok (.aload_n 0, 1) := by decide +kernel
theorem dX12_kept_4 : decode cX12_kept 4 = .ok (.getfield 124, 3) := by decide +kernel
theorem dX12_kept_7 : decode cX12_kept 7 = .ok (.bipush 20, 2) := by decide +kernel
theorem dX12_kept_9 : decode cX12_kept 9 = .ok (.iaload, 1) := by decide +kernel
theorem dX12_kept_10 : decode cX12_kept 10 = .ok (.iconst 1, 1) := by decide +kernel
theorem dX12_kept_11 : decode cX12_kept 11 = .ok (.isub, 1) := by decide +kernel
theorem dX12_kept_12 : decode cX12_kept 12 = .ok (.i2l, 1) := by decide +kernel
theorem dX12_kept_13 : decode cX12_kept 13 = .ok (.invokestatic 277, 3) := by decide +kernel
theorem dX12_kept_16 : decode cX12_kept 16 = .ok (.ifCond .eq 31, 3) := by decide +kernel
theorem dX12_kept_19 : decode cX12_kept 19 = .ok (.iload_n 2, 1) := by decide +kernel
theorem dX12_kept_20 : decode cX12_kept 20 = .ok (.i2l, 1) := by decide +kernel
theorem dX12_kept_21 : decode cX12_kept 21 = .ok (.lconst 0, 1) := by decide +kernel
theorem dX12_kept_22 : decode cX12_kept 22 = .ok (.ldc2_w 456, 3) := by decide +kernel
theorem dX12_kept_25 : decode cX12_kept 25 = .ok (.invokestatic 277, 3) := by decide +kernel
theorem dX12_kept_28 : decode cX12_kept 28 = .ok (.ifCond .eq 19, 3) := by decide +kernel
theorem dX12_kept_31 : decode cX12_kept 31 = .ok (.aload_n 0, 1) := by decide +kernel
theorem dX12_kept_32 : decode cX12_kept 32 = .ok (.getfield 124, 3) := by decide +kernel
theorem dX12_kept_35 : decode cX12_kept 35 = .ok (.bipush 21, 2) := by decide +kernel
theorem dX12_kept_37 : decode cX12_kept 37 = .ok (.iconst 3, 1) := by decide +kernel
theorem dX12_kept_38 : decode cX12_kept 38 = .ok (.iload_n 1, 1) := by decide +kernel
theorem dX12_kept_39 : decode cX12_kept 39 = .ok (.imul, 1) := by decide +kernel
theorem dX12_kept_40 : decode cX12_kept 40 = .ok (.iadd, 1) := by decide +kernel
theorem dX12_kept_41 : decode cX12_kept 41 = .ok (.iload_n 2, 1) := by decide +kernel
theorem dX12_kept_42 : decode cX12_kept 42 = .ok (.iadd, 1) := by decide +kernel
theorem dX12_kept_43 : decode cX12_kept 43 = .ok (.iaload, 1) := by decide +kernel
theorem dX12_kept_44 : decode cX12_kept 44 = .ok (.goto 4, 3) := by decide +kernel
theorem dX12_kept_47 : decode cX12_kept 47 = .ok (.iconst (-1), 1) := by decide +kernel
theorem dX12_kept_48 : decode cX12_kept 48 = .ok (.ireturn, 1) := by decide +kernel
theorem dX12_laysNexts_0 : decode cX12_laysNexts 0 = .ok (.iconst 0, 1) := by decide +kernel
theorem dX12_laysNexts_1 : decode cX12_laysNexts 1 = .ok (.istore_n 2, 1) := by decide +kernel
theorem dX12_laysNexts_2 : decode cX12_laysNexts 2 = .ok (.iload_n 2, 1) := by decide +kernel
theorem dX12_laysNexts_3 : decode cX12_laysNexts 3 = .ok (.aload_n 0, 1) := by decide +kernel
theorem dX12_laysNexts_4 : decode cX12_laysNexts 4 = .ok (.invokevirtual 376, 3) := by decide +kernel
theorem dX12_laysNexts_7 : decode cX12_laysNexts 7 = .ok (.if_icmp .ge 56, 3) := by decide +kernel
theorem dX12_laysNexts_10 : decode cX12_laysNexts 10 = .ok (.iconst (-1), 1) := by decide +kernel
theorem dX12_laysNexts_11 : decode cX12_laysNexts 11 = .ok (.istore_n 3, 1) := by decide +kernel
theorem dX12_laysNexts_12 : decode cX12_laysNexts 12 = .ok (.aload_n 0, 1) := by decide +kernel
theorem dX12_laysNexts_13 : decode cX12_laysNexts 13 = .ok (.invokevirtual 382, 3) := by decide +kernel
theorem dX12_laysNexts_16 : decode cX12_laysNexts 16 = .ok (.istore 4, 2) := by decide +kernel
theorem dX12_laysNexts_18 : decode cX12_laysNexts 18 = .ok (.iload 4, 2) := by decide +kernel
theorem dX12_laysNexts_20 : decode cX12_laysNexts 20 = .ok (.ifCond .lt 37, 3) := by decide +kernel
theorem dX12_laysNexts_23 : decode cX12_laysNexts 23 = .ok (.aload_n 0, 1) := by decide +kernel
theorem dX12_laysNexts_24 : decode cX12_laysNexts 24 = .ok (.iload_n 1, 1) := by decide +kernel
theorem dX12_laysNexts_25 : decode cX12_laysNexts 25 = .ok (.iload_n 2, 1) := by decide +kernel
theorem dX12_laysNexts_26 : decode cX12_laysNexts 26 = .ok (.iload 4, 2) := by decide +kernel
theorem dX12_laysNexts_28 : decode cX12_laysNexts 28 = .ok (.invokevirtual 433, 3) := by decide +kernel
theorem dX12_laysNexts_31 : decode cX12_laysNexts 31 = .ok (.ifCond .eq 6, 3) := by decide +kernel
theorem dX12_laysNexts_34 : decode cX12_laysNexts 34 = .ok (.iload 4, 2) := by decide +kernel
theorem dX12_laysNexts_36 : decode cX12_laysNexts 36 = .ok (.istore_n 3, 1) := by decide +kernel
theorem dX12_laysNexts_37 : decode cX12_laysNexts 37 = .ok (.aload_n 0, 1) := by decide +kernel
theorem dX12_laysNexts_38 : decode cX12_laysNexts 38 = .ok (.getfield 134, 3) := by decide +kernel
theorem dX12_laysNexts_41 : decode cX12_laysNexts 41 = .ok (.sipush 402, 3) := by decide +kernel
theorem dX12_laysNexts_44 : decode cX12_laysNexts 44 = .ok (.iload_n 2, 1) := by decide +kernel
theorem dX12_laysNexts_45 : decode cX12_laysNexts 45 = .ok (.imul, 1) := by decide +kernel
theorem dX12_laysNexts_46 : decode cX12_laysNexts 46 = .ok (.iload 4, 2) := by decide +kernel
theorem dX12_laysNexts_48 : decode cX12_laysNexts 48 = .ok (.iadd, 1) := by decide +kernel
theorem dX12_laysNexts_49 : decode cX12_laysNexts 49 = .ok (.iload_n 3, 1) := by decide +kernel
theorem dX12_laysNexts_50 : decode cX12_laysNexts 50 = .ok (.iastore, 1) := by decide +kernel
theorem dX12_laysNexts_51 : decode cX12_laysNexts 51 = .ok (.iinc 4 (-1), 3) := by decide +kernel
theorem dX12_laysNexts_54 : decode cX12_laysNexts 54 = .ok (.goto (-36), 3) := by decide +kernel
theorem dX12_laysNexts_57 : decode cX12_laysNexts 57 = .ok (.iinc 2 1, 3) := by decide +kernel
theorem dX12_laysNexts_60 : decode cX12_laysNexts 60 = .ok (.goto (-58), 3) := by decide +kernel
theorem dX12_laysNexts_63 : decode cX12_laysNexts 63 = .ok (.return_, 1) := by decide +kernel
theorem dX12_when_0 : decode cX12_when 0 = .ok (.aload_n 0, 1) := by decide +kernel
theorem dX12_when_1 : decode cX12_when 1 = .ok (.iload_n 1, 1) := by decide +kernel
theorem dX12_when_2 : decode cX12_when 2 = .ok (.invokevirtual 450, 3) := by decide +kernel
theorem dX12_when_5 : decode cX12_when 5 = .ok (.ifCond .eq 22, 3) := by decide +kernel
theorem dX12_when_8 : decode cX12_when 8 = .ok (.aload_n 0, 1) := by decide +kernel
theorem dX12_when_9 : decode cX12_when 9 = .ok (.iload_n 2, 1) := by decide +kernel
theorem dX12_when_10 : decode cX12_when 10 = .ok (.i2l, 1) := by decide +kernel
theorem dX12_when_11 : decode cX12_when 11 = .ok (.invokevirtual 441, 3) := by decide +kernel
theorem dX12_when_14 : decode cX12_when 14 = .ok (.ifCond .eq 13, 3) := by decide +kernel
theorem dX12_when_17 : decode cX12_when 17 = .ok (.iload_n 3, 1) := by decide +kernel
theorem dX12_when_18 : decode cX12_when 18 = .ok (.i2l, 1) := by decide +kernel
theorem dX12_when_19 : decode cX12_when 19 = .ok (.lconst 0, 1) := by decide +kernel
theorem dX12_when_20 : decode cX12_when 20 = .ok (.lconst 1, 1) := by decide +kernel
theorem dX12_when_21 : decode cX12_when 21 = .ok (.invokestatic 277, 3) := by decide +kernel
theorem dX12_when_24 : decode cX12_when 24 = .ok (.ifCond .ne 5, 3) := by decide +kernel
theorem dX12_when_27 : decode cX12_when 27 = .ok (.iconst (-1), 1) := by decide +kernel
theorem dX12_when_28 : decode cX12_when 28 = .ok (.ireturn, 1) := by decide +kernel
theorem dX12_when_29 : decode cX12_when 29 = .ok (.iconst (-1), 1) := by decide +kernel
theorem dX12_when_30 : decode cX12_when 30 = .ok (.istore 4, 2) := by decide +kernel
theorem dX12_when_32 : decode cX12_when 32 = .ok (.aload_n 0, 1) := by decide +kernel
theorem dX12_when_33 : decode cX12_when 33 = .ok (.getfield 124, 3) := by decide +kernel
theorem dX12_when_36 : decode cX12_when 36 = .ok (.iconst 0, 1) := by decide +kernel
theorem dX12_when_37 : decode cX12_when 37 = .ok (.iaload, 1) := by decide +kernel
theorem dX12_when_38 : decode cX12_when 38 = .ok (.istore 5, 2) := by decide +kernel
theorem dX12_when_40 : decode cX12_when 40 = .ok (.iload 5, 2) := by decide +kernel
theorem dX12_when_42 : decode cX12_when 42 = .ok (.aload_n 0, 1) := by decide +kernel
theorem dX12_when_43 : decode cX12_when 43 = .ok (.invokevirtual 382, 3) := by decide +kernel
theorem dX12_when_46 : decode cX12_when 46 = .ok (.if_icmp .gt 34, 3) := by decide +kernel
theorem dX12_when_49 : decode cX12_when 49 = .ok (.aload_n 0, 1) := by decide +kernel
theorem dX12_when_50 : decode cX12_when 50 = .ok (.iload_n 1, 1) := by decide +kernel
theorem dX12_when_51 : decode cX12_when 51 = .ok (.iload_n 2, 1) := by decide +kernel
theorem dX12_when_52 : decode cX12_when 52 = .ok (.iload 5, 2) := by decide +kernel
theorem dX12_when_54 : decode cX12_when 54 = .ok (.invokevirtual 433, 3) := by decide +kernel
theorem dX12_when_57 : decode cX12_when 57 = .ok (.ifCond .ne 6, 3) := by decide +kernel
theorem dX12_when_60 : decode cX12_when 60 = .ok (.goto 14, 3) := by decide +kernel
theorem dX12_when_63 : decode cX12_when 63 = .ok (.iload 5, 2) := by decide +kernel
theorem dX12_when_65 : decode cX12_when 65 = .ok (.istore 4, 2) := by decide +kernel
theorem dX12_when_67 : decode cX12_when 67 = .ok (.iload_n 3, 1) := by decide +kernel
theorem dX12_when_68 : decode cX12_when 68 = .ok (.ifCond .ne 6, 3) := by decide +kernel
theorem dX12_when_71 : decode cX12_when 71 = .ok (.iload 4, 2) := by decide +kernel
theorem dX12_when_73 : decode cX12_when 73 = .ok (.ireturn, 1) := by decide +kernel
theorem dX12_when_74 : decode cX12_when 74 = .ok (.iinc 5 1, 3) := by decide +kernel
theorem dX12_when_77 : decode cX12_when 77 = .ok (.goto (-37), 3) := by decide +kernel
theorem dX12_when_80 : decode cX12_when 80 = .ok (.iload 4, 2) := by decide +kernel
theorem dX12_when_82 : decode cX12_when 82 = .ok (.ireturn, 1) := by decide +kernel
theorem dX12_isNextOrder_0 : decode cX12_isNextOrder 0 = .ok (.aload_n 0, 1) := by decide +kernel
theorem dX12_isNextOrder_1 : decode cX12_isNextOrder 1 = .ok (.getfield 458, 3) := by decide +kernel
theorem dX12_isNextOrder_4 : decode cX12_isNextOrder 4 = .ok (.iconst 2, 1) := by decide +kernel
theorem dX12_isNextOrder_5 : decode cX12_isNextOrder 5 = .ok (.isub, 1) := by decide +kernel
theorem dX12_isNextOrder_6 : decode cX12_isNextOrder 6 = .ok (.istore_n 1, 1) := by decide +kernel
theorem dX12_isNextOrder_7 : decode cX12_isNextOrder 7 = .ok (.iload_n 1, 1) := by decide +kernel
theorem dX12_isNextOrder_8 : decode cX12_isNextOrder 8 = .ok (.ifCond .lt 26, 3) := by decide +kernel
theorem dX12_isNextOrder_11 : decode cX12_isNextOrder 11 = .ok (.aload_n 0, 1) := by decide +kernel
theorem dX12_isNextOrder_12 : decode cX12_isNextOrder 12 = .ok (.getfield 137, 3) := by decide +kernel
theorem dX12_isNextOrder_15 : decode cX12_isNextOrder 15 = .ok (.iload_n 1, 1) := by decide +kernel
theorem dX12_isNextOrder_16 : decode cX12_isNextOrder 16 = .ok (.iaload, 1) := by decide +kernel
theorem dX12_isNextOrder_17 : decode cX12_isNextOrder 17 = .ok (.aload_n 0, 1) := by decide +kernel
theorem dX12_isNextOrder_18 : decode cX12_isNextOrder 18 = .ok (.getfield 137, 3) := by decide +kernel
theorem dX12_isNextOrder_21 : decode cX12_isNextOrder 21 = .ok (.iload_n 1, 1) := by decide +kernel
theorem dX12_isNextOrder_22 : decode cX12_isNextOrder 22 = .ok (.iconst 1, 1) := by decide +kernel
theorem dX12_isNextOrder_23 : decode cX12_isNextOrder 23 = .ok (.iadd, 1) := by decide +kernel
theorem dX12_isNextOrder_24 : decode cX12_isNextOrder 24 = .ok (.iaload, 1) := by decide +kernel
theorem dX12_isNextOrder_25 : decode cX12_isNextOrder 25 = .ok (.if_icmp .le 9, 3) := by decide +kernel
theorem dX12_isNextOrder_28 : decode cX12_isNextOrder 28 = .ok (.iinc 1 (-1), 3) := by decide +kernel
theorem dX12_isNextOrder_31 : decode cX12_isNextOrder 31 = .ok (.goto (-24), 3) := by decide +kernel
theorem dX12_isNextOrder_34 : decode cX12_isNextOrder 34 = .ok (.iload_n 1, 1) := by decide +kernel
theorem dX12_isNextOrder_35 : decode cX12_isNextOrder 35 = .ok (.ifCond .ge 5, 3) := by decide +kernel
theorem dX12_isNextOrder_38 : decode cX12_isNextOrder 38 = .ok (.iconst 0, 1) := by decide +kernel
theorem dX12_isNextOrder_39 : decode cX12_isNextOrder 39 = .ok (.ireturn, 1) := by decide +kernel
theorem dX12_isNextOrder_40 : decode cX12_isNextOrder 40 = .ok (.aload_n 0, 1) := by decide +kernel
theorem dX12_isNextOrder_41 : decode cX12_isNextOrder 41 = .ok (.getfield 458, 3) := by decide +kernel
theorem dX12_isNextOrder_44 : decode cX12_isNextOrder 44 = .ok (.iconst 1, 1) := by decide +kernel
theorem dX12_isNextOrder_45 : decode cX12_isNextOrder 45 = .ok (.isub, 1) := by decide +kernel
theorem dX12_isNextOrder_46 : decode cX12_isNextOrder 46 = .ok (.istore_n 2, 1) := by decide +kernel
theorem dX12_isNextOrder_47 : decode cX12_isNextOrder 47 = .ok (.aload_n 0, 1) := by decide +kernel
theorem dX12_isNextOrder_48 : decode cX12_isNextOrder 48 = .ok (.getfield 137, 3) := by decide +kernel
theorem dX12_isNextOrder_51 : decode cX12_isNextOrder 51 = .ok (.iload_n 2, 1) := by decide +kernel
theorem dX12_isNextOrder_52 : decode cX12_isNextOrder 52 = .ok (.iaload, 1) := by decide +kernel
theorem dX12_isNextOrder_53 : decode cX12_isNextOrder 53 = .ok (.aload_n 0, 1) := by decide +kernel
theorem dX12_isNextOrder_54 : decode cX12_isNextOrder 54 = .ok (.getfield 137, 3) := by decide +kernel
theorem dX12_isNextOrder_57 : decode cX12_isNextOrder 57 = .ok (.iload_n 1, 1) := by decide +kernel
theorem dX12_isNextOrder_58 : decode cX12_isNextOrder 58 = .ok (.iaload, 1) := by decide +kernel
theorem dX12_isNextOrder_59 : decode cX12_isNextOrder 59 = .ok (.if_icmp .ge 9, 3) := by decide +kernel
theorem dX12_isNextOrder_62 : decode cX12_isNextOrder 62 = .ok (.iinc 2 (-1), 3) := by decide +kernel
theorem dX12_isNextOrder_65 : decode cX12_isNextOrder 65 = .ok (.goto (-18), 3) := by decide +kernel
theorem dX12_isNextOrder_68 : decode cX12_isNextOrder 68 = .ok (.aload_n 0, 1) := by decide +kernel
theorem dX12_isNextOrder_69 : decode cX12_isNextOrder 69 = .ok (.getfield 137, 3) := by decide +kernel
theorem dX12_isNextOrder_72 : decode cX12_isNextOrder 72 = .ok (.iload_n 1, 1) := by decide +kernel
theorem dX12_isNextOrder_73 : decode cX12_isNextOrder 73 = .ok (.iaload, 1) := by decide +kernel
theorem dX12_isNextOrder_74 : decode cX12_isNextOrder 74 = .ok (.istore_n 3, 1) := by decide +kernel
theorem dX12_isNextOrder_75 : decode cX12_isNextOrder 75 = .ok (.aload_n 0, 1) := by decide +kernel
theorem dX12_isNextOrder_76 : decode cX12_isNextOrder 76 = .ok (.getfield 137, 3) := by decide +kernel
theorem dX12_isNextOrder_79 : decode cX12_isNextOrder 79 = .ok (.iload_n 1, 1) := by decide +kernel
theorem dX12_isNextOrder_80 : decode cX12_isNextOrder 80 = .ok (.aload_n 0, 1) := by decide +kernel
theorem dX12_isNextOrder_81 : decode cX12_isNextOrder 81 = .ok (.getfield 137, 3) := by decide +kernel
theorem dX12_isNextOrder_84 : decode cX12_isNextOrder 84 = .ok (.iload_n 2, 1) := by decide +kernel
theorem dX12_isNextOrder_85 : decode cX12_isNextOrder 85 = .ok (.iaload, 1) := by decide +kernel
theorem dX12_isNextOrder_86 : decode cX12_isNextOrder 86 = .ok (.iastore, 1) := by decide +kernel
theorem dX12_isNextOrder_87 : decode cX12_isNextOrder 87 = .ok (.aload_n 0, 1) := by decide +kernel
theorem dX12_isNextOrder_88 : decode cX12_isNextOrder 88 = .ok (.getfield 137, 3) := by decide +kernel
theorem dX12_isNextOrder_91 : decode cX12_isNextOrder 91 = .ok (.iload_n 2, 1) := by decide +kernel
theorem dX12_isNextOrder_92 : decode cX12_isNextOrder 92 = .ok (.iload_n 3, 1) := by decide +kernel
theorem dX12_isNextOrder_93 : decode cX12_isNextOrder 93 = .ok (.iastore, 1) := by decide +kernel
theorem dX12_isNextOrder_94 : decode cX12_isNextOrder 94 = .ok (.iload_n 1, 1) := by decide +kernel
theorem dX12_isNextOrder_95 : decode cX12_isNextOrder 95 = .ok (.iconst 1, 1) := by decide +kernel
theorem dX12_isNextOrder_96 : decode cX12_isNextOrder 96 = .ok (.iadd, 1) := by decide +kernel
theorem dX12_isNextOrder_97 : decode cX12_isNextOrder 97 = .ok (.istore 4, 2) := by decide +kernel
theorem dX12_isNextOrder_99 : decode cX12_isNextOrder 99 = .ok (.aload_n 0, 1) := by decide +kernel
theorem dX12_isNextOrder_100 : decode cX12_isNextOrder 100 = .ok (.getfield 458, 3) := by decide +kernel
theorem dX12_isNextOrder_103 : decode cX12_isNextOrder 103 = .ok (.iconst 1, 1) := by decide +kernel
theorem dX12_isNextOrder_104 : decode cX12_isNextOrder 104 = .ok (.isub, 1) := by decide +kernel
theorem dX12_isNextOrder_105 : decode cX12_isNextOrder 105 = .ok (.istore 5, 2) := by decide +kernel
theorem dX12_isNextOrder_107 : decode cX12_isNextOrder 107 = .ok (.iload 4, 2) := by decide +kernel
theorem dX12_isNextOrder_109 : decode cX12_isNextOrder 109 = .ok (.iload 5, 2) := by decide +kernel
theorem dX12_isNextOrder_111 : decode cX12_isNextOrder 111 = .ok (.if_icmp .ge 42, 3) := by decide +kernel
theorem dX12_isNextOrder_114 : decode cX12_isNextOrder 114 = .ok (.aload_n 0, 1) := by decide +kernel
theorem dX12_isNextOrder_115 : decode cX12_isNextOrder 115 = .ok (.getfield 137, 3) := by decide +kernel
theorem dX12_isNextOrder_118 : decode cX12_isNextOrder 118 = .ok (.iload 4, 2) := by decide +kernel
theorem dX12_isNextOrder_120 : decode cX12_isNextOrder 120 = .ok (.iaload, 1) := by decide +kernel
theorem dX12_isNextOrder_121 : decode cX12_isNextOrder 121 = .ok (.istore_n 3, 1) := by decide +kernel
theorem dX12_isNextOrder_122 : decode cX12_isNextOrder 122 = .ok (.aload_n 0, 1) := by decide +kernel
theorem dX12_isNextOrder_123 : decode cX12_isNextOrder 123 = .ok (.getfield 137, 3) := by decide +kernel
theorem dX12_isNextOrder_126 : decode cX12_isNextOrder 126 = .ok (.iload 4, 2) := by decide +kernel
theorem dX12_isNextOrder_128 : decode cX12_isNextOrder 128 = .ok (.aload_n 0, 1) := by decide +kernel
theorem dX12_isNextOrder_129 : decode cX12_isNextOrder 129 = .ok (.getfield 137, 3) := by decide +kernel
theorem dX12_isNextOrder_132 : decode cX12_isNextOrder 132 = .ok (.iload 5, 2) := by decide +kernel
theorem dX12_isNextOrder_134 : decode cX12_isNextOrder 134 = .ok (.iaload, 1) := by decide +kernel
theorem dX12_isNextOrder_135 : decode cX12_isNextOrder 135 = .ok (.iastore, 1) := by decide +kernel
theorem dX12_isNextOrder_136 : decode cX12_isNextOrder 136 = .ok (.aload_n 0, 1) := by decide +kernel
theorem dX12_isNextOrder_137 : decode cX12_isNextOrder 137 = .ok (.getfield 137, 3) := by decide +kernel
theorem dX12_isNextOrder_140 : decode cX12_isNextOrder 140 = .ok (.iload 5, 2) := by decide +kernel
theorem dX12_isNextOrder_142 : decode cX12_isNextOrder 142 = .ok (.iload_n 3, 1) := by decide +kernel
theorem dX12_isNextOrder_143 : decode cX12_isNextOrder 143 = .ok (.iastore, 1) := by decide +kernel
theorem dX12_isNextOrder_144 : decode cX12_isNextOrder 144 = .ok (.iinc 4 1, 3) := by decide +kernel
theorem dX12_isNextOrder_147 : decode cX12_isNextOrder 147 = .ok (.iinc 5 (-1), 3) := by decide +kernel
theorem dX12_isNextOrder_150 : decode cX12_isNextOrder 150 = .ok (.goto (-43), 3) := by decide +kernel
theorem dX12_isNextOrder_153 : decode cX12_isNextOrder 153 = .ok (.iconst 1, 1) := by decide +kernel
theorem dX12_isNextOrder_154 : decode cX12_isNextOrder 154 = .ok (.ireturn, 1) := by decide +kernel
theorem dX12_apart_0 : decode cX12_apart 0 = .ok (.iload_n 0, 1) := by decide +kernel
theorem dX12_apart_1 : decode cX12_apart 1 = .ok (.iload_n 1, 1) := by decide +kernel
theorem dX12_apart_2 : decode cX12_apart 2 = .ok (.if_icmp .ge 9, 3) := by decide +kernel
theorem dX12_apart_5 : decode cX12_apart 5 = .ok (.iload_n 1, 1) := by decide +kernel
theorem dX12_apart_6 : decode cX12_apart 6 = .ok (.iload_n 0, 1) := by decide +kernel
theorem dX12_apart_7 : decode cX12_apart 7 = .ok (.isub, 1) := by decide +kernel
theorem dX12_apart_8 : decode cX12_apart 8 = .ok (.goto 6, 3) := by decide +kernel
theorem dX12_apart_11 : decode cX12_apart 11 = .ok (.iload_n 0, 1) := by decide +kernel
theorem dX12_apart_12 : decode cX12_apart 12 = .ok (.iload_n 1, 1) := by decide +kernel
theorem dX12_apart_13 : decode cX12_apart 13 = .ok (.isub, 1) := by decide +kernel
theorem dX12_apart_14 : decode cX12_apart 14 = .ok (.ireturn, 1) := by decide +kernel
theorem dX12_orderEnds_0 : decode cX12_orderEnds 0 = .ok (.aload_n 0, 1) := by decide +kernel
theorem dX12_orderEnds_1 : decode cX12_orderEnds 1 = .ok (.getfield 124, 3) := by decide +kernel
theorem dX12_orderEnds_4 : decode cX12_orderEnds 4 = .ok (.iconst 0, 1) := by decide +kernel
theorem dX12_orderEnds_5 : decode cX12_orderEnds 5 = .ok (.iaload, 1) := by decide +kernel
theorem dX12_orderEnds_6 : decode cX12_orderEnds 6 = .ok (.istore_n 1, 1) := by decide +kernel
theorem dX12_orderEnds_7 : decode cX12_orderEnds 7 = .ok (.aload_n 0, 1) := by decide +kernel
theorem dX12_orderEnds_8 : decode cX12_orderEnds 8 = .ok (.getfield 124, 3) := by decide +kernel
theorem dX12_orderEnds_11 : decode cX12_orderEnds 11 = .ok (.iconst 1, 1) := by decide +kernel
theorem dX12_orderEnds_12 : decode cX12_orderEnds 12 = .ok (.iaload, 1) := by decide +kernel
theorem dX12_orderEnds_13 : decode cX12_orderEnds 13 = .ok (.istore_n 2, 1) := by decide +kernel
theorem dX12_orderEnds_14 : decode cX12_orderEnds 14 = .ok (.iconst 0, 1) := by decide +kernel
theorem dX12_orderEnds_15 : decode cX12_orderEnds 15 = .ok (.istore_n 3, 1) := by decide +kernel
theorem dX12_orderEnds_16 : decode cX12_orderEnds 16 = .ok (.iload_n 3, 1) := by decide +kernel
theorem dX12_orderEnds_17 : decode cX12_orderEnds 17 = .ok (.aload_n 0, 1) := by decide +kernel
theorem dX12_orderEnds_18 : decode cX12_orderEnds 18 = .ok (.getfield 458, 3) := by decide +kernel
theorem dX12_orderEnds_21 : decode cX12_orderEnds 21 = .ok (.if_icmp .ge 78, 3) := by decide +kernel
theorem dX12_orderEnds_24 : decode cX12_orderEnds 24 = .ok (.aload_n 0, 1) := by decide +kernel
theorem dX12_orderEnds_25 : decode cX12_orderEnds 25 = .ok (.getfield 137, 3) := by decide +kernel
theorem dX12_orderEnds_28 : decode cX12_orderEnds 28 = .ok (.iload_n 3, 1) := by decide +kernel
theorem dX12_orderEnds_29 : decode cX12_orderEnds 29 = .ok (.iaload, 1) := by decide +kernel
theorem dX12_orderEnds_30 : decode cX12_orderEnds 30 = .ok (.istore 4, 2) := by decide +kernel
theorem dX12_orderEnds_32 : decode cX12_orderEnds 32 = .ok (.iload_n 1, 1) := by decide +kernel
theorem dX12_orderEnds_33 : decode cX12_orderEnds 33 = .ok (.iload_n 2, 1) := by decide +kernel
theorem dX12_orderEnds_34 : decode cX12_orderEnds 34 = .ok (.aload_n 0, 1) := by decide +kernel
theorem dX12_orderEnds_35 : decode cX12_orderEnds 35 = .ok (.iload 4, 2) := by decide +kernel
theorem dX12_orderEnds_37 : decode cX12_orderEnds 37 = .ok (.invokevirtual 430, 3) := by decide +kernel
theorem dX12_orderEnds_40 : decode cX12_orderEnds 40 = .ok (.invokestatic 461, 3) := by decide +kernel
theorem dX12_orderEnds_43 : decode cX12_orderEnds 43 = .ok (.iadd, 1) := by decide +kernel
theorem dX12_orderEnds_44 : decode cX12_orderEnds 44 = .ok (.istore_n 1, 1) := by decide +kernel
theorem dX12_orderEnds_45 : decode cX12_orderEnds 45 = .ok (.aload_n 0, 1) := by decide +kernel
theorem dX12_orderEnds_46 : decode cX12_orderEnds 46 = .ok (.iload 4, 2) := by decide +kernel
theorem dX12_orderEnds_48 : decode cX12_orderEnds 48 = .ok (.invokevirtual 430, 3) := by decide +kernel
theorem dX12_orderEnds_51 : decode cX12_orderEnds 51 = .ok (.istore_n 2, 1) := by decide +kernel
theorem dX12_orderEnds_52 : decode cX12_orderEnds 52 = .ok (.iload_n 1, 1) := by decide +kernel
theorem dX12_orderEnds_53 : decode cX12_orderEnds 53 = .ok (.aload_n 0, 1) := by decide +kernel
theorem dX12_orderEnds_54 : decode cX12_orderEnds 54 = .ok (.invokevirtual 382, 3) := by decide +kernel
theorem dX12_orderEnds_57 : decode cX12_orderEnds 57 = .ok (.if_icmp .gt 20, 3) := by decide +kernel
theorem dX12_orderEnds_60 : decode cX12_orderEnds 60 = .ok (.aload_n 0, 1) := by decide +kernel
theorem dX12_orderEnds_61 : decode cX12_orderEnds 61 = .ok (.getfield 134, 3) := by decide +kernel
theorem dX12_orderEnds_64 : decode cX12_orderEnds 64 = .ok (.sipush 402, 3) := by decide +kernel
theorem dX12_orderEnds_67 : decode cX12_orderEnds 67 = .ok (.iload 4, 2) := by decide +kernel
theorem dX12_orderEnds_69 : decode cX12_orderEnds 69 = .ok (.imul, 1) := by decide +kernel
theorem dX12_orderEnds_70 : decode cX12_orderEnds 70 = .ok (.iload_n 1, 1) := by decide +kernel
theorem dX12_orderEnds_71 : decode cX12_orderEnds 71 = .ok (.iadd, 1) := by decide +kernel
theorem dX12_orderEnds_72 : decode cX12_orderEnds 72 = .ok (.iaload, 1) := by decide +kernel
theorem dX12_orderEnds_73 : decode cX12_orderEnds 73 = .ok (.iconst (-1), 1) := by decide +kernel
theorem dX12_orderEnds_74 : decode cX12_orderEnds 74 = .ok (.if_icmp .ne 5, 3) := by decide +kernel
theorem dX12_orderEnds_77 : decode cX12_orderEnds 77 = .ok (.iconst (-1), 1) := by decide +kernel
theorem dX12_orderEnds_78 : decode cX12_orderEnds 78 = .ok (.ireturn, 1) := by decide +kernel
theorem dX12_orderEnds_79 : decode cX12_orderEnds 79 = .ok (.aload_n 0, 1) := by decide +kernel
theorem dX12_orderEnds_80 : decode cX12_orderEnds 80 = .ok (.getfield 134, 3) := by decide +kernel
theorem dX12_orderEnds_83 : decode cX12_orderEnds 83 = .ok (.sipush 402, 3) := by decide +kernel
theorem dX12_orderEnds_86 : decode cX12_orderEnds 86 = .ok (.iload 4, 2) := by decide +kernel
theorem dX12_orderEnds_88 : decode cX12_orderEnds 88 = .ok (.imul, 1) := by decide +kernel
theorem dX12_orderEnds_89 : decode cX12_orderEnds 89 = .ok (.iload_n 1, 1) := by decide +kernel
theorem dX12_orderEnds_90 : decode cX12_orderEnds 90 = .ok (.iadd, 1) := by decide +kernel
theorem dX12_orderEnds_91 : decode cX12_orderEnds 91 = .ok (.iaload, 1) := by decide +kernel
theorem dX12_orderEnds_92 : decode cX12_orderEnds 92 = .ok (.istore_n 1, 1) := by decide +kernel
theorem dX12_orderEnds_93 : decode cX12_orderEnds 93 = .ok (.iinc 3 1, 3) := by decide +kernel
theorem dX12_orderEnds_96 : decode cX12_orderEnds 96 = .ok (.goto (-80), 3) := by decide +kernel
theorem dX12_orderEnds_99 : decode cX12_orderEnds 99 = .ok (.iload_n 1, 1) := by decide +kernel
theorem dX12_orderEnds_100 : decode cX12_orderEnds 100 = .ok (.ireturn, 1) := by decide +kernel
theorem dX12_laysRound_0 : decode cX12_laysRound 0 = .ok (.aload_n 0, 1) := by decide +kernel
theorem dX12_laysRound_1 : decode cX12_laysRound 1 = .ok (.iconst 0, 1) := by decide +kernel
theorem dX12_laysRound_2 : decode cX12_laysRound 2 = .ok (.putfield 458, 3) := by decide +kernel
theorem dX12_laysRound_5 : decode cX12_laysRound 5 = .ok (.iconst 0, 1) := by decide +kernel
theorem dX12_laysRound_6 : decode cX12_laysRound 6 = .ok (.istore_n 2, 1) := by decide +kernel
theorem dX12_laysRound_7 : decode cX12_laysRound 7 = .ok (.iload_n 2, 1) := by decide +kernel
theorem dX12_laysRound_8 : decode cX12_laysRound 8 = .ok (.aload_n 0, 1) := by decide +kernel
theorem dX12_laysRound_9 : decode cX12_laysRound 9 = .ok (.invokevirtual 376, 3) := by decide +kernel
theorem dX12_laysRound_12 : decode cX12_laysRound 12 = .ok (.if_icmp .ge 38, 3) := by decide +kernel
theorem dX12_laysRound_15 : decode cX12_laysRound 15 = .ok (.iload_n 1, 1) := by decide +kernel
theorem dX12_laysRound_16 : decode cX12_laysRound 16 = .ok (.iload_n 2, 1) := by decide +kernel
theorem dX12_laysRound_17 : decode cX12_laysRound 17 = .ok (.ishr, 1) := by decide +kernel
theorem dX12_laysRound_18 : decode cX12_laysRound 18 = .ok (.iconst 1, 1) := by decide +kernel
theorem dX12_laysRound_19 : decode cX12_laysRound 19 = .ok (.iand, 1) := by decide +kernel
theorem dX12_laysRound_20 : decode cX12_laysRound 20 = .ok (.iconst 1, 1) := by decide +kernel
theorem dX12_laysRound_21 : decode cX12_laysRound 21 = .ok (.if_icmp .ne 23, 3) := by decide +kernel
theorem dX12_laysRound_24 : decode cX12_laysRound 24 = .ok (.aload_n 0, 1) := by decide +kernel
theorem dX12_laysRound_25 : decode cX12_laysRound 25 = .ok (.getfield 137, 3) := by decide +kernel
theorem dX12_laysRound_28 : decode cX12_laysRound 28 = .ok (.aload_n 0, 1) := by decide +kernel
theorem dX12_laysRound_29 : decode cX12_laysRound 29 = .ok (.getfield 458, 3) := by decide +kernel
theorem dX12_laysRound_32 : decode cX12_laysRound 32 = .ok (.iload_n 2, 1) := by decide +kernel
theorem dX12_laysRound_33 : decode cX12_laysRound 33 = .ok (.iastore, 1) := by decide +kernel
theorem dX12_laysRound_34 : decode cX12_laysRound 34 = .ok (.aload_n 0, 1) := by decide +kernel
theorem dX12_laysRound_35 : decode cX12_laysRound 35 = .ok (.dup, 1) := by decide +kernel
theorem dX12_laysRound_36 : decode cX12_laysRound 36 = .ok (.getfield 458, 3) := by decide +kernel
theorem dX12_laysRound_39 : decode cX12_laysRound 39 = .ok (.iconst 1, 1) := by decide +kernel
theorem dX12_laysRound_40 : decode cX12_laysRound 40 = .ok (.iadd, 1) := by decide +kernel
theorem dX12_laysRound_41 : decode cX12_laysRound 41 = .ok (.putfield 458, 3) := by decide +kernel
theorem dX12_laysRound_44 : decode cX12_laysRound 44 = .ok (.iinc 2 1, 3) := by decide +kernel
theorem dX12_laysRound_47 : decode cX12_laysRound 47 = .ok (.goto (-40), 3) := by decide +kernel
theorem dX12_laysRound_50 : decode cX12_laysRound 50 = .ok (.aload_n 0, 1) := by decide +kernel
theorem dX12_laysRound_51 : decode cX12_laysRound 51 = .ok (.iconst (-1), 1) := by decide +kernel
theorem dX12_laysRound_52 : decode cX12_laysRound 52 = .ok (.putfield 464, 3) := by decide +kernel
theorem dX12_laysRound_55 : decode cX12_laysRound 55 = .ok (.iconst 1, 1) := by decide +kernel
theorem dX12_laysRound_56 : decode cX12_laysRound 56 = .ok (.istore_n 2, 1) := by decide +kernel
theorem dX12_laysRound_57 : decode cX12_laysRound 57 = .ok (.iload_n 2, 1) := by decide +kernel
theorem dX12_laysRound_58 : decode cX12_laysRound 58 = .ok (.ifCond .eq 74, 3) := by decide +kernel
theorem dX12_laysRound_61 : decode cX12_laysRound 61 = .ok (.aload_n 0, 1) := by decide +kernel
theorem dX12_laysRound_62 : decode cX12_laysRound 62 = .ok (.invokevirtual 467, 3) := by decide +kernel
theorem dX12_laysRound_65 : decode cX12_laysRound 65 = .ok (.istore_n 3, 1) := by decide +kernel
theorem dX12_laysRound_66 : decode cX12_laysRound 66 = .ok (.iload_n 3, 1) := by decide +kernel
theorem dX12_laysRound_67 : decode cX12_laysRound 67 = .ok (.iconst (-1), 1) := by decide +kernel
theorem dX12_laysRound_68 : decode cX12_laysRound 68 = .ok (.if_icmp .eq 56, 3) := by decide +kernel
theorem dX12_laysRound_71 : decode cX12_laysRound 71 = .ok (.aload_n 0, 1) := by decide +kernel
theorem dX12_laysRound_72 : decode cX12_laysRound 72 = .ok (.getfield 464, 3) := by decide +kernel
theorem dX12_laysRound_75 : decode cX12_laysRound 75 = .ok (.iconst (-1), 1) := by decide +kernel
theorem dX12_laysRound_76 : decode cX12_laysRound 76 = .ok (.if_icmp .eq 11, 3) := by decide +kernel
theorem dX12_laysRound_79 : decode cX12_laysRound 79 = .ok (.iload_n 3, 1) := by decide +kernel
theorem dX12_laysRound_80 : decode cX12_laysRound 80 = .ok (.aload_n 0, 1) := by decide +kernel
theorem dX12_laysRound_81 : decode cX12_laysRound 81 = .ok (.getfield 464, 3) := by decide +kernel
theorem dX12_laysRound_84 : decode cX12_laysRound 84 = .ok (.if_icmp .ge 40, 3) := by decide +kernel
theorem dX12_laysRound_87 : decode cX12_laysRound 87 = .ok (.aload_n 0, 1) := by decide +kernel
theorem dX12_laysRound_88 : decode cX12_laysRound 88 = .ok (.iload_n 3, 1) := by decide +kernel
theorem dX12_laysRound_89 : decode cX12_laysRound 89 = .ok (.putfield 464, 3) := by decide +kernel
theorem dX12_laysRound_92 : decode cX12_laysRound 92 = .ok (.iconst 0, 1) := by decide +kernel
theorem dX12_laysRound_93 : decode cX12_laysRound 93 = .ok (.istore 4, 2) := by decide +kernel
theorem dX12_laysRound_95 : decode cX12_laysRound 95 = .ok (.iload 4, 2) := by decide +kernel
theorem dX12_laysRound_97 : decode cX12_laysRound 97 = .ok (.aload_n 0, 1) := by decide +kernel
theorem dX12_laysRound_98 : decode cX12_laysRound 98 = .ok (.getfield 458, 3) := by decide +kernel
theorem dX12_laysRound_101 : decode cX12_laysRound 101 = .ok (.if_icmp .ge 23, 3) := by decide +kernel
theorem dX12_laysRound_104 : decode cX12_laysRound 104 = .ok (.aload_n 0, 1) := by decide +kernel
theorem dX12_laysRound_105 : decode cX12_laysRound 105 = .ok (.getfield 140, 3) := by decide +kernel
theorem dX12_laysRound_108 : decode cX12_laysRound 108 = .ok (.iload 4, 2) := by decide +kernel
theorem dX12_laysRound_110 : decode cX12_laysRound 110 = .ok (.aload_n 0, 1) := by decide +kernel
theorem dX12_laysRound_111 : decode cX12_laysRound 111 = .ok (.getfield 137, 3) := by decide +kernel
theorem dX12_laysRound_114 : decode cX12_laysRound 114 = .ok (.iload 4, 2) := by decide +kernel
theorem dX12_laysRound_116 : decode cX12_laysRound 116 = .ok (.iaload, 1) := by decide +kernel
theorem dX12_laysRound_117 : decode cX12_laysRound 117 = .ok (.iastore, 1) := by decide +kernel
theorem dX12_laysRound_118 : decode cX12_laysRound 118 = .ok (.iinc 4 1, 3) := by decide +kernel
theorem dX12_laysRound_121 : decode cX12_laysRound 121 = .ok (.goto (-26), 3) := by decide +kernel
theorem dX12_laysRound_124 : decode cX12_laysRound 124 = .ok (.aload_n 0, 1) := by decide +kernel
theorem dX12_laysRound_125 : decode cX12_laysRound 125 = .ok (.invokevirtual 470, 3) := by decide +kernel
theorem dX12_laysRound_128 : decode cX12_laysRound 128 = .ok (.istore_n 2, 1) := by decide +kernel
theorem dX12_laysRound_129 : decode cX12_laysRound 129 = .ok (.goto (-72), 3) := by decide +kernel
theorem dX12_laysRound_132 : decode cX12_laysRound 132 = .ok (.return_, 1) := by decide +kernel
theorem dX12_unbought_0 : decode cX12_unbought 0 = .ok (.iconst 1, 1) := by decide +kernel
theorem dX12_unbought_1 : decode cX12_unbought 1 = .ok (.aload_n 0, 1) := by decide +kernel
theorem dX12_unbought_2 : decode cX12_unbought 2 = .ok (.invokevirtual 376, 3) := by decide +kernel
theorem dX12_unbought_5 : decode cX12_unbought 5 = .ok (.ishl, 1) := by decide +kernel
theorem dX12_unbought_6 : decode cX12_unbought 6 = .ok (.iconst 1, 1) := by decide +kernel
theorem dX12_unbought_7 : decode cX12_unbought 7 = .ok (.isub, 1) := by decide +kernel
theorem dX12_unbought_8 : decode cX12_unbought 8 = .ok (.aload_n 0, 1) := by decide +kernel
theorem dX12_unbought_9 : decode cX12_unbought 9 = .ok (.getfield 124, 3) := by decide +kernel
theorem dX12_unbought_12 : decode cX12_unbought 12 = .ok (.iconst 2, 1) := by decide +kernel
theorem dX12_unbought_13 : decode cX12_unbought 13 = .ok (.iaload, 1) := by decide +kernel
theorem dX12_unbought_14 : decode cX12_unbought 14 = .ok (.iconst (-1), 1) := by decide +kernel
theorem dX12_unbought_15 : decode cX12_unbought 15 = .ok (.ixor, 1) := by decide +kernel
theorem dX12_unbought_16 : decode cX12_unbought 16 = .ok (.iand, 1) := by decide +kernel
theorem dX12_unbought_17 : decode cX12_unbought 17 = .ok (.ireturn, 1) := by decide +kernel
theorem dX12_round_0 : decode cX12_round 0 = .ok (.aload_n 0, 1) := by decide +kernel
theorem dX12_round_1 : decode cX12_round 1 = .ok (.iload_n 1, 1) := by decide +kernel
theorem dX12_round_2 : decode cX12_round 2 = .ok (.invokevirtual 450, 3) := by decide +kernel
theorem dX12_round_5 : decode cX12_round 5 = .ok (.ifCond .ne 5, 3) := by decide +kernel
theorem dX12_round_8 : decode cX12_round 8 = .ok (.iconst (-1), 1) := by decide +kernel
theorem dX12_round_9 : decode cX12_round 9 = .ok (.ireturn, 1) := by decide +kernel
theorem dX12_round_10 : decode cX12_round 10 = .ok (.aload_n 0, 1) := by decide +kernel
theorem dX12_round_11 : decode cX12_round 11 = .ok (.iload_n 1, 1) := by decide +kernel
theorem dX12_round_12 : decode cX12_round 12 = .ok (.invokevirtual 473, 3) := by decide +kernel
theorem dX12_round_15 : decode cX12_round 15 = .ok (.aload_n 0, 1) := by decide +kernel
theorem dX12_round_16 : decode cX12_round 16 = .ok (.aload_n 0, 1) := by decide +kernel
theorem dX12_round_17 : decode cX12_round 17 = .ok (.invokevirtual 476, 3) := by decide +kernel
theorem dX12_round_20 : decode cX12_round 20 = .ok (.invokevirtual 479, 3) := by decide +kernel
theorem dX12_round_23 : decode cX12_round 23 = .ok (.aload_n 0, 1) := by decide +kernel
theorem dX12_round_24 : decode cX12_round 24 = .ok (.getfield 464, 3) := by decide +kernel
theorem dX12_round_27 : decode cX12_round 27 = .ok (.iconst (-1), 1) := by decide +kernel
theorem dX12_round_28 : decode cX12_round 28 = .ok (.if_icmp .eq 21, 3) := by decide +kernel
theorem dX12_round_31 : decode cX12_round 31 = .ok (.iload_n 2, 1) := by decide +kernel
theorem dX12_round_32 : decode cX12_round 32 = .ok (.i2l, 1) := by decide +kernel
theorem dX12_round_33 : decode cX12_round 33 = .ok (.ldc2_w 482, 3) := by decide +kernel
theorem dX12_round_36 : decode cX12_round 36 = .ok (.aload_n 0, 1) := by decide +kernel
theorem dX12_round_37 : decode cX12_round 37 = .ok (.getfield 458, 3) := by decide +kernel
theorem dX12_round_40 : decode cX12_round 40 = .ok (.iconst 1, 1) := by decide +kernel
theorem dX12_round_41 : decode cX12_round 41 = .ok (.isub, 1) := by decide +kernel
theorem dX12_round_42 : decode cX12_round 42 = .ok (.i2l, 1) := by decide +kernel
theorem dX12_round_43 : decode cX12_round 43 = .ok (.invokestatic 277, 3) := by decide +kernel
theorem dX12_round_46 : decode cX12_round 46 = .ok (.ifCond .ne 5, 3) := by decide +kernel
theorem dX12_round_49 : decode cX12_round 49 = .ok (.iconst (-1), 1) := by decide +kernel
theorem dX12_round_50 : decode cX12_round 50 = .ok (.ireturn, 1) := by decide +kernel
theorem dX12_round_51 : decode cX12_round 51 = .ok (.iload_n 2, 1) := by decide +kernel
theorem dX12_round_52 : decode cX12_round 52 = .ok (.iconst (-1), 1) := by decide +kernel
theorem dX12_round_53 : decode cX12_round 53 = .ok (.if_icmp .ne 10, 3) := by decide +kernel
theorem dX12_round_56 : decode cX12_round 56 = .ok (.aload_n 0, 1) := by decide +kernel
theorem dX12_round_57 : decode cX12_round 57 = .ok (.getfield 464, 3) := by decide +kernel
theorem dX12_round_60 : decode cX12_round 60 = .ok (.goto 9, 3) := by decide +kernel
theorem dX12_round_63 : decode cX12_round 63 = .ok (.aload_n 0, 1) := by decide +kernel
theorem dX12_round_64 : decode cX12_round 64 = .ok (.getfield 140, 3) := by decide +kernel
theorem dX12_round_67 : decode cX12_round 67 = .ok (.iload_n 2, 1) := by decide +kernel
theorem dX12_round_68 : decode cX12_round 68 = .ok (.iaload, 1) := by decide +kernel
theorem dX12_round_69 : decode cX12_round 69 = .ok (.ireturn, 1) := by decide +kernel
theorem dX12_blocked_0 : decode cX12_blocked 0 = .ok (.aload_n 0, 1) := by decide +kernel
theorem dX12_blocked_1 : decode cX12_blocked 1 = .ok (.iload_n 1, 1) := by decide +kernel
theorem dX12_blocked_2 : decode cX12_blocked 2 = .ok (.invokevirtual 450, 3) := by decide +kernel
theorem dX12_blocked_5 : decode cX12_blocked 5 = .ok (.ifCond .ne 5, 3) := by decide +kernel
theorem dX12_blocked_8 : decode cX12_blocked 8 = .ok (.iconst (-1), 1) := by decide +kernel
theorem dX12_blocked_9 : decode cX12_blocked 9 = .ok (.ireturn, 1) := by decide +kernel
theorem dX12_blocked_10 : decode cX12_blocked 10 = .ok (.aload_n 0, 1) := by decide +kernel
theorem dX12_blocked_11 : decode cX12_blocked 11 = .ok (.iload_n 1, 1) := by decide +kernel
theorem dX12_blocked_12 : decode cX12_blocked 12 = .ok (.invokevirtual 473, 3) := by decide +kernel
theorem dX12_blocked_15 : decode cX12_blocked 15 = .ok (.aload_n 0, 1) := by decide +kernel
theorem dX12_blocked_16 : decode cX12_blocked 16 = .ok (.invokevirtual 476, 3) := by decide +kernel
theorem dX12_blocked_19 : decode cX12_blocked 19 = .ok (.istore_n 2, 1) := by decide +kernel
theorem dX12_blocked_20 : decode cX12_blocked 20 = .ok (.iconst (-1), 1) := by decide +kernel
theorem dX12_blocked_21 : decode cX12_blocked 21 = .ok (.istore_n 3, 1) := by decide +kernel
theorem dX12_blocked_22 : decode cX12_blocked 22 = .ok (.iconst 0, 1) := by decide +kernel
theorem dX12_blocked_23 : decode cX12_blocked 23 = .ok (.istore 4, 2) := by decide +kernel
theorem dX12_blocked_25 : decode cX12_blocked 25 = .ok (.iload 4, 2) := by decide +kernel
theorem dX12_blocked_27 : decode cX12_blocked 27 = .ok (.iconst 1, 1) := by decide +kernel
theorem dX12_blocked_28 : decode cX12_blocked 28 = .ok (.aload_n 0, 1) := by decide +kernel
theorem dX12_blocked_29 : decode cX12_blocked 29 = .ok (.invokevirtual 376, 3) := by decide +kernel
theorem dX12_blocked_32 : decode cX12_blocked 32 = .ok (.ishl, 1) := by decide +kernel
theorem dX12_blocked_33 : decode cX12_blocked 33 = .ok (.if_icmp .ge 59, 3) := by decide +kernel
theorem dX12_blocked_36 : decode cX12_blocked 36 = .ok (.iload 4, 2) := by decide +kernel
theorem dX12_blocked_38 : decode cX12_blocked 38 = .ok (.iload_n 2, 1) := by decide +kernel
theorem dX12_blocked_39 : decode cX12_blocked 39 = .ok (.iconst (-1), 1) := by decide +kernel
theorem dX12_blocked_40 : decode cX12_blocked 40 = .ok (.ixor, 1) := by decide +kernel
theorem dX12_blocked_41 : decode cX12_blocked 41 = .ok (.iand, 1) := by decide +kernel
theorem dX12_blocked_42 : decode cX12_blocked 42 = .ok (.ifCond .ne 44, 3) := by decide +kernel
theorem dX12_blocked_45 : decode cX12_blocked 45 = .ok (.iload_n 3, 1) := by decide +kernel
theorem dX12_blocked_46 : decode cX12_blocked 46 = .ok (.iconst (-1), 1) := by decide +kernel
theorem dX12_blocked_47 : decode cX12_blocked 47 = .ok (.if_icmp .eq 18, 3) := by decide +kernel
theorem dX12_blocked_50 : decode cX12_blocked 50 = .ok (.iload 4, 2) := by decide +kernel
theorem dX12_blocked_52 : decode cX12_blocked 52 = .ok (.invokestatic 436, 3) := by decide +kernel
theorem dX12_blocked_55 : decode cX12_blocked 55 = .ok (.iload_n 3, 1) := by decide +kernel
theorem dX12_blocked_56 : decode cX12_blocked 56 = .ok (.invokestatic 436, 3) := by decide +kernel
theorem dX12_blocked_59 : decode cX12_blocked 59 = .ok (.if_icmp .lt 6, 3) := by decide +kernel
theorem dX12_blocked_62 : decode cX12_blocked 62 = .ok (.goto 24, 3) := by decide +kernel
theorem dX12_blocked_65 : decode cX12_blocked 65 = .ok (.aload_n 0, 1) := by decide +kernel
theorem dX12_blocked_66 : decode cX12_blocked 66 = .ok (.iload_n 2, 1) := by decide +kernel
theorem dX12_blocked_67 : decode cX12_blocked 67 = .ok (.iload 4, 2) := by decide +kernel
theorem dX12_blocked_69 : decode cX12_blocked 69 = .ok (.iconst (-1), 1) := by decide +kernel
theorem dX12_blocked_70 : decode cX12_blocked 70 = .ok (.ixor, 1) := by decide +kernel
theorem dX12_blocked_71 : decode cX12_blocked 71 = .ok (.iand, 1) := by decide +kernel
theorem dX12_blocked_72 : decode cX12_blocked 72 = .ok (.invokevirtual 479, 3) := by decide +kernel
theorem dX12_blocked_75 : decode cX12_blocked 75 = .ok (.aload_n 0, 1) := by decide +kernel
theorem dX12_blocked_76 : decode cX12_blocked 76 = .ok (.getfield 464, 3) := by decide +kernel
theorem dX12_blocked_79 : decode cX12_blocked 79 = .ok (.iconst (-1), 1) := by decide +kernel
theorem dX12_blocked_80 : decode cX12_blocked 80 = .ok (.if_icmp .eq 6, 3) := by decide +kernel
theorem dX12_blocked_83 : decode cX12_blocked 83 = .ok (.iload 4, 2) := by decide +kernel
theorem dX12_blocked_85 : decode cX12_blocked 85 = .ok (.istore_n 3, 1) := by decide +kernel
theorem dX12_blocked_86 : decode cX12_blocked 86 = .ok (.iinc 4 1, 3) := by decide +kernel
theorem dX12_blocked_89 : decode cX12_blocked 89 = .ok (.goto (-64), 3) := by decide +kernel
theorem dX12_blocked_92 : decode cX12_blocked 92 = .ok (.iload_n 3, 1) := by decide +kernel
theorem dX12_blocked_93 : decode cX12_blocked 93 = .ok (.ireturn, 1) := by decide +kernel
theorem dX12_doesBuyAnywhere_0 : decode cX12_doesBuyAnywhere 0 = .ok (.iconst 0, 1) := by decide +kernel
theorem dX12_doesBuyAnywhere_1 : decode cX12_doesBuyAnywhere 1 = .ok (.istore_n 3, 1) := by decide +kernel
theorem dX12_doesBuyAnywhere_2 : decode cX12_doesBuyAnywhere 2 = .ok (.iload_n 3, 1) := by decide +kernel
theorem dX12_doesBuyAnywhere_3 : decode cX12_doesBuyAnywhere 3 = .ok (.aload_n 0, 1) := by decide +kernel
theorem dX12_doesBuyAnywhere_4 : decode cX12_doesBuyAnywhere 4 = .ok (.invokevirtual 376, 3) := by decide +kernel
theorem dX12_doesBuyAnywhere_7 : decode cX12_doesBuyAnywhere 7 = .ok (.if_icmp .ge 21, 3) := by decide +kernel
theorem dX12_doesBuyAnywhere_10 : decode cX12_doesBuyAnywhere 10 = .ok (.aload_n 0, 1) := by decide +kernel
theorem dX12_doesBuyAnywhere_11 : decode cX12_doesBuyAnywhere 11 = .ok (.iload_n 1, 1) := by decide +kernel
theorem dX12_doesBuyAnywhere_12 : decode cX12_doesBuyAnywhere 12 = .ok (.iload_n 3, 1) := by decide +kernel
theorem dX12_doesBuyAnywhere_13 : decode cX12_doesBuyAnywhere 13 = .ok (.iload_n 2, 1) := by decide +kernel
theorem dX12_doesBuyAnywhere_14 : decode cX12_doesBuyAnywhere 14 = .ok (.invokevirtual 433, 3) := by decide +kernel
theorem dX12_doesBuyAnywhere_17 : decode cX12_doesBuyAnywhere 17 = .ok (.ifCond .eq 5, 3) := by decide +kernel
theorem dX12_doesBuyAnywhere_20 : decode cX12_doesBuyAnywhere 20 = .ok (.iconst 1, 1) := by decide +kernel
theorem dX12_doesBuyAnywhere_21 : decode cX12_doesBuyAnywhere 21 = .ok (.ireturn, 1) := by decide +kernel
theorem dX12_doesBuyAnywhere_22 : decode cX12_doesBuyAnywhere 22 = .ok (.iinc 3 1, 3) := by decide +kernel
theorem dX12_doesBuyAnywhere_25 : decode cX12_doesBuyAnywhere 25 = .ok (.goto (-23), 3) := by decide +kernel
theorem dX12_doesBuyAnywhere_28 : decode cX12_doesBuyAnywhere 28 = .ok (.iconst 0, 1) := by decide +kernel
theorem dX12_doesBuyAnywhere_29 : decode cX12_doesBuyAnywhere 29 = .ok (.ireturn, 1) := by decide +kernel
theorem dX12_strike_0 : decode cX12_strike 0 = .ok (.aload_n 0, 1) := by decide +kernel
theorem dX12_strike_1 : decode cX12_strike 1 = .ok (.iload_n 1, 1) := by decide +kernel
theorem dX12_strike_2 : decode cX12_strike 2 = .ok (.invokevirtual 450, 3) := by decide +kernel
theorem dX12_strike_5 : decode cX12_strike 5 = .ok (.ifCond .eq 13, 3) := by decide +kernel
theorem dX12_strike_8 : decode cX12_strike 8 = .ok (.iload_n 2, 1) := by decide +kernel
theorem dX12_strike_9 : decode cX12_strike 9 = .ok (.i2l, 1) := by decide +kernel
theorem dX12_strike_10 : decode cX12_strike 10 = .ok (.lconst 0, 1) := by decide +kernel
theorem dX12_strike_11 : decode cX12_strike 11 = .ok (.lconst 1, 1) := by decide +kernel
theorem dX12_strike_12 : decode cX12_strike 12 = .ok (.invokestatic 277, 3) := by decide +kernel
theorem dX12_strike_15 : decode cX12_strike 15 = .ok (.ifCond .ne 5, 3) := by decide +kernel
theorem dX12_strike_18 : decode cX12_strike 18 = .ok (.iconst (-1), 1) := by decide +kernel
theorem dX12_strike_19 : decode cX12_strike 19 = .ok (.ireturn, 1) := by decide +kernel
theorem dX12_strike_20 : decode cX12_strike 20 = .ok (.iconst 0, 1) := by decide +kernel
theorem dX12_strike_21 : decode cX12_strike 21 = .ok (.istore_n 3, 1) := by decide +kernel
theorem dX12_strike_22 : decode cX12_strike 22 = .ok (.iconst (-1), 1) := by decide +kernel
theorem dX12_strike_23 : decode cX12_strike 23 = .ok (.istore 4, 2) := by decide +kernel
theorem dX12_strike_25 : decode cX12_strike 25 = .ok (.iconst 0, 1) := by decide +kernel
theorem dX12_strike_26 : decode cX12_strike 26 = .ok (.istore 5, 2) := by decide +kernel
theorem dX12_strike_28 : decode cX12_strike 28 = .ok (.aload_n 0, 1) := by decide +kernel
theorem dX12_strike_29 : decode cX12_strike 29 = .ok (.getfield 124, 3) := by decide +kernel
theorem dX12_strike_32 : decode cX12_strike 32 = .ok (.iconst 0, 1) := by decide +kernel
theorem dX12_strike_33 : decode cX12_strike 33 = .ok (.iaload, 1) := by decide +kernel
theorem dX12_strike_34 : decode cX12_strike 34 = .ok (.istore 6, 2) := by decide +kernel
theorem dX12_strike_36 : decode cX12_strike 36 = .ok (.iload 6, 2) := by decide +kernel
theorem dX12_strike_38 : decode cX12_strike 38 = .ok (.aload_n 0, 1) := by decide +kernel
theorem dX12_strike_39 : decode cX12_strike 39 = .ok (.invokevirtual 382, 3) := by decide +kernel
theorem dX12_strike_42 : decode cX12_strike 42 = .ok (.if_icmp .gt 50, 3) := by decide +kernel
theorem dX12_strike_45 : decode cX12_strike 45 = .ok (.aload_n 0, 1) := by decide +kernel
theorem dX12_strike_46 : decode cX12_strike 46 = .ok (.iload_n 1, 1) := by decide +kernel
theorem dX12_strike_47 : decode cX12_strike 47 = .ok (.iload 6, 2) := by decide +kernel
theorem dX12_strike_49 : decode cX12_strike 49 = .ok (.invokevirtual 484, 3) := by decide +kernel
theorem dX12_strike_52 : decode cX12_strike 52 = .ok (.ifCond .eq 7, 3) := by decide +kernel
theorem dX12_strike_55 : decode cX12_strike 55 = .ok (.iconst 0, 1) := by decide +kernel
theorem dX12_strike_56 : decode cX12_strike 56 = .ok (.goto 7, 3) := by decide +kernel
theorem dX12_strike_59 : decode cX12_strike 59 = .ok (.iload 5, 2) := by decide +kernel
theorem dX12_strike_61 : decode cX12_strike 61 = .ok (.iconst 1, 1) := by decide +kernel
theorem dX12_strike_62 : decode cX12_strike 62 = .ok (.iadd, 1) := by decide +kernel
theorem dX12_strike_63 : decode cX12_strike 63 = .ok (.istore 5, 2) := by decide +kernel
theorem dX12_strike_65 : decode cX12_strike 65 = .ok (.iload 5, 2) := by decide +kernel
theorem dX12_strike_67 : decode cX12_strike 67 = .ok (.iload_n 3, 1) := by decide +kernel
theorem dX12_strike_68 : decode cX12_strike 68 = .ok (.if_icmp .gt 6, 3) := by decide +kernel
theorem dX12_strike_71 : decode cX12_strike 71 = .ok (.goto 15, 3) := by decide +kernel
theorem dX12_strike_74 : decode cX12_strike 74 = .ok (.iload 5, 2) := by decide +kernel
theorem dX12_strike_76 : decode cX12_strike 76 = .ok (.istore_n 3, 1) := by decide +kernel
theorem dX12_strike_77 : decode cX12_strike 77 = .ok (.iload 6, 2) := by decide +kernel
theorem dX12_strike_79 : decode cX12_strike 79 = .ok (.iload 5, 2) := by decide +kernel
theorem dX12_strike_81 : decode cX12_strike 81 = .ok (.isub, 1) := by decide +kernel
theorem dX12_strike_82 : decode cX12_strike 82 = .ok (.iconst 1, 1) := by decide +kernel
theorem dX12_strike_83 : decode cX12_strike 83 = .ok (.iadd, 1) := by decide +kernel
theorem dX12_strike_84 : decode cX12_strike 84 = .ok (.istore 4, 2) := by decide +kernel
theorem dX12_strike_86 : decode cX12_strike 86 = .ok (.iinc 6 1, 3) := by decide +kernel
theorem dX12_strike_89 : decode cX12_strike 89 = .ok (.goto (-53), 3) := by decide +kernel
theorem dX12_strike_92 : decode cX12_strike 92 = .ok (.iload_n 2, 1) := by decide +kernel
theorem dX12_strike_93 : decode cX12_strike 93 = .ok (.ifCond .ne 7, 3) := by decide +kernel
theorem dX12_strike_96 : decode cX12_strike 96 = .ok (.iload_n 3, 1) := by decide +kernel
theorem dX12_strike_97 : decode cX12_strike 97 = .ok (.goto 5, 3) := by decide +kernel
theorem dX12_strike_100 : decode cX12_strike 100 = .ok (.iload 4, 2) := by decide +kernel
theorem dX12_strike_102 : decode cX12_strike 102 = .ok (.ireturn, 1) := by decide +kernel
theorem dX12_handy_0 : decode cX12_handy 0 = .ok (.aload_n 0, 1) := by decide +kernel
theorem dX12_handy_1 : decode cX12_handy 1 = .ok (.iload_n 1, 1) := by decide +kernel
theorem dX12_handy_2 : decode cX12_handy 2 = .ok (.invokevirtual 453, 3) := by decide +kernel
theorem dX12_handy_5 : decode cX12_handy 5 = .ok (.ifCond .ne 5, 3) := by decide +kernel
theorem dX12_handy_8 : decode cX12_handy 8 = .ok (.iconst (-1), 1) := by decide +kernel
theorem dX12_handy_9 : decode cX12_handy 9 = .ok (.ireturn, 1) := by decide +kernel
theorem dX12_handy_10 : decode cX12_handy 10 = .ok (.iconst (-1), 1) := by decide +kernel
theorem dX12_handy_11 : decode cX12_handy 11 = .ok (.istore_n 2, 1) := by decide +kernel
theorem dX12_handy_12 : decode cX12_handy 12 = .ok (.iconst 0, 1) := by decide +kernel
theorem dX12_handy_13 : decode cX12_handy 13 = .ok (.istore_n 3, 1) := by decide +kernel
theorem dX12_handy_14 : decode cX12_handy 14 = .ok (.iconst 0, 1) := by decide +kernel
theorem dX12_handy_15 : decode cX12_handy 15 = .ok (.istore 4, 2) := by decide +kernel
theorem dX12_handy_17 : decode cX12_handy 17 = .ok (.iload 4, 2) := by decide +kernel
theorem dX12_handy_19 : decode cX12_handy 19 = .ok (.aload_n 0, 1) := by decide +kernel
theorem dX12_handy_20 : decode cX12_handy 20 = .ok (.invokevirtual 379, 3) := by decide +kernel
theorem dX12_handy_23 : decode cX12_handy 23 = .ok (.if_icmp .ge 65, 3) := by decide +kernel
theorem dX12_handy_26 : decode cX12_handy 26 = .ok (.iconst 0, 1) := by decide +kernel
theorem dX12_handy_27 : decode cX12_handy 27 = .ok (.istore 5, 2) := by decide +kernel
theorem dX12_handy_29 : decode cX12_handy 29 = .ok (.iconst 0, 1) := by decide +kernel
theorem dX12_handy_30 : decode cX12_handy 30 = .ok (.istore 6, 2) := by decide +kernel
theorem dX12_handy_32 : decode cX12_handy 32 = .ok (.iload 6, 2) := by decide +kernel
theorem dX12_handy_34 : decode cX12_handy 34 = .ok (.aload_n 0, 1) := by decide +kernel
theorem dX12_handy_35 : decode cX12_handy 35 = .ok (.invokevirtual 376, 3) := by decide +kernel
theorem dX12_handy_38 : decode cX12_handy 38 = .ok (.if_icmp .ge 24, 3) := by decide +kernel
theorem dX12_handy_41 : decode cX12_handy 41 = .ok (.aload_n 0, 1) := by decide +kernel
theorem dX12_handy_42 : decode cX12_handy 42 = .ok (.iload 4, 2) := by decide +kernel
theorem dX12_handy_44 : decode cX12_handy 44 = .ok (.iload 6, 2) := by decide +kernel
theorem dX12_handy_46 : decode cX12_handy 46 = .ok (.iload_n 1, 1) := by decide +kernel
theorem dX12_handy_47 : decode cX12_handy 47 = .ok (.invokevirtual 433, 3) := by decide +kernel
theorem dX12_handy_50 : decode cX12_handy 50 = .ok (.ifCond .eq 6, 3) := by decide +kernel
theorem dX12_handy_53 : decode cX12_handy 53 = .ok (.iinc 5 1, 3) := by decide +kernel
theorem dX12_handy_56 : decode cX12_handy 56 = .ok (.iinc 6 1, 3) := by decide +kernel
theorem dX12_handy_59 : decode cX12_handy 59 = .ok (.goto (-27), 3) := by decide +kernel
theorem dX12_handy_62 : decode cX12_handy 62 = .ok (.iload_n 2, 1) := by decide +kernel
theorem dX12_handy_63 : decode cX12_handy 63 = .ok (.iconst (-1), 1) := by decide +kernel
theorem dX12_handy_64 : decode cX12_handy 64 = .ok (.if_icmp .eq 12, 3) := by decide +kernel
theorem dX12_handy_67 : decode cX12_handy 67 = .ok (.iload 5, 2) := by decide +kernel
theorem dX12_handy_69 : decode cX12_handy 69 = .ok (.iload_n 3, 1) := by decide +kernel
theorem dX12_handy_70 : decode cX12_handy 70 = .ok (.if_icmp .gt 6, 3) := by decide +kernel
theorem dX12_handy_73 : decode cX12_handy 73 = .ok (.goto 9, 3) := by decide +kernel
theorem dX12_handy_76 : decode cX12_handy 76 = .ok (.iload 4, 2) := by decide +kernel
theorem dX12_handy_78 : decode cX12_handy 78 = .ok (.istore_n 2, 1) := by decide +kernel
theorem dX12_handy_79 : decode cX12_handy 79 = .ok (.iload 5, 2) := by decide +kernel
theorem dX12_handy_81 : decode cX12_handy 81 = .ok (.istore_n 3, 1) := by decide +kernel
theorem dX12_handy_82 : decode cX12_handy 82 = .ok (.iinc 4 1, 3) := by decide +kernel
theorem dX12_handy_85 : decode cX12_handy 85 = .ok (.goto (-68), 3) := by decide +kernel
theorem dX12_handy_88 : decode cX12_handy 88 = .ok (.iload_n 2, 1) := by decide +kernel
theorem dX12_handy_89 : decode cX12_handy 89 = .ok (.ireturn, 1) := by decide +kernel
theorem dX12_odd_0 : decode cX12_odd 0 = .ok (.aload_n 0, 1) := by decide +kernel
theorem dX12_odd_1 : decode cX12_odd 1 = .ok (.iload_n 1, 1) := by decide +kernel
theorem dX12_odd_2 : decode cX12_odd 2 = .ok (.invokevirtual 450, 3) := by decide +kernel
theorem dX12_odd_5 : decode cX12_odd 5 = .ok (.ifCond .eq 26, 3) := by decide +kernel
theorem dX12_odd_8 : decode cX12_odd 8 = .ok (.aload_n 0, 1) := by decide +kernel
theorem dX12_odd_9 : decode cX12_odd 9 = .ok (.iload_n 2, 1) := by decide +kernel
theorem dX12_odd_10 : decode cX12_odd 10 = .ok (.i2l, 1) := by decide +kernel
theorem dX12_odd_11 : decode cX12_odd 11 = .ok (.invokevirtual 441, 3) := by decide +kernel
theorem dX12_odd_14 : decode cX12_odd 14 = .ok (.ifCond .eq 17, 3) := by decide +kernel
theorem dX12_odd_17 : decode cX12_odd 17 = .ok (.aload_n 0, 1) := by decide +kernel
theorem dX12_odd_18 : decode cX12_odd 18 = .ok (.iload_n 3, 1) := by decide +kernel
theorem dX12_odd_19 : decode cX12_odd 19 = .ok (.i2l, 1) := by decide +kernel
theorem dX12_odd_20 : decode cX12_odd 20 = .ok (.invokevirtual 441, 3) := by decide +kernel
theorem dX12_odd_23 : decode cX12_odd 23 = .ok (.ifCond .eq 8, 3) := by decide +kernel
theorem dX12_odd_26 : decode cX12_odd 26 = .ok (.iload_n 2, 1) := by decide +kernel
theorem dX12_odd_27 : decode cX12_odd 27 = .ok (.iload_n 3, 1) := by decide +kernel
theorem dX12_odd_28 : decode cX12_odd 28 = .ok (.if_icmp .ne 5, 3) := by decide +kernel
theorem dX12_odd_31 : decode cX12_odd 31 = .ok (.iconst (-1), 1) := by decide +kernel
theorem dX12_odd_32 : decode cX12_odd 32 = .ok (.ireturn, 1) := by decide +kernel
theorem dX12_odd_33 : decode cX12_odd 33 = .ok (.aload_n 0, 1) := by decide +kernel
theorem dX12_odd_34 : decode cX12_odd 34 = .ok (.getfield 124, 3) := by decide +kernel
theorem dX12_odd_37 : decode cX12_odd 37 = .ok (.iconst 0, 1) := by decide +kernel
theorem dX12_odd_38 : decode cX12_odd 38 = .ok (.iaload, 1) := by decide +kernel
theorem dX12_odd_39 : decode cX12_odd 39 = .ok (.istore 4, 2) := by decide +kernel
theorem dX12_odd_41 : decode cX12_odd 41 = .ok (.iload 4, 2) := by decide +kernel
theorem dX12_odd_43 : decode cX12_odd 43 = .ok (.aload_n 0, 1) := by decide +kernel
theorem dX12_odd_44 : decode cX12_odd 44 = .ok (.invokevirtual 382, 3) := by decide +kernel
theorem dX12_odd_47 : decode cX12_odd 47 = .ok (.if_icmp .gt 34, 3) := by decide +kernel
theorem dX12_odd_50 : decode cX12_odd 50 = .ok (.aload_n 0, 1) := by decide +kernel
theorem dX12_odd_51 : decode cX12_odd 51 = .ok (.iload_n 1, 1) := by decide +kernel
theorem dX12_odd_52 : decode cX12_odd 52 = .ok (.iload_n 2, 1) := by decide +kernel
theorem dX12_odd_53 : decode cX12_odd 53 = .ok (.iload 4, 2) := by decide +kernel
theorem dX12_odd_55 : decode cX12_odd 55 = .ok (.invokevirtual 433, 3) := by decide +kernel
theorem dX12_odd_58 : decode cX12_odd 58 = .ok (.ifCond .eq 17, 3) := by decide +kernel
theorem dX12_odd_61 : decode cX12_odd 61 = .ok (.aload_n 0, 1) := by decide +kernel
theorem dX12_odd_62 : decode cX12_odd 62 = .ok (.iload_n 1, 1) := by decide +kernel
theorem dX12_odd_63 : decode cX12_odd 63 = .ok (.iload_n 3, 1) := by decide +kernel
theorem dX12_odd_64 : decode cX12_odd 64 = .ok (.iload 4, 2) := by decide +kernel
theorem dX12_odd_66 : decode cX12_odd 66 = .ok (.invokevirtual 433, 3) := by decide +kernel
theorem dX12_odd_69 : decode cX12_odd 69 = .ok (.ifCond .ne 6, 3) := by decide +kernel
theorem dX12_odd_72 : decode cX12_odd 72 = .ok (.iload 4, 2) := by decide +kernel
theorem dX12_odd_74 : decode cX12_odd 74 = .ok (.ireturn, 1) := by decide +kernel
theorem dX12_odd_75 : decode cX12_odd 75 = .ok (.iinc 4 1, 3) := by decide +kernel
theorem dX12_odd_78 : decode cX12_odd 78 = .ok (.goto (-37), 3) := by decide +kernel
theorem dX12_odd_81 : decode cX12_odd 81 = .ok (.iconst (-1), 1) := by decide +kernel
theorem dX12_odd_82 : decode cX12_odd 82 = .ok (.ireturn, 1) := by decide +kernel
theorem dX12_laysLengths_0 : decode cX12_laysLengths 0 = .ok (.iconst 0, 1) := by decide +kernel
theorem dX12_laysLengths_1 : decode cX12_laysLengths 1 = .ok (.istore_n 3, 1) := by decide +kernel
theorem dX12_laysLengths_2 : decode cX12_laysLengths 2 = .ok (.iload_n 3, 1) := by decide +kernel
theorem dX12_laysLengths_3 : decode cX12_laysLengths 3 = .ok (.aload_n 0, 1) := by decide +kernel
theorem dX12_laysLengths_4 : decode cX12_laysLengths 4 = .ok (.invokevirtual 379, 3) := by decide +kernel
theorem dX12_laysLengths_7 : decode cX12_laysLengths 7 = .ok (.if_icmp .ge 22, 3) := by decide +kernel
theorem dX12_laysLengths_10 : decode cX12_laysLengths 10 = .ok (.aload_n 0, 1) := by decide +kernel
theorem dX12_laysLengths_11 : decode cX12_laysLengths 11 = .ok (.getfield 143, 3) := by decide +kernel
theorem dX12_laysLengths_14 : decode cX12_laysLengths 14 = .ok (.iload_n 3, 1) := by decide +kernel
theorem dX12_laysLengths_15 : decode cX12_laysLengths 15 = .ok (.aload_n 0, 1) := by decide +kernel
theorem dX12_laysLengths_16 : decode cX12_laysLengths 16 = .ok (.iload_n 3, 1) := by decide +kernel
theorem dX12_laysLengths_17 : decode cX12_laysLengths 17 = .ok (.iload_n 1, 1) := by decide +kernel
theorem dX12_laysLengths_18 : decode cX12_laysLengths 18 = .ok (.iload_n 2, 1) := by decide +kernel
theorem dX12_laysLengths_19 : decode cX12_laysLengths 19 = .ok (.invokevirtual 417, 3) := by decide +kernel
theorem dX12_laysLengths_22 : decode cX12_laysLengths 22 = .ok (.iastore, 1) := by decide +kernel
theorem dX12_laysLengths_23 : decode cX12_laysLengths 23 = .ok (.iinc 3 1, 3) := by decide +kernel
theorem dX12_laysLengths_26 : decode cX12_laysLengths 26 = .ok (.goto (-24), 3) := by decide +kernel
theorem dX12_laysLengths_29 : decode cX12_laysLengths 29 = .ok (.return_, 1) := by decide +kernel
theorem dX12_bridge_0 : decode cX12_bridge 0 = .ok (.aload_n 0, 1) := by decide +kernel
theorem dX12_bridge_1 : decode cX12_bridge 1 = .ok (.iload_n 1, 1) := by decide +kernel
theorem dX12_bridge_2 : decode cX12_bridge 2 = .ok (.i2l, 1) := by decide +kernel
theorem dX12_bridge_3 : decode cX12_bridge 3 = .ok (.invokevirtual 441, 3) := by decide +kernel
theorem dX12_bridge_6 : decode cX12_bridge 6 = .ok (.ifCond .eq 11, 3) := by decide +kernel
theorem dX12_bridge_9 : decode cX12_bridge 9 = .ok (.aload_n 0, 1) := by decide +kernel
theorem dX12_bridge_10 : decode cX12_bridge 10 = .ok (.iload_n 2, 1) := by decide +kernel
theorem dX12_bridge_11 : decode cX12_bridge 11 = .ok (.invokevirtual 453, 3) := by decide +kernel
theorem dX12_bridge_14 : decode cX12_bridge 14 = .ok (.ifCond .ne 5, 3) := by decide +kernel
theorem dX12_bridge_17 : decode cX12_bridge 17 = .ok (.iconst (-1), 1) := by decide +kernel
theorem dX12_bridge_18 : decode cX12_bridge 18 = .ok (.ireturn, 1) := by decide +kernel
theorem dX12_bridge_19 : decode cX12_bridge 19 = .ok (.aload_n 0, 1) := by decide +kernel
theorem dX12_bridge_20 : decode cX12_bridge 20 = .ok (.iload_n 1, 1) := by decide +kernel
theorem dX12_bridge_21 : decode cX12_bridge 21 = .ok (.iload_n 2, 1) := by decide +kernel
theorem dX12_bridge_22 : decode cX12_bridge 22 = .ok (.invokevirtual 488, 3) := by decide +kernel
theorem dX12_bridge_25 : decode cX12_bridge 25 = .ok (.iconst (-1), 1) := by decide +kernel
theorem dX12_bridge_26 : decode cX12_bridge 26 = .ok (.istore_n 3, 1) := by decide +kernel
theorem dX12_bridge_27 : decode cX12_bridge 27 = .ok (.iconst 0, 1) := by decide +kernel
theorem dX12_bridge_28 : decode cX12_bridge 28 = .ok (.istore 4, 2) := by decide +kernel
theorem dX12_bridge_30 : decode cX12_bridge 30 = .ok (.iload 4, 2) := by decide +kernel
theorem dX12_bridge_32 : decode cX12_bridge 32 = .ok (.iconst 1, 1) := by decide +kernel
theorem dX12_bridge_33 : decode cX12_bridge 33 = .ok (.aload_n 0, 1) := by decide +kernel
theorem dX12_bridge_34 : decode cX12_bridge 34 = .ok (.invokevirtual 379, 3) := by decide +kernel
theorem dX12_bridge_37 : decode cX12_bridge 37 = .ok (.ishl, 1) := by decide +kernel
theorem dX12_bridge_38 : decode cX12_bridge 38 = .ok (.if_icmp .ge 87, 3) := by decide +kernel
theorem dX12_bridge_41 : decode cX12_bridge 41 = .ok (.iload_n 3, 1) := by decide +kernel
theorem dX12_bridge_42 : decode cX12_bridge 42 = .ok (.iconst (-1), 1) := by decide +kernel
theorem dX12_bridge_43 : decode cX12_bridge 43 = .ok (.if_icmp .eq 18, 3) := by decide +kernel
theorem dX12_bridge_46 : decode cX12_bridge 46 = .ok (.iload 4, 2) := by decide +kernel
theorem dX12_bridge_48 : decode cX12_bridge 48 = .ok (.invokestatic 436, 3) := by decide +kernel
theorem dX12_bridge_51 : decode cX12_bridge 51 = .ok (.iload_n 3, 1) := by decide +kernel
theorem dX12_bridge_52 : decode cX12_bridge 52 = .ok (.invokestatic 436, 3) := by decide +kernel
theorem dX12_bridge_55 : decode cX12_bridge 55 = .ok (.if_icmp .lt 6, 3) := by decide +kernel
theorem dX12_bridge_58 : decode cX12_bridge 58 = .ok (.goto 61, 3) := by decide +kernel
theorem dX12_bridge_61 : decode cX12_bridge 61 = .ok (.iconst 0, 1) := by decide +kernel
theorem dX12_bridge_62 : decode cX12_bridge 62 = .ok (.istore 5, 2) := by decide +kernel
theorem dX12_bridge_64 : decode cX12_bridge 64 = .ok (.iconst 0, 1) := by decide +kernel
theorem dX12_bridge_65 : decode cX12_bridge 65 = .ok (.istore 6, 2) := by decide +kernel
theorem dX12_bridge_67 : decode cX12_bridge 67 = .ok (.iload 6, 2) := by decide +kernel
theorem dX12_bridge_69 : decode cX12_bridge 69 = .ok (.aload_n 0, 1) := by decide +kernel
theorem dX12_bridge_70 : decode cX12_bridge 70 = .ok (.invokevirtual 379, 3) := by decide +kernel
theorem dX12_bridge_73 : decode cX12_bridge 73 = .ok (.if_icmp .ge 32, 3) := by decide +kernel
theorem dX12_bridge_76 : decode cX12_bridge 76 = .ok (.iload 4, 2) := by decide +kernel
theorem dX12_bridge_78 : decode cX12_bridge 78 = .ok (.iload 6, 2) := by decide +kernel
theorem dX12_bridge_80 : decode cX12_bridge 80 = .ok (.ishr, 1) := by decide +kernel
theorem dX12_bridge_81 : decode cX12_bridge 81 = .ok (.iconst 1, 1) := by decide +kernel
theorem dX12_bridge_82 : decode cX12_bridge 82 = .ok (.iand, 1) := by decide +kernel
theorem dX12_bridge_83 : decode cX12_bridge 83 = .ok (.iconst 1, 1) := by decide +kernel
theorem dX12_bridge_84 : decode cX12_bridge 84 = .ok (.if_icmp .ne 15, 3) := by decide +kernel
theorem dX12_bridge_87 : decode cX12_bridge 87 = .ok (.iload 5, 2) := by decide +kernel
theorem dX12_bridge_89 : decode cX12_bridge 89 = .ok (.aload_n 0, 1) := by decide +kernel
theorem dX12_bridge_90 : decode cX12_bridge 90 = .ok (.getfield 143, 3) := by decide +kernel
theorem dX12_bridge_93 : decode cX12_bridge 93 = .ok (.iload 6, 2) := by decide +kernel
theorem dX12_bridge_95 : decode cX12_bridge 95 = .ok (.iaload, 1) := by decide +kernel
theorem dX12_bridge_96 : decode cX12_bridge 96 = .ok (.iadd, 1) := by decide +kernel
theorem dX12_bridge_97 : decode cX12_bridge 97 = .ok (.istore 5, 2) := by decide +kernel
theorem dX12_bridge_99 : decode cX12_bridge 99 = .ok (.iinc 6 1, 3) := by decide +kernel
theorem dX12_bridge_102 : decode cX12_bridge 102 = .ok (.goto (-35), 3) := by decide +kernel
theorem dX12_bridge_105 : decode cX12_bridge 105 = .ok (.iload 5, 2) := by decide +kernel
theorem dX12_bridge_107 : decode cX12_bridge 107 = .ok (.aload_n 0, 1) := by decide +kernel
theorem dX12_bridge_108 : decode cX12_bridge 108 = .ok (.getfield 96, 3) := by decide +kernel
theorem dX12_bridge_111 : decode cX12_bridge 111 = .ok (.iconst 4, 1) := by decide +kernel
theorem dX12_bridge_112 : decode cX12_bridge 112 = .ok (.iaload, 1) := by decide +kernel
theorem dX12_bridge_113 : decode cX12_bridge 113 = .ok (.if_icmp .lt 6, 3) := by decide +kernel
theorem dX12_bridge_116 : decode cX12_bridge 116 = .ok (.iload 4, 2) := by decide +kernel
theorem dX12_bridge_118 : decode cX12_bridge 118 = .ok (.istore_n 3, 1) := by decide +kernel
theorem dX12_bridge_119 : decode cX12_bridge 119 = .ok (.iinc 4 1, 3) := by decide +kernel
theorem dX12_bridge_122 : decode cX12_bridge 122 = .ok (.goto (-92), 3) := by decide +kernel
theorem dX12_bridge_125 : decode cX12_bridge 125 = .ok (.iload_n 3, 1) := by decide +kernel
theorem dX12_bridge_126 : decode cX12_bridge 126 = .ok (.ireturn, 1) := by decide +kernel
theorem dX12_change_0 : decode cX12_change 0 = .ok (.aload_n 0, 1) := by decide +kernel
theorem dX12_change_1 : decode cX12_change 1 = .ok (.iload_n 1, 1) := by decide +kernel
theorem dX12_change_2 : decode cX12_change 2 = .ok (.i2l, 1) := by decide +kernel
theorem dX12_change_3 : decode cX12_change 3 = .ok (.invokevirtual 441, 3) := by decide +kernel
theorem dX12_change_6 : decode cX12_change 6 = .ok (.ifCond .eq 25, 3) := by decide +kernel
theorem dX12_change_9 : decode cX12_change 9 = .ok (.iload_n 2, 1) := by decide +kernel
theorem dX12_change_10 : decode cX12_change 10 = .ok (.i2l, 1) := by decide +kernel
theorem dX12_change_11 : decode cX12_change 11 = .ok (.lconst 0, 1) := by decide +kernel
theorem dX12_change_12 : decode cX12_change 12 = .ok (.ldc2_w 411, 3) := by decide +kernel
theorem dX12_change_15 : decode cX12_change 15 = .ok (.invokestatic 277, 3) := by decide +kernel
theorem dX12_change_18 : decode cX12_change 18 = .ok (.ifCond .eq 13, 3) := by decide +kernel
theorem dX12_change_21 : decode cX12_change 21 = .ok (.iload_n 3, 1) := by decide +kernel
theorem dX12_change_22 : decode cX12_change 22 = .ok (.i2l, 1) := by decide +kernel
theorem dX12_change_23 : decode cX12_change 23 = .ok (.lconst 0, 1) := by decide +kernel
theorem dX12_change_24 : decode cX12_change 24 = .ok (.lconst 1, 1) := by decide +kernel
theorem dX12_change_25 : decode cX12_change 25 = .ok (.invokestatic 277, 3) := by decide +kernel
theorem dX12_change_28 : decode cX12_change 28 = .ok (.ifCond .ne 5, 3) := by decide +kernel
theorem dX12_change_31 : decode cX12_change 31 = .ok (.iconst (-1), 1) := by decide +kernel
theorem dX12_change_32 : decode cX12_change 32 = .ok (.ireturn, 1) := by decide +kernel
theorem dX12_change_33 : decode cX12_change 33 = .ok (.aload_n 0, 1) := by decide +kernel
theorem dX12_change_34 : decode cX12_change 34 = .ok (.iload_n 1, 1) := by decide +kernel
theorem dX12_change_35 : decode cX12_change 35 = .ok (.aload_n 0, 1) := by decide +kernel
theorem dX12_change_36 : decode cX12_change 36 = .ok (.getfield 124, 3) := by decide +kernel
theorem dX12_change_39 : decode cX12_change 39 = .ok (.iconst 0, 1) := by decide +kernel
theorem dX12_change_40 : decode cX12_change 40 = .ok (.iaload, 1) := by decide +kernel
theorem dX12_change_41 : decode cX12_change 41 = .ok (.invokevirtual 488, 3) := by decide +kernel
theorem dX12_change_44 : decode cX12_change 44 = .ok (.iconst 0, 1) := by decide +kernel
theorem dX12_change_45 : decode cX12_change 45 = .ok (.istore 4, 2) := by decide +kernel
theorem dX12_change_47 : decode cX12_change 47 = .ok (.iload 4, 2) := by decide +kernel
theorem dX12_change_49 : decode cX12_change 49 = .ok (.aload_n 0, 1) := by decide +kernel
theorem dX12_change_50 : decode cX12_change 50 = .ok (.invokevirtual 379, 3) := by decide +kernel
theorem dX12_change_53 : decode cX12_change 53 = .ok (.if_icmp .ge 65, 3) := by decide +kernel
theorem dX12_change_56 : decode cX12_change 56 = .ok (.iconst 0, 1) := by decide +kernel
theorem dX12_change_57 : decode cX12_change 57 = .ok (.istore 5, 2) := by decide +kernel
theorem dX12_change_59 : decode cX12_change 59 = .ok (.iload 5, 2) := by decide +kernel
theorem dX12_change_61 : decode cX12_change 61 = .ok (.aload_n 0, 1) := by decide +kernel
theorem dX12_change_62 : decode cX12_change 62 = .ok (.invokevirtual 379, 3) := by decide +kernel
theorem dX12_change_65 : decode cX12_change 65 = .ok (.if_icmp .ge 47, 3) := by decide +kernel
theorem dX12_change_68 : decode cX12_change 68 = .ok (.iload 4, 2) := by decide +kernel
theorem dX12_change_70 : decode cX12_change 70 = .ok (.iload 5, 2) := by decide +kernel
theorem dX12_change_72 : decode cX12_change 72 = .ok (.if_icmp .eq 34, 3) := by decide +kernel
theorem dX12_change_75 : decode cX12_change 75 = .ok (.aload_n 0, 1) := by decide +kernel
theorem dX12_change_76 : decode cX12_change 76 = .ok (.getfield 143, 3) := by decide +kernel
theorem dX12_change_79 : decode cX12_change 79 = .ok (.iload 4, 2) := by decide +kernel
theorem dX12_change_81 : decode cX12_change 81 = .ok (.iaload, 1) := by decide +kernel
theorem dX12_change_82 : decode cX12_change 82 = .ok (.aload_n 0, 1) := by decide +kernel
theorem dX12_change_83 : decode cX12_change 83 = .ok (.getfield 143, 3) := by decide +kernel
theorem dX12_change_86 : decode cX12_change 86 = .ok (.iload 5, 2) := by decide +kernel
theorem dX12_change_88 : decode cX12_change 88 = .ok (.iaload, 1) := by decide +kernel
theorem dX12_change_89 : decode cX12_change 89 = .ok (.isub, 1) := by decide +kernel
theorem dX12_change_90 : decode cX12_change 90 = .ok (.iload_n 2, 1) := by decide +kernel
theorem dX12_change_91 : decode cX12_change 91 = .ok (.if_icmp .ne 15, 3) := by decide +kernel
theorem dX12_change_94 : decode cX12_change 94 = .ok (.iload_n 3, 1) := by decide +kernel
theorem dX12_change_95 : decode cX12_change 95 = .ok (.ifCond .ne 8, 3) := by decide +kernel
theorem dX12_change_98 : decode cX12_change 98 = .ok (.iload 4, 2) := by decide +kernel
theorem dX12_change_100 : decode cX12_change 100 = .ok (.goto 5, 3) := by decide +kernel
theorem dX12_change_103 : decode cX12_change 103 = .ok (.iload 5, 2) := by decide +kernel
theorem dX12_change_105 : decode cX12_change 105 = .ok (.ireturn, 1) := by decide +kernel
theorem dX12_change_106 : decode cX12_change 106 = .ok (.iinc 5 1, 3) := by decide +kernel
theorem dX12_change_109 : decode cX12_change 109 = .ok (.goto (-50), 3) := by decide +kernel
theorem dX12_change_112 : decode cX12_change 112 = .ok (.iinc 4 1, 3) := by decide +kernel
theorem dX12_change_115 : decode cX12_change 115 = .ok (.goto (-68), 3) := by decide +kernel
theorem dX12_change_118 : decode cX12_change 118 = .ok (.iconst (-1), 1) := by decide +kernel
theorem dX12_change_119 : decode cX12_change 119 = .ok (.ireturn, 1) := by decide +kernel
theorem dX12_chalked_0 : decode cX12_chalked 0 = .ok (.aload_n 0, 1) := by decide +kernel
theorem dX12_chalked_1 : decode cX12_chalked 1 = .ok (.iload_n 1, 1) := by decide +kernel
theorem dX12_chalked_2 : decode cX12_chalked 2 = .ok (.i2l, 1) := by decide +kernel
theorem dX12_chalked_3 : decode cX12_chalked 3 = .ok (.invokevirtual 441, 3) := by decide +kernel
theorem dX12_chalked_6 : decode cX12_chalked 6 = .ok (.ifCond .eq 27, 3) := by decide +kernel
theorem dX12_chalked_9 : decode cX12_chalked 9 = .ok (.iload_n 2, 1) := by decide +kernel
theorem dX12_chalked_10 : decode cX12_chalked 10 = .ok (.i2l, 1) := by decide +kernel
theorem dX12_chalked_11 : decode cX12_chalked 11 = .ok (.lconst 0, 1) := by decide +kernel
theorem dX12_chalked_12 : decode cX12_chalked 12 = .ok (.ldc2_w 411, 3) := by decide +kernel
theorem dX12_chalked_15 : decode cX12_chalked 15 = .ok (.invokestatic 277, 3) := by decide +kernel
theorem dX12_chalked_18 : decode cX12_chalked 18 = .ok (.ifCond .eq 15, 3) := by decide +kernel
theorem dX12_chalked_21 : decode cX12_chalked 21 = .ok (.iload_n 3, 1) := by decide +kernel
theorem dX12_chalked_22 : decode cX12_chalked 22 = .ok (.i2l, 1) := by decide +kernel
theorem dX12_chalked_23 : decode cX12_chalked 23 = .ok (.lconst 0, 1) := by decide +kernel
theorem dX12_chalked_24 : decode cX12_chalked 24 = .ok (.ldc2_w 456, 3) := by decide +kernel
theorem dX12_chalked_27 : decode cX12_chalked 27 = .ok (.invokestatic 277, 3) := by decide +kernel
theorem dX12_chalked_30 : decode cX12_chalked 30 = .ok (.ifCond .ne 5, 3) := by decide +kernel
theorem dX12_chalked_33 : decode cX12_chalked 33 = .ok (.iconst (-1), 1) := by decide +kernel
theorem dX12_chalked_34 : decode cX12_chalked 34 = .ok (.ireturn, 1) := by decide +kernel
theorem dX12_chalked_35 : decode cX12_chalked 35 = .ok (.iconst 0, 1) := by decide +kernel
theorem dX12_chalked_36 : decode cX12_chalked 36 = .ok (.istore 4, 2) := by decide +kernel
theorem dX12_chalked_38 : decode cX12_chalked 38 = .ok (.iconst (-1), 1) := by decide +kernel
theorem dX12_chalked_39 : decode cX12_chalked 39 = .ok (.istore 5, 2) := by decide +kernel
theorem dX12_chalked_41 : decode cX12_chalked 41 = .ok (.iconst (-1), 1) := by decide +kernel
theorem dX12_chalked_42 : decode cX12_chalked 42 = .ok (.istore 6, 2) := by decide +kernel
theorem dX12_chalked_44 : decode cX12_chalked 44 = .ok (.iconst 0, 1) := by decide +kernel
theorem dX12_chalked_45 : decode cX12_chalked 45 = .ok (.istore 7, 2) := by decide +kernel
theorem dX12_chalked_47 : decode cX12_chalked 47 = .ok (.iload 7, 2) := by decide +kernel
theorem dX12_chalked_49 : decode cX12_chalked 49 = .ok (.aload_n 0, 1) := by decide +kernel
theorem dX12_chalked_50 : decode cX12_chalked 50 = .ok (.invokevirtual 382, 3) := by decide +kernel
theorem dX12_chalked_53 : decode cX12_chalked 53 = .ok (.if_icmp .gt 63, 3) := by decide +kernel
theorem dX12_chalked_56 : decode cX12_chalked 56 = .ok (.iconst 0, 1) := by decide +kernel
theorem dX12_chalked_57 : decode cX12_chalked 57 = .ok (.istore 8, 2) := by decide +kernel
theorem dX12_chalked_59 : decode cX12_chalked 59 = .ok (.iload 8, 2) := by decide +kernel
theorem dX12_chalked_61 : decode cX12_chalked 61 = .ok (.aload_n 0, 1) := by decide +kernel
theorem dX12_chalked_62 : decode cX12_chalked 62 = .ok (.invokevirtual 379, 3) := by decide +kernel
theorem dX12_chalked_65 : decode cX12_chalked 65 = .ok (.if_icmp .ge 45, 3) := by decide +kernel
theorem dX12_chalked_68 : decode cX12_chalked 68 = .ok (.aload_n 0, 1) := by decide +kernel
theorem dX12_chalked_69 : decode cX12_chalked 69 = .ok (.iload 8, 2) := by decide +kernel
theorem dX12_chalked_71 : decode cX12_chalked 71 = .ok (.iload_n 1, 1) := by decide +kernel
theorem dX12_chalked_72 : decode cX12_chalked 72 = .ok (.iload 7, 2) := by decide +kernel
theorem dX12_chalked_74 : decode cX12_chalked 74 = .ok (.invokevirtual 417, 3) := by decide +kernel
theorem dX12_chalked_77 : decode cX12_chalked 77 = .ok (.iload_n 2, 1) := by decide +kernel
theorem dX12_chalked_78 : decode cX12_chalked 78 = .ok (.if_icmp .eq 6, 3) := by decide +kernel
theorem dX12_chalked_81 : decode cX12_chalked 81 = .ok (.goto 23, 3) := by decide +kernel
theorem dX12_chalked_84 : decode cX12_chalked 84 = .ok (.iinc 4 1, 3) := by decide +kernel
theorem dX12_chalked_87 : decode cX12_chalked 87 = .ok (.iload 5, 2) := by decide +kernel
theorem dX12_chalked_89 : decode cX12_chalked 89 = .ok (.iconst (-1), 1) := by decide +kernel
theorem dX12_chalked_90 : decode cX12_chalked 90 = .ok (.if_icmp .eq 6, 3) := by decide +kernel
theorem dX12_chalked_93 : decode cX12_chalked 93 = .ok (.goto 11, 3) := by decide +kernel
theorem dX12_chalked_96 : decode cX12_chalked 96 = .ok (.iload 7, 2) := by decide +kernel
theorem dX12_chalked_98 : decode cX12_chalked 98 = .ok (.istore 5, 2) := by decide +kernel
theorem dX12_chalked_100 : decode cX12_chalked 100 = .ok (.iload 8, 2) := by decide +kernel
theorem dX12_chalked_102 : decode cX12_chalked 102 = .ok (.istore 6, 2) := by decide +kernel
theorem dX12_chalked_104 : decode cX12_chalked 104 = .ok (.iinc 8 1, 3) := by decide +kernel
theorem dX12_chalked_107 : decode cX12_chalked 107 = .ok (.goto (-48), 3) := by decide +kernel
theorem dX12_chalked_110 : decode cX12_chalked 110 = .ok (.iinc 7 1, 3) := by decide +kernel
theorem dX12_chalked_113 : decode cX12_chalked 113 = .ok (.goto (-66), 3) := by decide +kernel
theorem dX12_chalked_116 : decode cX12_chalked 116 = .ok (.iload_n 3, 1) := by decide +kernel
theorem dX12_chalked_117 : decode cX12_chalked 117 = .ok (.ifCond .ne 8, 3) := by decide +kernel
theorem dX12_chalked_120 : decode cX12_chalked 120 = .ok (.iload 4, 2) := by decide +kernel
theorem dX12_chalked_122 : decode cX12_chalked 122 = .ok (.goto 15, 3) := by decide +kernel
theorem dX12_chalked_125 : decode cX12_chalked 125 = .ok (.iload_n 3, 1) := by decide +kernel
theorem dX12_chalked_126 : decode cX12_chalked 126 = .ok (.iconst 1, 1) := by decide +kernel
theorem dX12_chalked_127 : decode cX12_chalked 127 = .ok (.if_icmp .ne 8, 3) := by decide +kernel
theorem dX12_chalked_130 : decode cX12_chalked 130 = .ok (.iload 5, 2) := by decide +kernel
theorem dX12_chalked_132 : decode cX12_chalked 132 = .ok (.goto 5, 3) := by decide +kernel
theorem dX12_chalked_135 : decode cX12_chalked 135 = .ok (.iload 6, 2) := by decide +kernel
theorem dX12_chalked_137 : decode cX12_chalked 137 = .ok (.ireturn, 1) := by decide +kernel
theorem dX12_refuses_0 : decode cX12_refuses 0 = .ok (.aload_n 0, 1) := by decide +kernel
theorem dX12_refuses_1 : decode cX12_refuses 1 = .ok (.getfield 17, 3) := by decide +kernel
theorem dX12_refuses_4 : decode cX12_refuses 4 = .ok (.iload_n 1, 1) := by decide +kernel
theorem dX12_refuses_5 : decode cX12_refuses 5 = .ok (.dup2, 1) := by decide +kernel
theorem dX12_refuses_6 : decode cX12_refuses 6 = .ok (.iaload, 1) := by decide +kernel
theorem dX12_refuses_7 : decode cX12_refuses 7 = .ok (.iconst 1, 1) := by decide +kernel
theorem dX12_refuses_8 : decode cX12_refuses 8 = .ok (.iadd, 1) := by decide +kernel
theorem dX12_refuses_9 : decode cX12_refuses 9 = .ok (.iastore, 1) := by decide +kernel
theorem dX12_refuses_10 : decode cX12_refuses 10 = .ok (.iconst (-1), 1) := by decide +kernel
theorem dX12_refuses_11 : decode cX12_refuses 11 = .ok (.ireturn, 1) := by decide +kernel
theorem dX12_see_0 : decode cX12_see 0 = .ok (.aload_n 0, 1) := by decide +kernel
theorem dX12_see_1 : decode cX12_see 1 = .ok (.getfield 234, 3) := by decide +kernel
theorem dX12_see_4 : decode cX12_see 4 = .ok (.istore_n 1, 1) := by decide +kernel
theorem dX12_see_5 : decode cX12_see 5 = .ok (.aload_n 0, 1) := by decide +kernel
theorem dX12_see_6 : decode cX12_see 6 = .ok (.iconst 0, 1) := by decide +kernel
theorem dX12_see_7 : decode cX12_see 7 = .ok (.putfield 234, 3) := by decide +kernel
theorem dX12_see_10 : decode cX12_see 10 = .ok (.aload_n 0, 1) := by decide +kernel
theorem dX12_see_11 : decode cX12_see 11 = .ok (.getfield 366, 3) := by decide +kernel
theorem dX12_see_14 : decode cX12_see 14 = .ok (.ifCond .eq 25, 3) := by decide +kernel
theorem dX12_see_17 : decode cX12_see 17 = .ok (.iload_n 1, 1) := by decide +kernel
theorem dX12_see_18 : decode cX12_see 18 = .ok (.ifCond .le 21, 3) := by decide +kernel
theorem dX12_see_21 : decode cX12_see 21 = .ok (.iload_n 1, 1) := by decide +kernel
theorem dX12_see_22 : decode cX12_see 22 = .ok (.iconst 4, 1) := by decide +kernel
theorem dX12_see_23 : decode cX12_see 23 = .ok (.irem, 1) := by decide +kernel
theorem dX12_see_24 : decode cX12_see 24 = .ok (.ifCond .ne 15, 3) := by decide +kernel
theorem dX12_see_27 : decode cX12_see 27 = .ok (.iload_n 1, 1) := by decide +kernel
theorem dX12_see_28 : decode cX12_see 28 = .ok (.iconst 4, 1) := by decide +kernel
theorem dX12_see_29 : decode cX12_see 29 = .ok (.idiv, 1) := by decide +kernel
theorem dX12_see_30 : decode cX12_see 30 = .ok (.bipush 16, 2) := by decide +kernel
theorem dX12_see_32 : decode cX12_see 32 = .ok (.if_icmp .gt 7, 3) := by decide +kernel
theorem dX12_see_35 : decode cX12_see 35 = .ok (.iconst 1, 1) := by decide +kernel
theorem dX12_see_36 : decode cX12_see 36 = .ok (.goto 4, 3) := by decide +kernel
theorem dX12_see_39 : decode cX12_see 39 = .ok (.iconst 0, 1) := by decide +kernel
theorem dX12_see_40 : decode cX12_see 40 = .ok (.istore_n 2, 1) := by decide +kernel
theorem dX12_see_41 : decode cX12_see 41 = .ok (.iconst 0, 1) := by decide +kernel
theorem dX12_see_42 : decode cX12_see 42 = .ok (.istore_n 3, 1) := by decide +kernel
theorem dX12_see_43 : decode cX12_see 43 = .ok (.iload_n 3, 1) := by decide +kernel
theorem dX12_see_44 : decode cX12_see 44 = .ok (.iload_n 1, 1) := by decide +kernel
theorem dX12_see_45 : decode cX12_see 45 = .ok (.if_icmp .ge 48, 3) := by decide +kernel
theorem dX12_see_48 : decode cX12_see 48 = .ok (.iload_n 2, 1) := by decide +kernel
theorem dX12_see_49 : decode cX12_see 49 = .ok (.ifCond .eq 44, 3) := by decide +kernel
theorem dX12_see_52 : decode cX12_see 52 = .ok (.aload_n 0, 1) := by decide +kernel
theorem dX12_see_53 : decode cX12_see 53 = .ok (.aload_n 0, 1) := by decide +kernel
theorem dX12_see_54 : decode cX12_see 54 = .ok (.getfield 7, 3) := by decide +kernel
theorem dX12_see_57 : decode cX12_see 57 = .ok (.iload_n 3, 1) := by decide +kernel
theorem dX12_see_58 : decode cX12_see 58 = .ok (.iaload, 1) := by decide +kernel
theorem dX12_see_59 : decode cX12_see 59 = .ok (.invokevirtual 450, 3) := by decide +kernel
theorem dX12_see_62 : decode cX12_see 62 = .ok (.ifCond .eq 23, 3) := by decide +kernel
theorem dX12_see_65 : decode cX12_see 65 = .ok (.aload_n 0, 1) := by decide +kernel
theorem dX12_see_66 : decode cX12_see 66 = .ok (.aload_n 0, 1) := by decide +kernel
theorem dX12_see_67 : decode cX12_see 67 = .ok (.getfield 7, 3) := by decide +kernel
theorem dX12_see_70 : decode cX12_see 70 = .ok (.iload_n 3, 1) := by decide +kernel
theorem dX12_see_71 : decode cX12_see 71 = .ok (.iconst 1, 1) := by decide +kernel
theorem dX12_see_72 : decode cX12_see 72 = .ok (.iadd, 1) := by decide +kernel
theorem dX12_see_73 : decode cX12_see 73 = .ok (.iaload, 1) := by decide +kernel
theorem dX12_see_74 : decode cX12_see 74 = .ok (.i2l, 1) := by decide +kernel
theorem dX12_see_75 : decode cX12_see 75 = .ok (.invokevirtual 441, 3) := by decide +kernel
theorem dX12_see_78 : decode cX12_see 78 = .ok (.ifCond .eq 7, 3) := by decide +kernel
theorem dX12_see_81 : decode cX12_see 81 = .ok (.iconst 1, 1) := by decide +kernel
theorem dX12_see_82 : decode cX12_see 82 = .ok (.goto 4, 3) := by decide +kernel
theorem dX12_see_85 : decode cX12_see 85 = .ok (.iconst 0, 1) := by decide +kernel
theorem dX12_see_86 : decode cX12_see 86 = .ok (.istore_n 2, 1) := by decide +kernel
theorem dX12_see_87 : decode cX12_see 87 = .ok (.iinc 3 4, 3) := by decide +kernel
theorem dX12_see_90 : decode cX12_see 90 = .ok (.goto (-47), 3) := by decide +kernel
theorem dX12_see_93 : decode cX12_see 93 = .ok (.iload_n 2, 1) := by decide +kernel
theorem dX12_see_94 : decode cX12_see 94 = .ok (.ifCond .ne 9, 3) := by decide +kernel
theorem dX12_see_97 : decode cX12_see 97 = .ok (.aload_n 0, 1) := by decide +kernel
theorem dX12_see_98 : decode cX12_see 98 = .ok (.iconst 1, 1) := by decide +kernel
theorem dX12_see_99 : decode cX12_see 99 = .ok (.invokevirtual 491, 3) := by decide +kernel
theorem dX12_see_102 : decode cX12_see 102 = .ok (.ireturn, 1) := by decide +kernel
theorem dX12_see_103 : decode cX12_see 103 = .ok (.aload_n 0, 1) := by decide +kernel
theorem dX12_see_104 : decode cX12_see 104 = .ok (.iload_n 1, 1) := by decide +kernel
theorem dX12_see_105 : decode cX12_see 105 = .ok (.iconst 4, 1) := by decide +kernel
theorem dX12_see_106 : decode cX12_see 106 = .ok (.idiv, 1) := by decide +kernel
theorem dX12_see_107 : decode cX12_see 107 = .ok (.putfield 373, 3) := by decide +kernel
theorem dX12_see_110 : decode cX12_see 110 = .ok (.iconst 0, 1) := by decide +kernel
theorem dX12_see_111 : decode cX12_see 111 = .ok (.istore_n 3, 1) := by decide +kernel
theorem dX12_see_112 : decode cX12_see 112 = .ok (.iload_n 3, 1) := by decide +kernel
theorem dX12_see_113 : decode cX12_see 113 = .ok (.aload_n 0, 1) := by decide +kernel
theorem dX12_see_114 : decode cX12_see 114 = .ok (.getfield 373, 3) := by decide +kernel
theorem dX12_see_117 : decode cX12_see 117 = .ok (.if_icmp .ge 80, 3) := by decide +kernel
theorem dX12_see_120 : decode cX12_see 120 = .ok (.aload_n 0, 1) := by decide +kernel
theorem dX12_see_121 : decode cX12_see 121 = .ok (.getfield 146, 3) := by decide +kernel
theorem dX12_see_124 : decode cX12_see 124 = .ok (.iconst 3, 1) := by decide +kernel
theorem dX12_see_125 : decode cX12_see 125 = .ok (.iload_n 3, 1) := by decide +kernel
theorem dX12_see_126 : decode cX12_see 126 = .ok (.imul, 1) := by decide +kernel
theorem dX12_see_127 : decode cX12_see 127 = .ok (.aload_n 0, 1) := by decide +kernel
theorem dX12_see_128 : decode cX12_see 128 = .ok (.getfield 7, 3) := by decide +kernel
theorem dX12_see_131 : decode cX12_see 131 = .ok (.iconst 4, 1) := by decide +kernel
theorem dX12_see_132 : decode cX12_see 132 = .ok (.iload_n 3, 1) := by decide +kernel
theorem dX12_see_133 : decode cX12_see 133 = .ok (.imul, 1) := by decide +kernel
theorem dX12_see_134 : decode cX12_see 134 = .ok (.iaload, 1) := by decide +kernel
theorem dX12_see_135 : decode cX12_see 135 = .ok (.iastore, 1) := by decide +kernel
theorem dX12_see_136 : decode cX12_see 136 = .ok (.aload_n 0, 1) := by decide +kernel
theorem dX12_see_137 : decode cX12_see 137 = .ok (.getfield 146, 3) := by decide +kernel
theorem dX12_see_140 : decode cX12_see 140 = .ok (.iconst 3, 1) := by decide +kernel
theorem dX12_see_141 : decode cX12_see 141 = .ok (.iload_n 3, 1) := by decide +kernel
theorem dX12_see_142 : decode cX12_see 142 = .ok (.imul, 1) := by decide +kernel
theorem dX12_see_143 : decode cX12_see 143 = .ok (.iconst 1, 1) := by decide +kernel
theorem dX12_see_144 : decode cX12_see 144 = .ok (.iadd, 1) := by decide +kernel
theorem dX12_see_145 : decode cX12_see 145 = .ok (.aload_n 0, 1) := by decide +kernel
theorem dX12_see_146 : decode cX12_see 146 = .ok (.getfield 7, 3) := by decide +kernel
theorem dX12_see_149 : decode cX12_see 149 = .ok (.iconst 4, 1) := by decide +kernel
theorem dX12_see_150 : decode cX12_see 150 = .ok (.iload_n 3, 1) := by decide +kernel
theorem dX12_see_151 : decode cX12_see 151 = .ok (.imul, 1) := by decide +kernel
theorem dX12_see_152 : decode cX12_see 152 = .ok (.iconst 1, 1) := by decide +kernel
theorem dX12_see_153 : decode cX12_see 153 = .ok (.iadd, 1) := by decide +kernel
theorem dX12_see_154 : decode cX12_see 154 = .ok (.iaload, 1) := by decide +kernel
theorem dX12_see_155 : decode cX12_see 155 = .ok (.iastore, 1) := by decide +kernel
theorem dX12_see_156 : decode cX12_see 156 = .ok (.aload_n 0, 1) := by decide +kernel
theorem dX12_see_157 : decode cX12_see 157 = .ok (.getfield 146, 3) := by decide +kernel
theorem dX12_see_160 : decode cX12_see 160 = .ok (.iconst 3, 1) := by decide +kernel
theorem dX12_see_161 : decode cX12_see 161 = .ok (.iload_n 3, 1) := by decide +kernel
theorem dX12_see_162 : decode cX12_see 162 = .ok (.imul, 1) := by decide +kernel
theorem dX12_see_163 : decode cX12_see 163 = .ok (.iconst 2, 1) := by decide +kernel
theorem dX12_see_164 : decode cX12_see 164 = .ok (.iadd, 1) := by decide +kernel
theorem dX12_see_165 : decode cX12_see 165 = .ok (.sipush 256, 3) := by decide +kernel
theorem dX12_see_168 : decode cX12_see 168 = .ok (.aload_n 0, 1) := by decide +kernel
theorem dX12_see_169 : decode cX12_see 169 = .ok (.getfield 7, 3) := by decide +kernel
theorem dX12_see_172 : decode cX12_see 172 = .ok (.iconst 4, 1) := by decide +kernel
theorem dX12_see_173 : decode cX12_see 173 = .ok (.iload_n 3, 1) := by decide +kernel
theorem dX12_see_174 : decode cX12_see 174 = .ok (.imul, 1) := by decide +kernel
theorem dX12_see_175 : decode cX12_see 175 = .ok (.iconst 2, 1) := by decide +kernel
theorem dX12_see_176 : decode cX12_see 176 = .ok (.iadd, 1) := by decide +kernel
theorem dX12_see_177 : decode cX12_see 177 = .ok (.iaload, 1) := by decide +kernel
theorem dX12_see_178 : decode cX12_see 178 = .ok (.imul, 1) := by decide +kernel
theorem dX12_see_179 : decode cX12_see 179 = .ok (.aload_n 0, 1) := by decide +kernel
theorem dX12_see_180 : decode cX12_see 180 = .ok (.getfield 7, 3) := by decide +kernel
theorem dX12_see_183 : decode cX12_see 183 = .ok (.iconst 4, 1) := by decide +kernel
theorem dX12_see_184 : decode cX12_see 184 = .ok (.iload_n 3, 1) := by decide +kernel
theorem dX12_see_185 : decode cX12_see 185 = .ok (.imul, 1) := by decide +kernel
theorem dX12_see_186 : decode cX12_see 186 = .ok (.iconst 3, 1) := by decide +kernel
theorem dX12_see_187 : decode cX12_see 187 = .ok (.iadd, 1) := by decide +kernel
theorem dX12_see_188 : decode cX12_see 188 = .ok (.iaload, 1) := by decide +kernel
theorem dX12_see_189 : decode cX12_see 189 = .ok (.iadd, 1) := by decide +kernel
theorem dX12_see_190 : decode cX12_see 190 = .ok (.iastore, 1) := by decide +kernel
theorem dX12_see_191 : decode cX12_see 191 = .ok (.iinc 3 1, 3) := by decide +kernel
theorem dX12_see_194 : decode cX12_see 194 = .ok (.goto (-82), 3) := by decide +kernel
theorem dX12_see_197 : decode cX12_see 197 = .ok (.aload_n 0, 1) := by decide +kernel
theorem dX12_see_198 : decode cX12_see 198 = .ok (.getfield 373, 3) := by decide +kernel
theorem dX12_see_201 : decode cX12_see 201 = .ok (.ireturn, 1) := by decide +kernel
theorem dX12_lampsIn_0 : decode cX12_lampsIn 0 = .ok (.iconst 0, 1) := by decide +kernel
theorem dX12_lampsIn_1 : decode cX12_lampsIn 1 = .ok (.istore_n 2, 1) := by decide +kernel
theorem dX12_lampsIn_2 : decode cX12_lampsIn 2 = .ok (.iconst 0, 1) := by decide +kernel
theorem dX12_lampsIn_3 : decode cX12_lampsIn 3 = .ok (.istore_n 3, 1) := by decide +kernel
theorem dX12_lampsIn_4 : decode cX12_lampsIn 4 = .ok (.iload_n 3, 1) := by decide +kernel
theorem dX12_lampsIn_5 : decode cX12_lampsIn 5 = .ok (.aload_n 0, 1) := by decide +kernel
theorem dX12_lampsIn_6 : decode cX12_lampsIn 6 = .ok (.getfield 373, 3) := by decide +kernel
theorem dX12_lampsIn_9 : decode cX12_lampsIn 9 = .ok (.if_icmp .ge 51, 3) := by decide +kernel
theorem dX12_lampsIn_12 : decode cX12_lampsIn 12 = .ok (.aload_n 0, 1) := by decide +kernel
theorem dX12_lampsIn_13 : decode cX12_lampsIn 13 = .ok (.aload_n 0, 1) := by decide +kernel
theorem dX12_lampsIn_14 : decode cX12_lampsIn 14 = .ok (.getfield 146, 3) := by decide +kernel
theorem dX12_lampsIn_17 : decode cX12_lampsIn 17 = .ok (.iconst 3, 1) := by decide +kernel
theorem dX12_lampsIn_18 : decode cX12_lampsIn 18 = .ok (.iload_n 3, 1) := by decide +kernel
theorem dX12_lampsIn_19 : decode cX12_lampsIn 19 = .ok (.imul, 1) := by decide +kernel
theorem dX12_lampsIn_20 : decode cX12_lampsIn 20 = .ok (.iaload, 1) := by decide +kernel
theorem dX12_lampsIn_21 : decode cX12_lampsIn 21 = .ok (.aload_n 0, 1) := by decide +kernel
theorem dX12_lampsIn_22 : decode cX12_lampsIn 22 = .ok (.getfield 146, 3) := by decide +kernel
theorem dX12_lampsIn_25 : decode cX12_lampsIn 25 = .ok (.iconst 3, 1) := by decide +kernel
theorem dX12_lampsIn_26 : decode cX12_lampsIn 26 = .ok (.iload_n 3, 1) := by decide +kernel
theorem dX12_lampsIn_27 : decode cX12_lampsIn 27 = .ok (.imul, 1) := by decide +kernel
theorem dX12_lampsIn_28 : decode cX12_lampsIn 28 = .ok (.iconst 1, 1) := by decide +kernel
theorem dX12_lampsIn_29 : decode cX12_lampsIn 29 = .ok (.iadd, 1) := by decide +kernel
theorem dX12_lampsIn_30 : decode cX12_lampsIn 30 = .ok (.iaload, 1) := by decide +kernel
theorem dX12_lampsIn_31 : decode cX12_lampsIn 31 = .ok (.iload_n 1, 1) := by decide +kernel
theorem dX12_lampsIn_32 : decode cX12_lampsIn 32 = .ok (.invokevirtual 417, 3) := by decide +kernel
theorem dX12_lampsIn_35 : decode cX12_lampsIn 35 = .ok (.aload_n 0, 1) := by decide +kernel
theorem dX12_lampsIn_36 : decode cX12_lampsIn 36 = .ok (.getfield 146, 3) := by decide +kernel
theorem dX12_lampsIn_39 : decode cX12_lampsIn 39 = .ok (.iconst 3, 1) := by decide +kernel
theorem dX12_lampsIn_40 : decode cX12_lampsIn 40 = .ok (.iload_n 3, 1) := by decide +kernel
theorem dX12_lampsIn_41 : decode cX12_lampsIn 41 = .ok (.imul, 1) := by decide +kernel
theorem dX12_lampsIn_42 : decode cX12_lampsIn 42 = .ok (.iconst 2, 1) := by decide +kernel
theorem dX12_lampsIn_43 : decode cX12_lampsIn 43 = .ok (.iadd, 1) := by decide +kernel
theorem dX12_lampsIn_44 : decode cX12_lampsIn 44 = .ok (.iaload, 1) := by decide +kernel
theorem dX12_lampsIn_45 : decode cX12_lampsIn 45 = .ok (.if_icmp .eq 9, 3) := by decide +kernel
theorem dX12_lampsIn_48 : decode cX12_lampsIn 48 = .ok (.iload_n 2, 1) := by decide +kernel
theorem dX12_lampsIn_49 : decode cX12_lampsIn 49 = .ok (.iconst 1, 1) := by decide +kernel
theorem dX12_lampsIn_50 : decode cX12_lampsIn 50 = .ok (.iload_n 3, 1) := by decide +kernel
theorem dX12_lampsIn_51 : decode cX12_lampsIn 51 = .ok (.ishl, 1) := by decide +kernel
theorem dX12_lampsIn_52 : decode cX12_lampsIn 52 = .ok (.ior, 1) := by decide +kernel
theorem dX12_lampsIn_53 : decode cX12_lampsIn 53 = .ok (.istore_n 2, 1) := by decide +kernel
theorem dX12_lampsIn_54 : decode cX12_lampsIn 54 = .ok (.iinc 3 1, 3) := by decide +kernel
theorem dX12_lampsIn_57 : decode cX12_lampsIn 57 = .ok (.goto (-53), 3) := by decide +kernel
theorem dX12_lampsIn_60 : decode cX12_lampsIn 60 = .ok (.iload_n 2, 1) := by decide +kernel
theorem dX12_lampsIn_61 : decode cX12_lampsIn 61 = .ok (.ireturn, 1) := by decide +kernel
theorem dX12_minutes_0 : decode cX12_minutes 0 = .ok (.aload_n 0, 1) := by decide +kernel
theorem dX12_minutes_1 : decode cX12_minutes 1 = .ok (.getfield 366, 3) := by decide +kernel
theorem dX12_minutes_4 : decode cX12_minutes 4 = .ok (.ifCond .eq 15, 3) := by decide +kernel
theorem dX12_minutes_7 : decode cX12_minutes 7 = .ok (.iload_n 1, 1) := by decide +kernel
theorem dX12_minutes_8 : decode cX12_minutes 8 = .ok (.i2l, 1) := by decide +kernel
theorem dX12_minutes_9 : decode cX12_minutes 9 = .ok (.lconst 0, 1) := by decide +kernel
theorem dX12_minutes_10 : decode cX12_minutes 10 = .ok (.ldc2_w 456, 3) := by decide +kernel
theorem dX12_minutes_13 : decode cX12_minutes 13 = .ok (.invokestatic 277, 3) := by decide +kernel
theorem dX12_minutes_16 : decode cX12_minutes 16 = .ok (.ifCond .ne 5, 3) := by decide +kernel
theorem dX12_minutes_19 : decode cX12_minutes 19 = .ok (.iconst (-1), 1) := by decide +kernel
theorem dX12_minutes_20 : decode cX12_minutes 20 = .ok (.ireturn, 1) := by decide +kernel
theorem dX12_minutes_21 : decode cX12_minutes 21 = .ok (.iconst 0, 1) := by decide +kernel
theorem dX12_minutes_22 : decode cX12_minutes 22 = .ok (.istore_n 2, 1) := by decide +kernel
theorem dX12_minutes_23 : decode cX12_minutes 23 = .ok (.iconst (-1), 1) := by decide +kernel
theorem dX12_minutes_24 : decode cX12_minutes 24 = .ok (.istore_n 3, 1) := by decide +kernel
theorem dX12_minutes_25 : decode cX12_minutes 25 = .ok (.iconst (-1), 1) := by decide +kernel
theorem dX12_minutes_26 : decode cX12_minutes 26 = .ok (.istore 4, 2) := by decide +kernel
theorem dX12_minutes_28 : decode cX12_minutes 28 = .ok (.iconst 0, 1) := by decide +kernel
theorem dX12_minutes_29 : decode cX12_minutes 29 = .ok (.istore 5, 2) := by decide +kernel
theorem dX12_minutes_31 : decode cX12_minutes 31 = .ok (.iload 5, 2) := by decide +kernel
theorem dX12_minutes_33 : decode cX12_minutes 33 = .ok (.aload_n 0, 1) := by decide +kernel
theorem dX12_minutes_34 : decode cX12_minutes 34 = .ok (.invokevirtual 382, 3) := by decide +kernel
theorem dX12_minutes_37 : decode cX12_minutes 37 = .ok (.if_icmp .gt 36, 3) := by decide +kernel
theorem dX12_minutes_40 : decode cX12_minutes 40 = .ok (.aload_n 0, 1) := by decide +kernel
theorem dX12_minutes_41 : decode cX12_minutes 41 = .ok (.iload 5, 2) := by decide +kernel
theorem dX12_minutes_43 : decode cX12_minutes 43 = .ok (.invokevirtual 494, 3) := by decide +kernel
theorem dX12_minutes_46 : decode cX12_minutes 46 = .ok (.ifCond .eq 6, 3) := by decide +kernel
theorem dX12_minutes_49 : decode cX12_minutes 49 = .ok (.goto 18, 3) := by decide +kernel
theorem dX12_minutes_52 : decode cX12_minutes 52 = .ok (.iinc 2 1, 3) := by decide +kernel
theorem dX12_minutes_55 : decode cX12_minutes 55 = .ok (.iload_n 3, 1) := by decide +kernel
theorem dX12_minutes_56 : decode cX12_minutes 56 = .ok (.iconst (-1), 1) := by decide +kernel
theorem dX12_minutes_57 : decode cX12_minutes 57 = .ok (.if_icmp .ne 6, 3) := by decide +kernel
theorem dX12_minutes_60 : decode cX12_minutes 60 = .ok (.iload 5, 2) := by decide +kernel
theorem dX12_minutes_62 : decode cX12_minutes 62 = .ok (.istore_n 3, 1) := by decide +kernel
theorem dX12_minutes_63 : decode cX12_minutes 63 = .ok (.iload 5, 2) := by decide +kernel
theorem dX12_minutes_65 : decode cX12_minutes 65 = .ok (.istore 4, 2) := by decide +kernel
theorem dX12_minutes_67 : decode cX12_minutes 67 = .ok (.iinc 5 1, 3) := by decide +kernel
theorem dX12_minutes_70 : decode cX12_minutes 70 = .ok (.goto (-39), 3) := by decide +kernel
theorem dX12_minutes_73 : decode cX12_minutes 73 = .ok (.iload_n 1, 1) := by decide +kernel
theorem dX12_minutes_74 : decode cX12_minutes 74 = .ok (.ifCond .ne 7, 3) := by decide +kernel
theorem dX12_minutes_77 : decode cX12_minutes 77 = .ok (.iload_n 2, 1) := by decide +kernel
theorem dX12_minutes_78 : decode cX12_minutes 78 = .ok (.goto 14, 3) := by decide +kernel
theorem dX12_minutes_81 : decode cX12_minutes 81 = .ok (.iload_n 1, 1) := by decide +kernel
theorem dX12_minutes_82 : decode cX12_minutes 82 = .ok (.iconst 1, 1) := by decide +kernel
theorem dX12_minutes_83 : decode cX12_minutes 83 = .ok (.if_icmp .ne 7, 3) := by decide +kernel
theorem dX12_minutes_86 : decode cX12_minutes 86 = .ok (.iload_n 3, 1) := by decide +kernel
theorem dX12_minutes_87 : decode cX12_minutes 87 = .ok (.goto 5, 3) := by decide +kernel
theorem dX12_minutes_90 : decode cX12_minutes 90 = .ok (.iload 4, 2) := by decide +kernel
theorem dX12_minutes_92 : decode cX12_minutes 92 = .ok (.ireturn, 1) := by decide +kernel
theorem dX12_lamps_0 : decode cX12_lamps 0 = .ok (.aload_n 0, 1) := by decide +kernel
theorem dX12_lamps_1 : decode cX12_lamps 1 = .ok (.getfield 366, 3) := by decide +kernel
theorem dX12_lamps_4 : decode cX12_lamps 4 = .ok (.ifCond .eq 15, 3) := by decide +kernel
theorem dX12_lamps_7 : decode cX12_lamps 7 = .ok (.iload_n 1, 1) := by decide +kernel
theorem dX12_lamps_8 : decode cX12_lamps 8 = .ok (.i2l, 1) := by decide +kernel
theorem dX12_lamps_9 : decode cX12_lamps 9 = .ok (.lconst 0, 1) := by decide +kernel
theorem dX12_lamps_10 : decode cX12_lamps 10 = .ok (.ldc2_w 456, 3) := by decide +kernel
theorem dX12_lamps_13 : decode cX12_lamps 13 = .ok (.invokestatic 277, 3) := by decide +kernel
theorem dX12_lamps_16 : decode cX12_lamps 16 = .ok (.ifCond .ne 5, 3) := by decide +kernel
theorem dX12_lamps_19 : decode cX12_lamps 19 = .ok (.iconst (-1), 1) := by decide +kernel
theorem dX12_lamps_20 : decode cX12_lamps 20 = .ok (.ireturn, 1) := by decide +kernel
theorem dX12_lamps_21 : decode cX12_lamps 21 = .ok (.iconst (-1), 1) := by decide +kernel
theorem dX12_lamps_22 : decode cX12_lamps 22 = .ok (.istore_n 2, 1) := by decide +kernel
theorem dX12_lamps_23 : decode cX12_lamps 23 = .ok (.iconst (-1), 1) := by decide +kernel
theorem dX12_lamps_24 : decode cX12_lamps 24 = .ok (.istore_n 3, 1) := by decide +kernel
theorem dX12_lamps_25 : decode cX12_lamps 25 = .ok (.iconst 0, 1) := by decide +kernel
theorem dX12_lamps_26 : decode cX12_lamps 26 = .ok (.istore 4, 2) := by decide +kernel
theorem dX12_lamps_28 : decode cX12_lamps 28 = .ok (.iload 4, 2) := by decide +kernel
theorem dX12_lamps_30 : decode cX12_lamps 30 = .ok (.aload_n 0, 1) := by decide +kernel
theorem dX12_lamps_31 : decode cX12_lamps 31 = .ok (.invokevirtual 382, 3) := by decide +kernel
theorem dX12_lamps_34 : decode cX12_lamps 34 = .ok (.if_icmp .gt 43, 3) := by decide +kernel
theorem dX12_lamps_37 : decode cX12_lamps 37 = .ok (.aload_n 0, 1) := by decide +kernel
theorem dX12_lamps_38 : decode cX12_lamps 38 = .ok (.iload 4, 2) := by decide +kernel
theorem dX12_lamps_40 : decode cX12_lamps 40 = .ok (.invokevirtual 494, 3) := by decide +kernel
theorem dX12_lamps_43 : decode cX12_lamps 43 = .ok (.istore 5, 2) := by decide +kernel
theorem dX12_lamps_45 : decode cX12_lamps 45 = .ok (.iload_n 2, 1) := by decide +kernel
theorem dX12_lamps_46 : decode cX12_lamps 46 = .ok (.iconst (-1), 1) := by decide +kernel
theorem dX12_lamps_47 : decode cX12_lamps 47 = .ok (.if_icmp .eq 18, 3) := by decide +kernel
theorem dX12_lamps_50 : decode cX12_lamps 50 = .ok (.iload 5, 2) := by decide +kernel
theorem dX12_lamps_52 : decode cX12_lamps 52 = .ok (.invokestatic 436, 3) := by decide +kernel
theorem dX12_lamps_55 : decode cX12_lamps 55 = .ok (.iload_n 2, 1) := by decide +kernel
theorem dX12_lamps_56 : decode cX12_lamps 56 = .ok (.invokestatic 436, 3) := by decide +kernel
theorem dX12_lamps_59 : decode cX12_lamps 59 = .ok (.if_icmp .lt 6, 3) := by decide +kernel
theorem dX12_lamps_62 : decode cX12_lamps 62 = .ok (.goto 9, 3) := by decide +kernel
theorem dX12_lamps_65 : decode cX12_lamps 65 = .ok (.iload 5, 2) := by decide +kernel
theorem dX12_lamps_67 : decode cX12_lamps 67 = .ok (.istore_n 2, 1) := by decide +kernel
theorem dX12_lamps_68 : decode cX12_lamps 68 = .ok (.iload 4, 2) := by decide +kernel
theorem dX12_lamps_70 : decode cX12_lamps 70 = .ok (.istore_n 3, 1) := by decide +kernel
theorem dX12_lamps_71 : decode cX12_lamps 71 = .ok (.iinc 4 1, 3) := by decide +kernel
theorem dX12_lamps_74 : decode cX12_lamps 74 = .ok (.goto (-46), 3) := by decide +kernel
theorem dX12_lamps_77 : decode cX12_lamps 77 = .ok (.iload_n 1, 1) := by decide +kernel
theorem dX12_lamps_78 : decode cX12_lamps 78 = .ok (.ifCond .ne 10, 3) := by decide +kernel
theorem dX12_lamps_81 : decode cX12_lamps 81 = .ok (.iload_n 2, 1) := by decide +kernel
theorem dX12_lamps_82 : decode cX12_lamps 82 = .ok (.invokestatic 436, 3) := by decide +kernel
theorem dX12_lamps_85 : decode cX12_lamps 85 = .ok (.goto 13, 3) := by decide +kernel
theorem dX12_lamps_88 : decode cX12_lamps 88 = .ok (.iload_n 1, 1) := by decide +kernel
theorem dX12_lamps_89 : decode cX12_lamps 89 = .ok (.iconst 1, 1) := by decide +kernel
theorem dX12_lamps_90 : decode cX12_lamps 90 = .ok (.if_icmp .ne 7, 3) := by decide +kernel
theorem dX12_lamps_93 : decode cX12_lamps 93 = .ok (.iload_n 2, 1) := by decide +kernel
theorem dX12_lamps_94 : decode cX12_lamps 94 = .ok (.goto 4, 3) := by decide +kernel
theorem dX12_lamps_97 : decode cX12_lamps 97 = .ok (.iload_n 3, 1) := by decide +kernel
theorem dX12_lamps_98 : decode cX12_lamps 98 = .ok (.ireturn, 1) := by decide +kernel
theorem dX12_keeps_0 : decode cX12_keeps 0 = .ok (.aload_n 0, 1) := by decide +kernel
theorem dX12_keeps_1 : decode cX12_keeps 1 = .ok (.aload_n 0, 1) := by decide +kernel
theorem dX12_keeps_2 : decode cX12_keeps 2 = .ok (.getfield 497, 3) := by decide +kernel
theorem dX12_keeps_5 : decode cX12_keeps 5 = .ok (.iconst 1, 1) := by decide +kernel
theorem dX12_keeps_6 : decode cX12_keeps 6 = .ok (.iadd, 1) := by decide +kernel
theorem dX12_keeps_7 : decode cX12_keeps 7 = .ok (.bipush 20, 2) := by decide +kernel
theorem dX12_keeps_9 : decode cX12_keeps 9 = .ok (.irem, 1) := by decide +kernel
theorem dX12_keeps_10 : decode cX12_keeps 10 = .ok (.putfield 497, 3) := by decide +kernel
theorem dX12_keeps_13 : decode cX12_keeps 13 = .ok (.iconst 0, 1) := by decide +kernel
theorem dX12_keeps_14 : decode cX12_keeps 14 = .ok (.istore_n 1, 1) := by decide +kernel
theorem dX12_keeps_15 : decode cX12_keeps 15 = .ok (.iload_n 1, 1) := by decide +kernel
theorem dX12_keeps_16 : decode cX12_keeps 16 = .ok (.sipush 141, 3) := by decide +kernel
theorem dX12_keeps_19 : decode cX12_keeps 19 = .ok (.if_icmp .ge 30, 3) := by decide +kernel
theorem dX12_keeps_22 : decode cX12_keeps 22 = .ok (.aload_n 0, 1) := by decide +kernel
theorem dX12_keeps_23 : decode cX12_keeps 23 = .ok (.getfield 149, 3) := by decide +kernel
theorem dX12_keeps_26 : decode cX12_keeps 26 = .ok (.sipush 141, 3) := by decide +kernel
theorem dX12_keeps_29 : decode cX12_keeps 29 = .ok (.aload_n 0, 1) := by decide +kernel
theorem dX12_keeps_30 : decode cX12_keeps 30 = .ok (.getfield 497, 3) := by decide +kernel
theorem dX12_keeps_33 : decode cX12_keeps 33 = .ok (.imul, 1) := by decide +kernel
theorem dX12_keeps_34 : decode cX12_keeps 34 = .ok (.iload_n 1, 1) := by decide +kernel
theorem dX12_keeps_35 : decode cX12_keeps 35 = .ok (.iadd, 1) := by decide +kernel
theorem dX12_keeps_36 : decode cX12_keeps 36 = .ok (.aload_n 0, 1) := by decide +kernel
theorem dX12_keeps_37 : decode cX12_keeps 37 = .ok (.getfield 124, 3) := by decide +kernel
theorem dX12_keeps_40 : decode cX12_keeps 40 = .ok (.iload_n 1, 1) := by decide +kernel
theorem dX12_keeps_41 : decode cX12_keeps 41 = .ok (.iaload, 1) := by decide +kernel
theorem dX12_keeps_42 : decode cX12_keeps 42 = .ok (.iastore, 1) := by decide +kernel
theorem dX12_keeps_43 : decode cX12_keeps 43 = .ok (.iinc 1 1, 3) := by decide +kernel
theorem dX12_keeps_46 : decode cX12_keeps 46 = .ok (.goto (-31), 3) := by decide +kernel
theorem dX12_keeps_49 : decode cX12_keeps 49 = .ok (.aload_n 0, 1) := by decide +kernel
theorem dX12_keeps_50 : decode cX12_keeps 50 = .ok (.getfield 370, 3) := by decide +kernel
theorem dX12_keeps_53 : decode cX12_keeps 53 = .ok (.bipush 20, 2) := by decide +kernel
