theorem dX11_feed_18 : decode cX11_feed 18 = .ok (.invokevirtual 116, 3) := by decide +kernel
theorem dX11_feed_21 : decode cX11_feed 21 = .ok (.ireturn, 1) := by decide +kernel
theorem dX11_feed_22 : decode cX11_feed 22 = .ok (.aload_n 0, 1) := by decide +kernel
theorem dX11_feed_23 : decode cX11_feed 23 = .ok (.getfield 14, 3) := by decide +kernel
theorem dX11_feed_26 : decode cX11_feed 26 = .ok (.iload_n 1, 1) := by decide +kernel
theorem dX11_feed_27 : decode cX11_feed 27 = .ok (.invokevirtual 120, 3) := by decide +kernel
theorem dX11_feed_30 : decode cX11_feed 30 = .ok (.aload_n 0, 1) := by decide +kernel
theorem dX11_feed_31 : decode cX11_feed 31 = .ok (.getfield 14, 3) := by decide +kernel
theorem dX11_feed_34 : decode cX11_feed 34 = .ok (.iload_n 2, 1) := by decide +kernel
theorem dX11_feed_35 : decode cX11_feed 35 = .ok (.invokevirtual 120, 3) := by decide +kernel
theorem dX11_feed_38 : decode cX11_feed 38 = .ok (.aload_n 0, 1) := by decide +kernel
theorem dX11_feed_39 : decode cX11_feed 39 = .ok (.getfield 14, 3) := by decide +kernel
theorem dX11_feed_42 : decode cX11_feed 42 = .ok (.iload_n 3, 1) := by decide +kernel
theorem dX11_feed_43 : decode cX11_feed 43 = .ok (.invokevirtual 120, 3) := by decide +kernel
theorem dX11_feed_46 : decode cX11_feed 46 = .ok (.aload_n 0, 1) := by decide +kernel
theorem dX11_feed_47 : decode cX11_feed 47 = .ok (.getfield 14, 3) := by decide +kernel
theorem dX11_feed_50 : decode cX11_feed 50 = .ok (.iload 4, 2) := by decide +kernel
theorem dX11_feed_52 : decode cX11_feed 52 = .ok (.invokevirtual 120, 3) := by decide +kernel
theorem dX11_feed_55 : decode cX11_feed 55 = .ok (.aload_n 0, 1) := by decide +kernel
theorem dX11_feed_56 : decode cX11_feed 56 = .ok (.getfield 14, 3) := by decide +kernel
theorem dX11_feed_59 : decode cX11_feed 59 = .ok (.iload 5, 2) := by decide +kernel
theorem dX11_feed_61 : decode cX11_feed 61 = .ok (.invokevirtual 120, 3) := by decide +kernel
theorem dX11_feed_64 : decode cX11_feed 64 = .ok (.aload_n 0, 1) := by decide +kernel
theorem dX11_feed_65 : decode cX11_feed 65 = .ok (.getfield 14, 3) := by decide +kernel
theorem dX11_feed_68 : decode cX11_feed 68 = .ok (.getfield 113, 3) := by decide +kernel
theorem dX11_feed_71 : decode cX11_feed 71 = .ok (.ireturn, 1) := by decide +kernel
theorem dX11_end_0 : decode cX11_end 0 = .ok (.iload_n 1, 1) := by decide +kernel
theorem dX11_end_1 : decode cX11_end 1 = .ok (.ifCond .lt 14, 3) := by decide +kernel
theorem dX11_end_4 : decode cX11_end 4 = .ok (.iload_n 1, 1) := by decide +kernel
theorem dX11_end_5 : decode cX11_end 5 = .ok (.aload_n 0, 1) := by decide +kernel
theorem dX11_end_6 : decode cX11_end 6 = .ok (.getfield 14, 3) := by decide +kernel
theorem dX11_end_9 : decode cX11_end 9 = .ok (.getfield 113, 3) := by decide +kernel
theorem dX11_end_12 : decode cX11_end 12 = .ok (.if_icmp .le 11, 3) := by decide +kernel
theorem dX11_end_15 : decode cX11_end 15 = .ok (.aload_n 0, 1) := by decide +kernel
theorem dX11_end_16 : decode cX11_end 16 = .ok (.iconst 0, 1) := by decide +kernel
theorem dX11_end_17 : decode cX11_end 17 = .ok (.invokevirtual 116, 3) := by decide +kernel
theorem dX11_end_20 : decode cX11_end 20 = .ok (.pop, 1) := by decide +kernel
theorem dX11_end_21 : decode cX11_end 21 = .ok (.iconst 0, 1) := by decide +kernel
theorem dX11_end_22 : decode cX11_end 22 = .ok (.ireturn, 1) := by decide +kernel
theorem dX11_end_23 : decode cX11_end 23 = .ok (.aload_n 0, 1) := by decide +kernel
theorem dX11_end_24 : decode cX11_end 24 = .ok (.getfield 14, 3) := by decide +kernel
theorem dX11_end_27 : decode cX11_end 27 = .ok (.iload_n 1, 1) := by decide +kernel
theorem dX11_end_28 : decode cX11_end 28 = .ok (.putfield 113, 3) := by decide +kernel
theorem dX11_end_31 : decode cX11_end 31 = .ok (.iconst 1, 1) := by decide +kernel
theorem dX11_end_32 : decode cX11_end 32 = .ok (.ireturn, 1) := by decide +kernel
theorem dX11_fair_0 : decode cX11_fair 0 = .ok (.aload_n 0, 1) := by decide +kernel
theorem dX11_fair_1 : decode cX11_fair 1 = .ok (.getfield 51, 3) := by decide +kernel
theorem dX11_fair_4 : decode cX11_fair 4 = .ok (.aload_n 0, 1) := by decide +kernel
theorem dX11_fair_5 : decode cX11_fair 5 = .ok (.getfield 94, 3) := by decide +kernel
theorem dX11_fair_8 : decode cX11_fair 8 = .ok (.invokevirtual 123, 3) := by decide +kernel
theorem dX11_fair_11 : decode cX11_fair 11 = .ok (.istore_n 1, 1) := by decide +kernel
theorem dX11_fair_12 : decode cX11_fair 12 = .ok (.aload_n 0, 1) := by decide +kernel
theorem dX11_fair_13 : decode cX11_fair 13 = .ok (.getfield 14, 3) := by decide +kernel
theorem dX11_fair_16 : decode cX11_fair 16 = .ok (.iconst 0, 1) := by decide +kernel
theorem dX11_fair_17 : decode cX11_fair 17 = .ok (.putfield 113, 3) := by decide +kernel
theorem dX11_fair_20 : decode cX11_fair 20 = .ok (.aload_n 0, 1) := by decide +kernel
theorem dX11_fair_21 : decode cX11_fair 21 = .ok (.invokevirtual 127, 3) := by decide +kernel
theorem dX11_fair_24 : decode cX11_fair 24 = .ok (.aload_n 0, 1) := by decide +kernel
theorem dX11_fair_25 : decode cX11_fair 25 = .ok (.getfield 106, 3) := by decide +kernel
theorem dX11_fair_28 : decode cX11_fair 28 = .ok (.ifCond .eq 9, 3) := by decide +kernel
theorem dX11_fair_31 : decode cX11_fair 31 = .ok (.aload_n 0, 1) := by decide +kernel
theorem dX11_fair_32 : decode cX11_fair 32 = .ok (.iconst 1, 1) := by decide +kernel
theorem dX11_fair_33 : decode cX11_fair 33 = .ok (.invokevirtual 116, 3) := by decide +kernel
theorem dX11_fair_36 : decode cX11_fair 36 = .ok (.ireturn, 1) := by decide +kernel
theorem dX11_fair_37 : decode cX11_fair 37 = .ok (.aload_n 0, 1) := by decide +kernel
theorem dX11_fair_38 : decode cX11_fair 38 = .ok (.getfield 90, 3) := by decide +kernel
theorem dX11_fair_41 : decode cX11_fair 41 = .ok (.astore_n 2, 1) := by decide +kernel
theorem dX11_fair_42 : decode cX11_fair 42 = .ok (.aload_n 0, 1) := by decide +kernel
theorem dX11_fair_43 : decode cX11_fair 43 = .ok (.aload_n 0, 1) := by decide +kernel
theorem dX11_fair_44 : decode cX11_fair 44 = .ok (.getfield 94, 3) := by decide +kernel
theorem dX11_fair_47 : decode cX11_fair 47 = .ok (.putfield 90, 3) := by decide +kernel
theorem dX11_fair_50 : decode cX11_fair 50 = .ok (.aload_n 0, 1) := by decide +kernel
theorem dX11_fair_51 : decode cX11_fair 51 = .ok (.aload_n 2, 1) := by decide +kernel
theorem dX11_fair_52 : decode cX11_fair 52 = .ok (.putfield 94, 3) := by decide +kernel
theorem dX11_fair_55 : decode cX11_fair 55 = .ok (.aload_n 0, 1) := by decide +kernel
theorem dX11_fair_56 : decode cX11_fair 56 = .ok (.getfield 58, 3) := by decide +kernel
theorem dX11_fair_59 : decode cX11_fair 59 = .ok (.invokevirtual 130, 3) := by decide +kernel
theorem dX11_fair_62 : decode cX11_fair 62 = .ok (.aload_n 0, 1) := by decide +kernel
theorem dX11_fair_63 : decode cX11_fair 63 = .ok (.getfield 65, 3) := by decide +kernel
theorem dX11_fair_66 : decode cX11_fair 66 = .ok (.iconst 0, 1) := by decide +kernel
theorem dX11_fair_67 : decode cX11_fair 67 = .ok (.putfield 133, 3) := by decide +kernel
theorem dX11_fair_70 : decode cX11_fair 70 = .ok (.aload_n 0, 1) := by decide +kernel
theorem dX11_fair_71 : decode cX11_fair 71 = .ok (.getfield 102, 3) := by decide +kernel
theorem dX11_fair_74 : decode cX11_fair 74 = .ok (.aload_n 0, 1) := by decide +kernel
theorem dX11_fair_75 : decode cX11_fair 75 = .ok (.getfield 90, 3) := by decide +kernel
theorem dX11_fair_78 : decode cX11_fair 78 = .ok (.invokevirtual 136, 3) := by decide +kernel
theorem dX11_fair_81 : decode cX11_fair 81 = .ok (.aload_n 0, 1) := by decide +kernel
theorem dX11_fair_82 : decode cX11_fair 82 = .ok (.getfield 102, 3) := by decide +kernel
theorem dX11_fair_85 : decode cX11_fair 85 = .ok (.aload_n 0, 1) := by decide +kernel
theorem dX11_fair_86 : decode cX11_fair 86 = .ok (.getfield 58, 3) := by decide +kernel
theorem dX11_fair_89 : decode cX11_fair 89 = .ok (.invokevirtual 138, 3) := by decide +kernel
theorem dX11_fair_92 : decode cX11_fair 92 = .ok (.iload_n 1, 1) := by decide +kernel
theorem dX11_fair_93 : decode cX11_fair 93 = .ok (.ireturn, 1) := by decide +kernel
theorem dX11_fault_0 : decode cX11_fault 0 = .ok (.iload_n 1, 1) := by decide +kernel
theorem dX11_fault_1 : decode cX11_fault 1 = .ok (.lookupswitch 37 #[(0, 27), (1, 32)], 27) := by decide +kernel
theorem dX11_fault_28 : decode cX11_fault 28 = .ok (.aload_n 0, 1) := by decide +kernel
theorem dX11_fault_29 : decode cX11_fault 29 = .ok (.getfield 106, 3) := by decide +kernel
theorem dX11_fault_32 : decode cX11_fault 32 = .ok (.ireturn, 1) := by decide +kernel
theorem dX11_fault_33 : decode cX11_fault 33 = .ok (.aload_n 0, 1) := by decide +kernel
theorem dX11_fault_34 : decode cX11_fault 34 = .ok (.getfield 110, 3) := by decide +kernel
theorem dX11_fault_37 : decode cX11_fault 37 = .ok (.ireturn, 1) := by decide +kernel
theorem dX11_fault_38 : decode cX11_fault 38 = .ok (.iconst (-1), 1) := by decide +kernel
theorem dX11_fault_39 : decode cX11_fault 39 = .ok (.ireturn, 1) := by decide +kernel
theorem dX11_has_0 : decode cX11_has 0 = .ok (.iload_n 1, 1) := by decide +kernel
theorem dX11_has_1 : decode cX11_has 1 = .ok (.tableswitch 173 0 10 #[59, 67, 75, 83, 99, 107, 115, 126, 149, 157, 165], 59) := by decide +kernel
theorem dX11_has_60 : decode cX11_has 60 = .ok (.aload_n 0, 1) := by decide +kernel
theorem dX11_has_61 : decode cX11_has 61 = .ok (.getfield 90, 3) := by decide +kernel
theorem dX11_has_64 : decode cX11_has 64 = .ok (.getfield 142, 3) := by decide +kernel
theorem dX11_has_67 : decode cX11_has 67 = .ok (.ireturn, 1) := by decide +kernel
theorem dX11_has_68 : decode cX11_has 68 = .ok (.aload_n 0, 1) := by decide +kernel
theorem dX11_has_69 : decode cX11_has 69 = .ok (.getfield 90, 3) := by decide +kernel
theorem dX11_has_72 : decode cX11_has 72 = .ok (.getfield 145, 3) := by decide +kernel
theorem dX11_has_75 : decode cX11_has 75 = .ok (.ireturn, 1) := by decide +kernel
theorem dX11_has_76 : decode cX11_has 76 = .ok (.aload_n 0, 1) := by decide +kernel
theorem dX11_has_77 : decode cX11_has 77 = .ok (.getfield 90, 3) := by decide +kernel
theorem dX11_has_80 : decode cX11_has 80 = .ok (.getfield 148, 3) := by decide +kernel
theorem dX11_has_83 : decode cX11_has 83 = .ok (.ireturn, 1) := by decide +kernel
theorem dX11_has_84 : decode cX11_has 84 = .ok (.aload_n 0, 1) := by decide +kernel
theorem dX11_has_85 : decode cX11_has 85 = .ok (.getfield 90, 3) := by decide +kernel
theorem dX11_has_88 : decode cX11_has 88 = .ok (.getfield 151, 3) := by decide +kernel
theorem dX11_has_91 : decode cX11_has 91 = .ok (.aload_n 0, 1) := by decide +kernel
theorem dX11_has_92 : decode cX11_has 92 = .ok (.getfield 58, 3) := by decide +kernel
theorem dX11_has_95 : decode cX11_has 95 = .ok (.getfield 154, 3) := by decide +kernel
theorem dX11_has_98 : decode cX11_has 98 = .ok (.iadd, 1) := by decide +kernel
theorem dX11_has_99 : decode cX11_has 99 = .ok (.ireturn, 1) := by decide +kernel
theorem dX11_has_100 : decode cX11_has 100 = .ok (.aload_n 0, 1) := by decide +kernel
theorem dX11_has_101 : decode cX11_has 101 = .ok (.getfield 58, 3) := by decide +kernel
theorem dX11_has_104 : decode cX11_has 104 = .ok (.getfield 155, 3) := by decide +kernel
theorem dX11_has_107 : decode cX11_has 107 = .ok (.ireturn, 1) := by decide +kernel
theorem dX11_has_108 : decode cX11_has 108 = .ok (.aload_n 0, 1) := by decide +kernel
theorem dX11_has_109 : decode cX11_has 109 = .ok (.getfield 58, 3) := by decide +kernel
theorem dX11_has_112 : decode cX11_has 112 = .ok (.getfield 158, 3) := by decide +kernel
theorem dX11_has_115 : decode cX11_has 115 = .ok (.ireturn, 1) := by decide +kernel
theorem dX11_has_116 : decode cX11_has 116 = .ok (.aload_n 0, 1) := by decide +kernel
theorem dX11_has_117 : decode cX11_has 117 = .ok (.getfield 58, 3) := by decide +kernel
theorem dX11_has_120 : decode cX11_has 120 = .ok (.getfield 161, 3) := by decide +kernel
theorem dX11_has_123 : decode cX11_has 123 = .ok (.invokestatic 164, 3) := by decide +kernel
theorem dX11_has_126 : decode cX11_has 126 = .ok (.ireturn, 1) := by decide +kernel
theorem dX11_has_127 : decode cX11_has 127 = .ok (.aload_n 0, 1) := by decide +kernel
theorem dX11_has_128 : decode cX11_has 128 = .ok (.getfield 102, 3) := by decide +kernel
theorem dX11_has_131 : decode cX11_has 131 = .ok (.aload_n 0, 1) := by decide +kernel
theorem dX11_has_132 : decode cX11_has 132 = .ok (.getfield 58, 3) := by decide +kernel
theorem dX11_has_135 : decode cX11_has 135 = .ok (.getfield 155, 3) := by decide +kernel
theorem dX11_has_138 : decode cX11_has 138 = .ok (.invokevirtual 169, 3) := by decide +kernel
theorem dX11_has_141 : decode cX11_has 141 = .ok (.ifCond .eq 7, 3) := by decide +kernel
theorem dX11_has_144 : decode cX11_has 144 = .ok (.iconst 1, 1) := by decide +kernel
theorem dX11_has_145 : decode cX11_has 145 = .ok (.goto 4, 3) := by decide +kernel
theorem dX11_has_148 : decode cX11_has 148 = .ok (.iconst 0, 1) := by decide +kernel
theorem dX11_has_149 : decode cX11_has 149 = .ok (.ireturn, 1) := by decide +kernel
theorem dX11_has_150 : decode cX11_has 150 = .ok (.aload_n 0, 1) := by decide +kernel
theorem dX11_has_151 : decode cX11_has 151 = .ok (.getfield 58, 3) := by decide +kernel
theorem dX11_has_154 : decode cX11_has 154 = .ok (.getfield 173, 3) := by decide +kernel
theorem dX11_has_157 : decode cX11_has 157 = .ok (.ireturn, 1) := by decide +kernel
theorem dX11_has_158 : decode cX11_has 158 = .ok (.aload_n 0, 1) := by decide +kernel
theorem dX11_has_159 : decode cX11_has 159 = .ok (.getfield 65, 3) := by decide +kernel
theorem dX11_has_162 : decode cX11_has 162 = .ok (.getfield 133, 3) := by decide +kernel
theorem dX11_has_165 : decode cX11_has 165 = .ok (.ireturn, 1) := by decide +kernel
theorem dX11_has_166 : decode cX11_has 166 = .ok (.aload_n 0, 1) := by decide +kernel
theorem dX11_has_167 : decode cX11_has 167 = .ok (.getfield 58, 3) := by decide +kernel
theorem dX11_has_170 : decode cX11_has 170 = .ok (.getfield 176, 3) := by decide +kernel
theorem dX11_has_173 : decode cX11_has 173 = .ok (.ireturn, 1) := by decide +kernel
theorem dX11_has_174 : decode cX11_has 174 = .ok (.iconst (-1), 1) := by decide +kernel
theorem dX11_has_175 : decode cX11_has 175 = .ok (.ireturn, 1) := by decide +kernel
theorem dX11_letter_0 : decode cX11_letter 0 = .ok (.iload_n 3, 1) := by decide +kernel
theorem dX11_letter_1 : decode cX11_letter 1 = .ok (.ifCond .lt 9, 3) := by decide +kernel
theorem dX11_letter_4 : decode cX11_letter 4 = .ok (.iload_n 3, 1) := by decide +kernel
theorem dX11_letter_5 : decode cX11_letter 5 = .ok (.bipush 6, 2) := by decide +kernel
theorem dX11_letter_7 : decode cX11_letter 7 = .ok (.if_icmp .lt 5, 3) := by decide +kernel
theorem dX11_letter_10 : decode cX11_letter 10 = .ok (.iconst (-1), 1) := by decide +kernel
theorem dX11_letter_11 : decode cX11_letter 11 = .ok (.ireturn, 1) := by decide +kernel
theorem dX11_letter_12 : decode cX11_letter 12 = .ok (.iload_n 1, 1) := by decide +kernel
theorem dX11_letter_13 : decode cX11_letter 13 = .ok (.ifCond .ne 25, 3) := by decide +kernel
theorem dX11_letter_16 : decode cX11_letter 16 = .ok (.aload_n 0, 1) := by decide +kernel
theorem dX11_letter_17 : decode cX11_letter 17 = .ok (.iload_n 2, 1) := by decide +kernel
theorem dX11_letter_18 : decode cX11_letter 18 = .ok (.invokevirtual 179, 3) := by decide +kernel
theorem dX11_letter_21 : decode cX11_letter 21 = .ok (.ifCond .eq 17, 3) := by decide +kernel
theorem dX11_letter_24 : decode cX11_letter 24 = .ok (.aload_n 0, 1) := by decide +kernel
theorem dX11_letter_25 : decode cX11_letter 25 = .ok (.getfield 90, 3) := by decide +kernel
theorem dX11_letter_28 : decode cX11_letter 28 = .ok (.getfield 182, 3) := by decide +kernel
theorem dX11_letter_31 : decode cX11_letter 31 = .ok (.iload_n 2, 1) := by decide +kernel
theorem dX11_letter_32 : decode cX11_letter 32 = .ok (.iaload, 1) := by decide +kernel
theorem dX11_letter_33 : decode cX11_letter 33 = .ok (.iload_n 3, 1) := by decide +kernel
theorem dX11_letter_34 : decode cX11_letter 34 = .ok (.invokestatic 185, 3) := by decide +kernel
theorem dX11_letter_37 : decode cX11_letter 37 = .ok (.ireturn, 1) := by decide +kernel
theorem dX11_letter_38 : decode cX11_letter 38 = .ok (.iload_n 1, 1) := by decide +kernel
theorem dX11_letter_39 : decode cX11_letter 39 = .ok (.iconst 1, 1) := by decide +kernel
theorem dX11_letter_40 : decode cX11_letter 40 = .ok (.if_icmp .ne 25, 3) := by decide +kernel
theorem dX11_letter_43 : decode cX11_letter 43 = .ok (.aload_n 0, 1) := by decide +kernel
theorem dX11_letter_44 : decode cX11_letter 44 = .ok (.iload_n 2, 1) := by decide +kernel
theorem dX11_letter_45 : decode cX11_letter 45 = .ok (.invokevirtual 189, 3) := by decide +kernel
theorem dX11_letter_48 : decode cX11_letter 48 = .ok (.ifCond .eq 17, 3) := by decide +kernel
theorem dX11_letter_51 : decode cX11_letter 51 = .ok (.aload_n 0, 1) := by decide +kernel
theorem dX11_letter_52 : decode cX11_letter 52 = .ok (.getfield 90, 3) := by decide +kernel
theorem dX11_letter_55 : decode cX11_letter 55 = .ok (.getfield 192, 3) := by decide +kernel
theorem dX11_letter_58 : decode cX11_letter 58 = .ok (.iload_n 2, 1) := by decide +kernel
theorem dX11_letter_59 : decode cX11_letter 59 = .ok (.iaload, 1) := by decide +kernel
theorem dX11_letter_60 : decode cX11_letter 60 = .ok (.iload_n 3, 1) := by decide +kernel
theorem dX11_letter_61 : decode cX11_letter 61 = .ok (.invokestatic 185, 3) := by decide +kernel
theorem dX11_letter_64 : decode cX11_letter 64 = .ok (.ireturn, 1) := by decide +kernel
theorem dX11_letter_65 : decode cX11_letter 65 = .ok (.iconst (-1), 1) := by decide +kernel
theorem dX11_letter_66 : decode cX11_letter 66 = .ok (.ireturn, 1) := by decide +kernel
theorem dX11_stall_0 : decode cX11_stall 0 = .ok (.aload_n 0, 1) := by decide +kernel
theorem dX11_stall_1 : decode cX11_stall 1 = .ok (.iload_n 1, 1) := by decide +kernel
theorem dX11_stall_2 : decode cX11_stall 2 = .ok (.invokevirtual 179, 3) := by decide +kernel
theorem dX11_stall_5 : decode cX11_stall 5 = .ok (.ifCond .ne 5, 3) := by decide +kernel
theorem dX11_stall_8 : decode cX11_stall 8 = .ok (.iconst (-1), 1) := by decide +kernel
theorem dX11_stall_9 : decode cX11_stall 9 = .ok (.ireturn, 1) := by decide +kernel
theorem dX11_stall_10 : decode cX11_stall 10 = .ok (.iload_n 2, 1) := by decide +kernel
theorem dX11_stall_11 : decode cX11_stall 11 = .ok (.tableswitch 90 0 4 #[33, 43, 53, 63, 73], 33) := by decide +kernel
theorem dX11_stall_44 : decode cX11_stall 44 = .ok (.aload_n 0, 1) := by decide +kernel
theorem dX11_stall_45 : decode cX11_stall 45 = .ok (.getfield 90, 3) := by decide +kernel
theorem dX11_stall_48 : decode cX11_stall 48 = .ok (.getfield 195, 3) := by decide +kernel
theorem dX11_stall_51 : decode cX11_stall 51 = .ok (.iload_n 1, 1) := by decide +kernel
theorem dX11_stall_52 : decode cX11_stall 52 = .ok (.iaload, 1) := by decide +kernel
theorem dX11_stall_53 : decode cX11_stall 53 = .ok (.ireturn, 1) := by decide +kernel
theorem dX11_stall_54 : decode cX11_stall 54 = .ok (.aload_n 0, 1) := by decide +kernel
theorem dX11_stall_55 : decode cX11_stall 55 = .ok (.getfield 90, 3) := by decide +kernel
theorem dX11_stall_58 : decode cX11_stall 58 = .ok (.getfield 197, 3) := by decide +kernel
theorem dX11_stall_61 : decode cX11_stall 61 = .ok (.iload_n 1, 1) := by decide +kernel
theorem dX11_stall_62 : decode cX11_stall 62 = .ok (.iaload, 1) := by decide +kernel
theorem dX11_stall_63 : decode cX11_stall 63 = .ok (.ireturn, 1) := by decide +kernel
theorem dX11_stall_64 : decode cX11_stall 64 = .ok (.aload_n 0, 1) := by decide +kernel
theorem dX11_stall_65 : decode cX11_stall 65 = .ok (.getfield 90, 3) := by decide +kernel
theorem dX11_stall_68 : decode cX11_stall 68 = .ok (.getfield 200, 3) := by decide +kernel
theorem dX11_stall_71 : decode cX11_stall 71 = .ok (.iload_n 1, 1) := by decide +kernel
theorem dX11_stall_72 : decode cX11_stall 72 = .ok (.iaload, 1) := by decide +kernel
theorem dX11_stall_73 : decode cX11_stall 73 = .ok (.ireturn, 1) := by decide +kernel
theorem dX11_stall_74 : decode cX11_stall 74 = .ok (.aload_n 0, 1) := by decide +kernel
theorem dX11_stall_75 : decode cX11_stall 75 = .ok (.getfield 90, 3) := by decide +kernel
theorem dX11_stall_78 : decode cX11_stall 78 = .ok (.getfield 203, 3) := by decide +kernel
theorem dX11_stall_81 : decode cX11_stall 81 = .ok (.iload_n 1, 1) := by decide +kernel
theorem dX11_stall_82 : decode cX11_stall 82 = .ok (.iaload, 1) := by decide +kernel
theorem dX11_stall_83 : decode cX11_stall 83 = .ok (.ireturn, 1) := by decide +kernel
theorem dX11_stall_84 : decode cX11_stall 84 = .ok (.aload_n 0, 1) := by decide +kernel
theorem dX11_stall_85 : decode cX11_stall 85 = .ok (.getfield 58, 3) := by decide +kernel
theorem dX11_stall_88 : decode cX11_stall 88 = .ok (.iload_n 1, 1) := by decide +kernel
theorem dX11_stall_89 : decode cX11_stall 89 = .ok (.invokevirtual 206, 3) := by decide +kernel
theorem dX11_stall_92 : decode cX11_stall 92 = .ok (.ifCond .eq 7, 3) := by decide +kernel
theorem dX11_stall_95 : decode cX11_stall 95 = .ok (.iconst 1, 1) := by decide +kernel
theorem dX11_stall_96 : decode cX11_stall 96 = .ok (.goto 4, 3) := by decide +kernel
theorem dX11_stall_99 : decode cX11_stall 99 = .ok (.iconst 0, 1) := by decide +kernel
theorem dX11_stall_100 : decode cX11_stall 100 = .ok (.ireturn, 1) := by decide +kernel
theorem dX11_stall_101 : decode cX11_stall 101 = .ok (.iconst (-1), 1) := by decide +kernel
theorem dX11_stall_102 : decode cX11_stall 102 = .ok (.ireturn, 1) := by decide +kernel
theorem dX11_coin_0 : decode cX11_coin 0 = .ok (.aload_n 0, 1) := by decide +kernel
theorem dX11_coin_1 : decode cX11_coin 1 = .ok (.iload_n 1, 1) := by decide +kernel
theorem dX11_coin_2 : decode cX11_coin 2 = .ok (.invokevirtual 189, 3) := by decide +kernel
theorem dX11_coin_5 : decode cX11_coin 5 = .ok (.ifCond .ne 5, 3) := by decide +kernel
theorem dX11_coin_8 : decode cX11_coin 8 = .ok (.iconst (-1), 1) := by decide +kernel
theorem dX11_coin_9 : decode cX11_coin 9 = .ok (.ireturn, 1) := by decide +kernel
theorem dX11_coin_10 : decode cX11_coin 10 = .ok (.iload_n 2, 1) := by decide +kernel
theorem dX11_coin_11 : decode cX11_coin 11 = .ok (.lookupswitch 45 #[(0, 25), (1, 35)], 25) := by decide +kernel
theorem dX11_coin_36 : decode cX11_coin 36 = .ok (.aload_n 0, 1) := by decide +kernel
theorem dX11_coin_37 : decode cX11_coin 37 = .ok (.getfield 90, 3) := by decide +kernel
theorem dX11_coin_40 : decode cX11_coin 40 = .ok (.getfield 209, 3) := by decide +kernel
theorem dX11_coin_43 : decode cX11_coin 43 = .ok (.iload_n 1, 1) := by decide +kernel
theorem dX11_coin_44 : decode cX11_coin 44 = .ok (.iaload, 1) := by decide +kernel
theorem dX11_coin_45 : decode cX11_coin 45 = .ok (.ireturn, 1) := by decide +kernel
theorem dX11_coin_46 : decode cX11_coin 46 = .ok (.aload_n 0, 1) := by decide +kernel
theorem dX11_coin_47 : decode cX11_coin 47 = .ok (.getfield 90, 3) := by decide +kernel
theorem dX11_coin_50 : decode cX11_coin 50 = .ok (.getfield 212, 3) := by decide +kernel
theorem dX11_coin_53 : decode cX11_coin 53 = .ok (.iload_n 1, 1) := by decide +kernel
theorem dX11_coin_54 : decode cX11_coin 54 = .ok (.iaload, 1) := by decide +kernel
theorem dX11_coin_55 : decode cX11_coin 55 = .ok (.ireturn, 1) := by decide +kernel
theorem dX11_coin_56 : decode cX11_coin 56 = .ok (.iconst (-1), 1) := by decide +kernel
theorem dX11_coin_57 : decode cX11_coin 57 = .ok (.ireturn, 1) := by decide +kernel
theorem dX11_shadow_0 : decode cX11_shadow 0 = .ok (.aload_n 0, 1) := by decide +kernel
theorem dX11_shadow_1 : decode cX11_shadow 1 = .ok (.iload_n 1, 1) := by decide +kernel
theorem dX11_shadow_2 : decode cX11_shadow 2 = .ok (.invokevirtual 189, 3) := by decide +kernel
theorem dX11_shadow_5 : decode cX11_shadow 5 = .ok (.ifCond .eq 19, 3) := by decide +kernel
theorem dX11_shadow_8 : decode cX11_shadow 8 = .ok (.aload_n 0, 1) := by decide +kernel
theorem dX11_shadow_9 : decode cX11_shadow 9 = .ok (.iload_n 2, 1) := by decide +kernel
theorem dX11_shadow_10 : decode cX11_shadow 10 = .ok (.invokevirtual 179, 3) := by decide +kernel
theorem dX11_shadow_13 : decode cX11_shadow 13 = .ok (.ifCond .eq 11, 3) := by decide +kernel
theorem dX11_shadow_16 : decode cX11_shadow 16 = .ok (.aload_n 0, 1) := by decide +kernel
theorem dX11_shadow_17 : decode cX11_shadow 17 = .ok (.iload_n 3, 1) := by decide +kernel
theorem dX11_shadow_18 : decode cX11_shadow 18 = .ok (.invokevirtual 215, 3) := by decide +kernel
theorem dX11_shadow_21 : decode cX11_shadow 21 = .ok (.ifCond .ne 5, 3) := by decide +kernel
theorem dX11_shadow_24 : decode cX11_shadow 24 = .ok (.iconst (-1), 1) := by decide +kernel
theorem dX11_shadow_25 : decode cX11_shadow 25 = .ok (.ireturn, 1) := by decide +kernel
theorem dX11_shadow_26 : decode cX11_shadow 26 = .ok (.aload_n 0, 1) := by decide +kernel
theorem dX11_shadow_27 : decode cX11_shadow 27 = .ok (.getfield 102, 3) := by decide +kernel
theorem dX11_shadow_30 : decode cX11_shadow 30 = .ok (.iload_n 1, 1) := by decide +kernel
theorem dX11_shadow_31 : decode cX11_shadow 31 = .ok (.iload_n 2, 1) := by decide +kernel
theorem dX11_shadow_32 : decode cX11_shadow 32 = .ok (.iload_n 3, 1) := by decide +kernel
theorem dX11_shadow_33 : decode cX11_shadow 33 = .ok (.invokevirtual 218, 3) := by decide +kernel
theorem dX11_shadow_36 : decode cX11_shadow 36 = .ok (.ireturn, 1) := by decide +kernel
theorem dX11_buys_0 : decode cX11_buys 0 = .ok (.aload_n 0, 1) := by decide +kernel
theorem dX11_buys_1 : decode cX11_buys 1 = .ok (.iload_n 1, 1) := by decide +kernel
theorem dX11_buys_2 : decode cX11_buys 2 = .ok (.invokevirtual 189, 3) := by decide +kernel
theorem dX11_buys_5 : decode cX11_buys 5 = .ok (.ifCond .eq 19, 3) := by decide +kernel
theorem dX11_buys_8 : decode cX11_buys 8 = .ok (.aload_n 0, 1) := by decide +kernel
theorem dX11_buys_9 : decode cX11_buys 9 = .ok (.iload_n 2, 1) := by decide +kernel
theorem dX11_buys_10 : decode cX11_buys 10 = .ok (.invokevirtual 179, 3) := by decide +kernel
theorem dX11_buys_13 : decode cX11_buys 13 = .ok (.ifCond .eq 11, 3) := by decide +kernel
theorem dX11_buys_16 : decode cX11_buys 16 = .ok (.aload_n 0, 1) := by decide +kernel
theorem dX11_buys_17 : decode cX11_buys 17 = .ok (.iload_n 3, 1) := by decide +kernel
theorem dX11_buys_18 : decode cX11_buys 18 = .ok (.invokevirtual 215, 3) := by decide +kernel
theorem dX11_buys_21 : decode cX11_buys 21 = .ok (.ifCond .ne 5, 3) := by decide +kernel
theorem dX11_buys_24 : decode cX11_buys 24 = .ok (.iconst (-1), 1) := by decide +kernel
theorem dX11_buys_25 : decode cX11_buys 25 = .ok (.ireturn, 1) := by decide +kernel
theorem dX11_buys_26 : decode cX11_buys 26 = .ok (.aload_n 0, 1) := by decide +kernel
theorem dX11_buys_27 : decode cX11_buys 27 = .ok (.getfield 102, 3) := by decide +kernel
theorem dX11_buys_30 : decode cX11_buys 30 = .ok (.iload_n 1, 1) := by decide +kernel
theorem dX11_buys_31 : decode cX11_buys 31 = .ok (.iload_n 2, 1) := by decide +kernel
theorem dX11_buys_32 : decode cX11_buys 32 = .ok (.iload_n 3, 1) := by decide +kernel
theorem dX11_buys_33 : decode cX11_buys 33 = .ok (.invokevirtual 222, 3) := by decide +kernel
theorem dX11_buys_36 : decode cX11_buys 36 = .ok (.ifCond .eq 7, 3) := by decide +kernel
theorem dX11_buys_39 : decode cX11_buys 39 = .ok (.iconst 1, 1) := by decide +kernel
theorem dX11_buys_40 : decode cX11_buys 40 = .ok (.goto 4, 3) := by decide +kernel
theorem dX11_buys_43 : decode cX11_buys 43 = .ok (.iconst 0, 1) := by decide +kernel
theorem dX11_buys_44 : decode cX11_buys 44 = .ok (.ireturn, 1) := by decide +kernel
theorem dX11_kept_0 : decode cX11_kept 0 = .ok (.iload_n 1, 1) := by decide +kernel
theorem dX11_kept_1 : decode cX11_kept 1 = .ok (.ifCond .lt 14, 3) := by decide +kernel
theorem dX11_kept_4 : decode cX11_kept 4 = .ok (.iload_n 1, 1) := by decide +kernel
theorem dX11_kept_5 : decode cX11_kept 5 = .ok (.aload_n 0, 1) := by decide +kernel
theorem dX11_kept_6 : decode cX11_kept 6 = .ok (.getfield 58, 3) := by decide +kernel
theorem dX11_kept_9 : decode cX11_kept 9 = .ok (.getfield 173, 3) := by decide +kernel
theorem dX11_kept_12 : decode cX11_kept 12 = .ok (.if_icmp .lt 5, 3) := by decide +kernel
theorem dX11_kept_15 : decode cX11_kept 15 = .ok (.iconst (-1), 1) := by decide +kernel
theorem dX11_kept_16 : decode cX11_kept 16 = .ok (.ireturn, 1) := by decide +kernel
theorem dX11_kept_17 : decode cX11_kept 17 = .ok (.iload_n 2, 1) := by decide +kernel
theorem dX11_kept_18 : decode cX11_kept 18 = .ok (.tableswitch 56 0 2 #[26, 36, 46], 26) := by decide +kernel
theorem dX11_kept_44 : decode cX11_kept 44 = .ok (.aload_n 0, 1) := by decide +kernel
theorem dX11_kept_45 : decode cX11_kept 45 = .ok (.getfield 58, 3) := by decide +kernel
theorem dX11_kept_48 : decode cX11_kept 48 = .ok (.getfield 226, 3) := by decide +kernel
theorem dX11_kept_51 : decode cX11_kept 51 = .ok (.iload_n 1, 1) := by decide +kernel
theorem dX11_kept_52 : decode cX11_kept 52 = .ok (.iaload, 1) := by decide +kernel
theorem dX11_kept_53 : decode cX11_kept 53 = .ok (.ireturn, 1) := by decide +kernel
theorem dX11_kept_54 : decode cX11_kept 54 = .ok (.aload_n 0, 1) := by decide +kernel
theorem dX11_kept_55 : decode cX11_kept 55 = .ok (.getfield 58, 3) := by decide +kernel
theorem dX11_kept_58 : decode cX11_kept 58 = .ok (.getfield 229, 3) := by decide +kernel
theorem dX11_kept_61 : decode cX11_kept 61 = .ok (.iload_n 1, 1) := by decide +kernel
theorem dX11_kept_62 : decode cX11_kept 62 = .ok (.iaload, 1) := by decide +kernel
theorem dX11_kept_63 : decode cX11_kept 63 = .ok (.ireturn, 1) := by decide +kernel
theorem dX11_kept_64 : decode cX11_kept 64 = .ok (.aload_n 0, 1) := by decide +kernel
theorem dX11_kept_65 : decode cX11_kept 65 = .ok (.getfield 58, 3) := by decide +kernel
theorem dX11_kept_68 : decode cX11_kept 68 = .ok (.getfield 232, 3) := by decide +kernel
theorem dX11_kept_71 : decode cX11_kept 71 = .ok (.iload_n 1, 1) := by decide +kernel
theorem dX11_kept_72 : decode cX11_kept 72 = .ok (.iaload, 1) := by decide +kernel
theorem dX11_kept_73 : decode cX11_kept 73 = .ok (.ireturn, 1) := by decide +kernel
theorem dX11_kept_74 : decode cX11_kept 74 = .ok (.iconst (-1), 1) := by decide +kernel
theorem dX11_kept_75 : decode cX11_kept 75 = .ok (.ireturn, 1) := by decide +kernel
theorem dX11_when_0 : decode cX11_when 0 = .ok (.aload_n 0, 1) := by decide +kernel
theorem dX11_when_1 : decode cX11_when 1 = .ok (.iload_n 1, 1) := by decide +kernel
theorem dX11_when_2 : decode cX11_when 2 = .ok (.invokevirtual 189, 3) := by decide +kernel
theorem dX11_when_5 : decode cX11_when 5 = .ok (.ifCond .eq 11, 3) := by decide +kernel
theorem dX11_when_8 : decode cX11_when 8 = .ok (.aload_n 0, 1) := by decide +kernel
theorem dX11_when_9 : decode cX11_when 9 = .ok (.iload_n 2, 1) := by decide +kernel
theorem dX11_when_10 : decode cX11_when 10 = .ok (.invokevirtual 179, 3) := by decide +kernel
theorem dX11_when_13 : decode cX11_when 13 = .ok (.ifCond .ne 5, 3) := by decide +kernel
theorem dX11_when_16 : decode cX11_when 16 = .ok (.iconst (-1), 1) := by decide +kernel
theorem dX11_when_17 : decode cX11_when 17 = .ok (.ireturn, 1) := by decide +kernel
theorem dX11_when_18 : decode cX11_when 18 = .ok (.iload_n 3, 1) := by decide +kernel
theorem dX11_when_19 : decode cX11_when 19 = .ok (.lookupswitch 39 #[(0, 25), (1, 32)], 25) := by decide +kernel
theorem dX11_when_44 : decode cX11_when 44 = .ok (.aload_n 0, 1) := by decide +kernel
theorem dX11_when_45 : decode cX11_when 45 = .ok (.iload_n 1, 1) := by decide +kernel
theorem dX11_when_46 : decode cX11_when 46 = .ok (.iload_n 2, 1) := by decide +kernel
theorem dX11_when_47 : decode cX11_when 47 = .ok (.invokevirtual 235, 3) := by decide +kernel
theorem dX11_when_50 : decode cX11_when 50 = .ok (.ireturn, 1) := by decide +kernel
theorem dX11_when_51 : decode cX11_when 51 = .ok (.aload_n 0, 1) := by decide +kernel
theorem dX11_when_52 : decode cX11_when 52 = .ok (.iload_n 1, 1) := by decide +kernel
theorem dX11_when_53 : decode cX11_when 53 = .ok (.iload_n 2, 1) := by decide +kernel
theorem dX11_when_54 : decode cX11_when 54 = .ok (.invokevirtual 238, 3) := by decide +kernel
theorem dX11_when_57 : decode cX11_when 57 = .ok (.ireturn, 1) := by decide +kernel
theorem dX11_when_58 : decode cX11_when 58 = .ok (.iconst (-1), 1) := by decide +kernel
theorem dX11_when_59 : decode cX11_when 59 = .ok (.ireturn, 1) := by decide +kernel
theorem dX11_round_0 : decode cX11_round 0 = .ok (.aload_n 0, 1) := by decide +kernel
theorem dX11_round_1 : decode cX11_round 1 = .ok (.iload_n 1, 1) := by decide +kernel
theorem dX11_round_2 : decode cX11_round 2 = .ok (.invokevirtual 189, 3) := by decide +kernel
theorem dX11_round_5 : decode cX11_round 5 = .ok (.ifCond .eq 8, 3) := by decide +kernel
theorem dX11_round_8 : decode cX11_round 8 = .ok (.iload_n 2, 1) := by decide +kernel
theorem dX11_round_9 : decode cX11_round 9 = .ok (.iconst (-1), 1) := by decide +kernel
theorem dX11_round_10 : decode cX11_round 10 = .ok (.if_icmp .ge 5, 3) := by decide +kernel
theorem dX11_round_13 : decode cX11_round 13 = .ok (.iconst (-1), 1) := by decide +kernel
theorem dX11_round_14 : decode cX11_round 14 = .ok (.ireturn, 1) := by decide +kernel
theorem dX11_round_15 : decode cX11_round 15 = .ok (.aload_n 0, 1) := by decide +kernel
theorem dX11_round_16 : decode cX11_round 16 = .ok (.getfield 72, 3) := by decide +kernel
theorem dX11_round_19 : decode cX11_round 19 = .ok (.aload_n 0, 1) := by decide +kernel
theorem dX11_round_20 : decode cX11_round 20 = .ok (.getfield 90, 3) := by decide +kernel
theorem dX11_round_23 : decode cX11_round 23 = .ok (.aload_n 0, 1) := by decide +kernel
theorem dX11_round_24 : decode cX11_round 24 = .ok (.getfield 102, 3) := by decide +kernel
theorem dX11_round_27 : decode cX11_round 27 = .ok (.aload_n 0, 1) := by decide +kernel
theorem dX11_round_28 : decode cX11_round 28 = .ok (.getfield 58, 3) := by decide +kernel
theorem dX11_round_31 : decode cX11_round 31 = .ok (.iload_n 1, 1) := by decide +kernel
theorem dX11_round_32 : decode cX11_round 32 = .ok (.invokevirtual 241, 3) := by decide +kernel
theorem dX11_round_35 : decode cX11_round 35 = .ok (.aload_n 0, 1) := by decide +kernel
theorem dX11_round_36 : decode cX11_round 36 = .ok (.getfield 72, 3) := by decide +kernel
theorem dX11_round_39 : decode cX11_round 39 = .ok (.getfield 245, 3) := by decide +kernel
theorem dX11_round_42 : decode cX11_round 42 = .ok (.iconst (-1), 1) := by decide +kernel
theorem dX11_round_43 : decode cX11_round 43 = .ok (.if_icmp .eq 8, 3) := by decide +kernel
theorem dX11_round_46 : decode cX11_round 46 = .ok (.iload_n 2, 1) := by decide +kernel
theorem dX11_round_47 : decode cX11_round 47 = .ok (.iconst (-1), 1) := by decide +kernel
theorem dX11_round_48 : decode cX11_round 48 = .ok (.if_icmp .ne 11, 3) := by decide +kernel
theorem dX11_round_51 : decode cX11_round 51 = .ok (.aload_n 0, 1) := by decide +kernel
theorem dX11_round_52 : decode cX11_round 52 = .ok (.getfield 72, 3) := by decide +kernel
theorem dX11_round_55 : decode cX11_round 55 = .ok (.getfield 245, 3) := by decide +kernel
theorem dX11_round_58 : decode cX11_round 58 = .ok (.ireturn, 1) := by decide +kernel
theorem dX11_round_59 : decode cX11_round 59 = .ok (.iload_n 2, 1) := by decide +kernel
theorem dX11_round_60 : decode cX11_round 60 = .ok (.aload_n 0, 1) := by decide +kernel
theorem dX11_round_61 : decode cX11_round 61 = .ok (.getfield 72, 3) := by decide +kernel
theorem dX11_round_64 : decode cX11_round 64 = .ok (.getfield 248, 3) := by decide +kernel
theorem dX11_round_67 : decode cX11_round 67 = .ok (.invokestatic 164, 3) := by decide +kernel
theorem dX11_round_70 : decode cX11_round 70 = .ok (.if_icmp .ge 15, 3) := by decide +kernel
theorem dX11_round_73 : decode cX11_round 73 = .ok (.aload_n 0, 1) := by decide +kernel
theorem dX11_round_74 : decode cX11_round 74 = .ok (.getfield 72, 3) := by decide +kernel
theorem dX11_round_77 : decode cX11_round 77 = .ok (.getfield 251, 3) := by decide +kernel
theorem dX11_round_80 : decode cX11_round 80 = .ok (.iload_n 2, 1) := by decide +kernel
theorem dX11_round_81 : decode cX11_round 81 = .ok (.iaload, 1) := by decide +kernel
theorem dX11_round_82 : decode cX11_round 82 = .ok (.goto 4, 3) := by decide +kernel
theorem dX11_round_85 : decode cX11_round 85 = .ok (.iconst (-1), 1) := by decide +kernel
theorem dX11_round_86 : decode cX11_round 86 = .ok (.ireturn, 1) := by decide +kernel
theorem dX11_blocked_0 : decode cX11_blocked 0 = .ok (.aload_n 0, 1) := by decide +kernel
theorem dX11_blocked_1 : decode cX11_blocked 1 = .ok (.iload_n 1, 1) := by decide +kernel
theorem dX11_blocked_2 : decode cX11_blocked 2 = .ok (.invokevirtual 189, 3) := by decide +kernel
theorem dX11_blocked_5 : decode cX11_blocked 5 = .ok (.ifCond .ne 5, 3) := by decide +kernel
theorem dX11_blocked_8 : decode cX11_blocked 8 = .ok (.iconst (-1), 1) := by decide +kernel
theorem dX11_blocked_9 : decode cX11_blocked 9 = .ok (.ireturn, 1) := by decide +kernel
theorem dX11_blocked_10 : decode cX11_blocked 10 = .ok (.aload_n 0, 1) := by decide +kernel
theorem dX11_blocked_11 : decode cX11_blocked 11 = .ok (.getfield 72, 3) := by decide +kernel
theorem dX11_blocked_14 : decode cX11_blocked 14 = .ok (.aload_n 0, 1) := by decide +kernel
theorem dX11_blocked_15 : decode cX11_blocked 15 = .ok (.getfield 90, 3) := by decide +kernel
theorem dX11_blocked_18 : decode cX11_blocked 18 = .ok (.aload_n 0, 1) := by decide +kernel
theorem dX11_blocked_19 : decode cX11_blocked 19 = .ok (.getfield 102, 3) := by decide +kernel
theorem dX11_blocked_22 : decode cX11_blocked 22 = .ok (.aload_n 0, 1) := by decide +kernel
theorem dX11_blocked_23 : decode cX11_blocked 23 = .ok (.getfield 58, 3) := by decide +kernel
theorem dX11_blocked_26 : decode cX11_blocked 26 = .ok (.iload_n 1, 1) := by decide +kernel
theorem dX11_blocked_27 : decode cX11_blocked 27 = .ok (.invokevirtual 241, 3) := by decide +kernel
theorem dX11_blocked_30 : decode cX11_blocked 30 = .ok (.aload_n 0, 1) := by decide +kernel
theorem dX11_blocked_31 : decode cX11_blocked 31 = .ok (.getfield 72, 3) := by decide +kernel
theorem dX11_blocked_34 : decode cX11_blocked 34 = .ok (.invokevirtual 254, 3) := by decide +kernel
theorem dX11_blocked_37 : decode cX11_blocked 37 = .ok (.ireturn, 1) := by decide +kernel
theorem dX11_strike_0 : decode cX11_strike 0 = .ok (.aload_n 0, 1) := by decide +kernel
theorem dX11_strike_1 : decode cX11_strike 1 = .ok (.iload_n 1, 1) := by decide +kernel
theorem dX11_strike_2 : decode cX11_strike 2 = .ok (.invokevirtual 189, 3) := by decide +kernel
theorem dX11_strike_5 : decode cX11_strike 5 = .ok (.ifCond .eq 12, 3) := by decide +kernel
theorem dX11_strike_8 : decode cX11_strike 8 = .ok (.iload_n 2, 1) := by decide +kernel
theorem dX11_strike_9 : decode cX11_strike 9 = .ok (.ifCond .lt 8, 3) := by decide +kernel
theorem dX11_strike_12 : decode cX11_strike 12 = .ok (.iload_n 2, 1) := by decide +kernel
theorem dX11_strike_13 : decode cX11_strike 13 = .ok (.iconst 1, 1) := by decide +kernel
theorem dX11_strike_14 : decode cX11_strike 14 = .ok (.if_icmp .le 5, 3) := by decide +kernel
theorem dX11_strike_17 : decode cX11_strike 17 = .ok (.iconst (-1), 1) := by decide +kernel
theorem dX11_strike_18 : decode cX11_strike 18 = .ok (.ireturn, 1) := by decide +kernel
theorem dX11_strike_19 : decode cX11_strike 19 = .ok (.iconst 0, 1) := by decide +kernel
theorem dX11_strike_20 : decode cX11_strike 20 = .ok (.istore_n 3, 1) := by decide +kernel
theorem dX11_strike_21 : decode cX11_strike 21 = .ok (.iconst (-1), 1) := by decide +kernel
theorem dX11_strike_22 : decode cX11_strike 22 = .ok (.istore 4, 2) := by decide +kernel
theorem dX11_strike_24 : decode cX11_strike 24 = .ok (.iconst 0, 1) := by decide +kernel
theorem dX11_strike_25 : decode cX11_strike 25 = .ok (.istore 5, 2) := by decide +kernel
theorem dX11_strike_27 : decode cX11_strike 27 = .ok (.aload_n 0, 1) := by decide +kernel
theorem dX11_strike_28 : decode cX11_strike 28 = .ok (.getfield 58, 3) := by decide +kernel
theorem dX11_strike_31 : decode cX11_strike 31 = .ok (.getfield 155, 3) := by decide +kernel
theorem dX11_strike_34 : decode cX11_strike 34 = .ok (.istore 6, 2) := by decide +kernel
theorem dX11_strike_36 : decode cX11_strike 36 = .ok (.iload 6, 2) := by decide +kernel
theorem dX11_strike_38 : decode cX11_strike 38 = .ok (.aload_n 0, 1) := by decide +kernel
theorem dX11_strike_39 : decode cX11_strike 39 = .ok (.getfield 90, 3) := by decide +kernel
theorem dX11_strike_42 : decode cX11_strike 42 = .ok (.getfield 142, 3) := by decide +kernel
theorem dX11_strike_45 : decode cX11_strike 45 = .ok (.if_icmp .gt 47, 3) := by decide +kernel
theorem dX11_strike_48 : decode cX11_strike 48 = .ok (.aload_n 0, 1) := by decide +kernel
theorem dX11_strike_49 : decode cX11_strike 49 = .ok (.iload_n 1, 1) := by decide +kernel
theorem dX11_strike_50 : decode cX11_strike 50 = .ok (.iload 6, 2) := by decide +kernel
theorem dX11_strike_52 : decode cX11_strike 52 = .ok (.invokevirtual 258, 3) := by decide +kernel
theorem dX11_strike_55 : decode cX11_strike 55 = .ok (.ifCond .ne 10, 3) := by decide +kernel
theorem dX11_strike_58 : decode cX11_strike 58 = .ok (.iload 5, 2) := by decide +kernel
theorem dX11_strike_60 : decode cX11_strike 60 = .ok (.iconst 1, 1) := by decide +kernel
theorem dX11_strike_61 : decode cX11_strike 61 = .ok (.iadd, 1) := by decide +kernel
theorem dX11_strike_62 : decode cX11_strike 62 = .ok (.goto 4, 3) := by decide +kernel
theorem dX11_strike_65 : decode cX11_strike 65 = .ok (.iconst 0, 1) := by decide +kernel
theorem dX11_strike_66 : decode cX11_strike 66 = .ok (.istore 5, 2) := by decide +kernel
theorem dX11_strike_68 : decode cX11_strike 68 = .ok (.iload 5, 2) := by decide +kernel
theorem dX11_strike_70 : decode cX11_strike 70 = .ok (.iload_n 3, 1) := by decide +kernel
theorem dX11_strike_71 : decode cX11_strike 71 = .ok (.if_icmp .le 15, 3) := by decide +kernel
theorem dX11_strike_74 : decode cX11_strike 74 = .ok (.iload 5, 2) := by decide +kernel
theorem dX11_strike_76 : decode cX11_strike 76 = .ok (.istore_n 3, 1) := by decide +kernel
theorem dX11_strike_77 : decode cX11_strike 77 = .ok (.iload 6, 2) := by decide +kernel
theorem dX11_strike_79 : decode cX11_strike 79 = .ok (.iload 5, 2) := by decide +kernel
theorem dX11_strike_81 : decode cX11_strike 81 = .ok (.isub, 1) := by decide +kernel
theorem dX11_strike_82 : decode cX11_strike 82 = .ok (.iconst 1, 1) := by decide +kernel
theorem dX11_strike_83 : decode cX11_strike 83 = .ok (.iadd, 1) := by decide +kernel
theorem dX11_strike_84 : decode cX11_strike 84 = .ok (.istore 4, 2) := by decide +kernel
theorem dX11_strike_86 : decode cX11_strike 86 = .ok (.iinc 6 1, 3) := by decide +kernel
theorem dX11_strike_89 : decode cX11_strike 89 = .ok (.goto (-53), 3) := by decide +kernel
theorem dX11_strike_92 : decode cX11_strike 92 = .ok (.iload_n 2, 1) := by decide +kernel
theorem dX11_strike_93 : decode cX11_strike 93 = .ok (.ifCond .ne 7, 3) := by decide +kernel
theorem dX11_strike_96 : decode cX11_strike 96 = .ok (.iload_n 3, 1) := by decide +kernel
theorem dX11_strike_97 : decode cX11_strike 97 = .ok (.goto 5, 3) := by decide +kernel
theorem dX11_strike_100 : decode cX11_strike 100 = .ok (.iload 4, 2) := by decide +kernel
theorem dX11_strike_102 : decode cX11_strike 102 = .ok (.ireturn, 1) := by decide +kernel
theorem dX11_handy_0 : decode cX11_handy 0 = .ok (.aload_n 0, 1) := by decide +kernel
theorem dX11_handy_1 : decode cX11_handy 1 = .ok (.iload_n 1, 1) := by decide +kernel
theorem dX11_handy_2 : decode cX11_handy 2 = .ok (.invokevirtual 215, 3) := by decide +kernel
theorem dX11_handy_5 : decode cX11_handy 5 = .ok (.ifCond .ne 5, 3) := by decide +kernel
theorem dX11_handy_8 : decode cX11_handy 8 = .ok (.iconst (-1), 1) := by decide +kernel
theorem dX11_handy_9 : decode cX11_handy 9 = .ok (.ireturn, 1) := by decide +kernel
theorem dX11_handy_10 : decode cX11_handy 10 = .ok (.iconst (-1), 1) := by decide +kernel
theorem dX11_handy_11 : decode cX11_handy 11 = .ok (.istore_n 2, 1) := by decide +kernel
theorem dX11_handy_12 : decode cX11_handy 12 = .ok (.iconst (-1), 1) := by decide +kernel
theorem dX11_handy_13 : decode cX11_handy 13 = .ok (.istore_n 3, 1) := by decide +kernel
theorem dX11_handy_14 : decode cX11_handy 14 = .ok (.iconst 0, 1) := by decide +kernel
theorem dX11_handy_15 : decode cX11_handy 15 = .ok (.istore 4, 2) := by decide +kernel
theorem dX11_handy_17 : decode cX11_handy 17 = .ok (.iload 4, 2) := by decide +kernel
theorem dX11_handy_19 : decode cX11_handy 19 = .ok (.aload_n 0, 1) := by decide +kernel
theorem dX11_handy_20 : decode cX11_handy 20 = .ok (.getfield 90, 3) := by decide +kernel
theorem dX11_handy_23 : decode cX11_handy 23 = .ok (.getfield 148, 3) := by decide +kernel
theorem dX11_handy_26 : decode cX11_handy 26 = .ok (.if_icmp .ge 30, 3) := by decide +kernel
theorem dX11_handy_29 : decode cX11_handy 29 = .ok (.aload_n 0, 1) := by decide +kernel
theorem dX11_handy_30 : decode cX11_handy 30 = .ok (.iload 4, 2) := by decide +kernel
theorem dX11_handy_32 : decode cX11_handy 32 = .ok (.iload_n 1, 1) := by decide +kernel
theorem dX11_handy_33 : decode cX11_handy 33 = .ok (.invokevirtual 258, 3) := by decide +kernel
theorem dX11_handy_36 : decode cX11_handy 36 = .ok (.istore 5, 2) := by decide +kernel
theorem dX11_handy_38 : decode cX11_handy 38 = .ok (.iload 5, 2) := by decide +kernel
theorem dX11_handy_40 : decode cX11_handy 40 = .ok (.iload_n 3, 1) := by decide +kernel
theorem dX11_handy_41 : decode cX11_handy 41 = .ok (.if_icmp .le 9, 3) := by decide +kernel
theorem dX11_handy_44 : decode cX11_handy 44 = .ok (.iload 5, 2) := by decide +kernel
theorem dX11_handy_46 : decode cX11_handy 46 = .ok (.istore_n 3, 1) := by decide +kernel
theorem dX11_handy_47 : decode cX11_handy 47 = .ok (.iload 4, 2) := by decide +kernel
theorem dX11_handy_49 : decode cX11_handy 49 = .ok (.istore_n 2, 1) := by decide +kernel
theorem dX11_handy_50 : decode cX11_handy 50 = .ok (.iinc 4 1, 3) := by decide +kernel
theorem dX11_handy_53 : decode cX11_handy 53 = .ok (.goto (-36), 3) := by decide +kernel
theorem dX11_handy_56 : decode cX11_handy 56 = .ok (.iload_n 2, 1) := by decide +kernel
theorem dX11_handy_57 : decode cX11_handy 57 = .ok (.ireturn, 1) := by decide +kernel
theorem dX11_odd_0 : decode cX11_odd 0 = .ok (.aload_n 0, 1) := by decide +kernel
theorem dX11_odd_1 : decode cX11_odd 1 = .ok (.iload_n 1, 1) := by decide +kernel
theorem dX11_odd_2 : decode cX11_odd 2 = .ok (.invokevirtual 189, 3) := by decide +kernel
theorem dX11_odd_5 : decode cX11_odd 5 = .ok (.ifCond .eq 24, 3) := by decide +kernel
theorem dX11_odd_8 : decode cX11_odd 8 = .ok (.aload_n 0, 1) := by decide +kernel
theorem dX11_odd_9 : decode cX11_odd 9 = .ok (.iload_n 2, 1) := by decide +kernel
theorem dX11_odd_10 : decode cX11_odd 10 = .ok (.invokevirtual 179, 3) := by decide +kernel
theorem dX11_odd_13 : decode cX11_odd 13 = .ok (.ifCond .eq 16, 3) := by decide +kernel
theorem dX11_odd_16 : decode cX11_odd 16 = .ok (.aload_n 0, 1) := by decide +kernel
theorem dX11_odd_17 : decode cX11_odd 17 = .ok (.iload_n 3, 1) := by decide +kernel
theorem dX11_odd_18 : decode cX11_odd 18 = .ok (.invokevirtual 179, 3) := by decide +kernel
theorem dX11_odd_21 : decode cX11_odd 21 = .ok (.ifCond .eq 8, 3) := by decide +kernel
theorem dX11_odd_24 : decode cX11_odd 24 = .ok (.iload_n 2, 1) := by decide +kernel
theorem dX11_odd_25 : decode cX11_odd 25 = .ok (.iload_n 3, 1) := by decide +kernel
theorem dX11_odd_26 : decode cX11_odd 26 = .ok (.if_icmp .ne 5, 3) := by decide +kernel
theorem dX11_odd_29 : decode cX11_odd 29 = .ok (.iconst (-1), 1) := by decide +kernel
theorem dX11_odd_30 : decode cX11_odd 30 = .ok (.ireturn, 1) := by decide +kernel
theorem dX11_odd_31 : decode cX11_odd 31 = .ok (.aload_n 0, 1) := by decide +kernel
theorem dX11_odd_32 : decode cX11_odd 32 = .ok (.getfield 58, 3) := by decide +kernel
theorem dX11_odd_35 : decode cX11_odd 35 = .ok (.getfield 155, 3) := by decide +kernel
theorem dX11_odd_38 : decode cX11_odd 38 = .ok (.istore 4, 2) := by decide +kernel
theorem dX11_odd_40 : decode cX11_odd 40 = .ok (.iload 4, 2) := by decide +kernel
theorem dX11_odd_42 : decode cX11_odd 42 = .ok (.aload_n 0, 1) := by decide +kernel
theorem dX11_odd_43 : decode cX11_odd 43 = .ok (.getfield 90, 3) := by decide +kernel
theorem dX11_odd_46 : decode cX11_odd 46 = .ok (.getfield 142, 3) := by decide +kernel
theorem dX11_odd_49 : decode cX11_odd 49 = .ok (.if_icmp .gt 40, 3) := by decide +kernel
theorem dX11_odd_52 : decode cX11_odd 52 = .ok (.aload_n 0, 1) := by decide +kernel
theorem dX11_odd_53 : decode cX11_odd 53 = .ok (.getfield 102, 3) := by decide +kernel
theorem dX11_odd_56 : decode cX11_odd 56 = .ok (.iload_n 1, 1) := by decide +kernel
theorem dX11_odd_57 : decode cX11_odd 57 = .ok (.iload_n 2, 1) := by decide +kernel
theorem dX11_odd_58 : decode cX11_odd 58 = .ok (.iload 4, 2) := by decide +kernel
theorem dX11_odd_60 : decode cX11_odd 60 = .ok (.invokevirtual 222, 3) := by decide +kernel
theorem dX11_odd_63 : decode cX11_odd 63 = .ok (.ifCond .eq 20, 3) := by decide +kernel
theorem dX11_odd_66 : decode cX11_odd 66 = .ok (.aload_n 0, 1) := by decide +kernel
theorem dX11_odd_67 : decode cX11_odd 67 = .ok (.getfield 102, 3) := by decide +kernel
theorem dX11_odd_70 : decode cX11_odd 70 = .ok (.iload_n 1, 1) := by decide +kernel
theorem dX11_odd_71 : decode cX11_odd 71 = .ok (.iload_n 3, 1) := by decide +kernel
theorem dX11_odd_72 : decode cX11_odd 72 = .ok (.iload 4, 2) := by decide +kernel
theorem dX11_odd_74 : decode cX11_odd 74 = .ok (.invokevirtual 222, 3) := by decide +kernel
theorem dX11_odd_77 : decode cX11_odd 77 = .ok (.ifCond .ne 6, 3) := by decide +kernel
theorem dX11_odd_80 : decode cX11_odd 80 = .ok (.iload 4, 2) := by decide +kernel
theorem dX11_odd_82 : decode cX11_odd 82 = .ok (.ireturn, 1) := by decide +kernel
theorem dX11_odd_83 : decode cX11_odd 83 = .ok (.iinc 4 1, 3) := by decide +kernel
theorem dX11_odd_86 : decode cX11_odd 86 = .ok (.goto (-46), 3) := by decide +kernel
theorem dX11_odd_89 : decode cX11_odd 89 = .ok (.iconst (-1), 1) := by decide +kernel
theorem dX11_odd_90 : decode cX11_odd 90 = .ok (.ireturn, 1) := by decide +kernel
theorem dX11_bridge_0 : decode cX11_bridge 0 = .ok (.aload_n 0, 1) := by decide +kernel
theorem dX11_bridge_1 : decode cX11_bridge 1 = .ok (.iload_n 1, 1) := by decide +kernel
theorem dX11_bridge_2 : decode cX11_bridge 2 = .ok (.invokevirtual 179, 3) := by decide +kernel
theorem dX11_bridge_5 : decode cX11_bridge 5 = .ok (.ifCond .eq 11, 3) := by decide +kernel
theorem dX11_bridge_8 : decode cX11_bridge 8 = .ok (.aload_n 0, 1) := by decide +kernel
theorem dX11_bridge_9 : decode cX11_bridge 9 = .ok (.iload_n 2, 1) := by decide +kernel
theorem dX11_bridge_10 : decode cX11_bridge 10 = .ok (.invokevirtual 215, 3) := by decide +kernel
theorem dX11_bridge_13 : decode cX11_bridge 13 = .ok (.ifCond .ne 5, 3) := by decide +kernel
theorem dX11_bridge_16 : decode cX11_bridge 16 = .ok (.iconst (-1), 1) := by decide +kernel
theorem dX11_bridge_17 : decode cX11_bridge 17 = .ok (.ireturn, 1) := by decide +kernel
theorem dX11_bridge_18 : decode cX11_bridge 18 = .ok (.iconst (-1), 1) := by decide +kernel
theorem dX11_bridge_19 : decode cX11_bridge 19 = .ok (.istore_n 3, 1) := by decide +kernel
theorem dX11_bridge_20 : decode cX11_bridge 20 = .ok (.iconst 0, 1) := by decide +kernel
theorem dX11_bridge_21 : decode cX11_bridge 21 = .ok (.istore 4, 2) := by decide +kernel
theorem dX11_bridge_23 : decode cX11_bridge 23 = .ok (.iload 4, 2) := by decide +kernel
theorem dX11_bridge_25 : decode cX11_bridge 25 = .ok (.iconst 1, 1) := by decide +kernel
theorem dX11_bridge_26 : decode cX11_bridge 26 = .ok (.aload_n 0, 1) := by decide +kernel
theorem dX11_bridge_27 : decode cX11_bridge 27 = .ok (.getfield 90, 3) := by decide +kernel
theorem dX11_bridge_30 : decode cX11_bridge 30 = .ok (.getfield 148, 3) := by decide +kernel
theorem dX11_bridge_33 : decode cX11_bridge 33 = .ok (.ishl, 1) := by decide +kernel
theorem dX11_bridge_34 : decode cX11_bridge 34 = .ok (.if_icmp .ge 59, 3) := by decide +kernel
theorem dX11_bridge_37 : decode cX11_bridge 37 = .ok (.iload_n 3, 1) := by decide +kernel
theorem dX11_bridge_38 : decode cX11_bridge 38 = .ok (.iconst (-1), 1) := by decide +kernel
theorem dX11_bridge_39 : decode cX11_bridge 39 = .ok (.if_icmp .eq 15, 3) := by decide +kernel
theorem dX11_bridge_42 : decode cX11_bridge 42 = .ok (.iload 4, 2) := by decide +kernel
theorem dX11_bridge_44 : decode cX11_bridge 44 = .ok (.invokestatic 164, 3) := by decide +kernel
theorem dX11_bridge_47 : decode cX11_bridge 47 = .ok (.iload_n 3, 1) := by decide +kernel
theorem dX11_bridge_48 : decode cX11_bridge 48 = .ok (.invokestatic 164, 3) := by decide +kernel
theorem dX11_bridge_51 : decode cX11_bridge 51 = .ok (.if_icmp .ge 7, 3) := by decide +kernel
theorem dX11_bridge_54 : decode cX11_bridge 54 = .ok (.iconst 1, 1) := by decide +kernel
theorem dX11_bridge_55 : decode cX11_bridge 55 = .ok (.goto 4, 3) := by decide +kernel
theorem dX11_bridge_58 : decode cX11_bridge 58 = .ok (.iconst 0, 1) := by decide +kernel
theorem dX11_bridge_59 : decode cX11_bridge 59 = .ok (.istore 5, 2) := by decide +kernel
theorem dX11_bridge_61 : decode cX11_bridge 61 = .ok (.iload 5, 2) := by decide +kernel
theorem dX11_bridge_63 : decode cX11_bridge 63 = .ok (.ifCond .eq 24, 3) := by decide +kernel
theorem dX11_bridge_66 : decode cX11_bridge 66 = .ok (.aload_n 0, 1) := by decide +kernel
theorem dX11_bridge_67 : decode cX11_bridge 67 = .ok (.iload 4, 2) := by decide +kernel
theorem dX11_bridge_69 : decode cX11_bridge 69 = .ok (.iload_n 1, 1) := by decide +kernel
theorem dX11_bridge_70 : decode cX11_bridge 70 = .ok (.iload_n 2, 1) := by decide +kernel
theorem dX11_bridge_71 : decode cX11_bridge 71 = .ok (.invokevirtual 261, 3) := by decide +kernel
theorem dX11_bridge_74 : decode cX11_bridge 74 = .ok (.aload_n 0, 1) := by decide +kernel
theorem dX11_bridge_75 : decode cX11_bridge 75 = .ok (.getfield 90, 3) := by decide +kernel
theorem dX11_bridge_78 : decode cX11_bridge 78 = .ok (.getfield 264, 3) := by decide +kernel
theorem dX11_bridge_81 : decode cX11_bridge 81 = .ok (.if_icmp .lt 6, 3) := by decide +kernel
theorem dX11_bridge_84 : decode cX11_bridge 84 = .ok (.iload 4, 2) := by decide +kernel
theorem dX11_bridge_86 : decode cX11_bridge 86 = .ok (.istore_n 3, 1) := by decide +kernel
theorem dX11_bridge_87 : decode cX11_bridge 87 = .ok (.iinc 4 1, 3) := by decide +kernel
theorem dX11_bridge_90 : decode cX11_bridge 90 = .ok (.goto (-67), 3) := by decide +kernel
theorem dX11_bridge_93 : decode cX11_bridge 93 = .ok (.iload_n 3, 1) := by decide +kernel
theorem dX11_bridge_94 : decode cX11_bridge 94 = .ok (.ireturn, 1) := by decide +kernel
theorem dX11_change_0 : decode cX11_change 0 = .ok (.aload_n 0, 1) := by decide +kernel
theorem dX11_change_1 : decode cX11_change 1 = .ok (.iload_n 1, 1) := by decide +kernel
theorem dX11_change_2 : decode cX11_change 2 = .ok (.invokevirtual 179, 3) := by decide +kernel
theorem dX11_change_5 : decode cX11_change 5 = .ok (.ifCond .eq 23, 3) := by decide +kernel
theorem dX11_change_8 : decode cX11_change 8 = .ok (.iload_n 2, 1) := by decide +kernel
theorem dX11_change_9 : decode cX11_change 9 = .ok (.ifCond .lt 19, 3) := by decide +kernel
theorem dX11_change_12 : decode cX11_change 12 = .ok (.iload_n 2, 1) := by decide +kernel
theorem dX11_change_13 : decode cX11_change 13 = .ok (.sipush 999, 3) := by decide +kernel
theorem dX11_change_16 : decode cX11_change 16 = .ok (.if_icmp .gt 12, 3) := by decide +kernel
theorem dX11_change_19 : decode cX11_change 19 = .ok (.iload_n 3, 1) := by decide +kernel
theorem dX11_change_20 : decode cX11_change 20 = .ok (.ifCond .lt 8, 3) := by decide +kernel
theorem dX11_change_23 : decode cX11_change 23 = .ok (.iload_n 3, 1) := by decide +kernel
theorem dX11_change_24 : decode cX11_change 24 = .ok (.iconst 1, 1) := by decide +kernel
theorem dX11_change_25 : decode cX11_change 25 = .ok (.if_icmp .le 5, 3) := by decide +kernel
theorem dX11_change_28 : decode cX11_change 28 = .ok (.iconst (-1), 1) := by decide +kernel
theorem dX11_change_29 : decode cX11_change 29 = .ok (.ireturn, 1) := by decide +kernel
theorem dX11_change_30 : decode cX11_change 30 = .ok (.iconst 0, 1) := by decide +kernel
theorem dX11_change_31 : decode cX11_change 31 = .ok (.istore 4, 2) := by decide +kernel
theorem dX11_change_33 : decode cX11_change 33 = .ok (.iload 4, 2) := by decide +kernel
theorem dX11_change_35 : decode cX11_change 35 = .ok (.aload_n 0, 1) := by decide +kernel
theorem dX11_change_36 : decode cX11_change 36 = .ok (.getfield 90, 3) := by decide +kernel
theorem dX11_change_39 : decode cX11_change 39 = .ok (.getfield 148, 3) := by decide +kernel
theorem dX11_change_42 : decode cX11_change 42 = .ok (.if_icmp .ge 92, 3) := by decide +kernel
theorem dX11_change_45 : decode cX11_change 45 = .ok (.aload_n 0, 1) := by decide +kernel
theorem dX11_change_46 : decode cX11_change 46 = .ok (.getfield 102, 3) := by decide +kernel
theorem dX11_change_49 : decode cX11_change 49 = .ok (.iload 4, 2) := by decide +kernel
theorem dX11_change_51 : decode cX11_change 51 = .ok (.iload_n 1, 1) := by decide +kernel
theorem dX11_change_52 : decode cX11_change 52 = .ok (.aload_n 0, 1) := by decide +kernel
theorem dX11_change_53 : decode cX11_change 53 = .ok (.getfield 58, 3) := by decide +kernel
theorem dX11_change_56 : decode cX11_change 56 = .ok (.getfield 155, 3) := by decide +kernel
theorem dX11_change_59 : decode cX11_change 59 = .ok (.invokevirtual 218, 3) := by decide +kernel
theorem dX11_change_62 : decode cX11_change 62 = .ok (.istore 5, 2) := by decide +kernel
theorem dX11_change_64 : decode cX11_change 64 = .ok (.iconst 0, 1) := by decide +kernel
theorem dX11_change_65 : decode cX11_change 65 = .ok (.istore 6, 2) := by decide +kernel
theorem dX11_change_67 : decode cX11_change 67 = .ok (.iload 6, 2) := by decide +kernel
theorem dX11_change_69 : decode cX11_change 69 = .ok (.aload_n 0, 1) := by decide +kernel
theorem dX11_change_70 : decode cX11_change 70 = .ok (.getfield 90, 3) := by decide +kernel
theorem dX11_change_73 : decode cX11_change 73 = .ok (.getfield 148, 3) := by decide +kernel
theorem dX11_change_76 : decode cX11_change 76 = .ok (.if_icmp .ge 52, 3) := by decide +kernel
theorem dX11_change_79 : decode cX11_change 79 = .ok (.iload 4, 2) := by decide +kernel
theorem dX11_change_81 : decode cX11_change 81 = .ok (.iload 6, 2) := by decide +kernel
theorem dX11_change_83 : decode cX11_change 83 = .ok (.if_icmp .eq 39, 3) := by decide +kernel
theorem dX11_change_86 : decode cX11_change 86 = .ok (.iload 5, 2) := by decide +kernel
theorem dX11_change_88 : decode cX11_change 88 = .ok (.aload_n 0, 1) := by decide +kernel
theorem dX11_change_89 : decode cX11_change 89 = .ok (.getfield 102, 3) := by decide +kernel
theorem dX11_change_92 : decode cX11_change 92 = .ok (.iload 6, 2) := by decide +kernel
theorem dX11_change_94 : decode cX11_change 94 = .ok (.iload_n 1, 1) := by decide +kernel
theorem dX11_change_95 : decode cX11_change 95 = .ok (.aload_n 0, 1) := by decide +kernel
theorem dX11_change_96 : decode cX11_change 96 = .ok (.getfield 58, 3) := by decide +kernel
theorem dX11_change_99 : decode cX11_change 99 = .ok (.getfield 155, 3) := by decide +kernel
theorem dX11_change_102 : decode cX11_change 102 = .ok (.invokevirtual 218, 3) := by decide +kernel
theorem dX11_change_105 : decode cX11_change 105 = .ok (.isub, 1) := by decide +kernel
theorem dX11_change_106 : decode cX11_change 106 = .ok (.iload_n 2, 1) := by decide +kernel
theorem dX11_change_107 : decode cX11_change 107 = .ok (.if_icmp .ne 15, 3) := by decide +kernel
theorem dX11_change_110 : decode cX11_change 110 = .ok (.iload_n 3, 1) := by decide +kernel
theorem dX11_change_111 : decode cX11_change 111 = .ok (.ifCond .ne 8, 3) := by decide +kernel
theorem dX11_change_114 : decode cX11_change 114 = .ok (.iload 4, 2) := by decide +kernel
theorem dX11_change_116 : decode cX11_change 116 = .ok (.goto 5, 3) := by decide +kernel
theorem dX11_change_119 : decode cX11_change 119 = .ok (.iload 6, 2) := by decide +kernel
theorem dX11_change_121 : decode cX11_change 121 = .ok (.ireturn, 1) := by decide +kernel
theorem dX11_change_122 : decode cX11_change 122 = .ok (.iinc 6 1, 3) := by decide +kernel
theorem dX11_change_125 : decode cX11_change 125 = .ok (.goto (-58), 3) := by decide +kernel
theorem dX11_change_128 : decode cX11_change 128 = .ok (.iinc 4 1, 3) := by decide +kernel
theorem dX11_change_131 : decode cX11_change 131 = .ok (.goto (-98), 3) := by decide +kernel
theorem dX11_change_134 : decode cX11_change 134 = .ok (.iconst (-1), 1) := by decide +kernel
theorem dX11_change_135 : decode cX11_change 135 = .ok (.ireturn, 1) := by decide +kernel
theorem dX11_chalked_0 : decode cX11_chalked 0 = .ok (.aload_n 0, 1) := by decide +kernel
theorem dX11_chalked_1 : decode cX11_chalked 1 = .ok (.iload_n 1, 1) := by decide +kernel
theorem dX11_chalked_2 : decode cX11_chalked 2 = .ok (.invokevirtual 179, 3) := by decide +kernel
theorem dX11_chalked_5 : decode cX11_chalked 5 = .ok (.ifCond .eq 23, 3) := by decide +kernel
theorem dX11_chalked_8 : decode cX11_chalked 8 = .ok (.iload_n 2, 1) := by decide +kernel
theorem dX11_chalked_9 : decode cX11_chalked 9 = .ok (.ifCond .lt 19, 3) := by decide +kernel
theorem dX11_chalked_12 : decode cX11_chalked 12 = .ok (.iload_n 2, 1) := by decide +kernel
theorem dX11_chalked_13 : decode cX11_chalked 13 = .ok (.sipush 999, 3) := by decide +kernel
theorem dX11_chalked_16 : decode cX11_chalked 16 = .ok (.if_icmp .gt 12, 3) := by decide +kernel
theorem dX11_chalked_19 : decode cX11_chalked 19 = .ok (.iload_n 3, 1) := by decide +kernel
theorem dX11_chalked_20 : decode cX11_chalked 20 = .ok (.ifCond .lt 8, 3) := by decide +kernel
theorem dX11_chalked_23 : decode cX11_chalked 23 = .ok (.iload_n 3, 1) := by decide +kernel
theorem dX11_chalked_24 : decode cX11_chalked 24 = .ok (.iconst 2, 1) := by decide +kernel
theorem dX11_chalked_25 : decode cX11_chalked 25 = .ok (.if_icmp .le 5, 3) := by decide +kernel
theorem dX11_chalked_28 : decode cX11_chalked 28 = .ok (.iconst (-1), 1) := by decide +kernel
theorem dX11_chalked_29 : decode cX11_chalked 29 = .ok (.ireturn, 1) := by decide +kernel
theorem dX11_chalked_30 : decode cX11_chalked 30 = .ok (.iconst 0, 1) := by decide +kernel
theorem dX11_chalked_31 : decode cX11_chalked 31 = .ok (.istore 4, 2) := by decide +kernel
theorem dX11_chalked_33 : decode cX11_chalked 33 = .ok (.iconst 0, 1) := by decide +kernel
theorem dX11_chalked_34 : decode cX11_chalked 34 = .ok (.istore 5, 2) := by decide +kernel
theorem dX11_chalked_36 : decode cX11_chalked 36 = .ok (.iload 5, 2) := by decide +kernel
theorem dX11_chalked_38 : decode cX11_chalked 38 = .ok (.aload_n 0, 1) := by decide +kernel
theorem dX11_chalked_39 : decode cX11_chalked 39 = .ok (.getfield 90, 3) := by decide +kernel
theorem dX11_chalked_42 : decode cX11_chalked 42 = .ok (.getfield 142, 3) := by decide +kernel
theorem dX11_chalked_45 : decode cX11_chalked 45 = .ok (.if_icmp .gt 66, 3) := by decide +kernel
theorem dX11_chalked_48 : decode cX11_chalked 48 = .ok (.iconst 0, 1) := by decide +kernel
theorem dX11_chalked_49 : decode cX11_chalked 49 = .ok (.istore 6, 2) := by decide +kernel
theorem dX11_chalked_51 : decode cX11_chalked 51 = .ok (.iload 6, 2) := by decide +kernel
theorem dX11_chalked_53 : decode cX11_chalked 53 = .ok (.aload_n 0, 1) := by decide +kernel
theorem dX11_chalked_54 : decode cX11_chalked 54 = .ok (.getfield 90, 3) := by decide +kernel
theorem dX11_chalked_57 : decode cX11_chalked 57 = .ok (.getfield 148, 3) := by decide +kernel
theorem dX11_chalked_60 : decode cX11_chalked 60 = .ok (.if_icmp .ge 45, 3) := by decide +kernel
theorem dX11_chalked_63 : decode cX11_chalked 63 = .ok (.aload_n 0, 1) := by decide +kernel
theorem dX11_chalked_64 : decode cX11_chalked 64 = .ok (.getfield 102, 3) := by decide +kernel
theorem dX11_chalked_67 : decode cX11_chalked 67 = .ok (.iload 6, 2) := by decide +kernel
theorem dX11_chalked_69 : decode cX11_chalked 69 = .ok (.iload_n 1, 1) := by decide +kernel
theorem dX11_chalked_70 : decode cX11_chalked 70 = .ok (.iload 5, 2) := by decide +kernel
theorem dX11_chalked_72 : decode cX11_chalked 72 = .ok (.invokevirtual 218, 3) := by decide +kernel
theorem dX11_chalked_75 : decode cX11_chalked 75 = .ok (.iload_n 2, 1) := by decide +kernel
theorem dX11_chalked_76 : decode cX11_chalked 76 = .ok (.if_icmp .ne 23, 3) := by decide +kernel
theorem dX11_chalked_79 : decode cX11_chalked 79 = .ok (.iload_n 3, 1) := by decide +kernel
theorem dX11_chalked_80 : decode cX11_chalked 80 = .ok (.ifCond .eq 16, 3) := by decide +kernel
theorem dX11_chalked_83 : decode cX11_chalked 83 = .ok (.iload_n 3, 1) := by decide +kernel
theorem dX11_chalked_84 : decode cX11_chalked 84 = .ok (.iconst 1, 1) := by decide +kernel
theorem dX11_chalked_85 : decode cX11_chalked 85 = .ok (.if_icmp .ne 8, 3) := by decide +kernel
theorem dX11_chalked_88 : decode cX11_chalked 88 = .ok (.iload 5, 2) := by decide +kernel
theorem dX11_chalked_90 : decode cX11_chalked 90 = .ok (.goto 5, 3) := by decide +kernel
theorem dX11_chalked_93 : decode cX11_chalked 93 = .ok (.iload 6, 2) := by decide +kernel
theorem dX11_chalked_95 : decode cX11_chalked 95 = .ok (.ireturn, 1) := by decide +kernel
theorem dX11_chalked_96 : decode cX11_chalked 96 = .ok (.iinc 4 1, 3) := by decide +kernel
theorem dX11_chalked_99 : decode cX11_chalked 99 = .ok (.iinc 6 1, 3) := by decide +kernel
theorem dX11_chalked_102 : decode cX11_chalked 102 = .ok (.goto (-51), 3) := by decide +kernel
theorem dX11_chalked_105 : decode cX11_chalked 105 = .ok (.iinc 5 1, 3) := by decide +kernel
theorem dX11_chalked_108 : decode cX11_chalked 108 = .ok (.goto (-72), 3) := by decide +kernel
theorem dX11_chalked_111 : decode cX11_chalked 111 = .ok (.iload_n 3, 1) := by decide +kernel
theorem dX11_chalked_112 : decode cX11_chalked 112 = .ok (.ifCond .ne 8, 3) := by decide +kernel
theorem dX11_chalked_115 : decode cX11_chalked 115 = .ok (.iload 4, 2) := by decide +kernel
theorem dX11_chalked_117 : decode cX11_chalked 117 = .ok (.goto 4, 3) := by decide +kernel
theorem dX11_chalked_120 : decode cX11_chalked 120 = .ok (.iconst (-1), 1) := by decide +kernel
theorem dX11_chalked_121 : decode cX11_chalked 121 = .ok (.ireturn, 1) := by decide +kernel
theorem dX11_see_0 : decode cX11_see 0 = .ok (.aload_n 0, 1) := by decide +kernel
theorem dX11_see_1 : decode cX11_see 1 = .ok (.getfield 65, 3) := by decide +kernel
theorem dX11_see_4 : decode cX11_see 4 = .ok (.aload_n 0, 1) := by decide +kernel
theorem dX11_see_5 : decode cX11_see 5 = .ok (.getfield 14, 3) := by decide +kernel
theorem dX11_see_8 : decode cX11_see 8 = .ok (.aload_n 0, 1) := by decide +kernel
theorem dX11_see_9 : decode cX11_see 9 = .ok (.getfield 90, 3) := by decide +kernel
theorem dX11_see_12 : decode cX11_see 12 = .ok (.invokevirtual 267, 3) := by decide +kernel
theorem dX11_see_15 : decode cX11_see 15 = .ok (.istore_n 1, 1) := by decide +kernel
theorem dX11_see_16 : decode cX11_see 16 = .ok (.iload_n 1, 1) := by decide +kernel
theorem dX11_see_17 : decode cX11_see 17 = .ok (.ifCond .eq 14, 3) := by decide +kernel
theorem dX11_see_20 : decode cX11_see 20 = .ok (.aload_n 0, 1) := by decide +kernel
theorem dX11_see_21 : decode cX11_see 21 = .ok (.getfield 65, 3) := by decide +kernel
theorem dX11_see_24 : decode cX11_see 24 = .ok (.aload_n 0, 1) := by decide +kernel
theorem dX11_see_25 : decode cX11_see 25 = .ok (.getfield 14, 3) := by decide +kernel
theorem dX11_see_28 : decode cX11_see 28 = .ok (.invokevirtual 271, 3) := by decide +kernel
theorem dX11_see_31 : decode cX11_see 31 = .ok (.aload_n 0, 1) := by decide +kernel
theorem dX11_see_32 : decode cX11_see 32 = .ok (.getfield 14, 3) := by decide +kernel
theorem dX11_see_35 : decode cX11_see 35 = .ok (.iconst 0, 1) := by decide +kernel
theorem dX11_see_36 : decode cX11_see 36 = .ok (.putfield 113, 3) := by decide +kernel
theorem dX11_see_39 : decode cX11_see 39 = .ok (.iload_n 1, 1) := by decide +kernel
theorem dX11_see_40 : decode cX11_see 40 = .ok (.ifCond .eq 13, 3) := by decide +kernel
theorem dX11_see_43 : decode cX11_see 43 = .ok (.aload_n 0, 1) := by decide +kernel
theorem dX11_see_44 : decode cX11_see 44 = .ok (.getfield 65, 3) := by decide +kernel
theorem dX11_see_47 : decode cX11_see 47 = .ok (.getfield 133, 3) := by decide +kernel
theorem dX11_see_50 : decode cX11_see 50 = .ok (.goto 8, 3) := by decide +kernel
theorem dX11_see_53 : decode cX11_see 53 = .ok (.aload_n 0, 1) := by decide +kernel
theorem dX11_see_54 : decode cX11_see 54 = .ok (.iconst 1, 1) := by decide +kernel
theorem dX11_see_55 : decode cX11_see 55 = .ok (.invokevirtual 116, 3) := by decide +kernel
theorem dX11_see_58 : decode cX11_see 58 = .ok (.ireturn, 1) := by decide +kernel
theorem dX11_minutes_0 : decode cX11_minutes 0 = .ok (.aload_n 0, 1) := by decide +kernel
theorem dX11_minutes_1 : decode cX11_minutes 1 = .ok (.getfield 90, 3) := by decide +kernel
theorem dX11_minutes_4 : decode cX11_minutes 4 = .ok (.getfield 142, 3) := by decide +kernel
theorem dX11_minutes_7 : decode cX11_minutes 7 = .ok (.ifCond .eq 12, 3) := by decide +kernel
theorem dX11_minutes_10 : decode cX11_minutes 10 = .ok (.iload_n 1, 1) := by decide +kernel
theorem dX11_minutes_11 : decode cX11_minutes 11 = .ok (.ifCond .lt 8, 3) := by decide +kernel
theorem dX11_minutes_14 : decode cX11_minutes 14 = .ok (.iload_n 1, 1) := by decide +kernel
theorem dX11_minutes_15 : decode cX11_minutes 15 = .ok (.iconst 2, 1) := by decide +kernel
theorem dX11_minutes_16 : decode cX11_minutes 16 = .ok (.if_icmp .le 5, 3) := by decide +kernel
theorem dX11_minutes_19 : decode cX11_minutes 19 = .ok (.iconst (-1), 1) := by decide +kernel
theorem dX11_minutes_20 : decode cX11_minutes 20 = .ok (.ireturn, 1) := by decide +kernel
theorem dX11_minutes_21 : decode cX11_minutes 21 = .ok (.iconst 0, 1) := by decide +kernel
theorem dX11_minutes_22 : decode cX11_minutes 22 = .ok (.istore_n 2, 1) := by decide +kernel
theorem dX11_minutes_23 : decode cX11_minutes 23 = .ok (.iconst (-1), 1) := by decide +kernel
theorem dX11_minutes_24 : decode cX11_minutes 24 = .ok (.istore_n 3, 1) := by decide +kernel
theorem dX11_minutes_25 : decode cX11_minutes 25 = .ok (.iconst (-1), 1) := by decide +kernel
theorem dX11_minutes_26 : decode cX11_minutes 26 = .ok (.istore 4, 2) := by decide +kernel
theorem dX11_minutes_28 : decode cX11_minutes 28 = .ok (.iconst 0, 1) := by decide +kernel
theorem dX11_minutes_29 : decode cX11_minutes 29 = .ok (.istore 5, 2) := by decide +kernel
theorem dX11_minutes_31 : decode cX11_minutes 31 = .ok (.iload 5, 2) := by decide +kernel
theorem dX11_minutes_33 : decode cX11_minutes 33 = .ok (.aload_n 0, 1) := by decide +kernel
theorem dX11_minutes_34 : decode cX11_minutes 34 = .ok (.getfield 90, 3) := by decide +kernel
theorem dX11_minutes_37 : decode cX11_minutes 37 = .ok (.getfield 142, 3) := by decide +kernel
theorem dX11_minutes_40 : decode cX11_minutes 40 = .ok (.if_icmp .gt 44, 3) := by decide +kernel
theorem dX11_minutes_43 : decode cX11_minutes 43 = .ok (.aload_n 0, 1) := by decide +kernel
theorem dX11_minutes_44 : decode cX11_minutes 44 = .ok (.getfield 65, 3) := by decide +kernel
theorem dX11_minutes_47 : decode cX11_minutes 47 = .ok (.aload_n 0, 1) := by decide +kernel
theorem dX11_minutes_48 : decode cX11_minutes 48 = .ok (.getfield 102, 3) := by decide +kernel
theorem dX11_minutes_51 : decode cX11_minutes 51 = .ok (.iload 5, 2) := by decide +kernel
theorem dX11_minutes_53 : decode cX11_minutes 53 = .ok (.invokevirtual 274, 3) := by decide +kernel
theorem dX11_minutes_56 : decode cX11_minutes 56 = .ok (.ifCond .ne 22, 3) := by decide +kernel
theorem dX11_minutes_59 : decode cX11_minutes 59 = .ok (.iinc 2 1, 3) := by decide +kernel
theorem dX11_minutes_62 : decode cX11_minutes 62 = .ok (.iload_n 3, 1) := by decide +kernel
theorem dX11_minutes_63 : decode cX11_minutes 63 = .ok (.iconst (-1), 1) := by decide +kernel
theorem dX11_minutes_64 : decode cX11_minutes 64 = .ok (.if_icmp .ne 8, 3) := by decide +kernel
theorem dX11_minutes_67 : decode cX11_minutes 67 = .ok (.iload 5, 2) := by decide +kernel
theorem dX11_minutes_69 : decode cX11_minutes 69 = .ok (.goto 4, 3) := by decide +kernel
theorem dX11_minutes_72 : decode cX11_minutes 72 = .ok (.iload_n 3, 1) := by decide +kernel
theorem dX11_minutes_73 : decode cX11_minutes 73 = .ok (.istore_n 3, 1) := by decide +kernel
theorem dX11_minutes_74 : decode cX11_minutes 74 = .ok (.iload 5, 2) := by decide +kernel
theorem dX11_minutes_76 : decode cX11_minutes 76 = .ok (.istore 4, 2) := by decide +kernel
theorem dX11_minutes_78 : decode cX11_minutes 78 = .ok (.iinc 5 1, 3) := by decide +kernel
theorem dX11_minutes_81 : decode cX11_minutes 81 = .ok (.goto (-50), 3) := by decide +kernel
theorem dX11_minutes_84 : decode cX11_minutes 84 = .ok (.iload_n 1, 1) := by decide +kernel
theorem dX11_minutes_85 : decode cX11_minutes 85 = .ok (.ifCond .ne 5, 3) := by decide +kernel
theorem dX11_minutes_88 : decode cX11_minutes 88 = .ok (.iload_n 2, 1) := by decide +kernel
theorem dX11_minutes_89 : decode cX11_minutes 89 = .ok (.ireturn, 1) := by decide +kernel
theorem dX11_minutes_90 : decode cX11_minutes 90 = .ok (.iload_n 1, 1) := by decide +kernel
theorem dX11_minutes_91 : decode cX11_minutes 91 = .ok (.iconst 1, 1) := by decide +kernel
theorem dX11_minutes_92 : decode cX11_minutes 92 = .ok (.if_icmp .ne 7, 3) := by decide +kernel
theorem dX11_minutes_95 : decode cX11_minutes 95 = .ok (.iload_n 3, 1) := by decide +kernel
theorem dX11_minutes_96 : decode cX11_minutes 96 = .ok (.goto 5, 3) := by decide +kernel
theorem dX11_minutes_99 : decode cX11_minutes 99 = .ok (.iload 4, 2) := by decide +kernel
theorem dX11_minutes_101 : decode cX11_minutes 101 = .ok (.ireturn, 1) := by decide +kernel
theorem dX11_lamps_0 : decode cX11_lamps 0 = .ok (.aload_n 0, 1) := by decide +kernel
theorem dX11_lamps_1 : decode cX11_lamps 1 = .ok (.getfield 90, 3) := by decide +kernel
theorem dX11_lamps_4 : decode cX11_lamps 4 = .ok (.getfield 142, 3) := by decide +kernel
theorem dX11_lamps_7 : decode cX11_lamps 7 = .ok (.ifCond .eq 12, 3) := by decide +kernel
theorem dX11_lamps_10 : decode cX11_lamps 10 = .ok (.iload_n 1, 1) := by decide +kernel
theorem dX11_lamps_11 : decode cX11_lamps 11 = .ok (.ifCond .lt 8, 3) := by decide +kernel
theorem dX11_lamps_14 : decode cX11_lamps 14 = .ok (.iload_n 1, 1) := by decide +kernel
theorem dX11_lamps_15 : decode cX11_lamps 15 = .ok (.iconst 2, 1) := by decide +kernel
theorem dX11_lamps_16 : decode cX11_lamps 16 = .ok (.if_icmp .le 5, 3) := by decide +kernel
theorem dX11_lamps_19 : decode cX11_lamps 19 = .ok (.iconst (-1), 1) := by decide +kernel
theorem dX11_lamps_20 : decode cX11_lamps 20 = .ok (.ireturn, 1) := by decide +kernel
theorem dX11_lamps_21 : decode cX11_lamps 21 = .ok (.aload_n 0, 1) := by decide +kernel
theorem dX11_lamps_22 : decode cX11_lamps 22 = .ok (.getfield 65, 3) := by decide +kernel
theorem dX11_lamps_25 : decode cX11_lamps 25 = .ok (.aload_n 0, 1) := by decide +kernel
theorem dX11_lamps_26 : decode cX11_lamps 26 = .ok (.getfield 102, 3) := by decide +kernel
theorem dX11_lamps_29 : decode cX11_lamps 29 = .ok (.iconst 0, 1) := by decide +kernel
theorem dX11_lamps_30 : decode cX11_lamps 30 = .ok (.invokevirtual 274, 3) := by decide +kernel
theorem dX11_lamps_33 : decode cX11_lamps 33 = .ok (.istore_n 2, 1) := by decide +kernel
theorem dX11_lamps_34 : decode cX11_lamps 34 = .ok (.iconst 0, 1) := by decide +kernel
theorem dX11_lamps_35 : decode cX11_lamps 35 = .ok (.istore_n 3, 1) := by decide +kernel
theorem dX11_lamps_36 : decode cX11_lamps 36 = .ok (.iconst 1, 1) := by decide +kernel
theorem dX11_lamps_37 : decode cX11_lamps 37 = .ok (.istore 4, 2) := by decide +kernel
theorem dX11_lamps_39 : decode cX11_lamps 39 = .ok (.iload 4, 2) := by decide +kernel
theorem dX11_lamps_41 : decode cX11_lamps 41 = .ok (.aload_n 0, 1) := by decide +kernel
theorem dX11_lamps_42 : decode cX11_lamps 42 = .ok (.getfield 90, 3) := by decide +kernel
theorem dX11_lamps_45 : decode cX11_lamps 45 = .ok (.getfield 142, 3) := by decide +kernel
theorem dX11_lamps_48 : decode cX11_lamps 48 = .ok (.if_icmp .gt 42, 3) := by decide +kernel
theorem dX11_lamps_51 : decode cX11_lamps 51 = .ok (.aload_n 0, 1) := by decide +kernel
theorem dX11_lamps_52 : decode cX11_lamps 52 = .ok (.getfield 65, 3) := by decide +kernel
theorem dX11_lamps_55 : decode cX11_lamps 55 = .ok (.aload_n 0, 1) := by decide +kernel
theorem dX11_lamps_56 : decode cX11_lamps 56 = .ok (.getfield 102, 3) := by decide +kernel
theorem dX11_lamps_59 : decode cX11_lamps 59 = .ok (.iload 4, 2) := by decide +kernel
theorem dX11_lamps_61 : decode cX11_lamps 61 = .ok (.invokevirtual 274, 3) := by decide +kernel
theorem dX11_lamps_64 : decode cX11_lamps 64 = .ok (.istore 5, 2) := by decide +kernel
theorem dX11_lamps_66 : decode cX11_lamps 66 = .ok (.iload 5, 2) := by decide +kernel
theorem dX11_lamps_68 : decode cX11_lamps 68 = .ok (.invokestatic 164, 3) := by decide +kernel
theorem dX11_lamps_71 : decode cX11_lamps 71 = .ok (.iload_n 2, 1) := by decide +kernel
theorem dX11_lamps_72 : decode cX11_lamps 72 = .ok (.invokestatic 164, 3) := by decide +kernel
theorem dX11_lamps_75 : decode cX11_lamps 75 = .ok (.if_icmp .ge 9, 3) := by decide +kernel
theorem dX11_lamps_78 : decode cX11_lamps 78 = .ok (.iload 5, 2) := by decide +kernel
theorem dX11_lamps_80 : decode cX11_lamps 80 = .ok (.istore_n 2, 1) := by decide +kernel
theorem dX11_lamps_81 : decode cX11_lamps 81 = .ok (.iload 4, 2) := by decide +kernel
theorem dX11_lamps_83 : decode cX11_lamps 83 = .ok (.istore_n 3, 1) := by decide +kernel
theorem dX11_lamps_84 : decode cX11_lamps 84 = .ok (.iinc 4 1, 3) := by decide +kernel
theorem dX11_lamps_87 : decode cX11_lamps 87 = .ok (.goto (-48), 3) := by decide +kernel
theorem dX11_lamps_90 : decode cX11_lamps 90 = .ok (.iload_n 1, 1) := by decide +kernel
theorem dX11_lamps_91 : decode cX11_lamps 91 = .ok (.ifCond .ne 8, 3) := by decide +kernel
theorem dX11_lamps_94 : decode cX11_lamps 94 = .ok (.iload_n 2, 1) := by decide +kernel
theorem dX11_lamps_95 : decode cX11_lamps 95 = .ok (.invokestatic 164, 3) := by decide +kernel
theorem dX11_lamps_98 : decode cX11_lamps 98 = .ok (.ireturn, 1) := by decide +kernel
theorem dX11_lamps_99 : decode cX11_lamps 99 = .ok (.iload_n 1, 1) := by decide +kernel
theorem dX11_lamps_100 : decode cX11_lamps 100 = .ok (.iconst 1, 1) := by decide +kernel
theorem dX11_lamps_101 : decode cX11_lamps 101 = .ok (.if_icmp .ne 7, 3) := by decide +kernel
theorem dX11_lamps_104 : decode cX11_lamps 104 = .ok (.iload_n 2, 1) := by decide +kernel
theorem dX11_lamps_105 : decode cX11_lamps 105 = .ok (.goto 4, 3) := by decide +kernel
theorem dX11_lamps_108 : decode cX11_lamps 108 = .ok (.iload_n 3, 1) := by decide +kernel
theorem dX11_lamps_109 : decode cX11_lamps 109 = .ok (.ireturn, 1) := by decide +kernel
theorem dX11_walk_0 : decode cX11_walk 0 = .ok (.aload_n 0, 1) := by decide +kernel
theorem dX11_walk_1 : decode cX11_walk 1 = .ok (.iload_n 1, 1) := by decide +kernel
theorem dX11_walk_2 : decode cX11_walk 2 = .ok (.invokevirtual 179, 3) := by decide +kernel
theorem dX11_walk_5 : decode cX11_walk 5 = .ok (.ifCond .ne 9, 3) := by decide +kernel
theorem dX11_walk_8 : decode cX11_walk 8 = .ok (.aload_n 0, 1) := by decide +kernel
theorem dX11_walk_9 : decode cX11_walk 9 = .ok (.iconst 2, 1) := by decide +kernel
theorem dX11_walk_10 : decode cX11_walk 10 = .ok (.invokevirtual 116, 3) := by decide +kernel
theorem dX11_walk_13 : decode cX11_walk 13 = .ok (.ireturn, 1) := by decide +kernel
theorem dX11_walk_14 : decode cX11_walk 14 = .ok (.aload_n 0, 1) := by decide +kernel
theorem dX11_walk_15 : decode cX11_walk 15 = .ok (.getfield 90, 3) := by decide +kernel
theorem dX11_walk_18 : decode cX11_walk 18 = .ok (.getfield 195, 3) := by decide +kernel
theorem dX11_walk_21 : decode cX11_walk 21 = .ok (.iload_n 1, 1) := by decide +kernel
theorem dX11_walk_22 : decode cX11_walk 22 = .ok (.iaload, 1) := by decide +kernel
theorem dX11_walk_23 : decode cX11_walk 23 = .ok (.aload_n 0, 1) := by decide +kernel
theorem dX11_walk_24 : decode cX11_walk 24 = .ok (.getfield 58, 3) := by decide +kernel
theorem dX11_walk_27 : decode cX11_walk 27 = .ok (.getfield 158, 3) := by decide +kernel
theorem dX11_walk_30 : decode cX11_walk 30 = .ok (.isub, 1) := by decide +kernel
theorem dX11_walk_31 : decode cX11_walk 31 = .ok (.invokestatic 278, 3) := by decide +kernel
theorem dX11_walk_34 : decode cX11_walk 34 = .ok (.istore_n 2, 1) := by decide +kernel
theorem dX11_walk_35 : decode cX11_walk 35 = .ok (.iload_n 2, 1) := by decide +kernel
theorem dX11_walk_36 : decode cX11_walk 36 = .ok (.ifCond .eq 22, 3) := by decide +kernel
theorem dX11_walk_39 : decode cX11_walk 39 = .ok (.aload_n 0, 1) := by decide +kernel
theorem dX11_walk_40 : decode cX11_walk 40 = .ok (.getfield 58, 3) := by decide +kernel
theorem dX11_walk_43 : decode cX11_walk 43 = .ok (.getfield 155, 3) := by decide +kernel
theorem dX11_walk_46 : decode cX11_walk 46 = .ok (.iload_n 2, 1) := by decide +kernel
theorem dX11_walk_47 : decode cX11_walk 47 = .ok (.iadd, 1) := by decide +kernel
theorem dX11_walk_48 : decode cX11_walk 48 = .ok (.aload_n 0, 1) := by decide +kernel
theorem dX11_walk_49 : decode cX11_walk 49 = .ok (.getfield 90, 3) := by decide +kernel
theorem dX11_walk_52 : decode cX11_walk 52 = .ok (.getfield 142, 3) := by decide +kernel
theorem dX11_walk_55 : decode cX11_walk 55 = .ok (.if_icmp .le 9, 3) := by decide +kernel
theorem dX11_walk_58 : decode cX11_walk 58 = .ok (.aload_n 0, 1) := by decide +kernel
theorem dX11_walk_59 : decode cX11_walk 59 = .ok (.iconst 2, 1) := by decide +kernel
theorem dX11_walk_60 : decode cX11_walk 60 = .ok (.invokevirtual 116, 3) := by decide +kernel
theorem dX11_walk_63 : decode cX11_walk 63 = .ok (.ireturn, 1) := by decide +kernel
theorem dX11_walk_64 : decode cX11_walk 64 = .ok (.aload_n 0, 1) := by decide +kernel
theorem dX11_walk_65 : decode cX11_walk 65 = .ok (.getfield 58, 3) := by decide +kernel
theorem dX11_walk_68 : decode cX11_walk 68 = .ok (.invokevirtual 283, 3) := by decide +kernel
theorem dX11_walk_71 : decode cX11_walk 71 = .ok (.aload_n 0, 1) := by decide +kernel
theorem dX11_walk_72 : decode cX11_walk 72 = .ok (.getfield 58, 3) := by decide +kernel
theorem dX11_walk_75 : decode cX11_walk 75 = .ok (.dup, 1) := by decide +kernel
theorem dX11_walk_76 : decode cX11_walk 76 = .ok (.getfield 155, 3) := by decide +kernel
theorem dX11_walk_79 : decode cX11_walk 79 = .ok (.iload_n 2, 1) := by decide +kernel
theorem dX11_walk_80 : decode cX11_walk 80 = .ok (.iadd, 1) := by decide +kernel
theorem dX11_walk_81 : decode cX11_walk 81 = .ok (.putfield 155, 3) := by decide +kernel
theorem dX11_walk_84 : decode cX11_walk 84 = .ok (.aload_n 0, 1) := by decide +kernel
theorem dX11_walk_85 : decode cX11_walk 85 = .ok (.getfield 58, 3) := by decide +kernel
theorem dX11_walk_88 : decode cX11_walk 88 = .ok (.aload_n 0, 1) := by decide +kernel
theorem dX11_walk_89 : decode cX11_walk 89 = .ok (.getfield 90, 3) := by decide +kernel
theorem dX11_walk_92 : decode cX11_walk 92 = .ok (.getfield 195, 3) := by decide +kernel
theorem dX11_walk_95 : decode cX11_walk 95 = .ok (.iload_n 1, 1) := by decide +kernel
theorem dX11_walk_96 : decode cX11_walk 96 = .ok (.iaload, 1) := by decide +kernel
theorem dX11_walk_97 : decode cX11_walk 97 = .ok (.putfield 158, 3) := by decide +kernel
theorem dX11_walk_100 : decode cX11_walk 100 = .ok (.aload_n 0, 1) := by decide +kernel
theorem dX11_walk_101 : decode cX11_walk 101 = .ok (.getfield 58, 3) := by decide +kernel
theorem dX11_walk_104 : decode cX11_walk 104 = .ok (.getfield 155, 3) := by decide +kernel
theorem dX11_walk_107 : decode cX11_walk 107 = .ok (.ireturn, 1) := by decide +kernel
theorem dX11_pause_0 : decode cX11_pause 0 = .ok (.aload_n 0, 1) := by decide +kernel
theorem dX11_pause_1 : decode cX11_pause 1 = .ok (.iload_n 1, 1) := by decide +kernel
theorem dX11_pause_2 : decode cX11_pause 2 = .ok (.invokevirtual 286, 3) := by decide +kernel
theorem dX11_pause_5 : decode cX11_pause 5 = .ok (.ifCond .ne 11, 3) := by decide +kernel
theorem dX11_pause_8 : decode cX11_pause 8 = .ok (.aload_n 0, 1) := by decide +kernel
theorem dX11_pause_9 : decode cX11_pause 9 = .ok (.iconst 3, 1) := by decide +kernel
theorem dX11_pause_10 : decode cX11_pause 10 = .ok (.invokevirtual 116, 3) := by decide +kernel
theorem dX11_pause_13 : decode cX11_pause 13 = .ok (.pop, 1) := by decide +kernel
theorem dX11_pause_14 : decode cX11_pause 14 = .ok (.iconst 0, 1) := by decide +kernel
theorem dX11_pause_15 : decode cX11_pause 15 = .ok (.ireturn, 1) := by decide +kernel
theorem dX11_pause_16 : decode cX11_pause 16 = .ok (.aload_n 0, 1) := by decide +kernel
theorem dX11_pause_17 : decode cX11_pause 17 = .ok (.getfield 58, 3) := by decide +kernel
theorem dX11_pause_20 : decode cX11_pause 20 = .ok (.invokevirtual 283, 3) := by decide +kernel
theorem dX11_pause_23 : decode cX11_pause 23 = .ok (.aload_n 0, 1) := by decide +kernel
theorem dX11_pause_24 : decode cX11_pause 24 = .ok (.getfield 58, 3) := by decide +kernel
theorem dX11_pause_27 : decode cX11_pause 27 = .ok (.dup, 1) := by decide +kernel
theorem dX11_pause_28 : decode cX11_pause 28 = .ok (.getfield 155, 3) := by decide +kernel
theorem dX11_pause_31 : decode cX11_pause 31 = .ok (.iload_n 1, 1) := by decide +kernel
theorem dX11_pause_32 : decode cX11_pause 32 = .ok (.iadd, 1) := by decide +kernel
theorem dX11_pause_33 : decode cX11_pause 33 = .ok (.putfield 155, 3) := by decide +kernel
theorem dX11_pause_36 : decode cX11_pause 36 = .ok (.iconst 1, 1) := by decide +kernel
theorem dX11_pause_37 : decode cX11_pause 37 = .ok (.ireturn, 1) := by decide +kernel
theorem dX11_buy_0 : decode cX11_buy 0 = .ok (.aload_n 0, 1) := by decide +kernel
theorem dX11_buy_1 : decode cX11_buy 1 = .ok (.iload_n 1, 1) := by decide +kernel
theorem dX11_buy_2 : decode cX11_buy 2 = .ok (.iload_n 2, 1) := by decide +kernel
theorem dX11_buy_3 : decode cX11_buy 3 = .ok (.invokevirtual 289, 3) := by decide +kernel
theorem dX11_buy_6 : decode cX11_buy 6 = .ok (.ifCond .ne 11, 3) := by decide +kernel
theorem dX11_buy_9 : decode cX11_buy 9 = .ok (.aload_n 0, 1) := by decide +kernel
theorem dX11_buy_10 : decode cX11_buy 10 = .ok (.iconst 2, 1) := by decide +kernel
theorem dX11_buy_11 : decode cX11_buy 11 = .ok (.invokevirtual 116, 3) := by decide +kernel
theorem dX11_buy_14 : decode cX11_buy 14 = .ok (.pop, 1) := by decide +kernel
theorem dX11_buy_15 : decode cX11_buy 15 = .ok (.iconst 0, 1) := by decide +kernel
theorem dX11_buy_16 : decode cX11_buy 16 = .ok (.ireturn, 1) := by decide +kernel
theorem dX11_buy_17 : decode cX11_buy 17 = .ok (.aload_n 0, 1) := by decide +kernel
theorem dX11_buy_18 : decode cX11_buy 18 = .ok (.getfield 58, 3) := by decide +kernel
theorem dX11_buy_21 : decode cX11_buy 21 = .ok (.invokevirtual 283, 3) := by decide +kernel
theorem dX11_buy_24 : decode cX11_buy 24 = .ok (.aload_n 0, 1) := by decide +kernel
theorem dX11_buy_25 : decode cX11_buy 25 = .ok (.getfield 58, 3) := by decide +kernel
theorem dX11_buy_28 : decode cX11_buy 28 = .ok (.iload_n 1, 1) := by decide +kernel
theorem dX11_buy_29 : decode cX11_buy 29 = .ok (.iload_n 2, 1) := by decide +kernel
theorem dX11_buy_30 : decode cX11_buy 30 = .ok (.invokevirtual 293, 3) := by decide +kernel
theorem dX11_buy_33 : decode cX11_buy 33 = .ok (.iconst 1, 1) := by decide +kernel
theorem dX11_buy_34 : decode cX11_buy 34 = .ok (.ireturn, 1) := by decide +kernel
theorem dX11_chance_0 : decode cX11_chance 0 = .ok (.aload_n 0, 1) := by decide +kernel
theorem dX11_chance_1 : decode cX11_chance 1 = .ok (.iload_n 1, 1) := by decide +kernel
theorem dX11_chance_2 : decode cX11_chance 2 = .ok (.invokevirtual 286, 3) := by decide +kernel
theorem dX11_chance_5 : decode cX11_chance 5 = .ok (.ifCond .ne 9, 3) := by decide +kernel
theorem dX11_chance_8 : decode cX11_chance 8 = .ok (.aload_n 0, 1) := by decide +kernel
theorem dX11_chance_9 : decode cX11_chance 9 = .ok (.iconst 3, 1) := by decide +kernel
theorem dX11_chance_10 : decode cX11_chance 10 = .ok (.invokevirtual 116, 3) := by decide +kernel
theorem dX11_chance_13 : decode cX11_chance 13 = .ok (.ireturn, 1) := by decide +kernel
theorem dX11_chance_14 : decode cX11_chance 14 = .ok (.aload_n 0, 1) := by decide +kernel
theorem dX11_chance_15 : decode cX11_chance 15 = .ok (.getfield 58, 3) := by decide +kernel
theorem dX11_chance_18 : decode cX11_chance 18 = .ok (.invokevirtual 283, 3) := by decide +kernel
theorem dX11_chance_21 : decode cX11_chance 21 = .ok (.aload_n 0, 1) := by decide +kernel
theorem dX11_chance_22 : decode cX11_chance 22 = .ok (.getfield 58, 3) := by decide +kernel
theorem dX11_chance_25 : decode cX11_chance 25 = .ok (.getfield 154, 3) := by decide +kernel
theorem dX11_chance_28 : decode cX11_chance 28 = .ok (.istore_n 2, 1) := by decide +kernel
theorem dX11_chance_29 : decode cX11_chance 29 = .ok (.iconst 0, 1) := by decide +kernel
theorem dX11_chance_30 : decode cX11_chance 30 = .ok (.istore_n 3, 1) := by decide +kernel
theorem dX11_chance_31 : decode cX11_chance 31 = .ok (.iload_n 3, 1) := by decide +kernel
theorem dX11_chance_32 : decode cX11_chance 32 = .ok (.iload_n 1, 1) := by decide +kernel
theorem dX11_chance_33 : decode cX11_chance 33 = .ok (.if_icmp .ge 20, 3) := by decide +kernel
theorem dX11_chance_36 : decode cX11_chance 36 = .ok (.aload_n 0, 1) := by decide +kernel
theorem dX11_chance_37 : decode cX11_chance 37 = .ok (.getfield 58, 3) := by decide +kernel
theorem dX11_chance_40 : decode cX11_chance 40 = .ok (.aload_n 0, 1) := by decide +kernel
theorem dX11_chance_41 : decode cX11_chance 41 = .ok (.getfield 90, 3) := by decide +kernel
theorem dX11_chance_44 : decode cX11_chance 44 = .ok (.invokevirtual 297, 3) := by decide +kernel
theorem dX11_chance_47 : decode cX11_chance 47 = .ok (.iinc 3 1, 3) := by decide +kernel
theorem dX11_chance_50 : decode cX11_chance 50 = .ok (.goto (-19), 3) := by decide +kernel
theorem dX11_chance_53 : decode cX11_chance 53 = .ok (.aload_n 0, 1) := by decide +kernel
theorem dX11_chance_54 : decode cX11_chance 54 = .ok (.getfield 102, 3) := by decide +kernel
theorem dX11_chance_57 : decode cX11_chance 57 = .ok (.aload_n 0, 1) := by decide +kernel
theorem dX11_chance_58 : decode cX11_chance 58 = .ok (.getfield 58, 3) := by decide +kernel
theorem dX11_chance_61 : decode cX11_chance 61 = .ok (.invokevirtual 138, 3) := by decide +kernel
theorem dX11_chance_64 : decode cX11_chance 64 = .ok (.aload_n 0, 1) := by decide +kernel
theorem dX11_chance_65 : decode cX11_chance 65 = .ok (.getfield 58, 3) := by decide +kernel
theorem dX11_chance_68 : decode cX11_chance 68 = .ok (.getfield 154, 3) := by decide +kernel
theorem dX11_chance_71 : decode cX11_chance 71 = .ok (.iload_n 2, 1) := by decide +kernel
theorem dX11_chance_72 : decode cX11_chance 72 = .ok (.isub, 1) := by decide +kernel
theorem dX11_chance_73 : decode cX11_chance 73 = .ok (.ireturn, 1) := by decide +kernel
theorem dX11_undo_0 : decode cX11_undo 0 = .ok (.aload_n 0, 1) := by decide +kernel
theorem dX11_undo_1 : decode cX11_undo 1 = .ok (.getfield 58, 3) := by decide +kernel
theorem dX11_undo_4 : decode cX11_undo 4 = .ok (.getfield 176, 3) := by decide +kernel
theorem dX11_undo_7 : decode cX11_undo 7 = .ok (.ifCond .ne 11, 3) := by decide +kernel
theorem dX11_undo_10 : decode cX11_undo 10 = .ok (.aload_n 0, 1) := by decide +kernel
theorem dX11_undo_11 : decode cX11_undo 11 = .ok (.iconst 4, 1) := by decide +kernel
theorem dX11_undo_12 : decode cX11_undo 12 = .ok (.invokevirtual 116, 3) := by decide +kernel
theorem dX11_undo_15 : decode cX11_undo 15 = .ok (.pop, 1) := by decide +kernel
theorem dX11_undo_16 : decode cX11_undo 16 = .ok (.iconst 0, 1) := by decide +kernel
theorem dX11_undo_17 : decode cX11_undo 17 = .ok (.ireturn, 1) := by decide +kernel
theorem dX11_undo_18 : decode cX11_undo 18 = .ok (.aload_n 0, 1) := by decide +kernel
theorem dX11_undo_19 : decode cX11_undo 19 = .ok (.getfield 58, 3) := by decide +kernel
theorem dX11_undo_22 : decode cX11_undo 22 = .ok (.invokevirtual 300, 3) := by decide +kernel
theorem dX11_undo_25 : decode cX11_undo 25 = .ok (.aload_n 0, 1) := by decide +kernel
theorem dX11_undo_26 : decode cX11_undo 26 = .ok (.getfield 102, 3) := by decide +kernel
theorem dX11_undo_29 : decode cX11_undo 29 = .ok (.aload_n 0, 1) := by decide +kernel
theorem dX11_undo_30 : decode cX11_undo 30 = .ok (.getfield 58, 3) := by decide +kernel
theorem dX11_undo_33 : decode cX11_undo 33 = .ok (.invokevirtual 138, 3) := by decide +kernel
theorem dX11_undo_36 : decode cX11_undo 36 = .ok (.iconst 1, 1) := by decide +kernel
theorem dX11_undo_37 : decode cX11_undo 37 = .ok (.ireturn, 1) := by decide +kernel
theorem dX11_seed_0 : decode cX11_seed 0 = .ok (.iload_n 1, 1) := by decide +kernel
theorem dX11_seed_1 : decode cX11_seed 1 = .ok (.ifCond .ge 11, 3) := by decide +kernel
theorem dX11_seed_4 : decode cX11_seed 4 = .ok (.aload_n 0, 1) := by decide +kernel
theorem dX11_seed_5 : decode cX11_seed 5 = .ok (.iconst 5, 1) := by decide +kernel
theorem dX11_seed_6 : decode cX11_seed 6 = .ok (.invokevirtual 116, 3) := by decide +kernel
theorem dX11_seed_9 : decode cX11_seed 9 = .ok (.pop, 1) := by decide +kernel
theorem dX11_seed_10 : decode cX11_seed 10 = .ok (.iconst 0, 1) := by decide +kernel
theorem dX11_seed_11 : decode cX11_seed 11 = .ok (.ireturn, 1) := by decide +kernel
theorem dX11_seed_12 : decode cX11_seed 12 = .ok (.aload_n 0, 1) := by decide +kernel
theorem dX11_seed_13 : decode cX11_seed 13 = .ok (.getfield 58, 3) := by decide +kernel
theorem dX11_seed_16 : decode cX11_seed 16 = .ok (.iload_n 1, 1) := by decide +kernel
theorem dX11_seed_17 : decode cX11_seed 17 = .ok (.i2l, 1) := by decide +kernel
theorem dX11_seed_18 : decode cX11_seed 18 = .ok (.putfield 303, 3) := by decide +kernel
theorem dX11_seed_21 : decode cX11_seed 21 = .ok (.iconst 1, 1) := by decide +kernel
theorem dX11_seed_22 : decode cX11_seed 22 = .ok (.ireturn, 1) := by decide +kernel
theorem dX11_ask_0 : decode cX11_ask 0 = .ok (.aload_n 0, 1) := by decide +kernel
theorem dX11_ask_1 : decode cX11_ask 1 = .ok (.getfield 90, 3) := by decide +kernel
theorem dX11_ask_4 : decode cX11_ask 4 = .ok (.getfield 142, 3) := by decide +kernel
theorem dX11_ask_7 : decode cX11_ask 7 = .ok (.ifCond .ne 15, 3) := by decide +kernel
theorem dX11_ask_10 : decode cX11_ask 10 = .ok (.aload_n 0, 1) := by decide +kernel
theorem dX11_ask_11 : decode cX11_ask 11 = .ok (.getfield 14, 3) := by decide +kernel
theorem dX11_ask_14 : decode cX11_ask 14 = .ok (.iconst 0, 1) := by decide +kernel
theorem dX11_ask_15 : decode cX11_ask 15 = .ok (.putfield 113, 3) := by decide +kernel
theorem dX11_ask_18 : decode cX11_ask 18 = .ok (.ldc2_w 307, 3) := by decide +kernel
theorem dX11_ask_21 : decode cX11_ask 21 = .ok (.lreturn, 1) := by decide +kernel
theorem dX11_ask_22 : decode cX11_ask 22 = .ok (.aload_n 0, 1) := by decide +kernel
theorem dX11_ask_23 : decode cX11_ask 23 = .ok (.invokevirtual 309, 3) := by decide +kernel
theorem dX11_ask_26 : decode cX11_ask 26 = .ok (.istore_n 1, 1) := by decide +kernel
theorem dX11_ask_27 : decode cX11_ask 27 = .ok (.aload_n 0, 1) := by decide +kernel
theorem dX11_ask_28 : decode cX11_ask 28 = .ok (.getfield 14, 3) := by decide +kernel
theorem dX11_ask_31 : decode cX11_ask 31 = .ok (.iconst 0, 1) := by decide +kernel
theorem dX11_ask_32 : decode cX11_ask 32 = .ok (.putfield 113, 3) := by decide +kernel
theorem dX11_ask_35 : decode cX11_ask 35 = .ok (.aload_n 0, 1) := by decide +kernel
theorem dX11_ask_36 : decode cX11_ask 36 = .ok (.invokevirtual 127, 3) := by decide +kernel
theorem dX11_ask_39 : decode cX11_ask 39 = .ok (.aload_n 0, 1) := by decide +kernel
theorem dX11_ask_40 : decode cX11_ask 40 = .ok (.getfield 106, 3) := by decide +kernel
theorem dX11_ask_43 : decode cX11_ask 43 = .ok (.ifCond .eq 7, 3) := by decide +kernel
theorem dX11_ask_46 : decode cX11_ask 46 = .ok (.ldc2_w 307, 3) := by decide +kernel
theorem dX11_ask_49 : decode cX11_ask 49 = .ok (.lreturn, 1) := by decide +kernel
theorem dX11_ask_50 : decode cX11_ask 50 = .ok (.iload_n 1, 1) := by decide +kernel
theorem dX11_ask_51 : decode cX11_ask 51 = .ok (.bipush 27, 2) := by decide +kernel
theorem dX11_ask_53 : decode cX11_ask 53 = .ok (.if_icmp .gt 11, 3) := by decide +kernel
theorem dX11_ask_56 : decode cX11_ask 56 = .ok (.aload_n 0, 1) := by decide +kernel
theorem dX11_ask_57 : decode cX11_ask 57 = .ok (.iload_n 1, 1) := by decide +kernel
theorem dX11_ask_58 : decode cX11_ask 58 = .ok (.invokevirtual 312, 3) := by decide +kernel
theorem dX11_ask_61 : decode cX11_ask 61 = .ok (.goto 8, 3) := by decide +kernel
theorem dX11_ask_64 : decode cX11_ask 64 = .ok (.aload_n 0, 1) := by decide +kernel
theorem dX11_ask_65 : decode cX11_ask 65 = .ok (.iload_n 1, 1) := by decide +kernel
theorem dX11_ask_66 : decode cX11_ask 66 = .ok (.invokevirtual 316, 3) := by decide +kernel
theorem dX11_ask_69 : decode cX11_ask 69 = .ok (.lreturn, 1) := by decide +kernel
theorem dX11_image_0 : decode cX11_image 0 = .ok (.aload_n 0, 1) := by decide +kernel
theorem dX11_image_1 : decode cX11_image 1 = .ok (.getfield 58, 3) := by decide +kernel
theorem dX11_image_4 : decode cX11_image 4 = .ok (.aload_n 0, 1) := by decide +kernel
theorem dX11_image_5 : decode cX11_image 5 = .ok (.getfield 18, 3) := by decide +kernel
theorem dX11_image_8 : decode cX11_image 8 = .ok (.invokevirtual 319, 3) := by decide +kernel
theorem dX11_image_11 : decode cX11_image 11 = .ok (.aload_n 0, 1) := by decide +kernel
theorem dX11_image_12 : decode cX11_image 12 = .ok (.getfield 18, 3) := by decide +kernel
theorem dX11_image_15 : decode cX11_image 15 = .ok (.getfield 113, 3) := by decide +kernel
theorem dX11_image_18 : decode cX11_image 18 = .ok (.ireturn, 1) := by decide +kernel
theorem dX11_octet_0 : decode cX11_octet 0 = .ok (.aload_n 0, 1) := by decide +kernel
theorem dX11_octet_1 : decode cX11_octet 1 = .ok (.getfield 18, 3) := by decide +kernel
theorem dX11_octet_4 : decode cX11_octet 4 = .ok (.iload_n 1, 1) := by decide +kernel
theorem dX11_octet_5 : decode cX11_octet 5 = .ok (.invokevirtual 322, 3) := by decide +kernel
theorem dX11_octet_8 : decode cX11_octet 8 = .ok (.ireturn, 1) := by decide +kernel
theorem dX11_on_0 : decode cX11_on 0 = .ok (.aload_n 0, 1) := by decide +kernel
theorem dX11_on_1 : decode cX11_on 1 = .ok (.getfield 90, 3) := by decide +kernel
theorem dX11_on_4 : decode cX11_on 4 = .ok (.getfield 142, 3) := by decide +kernel
theorem dX11_on_7 : decode cX11_on 7 = .ok (.ifCond .le 14, 3) := by decide +kernel
theorem dX11_on_10 : decode cX11_on 10 = .ok (.aload_n 0, 1) := by decide +kernel
theorem dX11_on_11 : decode cX11_on 11 = .ok (.invokevirtual 325, 3) := by decide +kernel
theorem dX11_on_14 : decode cX11_on 14 = .ok (.ifCond .eq 7, 3) := by decide +kernel
theorem dX11_on_17 : decode cX11_on 17 = .ok (.iconst 1, 1) := by decide +kernel
theorem dX11_on_18 : decode cX11_on 18 = .ok (.goto 4, 3) := by decide +kernel
theorem dX11_on_21 : decode cX11_on 21 = .ok (.iconst 0, 1) := by decide +kernel
theorem dX11_on_22 : decode cX11_on 22 = .ok (.istore_n 1, 1) := by decide +kernel
theorem dX11_on_23 : decode cX11_on 23 = .ok (.iload_n 1, 1) := by decide +kernel
theorem dX11_on_24 : decode cX11_on 24 = .ok (.ifCond .eq 28, 3) := by decide +kernel
theorem dX11_on_27 : decode cX11_on 27 = .ok (.aload_n 0, 1) := by decide +kernel
theorem dX11_on_28 : decode cX11_on 28 = .ok (.getfield 58, 3) := by decide +kernel
theorem dX11_on_31 : decode cX11_on 31 = .ok (.aload_n 0, 1) := by decide +kernel
theorem dX11_on_32 : decode cX11_on 32 = .ok (.getfield 14, 3) := by decide +kernel
theorem dX11_on_35 : decode cX11_on 35 = .ok (.invokevirtual 329, 3) := by decide +kernel
theorem dX11_on_38 : decode cX11_on 38 = .ok (.aload_n 0, 1) := by decide +kernel
theorem dX11_on_39 : decode cX11_on 39 = .ok (.getfield 102, 3) := by decide +kernel
theorem dX11_on_42 : decode cX11_on 42 = .ok (.aload_n 0, 1) := by decide +kernel
theorem dX11_on_43 : decode cX11_on 43 = .ok (.getfield 58, 3) := by decide +kernel
theorem dX11_on_46 : decode cX11_on 46 = .ok (.invokevirtual 138, 3) := by decide +kernel
theorem dX11_on_49 : decode cX11_on 49 = .ok (.goto 9, 3) := by decide +kernel
theorem dX11_on_52 : decode cX11_on 52 = .ok (.aload_n 0, 1) := by decide +kernel
theorem dX11_on_53 : decode cX11_on 53 = .ok (.iconst 5, 1) := by decide +kernel
theorem dX11_on_54 : decode cX11_on 54 = .ok (.invokevirtual 116, 3) := by decide +kernel
theorem dX11_on_57 : decode cX11_on 57 = .ok (.pop, 1) := by decide +kernel
theorem dX11_on_58 : decode cX11_on 58 = .ok (.aload_n 0, 1) := by decide +kernel
theorem dX11_on_59 : decode cX11_on 59 = .ok (.getfield 14, 3) := by decide +kernel
theorem dX11_on_62 : decode cX11_on 62 = .ok (.iconst 0, 1) := by decide +kernel
theorem dX11_on_63 : decode cX11_on 63 = .ok (.putfield 113, 3) := by decide +kernel
theorem dX11_on_66 : decode cX11_on 66 = .ok (.iload_n 1, 1) := by decide +kernel
theorem dX11_on_67 : decode cX11_on 67 = .ok (.ireturn, 1) := by decide +kernel
theorem dX11_status_0 : decode cX11_status 0 = .ok (.iload_n 1, 1) := by decide +kernel
theorem dX11_status_1 : decode cX11_status 1 = .ok (.ifCond .lt 18, 3) := by decide +kernel
theorem dX11_status_4 : decode cX11_status 4 = .ok (.iload_n 1, 1) := by decide +kernel
theorem dX11_status_5 : decode cX11_status 5 = .ok (.bipush 6, 2) := by decide +kernel
theorem dX11_status_7 : decode cX11_status 7 = .ok (.if_icmp .ge 12, 3) := by decide +kernel
theorem dX11_status_10 : decode cX11_status 10 = .ok (.aload_n 0, 1) := by decide +kernel
theorem dX11_status_11 : decode cX11_status 11 = .ok (.getfield 83, 3) := by decide +kernel
theorem dX11_status_14 : decode cX11_status 14 = .ok (.iload_n 1, 1) := by decide +kernel
theorem dX11_status_15 : decode cX11_status 15 = .ok (.iaload, 1) := by decide +kernel
theorem dX11_status_16 : decode cX11_status 16 = .ok (.goto 4, 3) := by decide +kernel
theorem dX11_status_19 : decode cX11_status 19 = .ok (.iconst (-1), 1) := by decide +kernel
theorem dX11_status_20 : decode cX11_status 20 = .ok (.ireturn, 1) := by decide +kernel
theorem dX11_refuse_0 : decode cX11_refuse 0 = .ok (.aload_n 0, 1) := by decide +kernel
theorem dX11_refuse_1 : decode cX11_refuse 1 = .ok (.getfield 83, 3) := by decide +kernel
theorem dX11_refuse_4 : decode cX11_refuse 4 = .ok (.iload_n 1, 1) := by decide +kernel
theorem dX11_refuse_5 : decode cX11_refuse 5 = .ok (.dup2, 1) := by decide +kernel
theorem dX11_refuse_6 : decode cX11_refuse 6 = .ok (.iaload, 1) := by decide +kernel
theorem dX11_refuse_7 : decode cX11_refuse 7 = .ok (.iconst 1, 1) := by decide +kernel
theorem dX11_refuse_8 : decode cX11_refuse 8 = .ok (.iadd, 1) := by decide +kernel
theorem dX11_refuse_9 : decode cX11_refuse 9 = .ok (.iastore, 1) := by decide +kernel
theorem dX11_refuse_10 : decode cX11_refuse 10 = .ok (.iconst (-1), 1) := by decide +kernel
theorem dX11_refuse_11 : decode cX11_refuse 11 = .ok (.ireturn, 1) := by decide +kernel
theorem dX11_noteFault_0 : decode cX11_noteFault 0 = .ok (.aload_n 0, 1) := by decide +kernel
theorem dX11_noteFault_1 : decode cX11_noteFault 1 = .ok (.aload_n 0, 1) := by decide +kernel
theorem dX11_noteFault_2 : decode cX11_noteFault 2 = .ok (.getfield 26, 3) := by decide +kernel
theorem dX11_noteFault_5 : decode cX11_noteFault 5 = .ok (.getfield 331, 3) := by decide +kernel
theorem dX11_noteFault_8 : decode cX11_noteFault 8 = .ok (.putfield 106, 3) := by decide +kernel
theorem dX11_noteFault_11 : decode cX11_noteFault 11 = .ok (.aload_n 0, 1) := by decide +kernel
theorem dX11_noteFault_12 : decode cX11_noteFault 12 = .ok (.aload_n 0, 1) := by decide +kernel
theorem dX11_noteFault_13 : decode cX11_noteFault 13 = .ok (.getfield 26, 3) := by decide +kernel
theorem dX11_noteFault_16 : decode cX11_noteFault 16 = .ok (.getfield 334, 3) := by decide +kernel
theorem dX11_noteFault_19 : decode cX11_noteFault 19 = .ok (.putfield 110, 3) := by decide +kernel
theorem dX11_noteFault_22 : decode cX11_noteFault 22 = .ok (.return_, 1) := by decide +kernel
theorem dX11_isStall_0 : decode cX11_isStall 0 = .ok (.iload_n 1, 1) := by decide +kernel
theorem dX11_isStall_1 : decode cX11_isStall 1 = .ok (.ifCond .lt 18, 3) := by decide +kernel
theorem dX11_isStall_4 : decode cX11_isStall 4 = .ok (.iload_n 1, 1) := by decide +kernel
theorem dX11_isStall_5 : decode cX11_isStall 5 = .ok (.aload_n 0, 1) := by decide +kernel
theorem dX11_isStall_6 : decode cX11_isStall 6 = .ok (.getfield 90, 3) := by decide +kernel
theorem dX11_isStall_9 : decode cX11_isStall 9 = .ok (.getfield 145, 3) := by decide +kernel
theorem dX11_isStall_12 : decode cX11_isStall 12 = .ok (.if_icmp .ge 7, 3) := by decide +kernel
theorem dX11_isStall_15 : decode cX11_isStall 15 = .ok (.iconst 1, 1) := by decide +kernel
theorem dX11_isStall_16 : decode cX11_isStall 16 = .ok (.goto 4, 3) := by decide +kernel
theorem dX11_isStall_19 : decode cX11_isStall 19 = .ok (.iconst 0, 1) := by decide +kernel
theorem dX11_isStall_20 : decode cX11_isStall 20 = .ok (.ireturn, 1) := by decide +kernel
theorem dX11_isCoin_0 : decode cX11_isCoin 0 = .ok (.iload_n 1, 1) := by decide +kernel
theorem dX11_isCoin_1 : decode cX11_isCoin 1 = .ok (.ifCond .lt 18, 3) := by decide +kernel
theorem dX11_isCoin_4 : decode cX11_isCoin 4 = .ok (.iload_n 1, 1) := by decide +kernel
theorem dX11_isCoin_5 : decode cX11_isCoin 5 = .ok (.aload_n 0, 1) := by decide +kernel
theorem dX11_isCoin_6 : decode cX11_isCoin 6 = .ok (.getfield 90, 3) := by decide +kernel
theorem dX11_isCoin_9 : decode cX11_isCoin 9 = .ok (.getfield 148, 3) := by decide +kernel
theorem dX11_isCoin_12 : decode cX11_isCoin 12 = .ok (.if_icmp .ge 7, 3) := by decide +kernel
theorem dX11_isCoin_15 : decode cX11_isCoin 15 = .ok (.iconst 1, 1) := by decide +kernel
theorem dX11_isCoin_16 : decode cX11_isCoin 16 = .ok (.goto 4, 3) := by decide +kernel
theorem dX11_isCoin_19 : decode cX11_isCoin 19 = .ok (.iconst 0, 1) := by decide +kernel
theorem dX11_isCoin_20 : decode cX11_isCoin 20 = .ok (.ireturn, 1) := by decide +kernel
theorem dX11_isMinute_0 : decode cX11_isMinute 0 = .ok (.iload_n 1, 1) := by decide +kernel
theorem dX11_isMinute_1 : decode cX11_isMinute 1 = .ok (.ifCond .lt 18, 3) := by decide +kernel
theorem dX11_isMinute_4 : decode cX11_isMinute 4 = .ok (.iload_n 1, 1) := by decide +kernel
theorem dX11_isMinute_5 : decode cX11_isMinute 5 = .ok (.aload_n 0, 1) := by decide +kernel
theorem dX11_isMinute_6 : decode cX11_isMinute 6 = .ok (.getfield 90, 3) := by decide +kernel
theorem dX11_isMinute_9 : decode cX11_isMinute 9 = .ok (.getfield 142, 3) := by decide +kernel
theorem dX11_isMinute_12 : decode cX11_isMinute 12 = .ok (.if_icmp .gt 7, 3) := by decide +kernel
theorem dX11_isMinute_15 : decode cX11_isMinute 15 = .ok (.iconst 1, 1) := by decide +kernel
theorem dX11_isMinute_16 : decode cX11_isMinute 16 = .ok (.goto 4, 3) := by decide +kernel
theorem dX11_isMinute_19 : decode cX11_isMinute 19 = .ok (.iconst 0, 1) := by decide +kernel
theorem dX11_isMinute_20 : decode cX11_isMinute 20 = .ok (.ireturn, 1) := by decide +kernel
theorem dX11_canWait_0 : decode cX11_canWait 0 = .ok (.iload_n 1, 1) := by decide +kernel
theorem dX11_canWait_1 : decode cX11_canWait 1 = .ok (.iconst 1, 1) := by decide +kernel
theorem dX11_canWait_2 : decode cX11_canWait 2 = .ok (.if_icmp .lt 33, 3) := by decide +kernel
theorem dX11_canWait_5 : decode cX11_canWait 5 = .ok (.iload_n 1, 1) := by decide +kernel
theorem dX11_canWait_6 : decode cX11_canWait 6 = .ok (.sipush 400, 3) := by decide +kernel
theorem dX11_canWait_9 : decode cX11_canWait 9 = .ok (.if_icmp .gt 26, 3) := by decide +kernel
theorem dX11_canWait_12 : decode cX11_canWait 12 = .ok (.aload_n 0, 1) := by decide +kernel
theorem dX11_canWait_13 : decode cX11_canWait 13 = .ok (.getfield 58, 3) := by decide +kernel
theorem dX11_canWait_16 : decode cX11_canWait 16 = .ok (.getfield 155, 3) := by decide +kernel
theorem dX11_canWait_19 : decode cX11_canWait 19 = .ok (.iload_n 1, 1) := by decide +kernel
theorem dX11_canWait_20 : decode cX11_canWait 20 = .ok (.iadd, 1) := by decide +kernel
theorem dX11_canWait_21 : decode cX11_canWait 21 = .ok (.aload_n 0, 1) := by decide +kernel
theorem dX11_canWait_22 : decode cX11_canWait 22 = .ok (.getfield 90, 3) := by decide +kernel
theorem dX11_canWait_25 : decode cX11_canWait 25 = .ok (.getfield 142, 3) := by decide +kernel
theorem dX11_canWait_28 : decode cX11_canWait 28 = .ok (.if_icmp .gt 7, 3) := by decide +kernel
theorem dX11_canWait_31 : decode cX11_canWait 31 = .ok (.iconst 1, 1) := by decide +kernel
theorem dX11_canWait_32 : decode cX11_canWait 32 = .ok (.goto 4, 3) := by decide +kernel
theorem dX11_canWait_35 : decode cX11_canWait 35 = .ok (.iconst 0, 1) := by decide +kernel
theorem dX11_canWait_36 : decode cX11_canWait 36 = .ok (.ireturn, 1) := by decide +kernel
theorem dX11_canBuy_0 : decode cX11_canBuy 0 = .ok (.aload_n 0, 1) := by decide +kernel
theorem dX11_canBuy_1 : decode cX11_canBuy 1 = .ok (.iload_n 1, 1) := by decide +kernel
theorem dX11_canBuy_2 : decode cX11_canBuy 2 = .ok (.invokevirtual 189, 3) := by decide +kernel
theorem dX11_canBuy_5 : decode cX11_canBuy 5 = .ok (.ifCond .eq 64, 3) := by decide +kernel
theorem dX11_canBuy_8 : decode cX11_canBuy 8 = .ok (.aload_n 0, 1) := by decide +kernel
theorem dX11_canBuy_9 : decode cX11_canBuy 9 = .ok (.iload_n 2, 1) := by decide +kernel
theorem dX11_canBuy_10 : decode cX11_canBuy 10 = .ok (.invokevirtual 179, 3) := by decide +kernel
theorem dX11_canBuy_13 : decode cX11_canBuy 13 = .ok (.ifCond .eq 56, 3) := by decide +kernel
theorem dX11_canBuy_16 : decode cX11_canBuy 16 = .ok (.aload_n 0, 1) := by decide +kernel
theorem dX11_canBuy_17 : decode cX11_canBuy 17 = .ok (.getfield 90, 3) := by decide +kernel
theorem dX11_canBuy_20 : decode cX11_canBuy 20 = .ok (.getfield 195, 3) := by decide +kernel
theorem dX11_canBuy_23 : decode cX11_canBuy 23 = .ok (.iload_n 2, 1) := by decide +kernel
theorem dX11_canBuy_24 : decode cX11_canBuy 24 = .ok (.iaload, 1) := by decide +kernel
theorem dX11_canBuy_25 : decode cX11_canBuy 25 = .ok (.aload_n 0, 1) := by decide +kernel
theorem dX11_canBuy_26 : decode cX11_canBuy 26 = .ok (.getfield 58, 3) := by decide +kernel
theorem dX11_canBuy_29 : decode cX11_canBuy 29 = .ok (.getfield 158, 3) := by decide +kernel
theorem dX11_canBuy_32 : decode cX11_canBuy 32 = .ok (.if_icmp .ne 37, 3) := by decide +kernel
theorem dX11_canBuy_35 : decode cX11_canBuy 35 = .ok (.aload_n 0, 1) := by decide +kernel
theorem dX11_canBuy_36 : decode cX11_canBuy 36 = .ok (.getfield 58, 3) := by decide +kernel
theorem dX11_canBuy_39 : decode cX11_canBuy 39 = .ok (.iload_n 2, 1) := by decide +kernel
theorem dX11_canBuy_40 : decode cX11_canBuy 40 = .ok (.invokevirtual 206, 3) := by decide +kernel
theorem dX11_canBuy_43 : decode cX11_canBuy 43 = .ok (.ifCond .ne 26, 3) := by decide +kernel
theorem dX11_canBuy_46 : decode cX11_canBuy 46 = .ok (.aload_n 0, 1) := by decide +kernel
theorem dX11_canBuy_47 : decode cX11_canBuy 47 = .ok (.getfield 102, 3) := by decide +kernel
theorem dX11_canBuy_50 : decode cX11_canBuy 50 = .ok (.iload_n 1, 1) := by decide +kernel
theorem dX11_canBuy_51 : decode cX11_canBuy 51 = .ok (.iload_n 2, 1) := by decide +kernel
theorem dX11_canBuy_52 : decode cX11_canBuy 52 = .ok (.aload_n 0, 1) := by decide +kernel
theorem dX11_canBuy_53 : decode cX11_canBuy 53 = .ok (.getfield 58, 3) := by decide +kernel
theorem dX11_canBuy_56 : decode cX11_canBuy 56 = .ok (.getfield 155, 3) := by decide +kernel
theorem dX11_canBuy_59 : decode cX11_canBuy 59 = .ok (.invokevirtual 222, 3) := by decide +kernel
theorem dX11_canBuy_62 : decode cX11_canBuy 62 = .ok (.ifCond .eq 7, 3) := by decide +kernel
theorem dX11_canBuy_65 : decode cX11_canBuy 65 = .ok (.iconst 1, 1) := by decide +kernel
theorem dX11_canBuy_66 : decode cX11_canBuy 66 = .ok (.goto 4, 3) := by decide +kernel
theorem dX11_canBuy_69 : decode cX11_canBuy 69 = .ok (.iconst 0, 1) := by decide +kernel
theorem dX11_canBuy_70 : decode cX11_canBuy 70 = .ok (.ireturn, 1) := by decide +kernel
theorem dX11_firstPaying_0 : decode cX11_firstPaying 0 = .ok (.aload_n 0, 1) := by decide +kernel
theorem dX11_firstPaying_1 : decode cX11_firstPaying 1 = .ok (.getfield 58, 3) := by decide +kernel
theorem dX11_firstPaying_4 : decode cX11_firstPaying 4 = .ok (.getfield 155, 3) := by decide +kernel
theorem dX11_firstPaying_7 : decode cX11_firstPaying 7 = .ok (.istore_n 3, 1) := by decide +kernel
theorem dX11_firstPaying_8 : decode cX11_firstPaying 8 = .ok (.iload_n 3, 1) := by decide +kernel
theorem dX11_firstPaying_9 : decode cX11_firstPaying 9 = .ok (.aload_n 0, 1) := by decide +kernel
theorem dX11_firstPaying_10 : decode cX11_firstPaying 10 = .ok (.getfield 90, 3) := by decide +kernel
theorem dX11_firstPaying_13 : decode cX11_firstPaying 13 = .ok (.getfield 142, 3) := by decide +kernel
theorem dX11_firstPaying_16 : decode cX11_firstPaying 16 = .ok (.if_icmp .gt 24, 3) := by decide +kernel
theorem dX11_firstPaying_19 : decode cX11_firstPaying 19 = .ok (.aload_n 0, 1) := by decide +kernel
theorem dX11_firstPaying_20 : decode cX11_firstPaying 20 = .ok (.getfield 102, 3) := by decide +kernel
theorem dX11_firstPaying_23 : decode cX11_firstPaying 23 = .ok (.iload_n 1, 1) := by decide +kernel
theorem dX11_firstPaying_24 : decode cX11_firstPaying 24 = .ok (.iload_n 2, 1) := by decide +kernel
theorem dX11_firstPaying_25 : decode cX11_firstPaying 25 = .ok (.iload_n 3, 1) := by decide +kernel
theorem dX11_firstPaying_26 : decode cX11_firstPaying 26 = .ok (.invokevirtual 222, 3) := by decide +kernel
theorem dX11_firstPaying_29 : decode cX11_firstPaying 29 = .ok (.ifCond .eq 5, 3) := by decide +kernel
theorem dX11_firstPaying_32 : decode cX11_firstPaying 32 = .ok (.iload_n 3, 1) := by decide +kernel
theorem dX11_firstPaying_33 : decode cX11_firstPaying 33 = .ok (.ireturn, 1) := by decide +kernel
theorem dX11_firstPaying_34 : decode cX11_firstPaying 34 = .ok (.iinc 3 1, 3) := by decide +kernel
theorem dX11_firstPaying_37 : decode cX11_firstPaying 37 = .ok (.goto (-29), 3) := by decide +kernel
theorem dX11_firstPaying_40 : decode cX11_firstPaying 40 = .ok (.iconst (-1), 1) := by decide +kernel
theorem dX11_firstPaying_41 : decode cX11_firstPaying 41 = .ok (.ireturn, 1) := by decide +kernel
theorem dX11_lastPaying_0 : decode cX11_lastPaying 0 = .ok (.aload_n 0, 1) := by decide +kernel
theorem dX11_lastPaying_1 : decode cX11_lastPaying 1 = .ok (.getfield 90, 3) := by decide +kernel
theorem dX11_lastPaying_4 : decode cX11_lastPaying 4 = .ok (.getfield 142, 3) := by decide +kernel
theorem dX11_lastPaying_7 : decode cX11_lastPaying 7 = .ok (.istore_n 3, 1) := by decide +kernel
theorem dX11_lastPaying_8 : decode cX11_lastPaying 8 = .ok (.iload_n 3, 1) := by decide +kernel
theorem dX11_lastPaying_9 : decode cX11_lastPaying 9 = .ok (.aload_n 0, 1) := by decide +kernel
theorem dX11_lastPaying_10 : decode cX11_lastPaying 10 = .ok (.getfield 58, 3) := by decide +kernel
theorem dX11_lastPaying_13 : decode cX11_lastPaying 13 = .ok (.getfield 155, 3) := by decide +kernel
theorem dX11_lastPaying_16 : decode cX11_lastPaying 16 = .ok (.if_icmp .lt 24, 3) := by decide +kernel
theorem dX11_lastPaying_19 : decode cX11_lastPaying 19 = .ok (.aload_n 0, 1) := by decide +kernel
theorem dX11_lastPaying_20 : decode cX11_lastPaying 20 = .ok (.getfield 102, 3) := by decide +kernel
theorem dX11_lastPaying_23 : decode cX11_lastPaying 23 = .ok (.iload_n 1, 1) := by decide +kernel
theorem dX11_lastPaying_24 : decode cX11_lastPaying 24 = .ok (.iload_n 2, 1) := by decide +kernel
theorem dX11_lastPaying_25 : decode cX11_lastPaying 25 = .ok (.iload_n 3, 1) := by decide +kernel
theorem dX11_lastPaying_26 : decode cX11_lastPaying 26 = .ok (.invokevirtual 222, 3) := by decide +kernel
theorem dX11_lastPaying_29 : decode cX11_lastPaying 29 = .ok (.ifCond .eq 5, 3) := by decide +kernel
theorem dX11_lastPaying_32 : decode cX11_lastPaying 32 = .ok (.iload_n 3, 1) := by decide +kernel
theorem dX11_lastPaying_33 : decode cX11_lastPaying 33 = .ok (.ireturn, 1) := by decide +kernel
theorem dX11_lastPaying_34 : decode cX11_lastPaying 34 = .ok (.iinc 3 (-1), 3) := by decide +kernel
theorem dX11_lastPaying_37 : decode cX11_lastPaying 37 = .ok (.goto (-29), 3) := by decide +kernel
theorem dX11_lastPaying_40 : decode cX11_lastPaying 40 = .ok (.iconst (-1), 1) := by decide +kernel
theorem dX11_lastPaying_41 : decode cX11_lastPaying 41 = .ok (.ireturn, 1) := by decide +kernel
theorem dX11_payingStalls_0 : decode cX11_payingStalls 0 = .ok (.iconst 0, 1) := by decide +kernel
theorem dX11_payingStalls_1 : decode cX11_payingStalls 1 = .ok (.istore_n 3, 1) := by decide +kernel
theorem dX11_payingStalls_2 : decode cX11_payingStalls 2 = .ok (.iconst 0, 1) := by decide +kernel
theorem dX11_payingStalls_3 : decode cX11_payingStalls 3 = .ok (.istore 4, 2) := by decide +kernel
theorem dX11_payingStalls_5 : decode cX11_payingStalls 5 = .ok (.iload 4, 2) := by decide +kernel
theorem dX11_payingStalls_7 : decode cX11_payingStalls 7 = .ok (.aload_n 0, 1) := by decide +kernel
theorem dX11_payingStalls_8 : decode cX11_payingStalls 8 = .ok (.getfield 90, 3) := by decide +kernel
theorem dX11_payingStalls_11 : decode cX11_payingStalls 11 = .ok (.getfield 145, 3) := by decide +kernel
theorem dX11_payingStalls_14 : decode cX11_payingStalls 14 = .ok (.if_icmp .ge 26, 3) := by decide +kernel
theorem dX11_payingStalls_17 : decode cX11_payingStalls 17 = .ok (.aload_n 0, 1) := by decide +kernel
theorem dX11_payingStalls_18 : decode cX11_payingStalls 18 = .ok (.getfield 102, 3) := by decide +kernel
theorem dX11_payingStalls_21 : decode cX11_payingStalls 21 = .ok (.iload_n 1, 1) := by decide +kernel
theorem dX11_payingStalls_22 : decode cX11_payingStalls 22 = .ok (.iload 4, 2) := by decide +kernel
theorem dX11_payingStalls_24 : decode cX11_payingStalls 24 = .ok (.iload_n 2, 1) := by decide +kernel
theorem dX11_payingStalls_25 : decode cX11_payingStalls 25 = .ok (.invokevirtual 222, 3) := by decide +kernel
theorem dX11_payingStalls_28 : decode cX11_payingStalls 28 = .ok (.ifCond .eq 6, 3) := by decide +kernel
theorem dX11_payingStalls_31 : decode cX11_payingStalls 31 = .ok (.iinc 3 1, 3) := by decide +kernel
theorem dX11_payingStalls_34 : decode cX11_payingStalls 34 = .ok (.iinc 4 1, 3) := by decide +kernel
theorem dX11_payingStalls_37 : decode cX11_payingStalls 37 = .ok (.goto (-32), 3) := by decide +kernel
theorem dX11_payingStalls_40 : decode cX11_payingStalls 40 = .ok (.iload_n 3, 1) := by decide +kernel
theorem dX11_payingStalls_41 : decode cX11_payingStalls 41 = .ok (.ireturn, 1) := by decide +kernel
theorem dX11_lengthTogether_0 : decode cX11_lengthTogether 0 = .ok (.iconst 0, 1) := by decide +kernel
theorem dX11_lengthTogether_1 : decode cX11_lengthTogether 1 = .ok (.istore 4, 2) := by decide +kernel
theorem dX11_lengthTogether_3 : decode cX11_lengthTogether 3 = .ok (.iconst 0, 1) := by decide +kernel
theorem dX11_lengthTogether_4 : decode cX11_lengthTogether 4 = .ok (.istore 5, 2) := by decide +kernel
theorem dX11_lengthTogether_6 : decode cX11_lengthTogether 6 = .ok (.iload 5, 2) := by decide +kernel
theorem dX11_lengthTogether_8 : decode cX11_lengthTogether 8 = .ok (.aload_n 0, 1) := by decide +kernel
theorem dX11_lengthTogether_9 : decode cX11_lengthTogether 9 = .ok (.getfield 90, 3) := by decide +kernel
theorem dX11_lengthTogether_12 : decode cX11_lengthTogether 12 = .ok (.getfield 148, 3) := by decide +kernel
theorem dX11_lengthTogether_15 : decode cX11_lengthTogether 15 = .ok (.if_icmp .ge 35, 3) := by decide +kernel
theorem dX11_lengthTogether_18 : decode cX11_lengthTogether 18 = .ok (.iload_n 1, 1) := by decide +kernel
theorem dX11_lengthTogether_19 : decode cX11_lengthTogether 19 = .ok (.iload 5, 2) := by decide +kernel
theorem dX11_lengthTogether_21 : decode cX11_lengthTogether 21 = .ok (.ishr, 1) := by decide +kernel
theorem dX11_lengthTogether_22 : decode cX11_lengthTogether 22 = .ok (.iconst 1, 1) := by decide +kernel
theorem dX11_lengthTogether_23 : decode cX11_lengthTogether 23 = .ok (.iand, 1) := by decide +kernel
theorem dX11_lengthTogether_24 : decode cX11_lengthTogether 24 = .ok (.iconst 1, 1) := by decide +kernel
theorem dX11_lengthTogether_25 : decode cX11_lengthTogether 25 = .ok (.if_icmp .ne 19, 3) := by decide +kernel
theorem dX11_lengthTogether_28 : decode cX11_lengthTogether 28 = .ok (.iload 4, 2) := by decide +kernel
theorem dX11_lengthTogether_30 : decode cX11_lengthTogether 30 = .ok (.aload_n 0, 1) := by decide +kernel
theorem dX11_lengthTogether_31 : decode cX11_lengthTogether 31 = .ok (.getfield 102, 3) := by decide +kernel
theorem dX11_lengthTogether_34 : decode cX11_lengthTogether 34 = .ok (.iload 5, 2) := by decide +kernel
theorem dX11_lengthTogether_36 : decode cX11_lengthTogether 36 = .ok (.iload_n 2, 1) := by decide +kernel
theorem dX11_lengthTogether_37 : decode cX11_lengthTogether 37 = .ok (.iload_n 3, 1) := by decide +kernel
theorem dX11_lengthTogether_38 : decode cX11_lengthTogether 38 = .ok (.invokevirtual 218, 3) := by decide +kernel
theorem dX11_lengthTogether_41 : decode cX11_lengthTogether 41 = .ok (.iadd, 1) := by decide +kernel
theorem dX11_lengthTogether_42 : decode cX11_lengthTogether 42 = .ok (.istore 4, 2) := by decide +kernel
theorem dX11_lengthTogether_44 : decode cX11_lengthTogether 44 = .ok (.iinc 5 1, 3) := by decide +kernel
theorem dX11_lengthTogether_47 : decode cX11_lengthTogether 47 = .ok (.goto (-41), 3) := by decide +kernel
theorem dX11_lengthTogether_50 : decode cX11_lengthTogether 50 = .ok (.iload 4, 2) := by decide +kernel
theorem dX11_lengthTogether_52 : decode cX11_lengthTogether 52 = .ok (.ireturn, 1) := by decide +kernel
theorem dX11_isImage_0 : decode cX11_isImage 0 = .ok (.aload_n 0, 1) := by decide +kernel
theorem dX11_isImage_1 : decode cX11_isImage 1 = .ok (.getfield 14, 3) := by decide +kernel
theorem dX11_isImage_4 : decode cX11_isImage 4 = .ok (.iconst 4, 1) := by decide +kernel
theorem dX11_isImage_5 : decode cX11_isImage 5 = .ok (.invokevirtual 322, 3) := by decide +kernel
theorem dX11_isImage_8 : decode cX11_isImage 8 = .ok (.istore_n 1, 1) := by decide +kernel
theorem dX11_isImage_9 : decode cX11_isImage 9 = .ok (.iload_n 1, 1) := by decide +kernel
theorem dX11_isImage_10 : decode cX11_isImage 10 = .ok (.iconst (-1), 1) := by decide +kernel
theorem dX11_isImage_11 : decode cX11_isImage 11 = .ok (.if_icmp .eq 66, 3) := by decide +kernel
theorem dX11_isImage_14 : decode cX11_isImage 14 = .ok (.aload_n 0, 1) := by decide +kernel
theorem dX11_isImage_15 : decode cX11_isImage 15 = .ok (.getfield 14, 3) := by decide +kernel
theorem dX11_isImage_18 : decode cX11_isImage 18 = .ok (.getfield 113, 3) := by decide +kernel
theorem dX11_isImage_21 : decode cX11_isImage 21 = .ok (.iload_n 1, 1) := by decide +kernel
theorem dX11_isImage_22 : decode cX11_isImage 22 = .ok (.invokestatic 335, 3) := by decide +kernel
theorem dX11_isImage_25 : decode cX11_isImage 25 = .ok (.if_icmp .ne 52, 3) := by decide +kernel
theorem dX11_isImage_28 : decode cX11_isImage 28 = .ok (.aload_n 0, 1) := by decide +kernel
theorem dX11_isImage_29 : decode cX11_isImage 29 = .ok (.getfield 90, 3) := by decide +kernel
theorem dX11_isImage_32 : decode cX11_isImage 32 = .ok (.getfield 151, 3) := by decide +kernel
theorem dX11_isImage_35 : decode cX11_isImage 35 = .ok (.iload_n 1, 1) := by decide +kernel
theorem dX11_isImage_36 : decode cX11_isImage 36 = .ok (.iadd, 1) := by decide +kernel
theorem dX11_isImage_37 : decode cX11_isImage 37 = .ok (.bipush 16, 2) := by decide +kernel
theorem dX11_isImage_39 : decode cX11_isImage 39 = .ok (.if_icmp .gt 38, 3) := by decide +kernel
theorem dX11_isImage_42 : decode cX11_isImage 42 = .ok (.aload_n 0, 1) := by decide +kernel
theorem dX11_isImage_43 : decode cX11_isImage 43 = .ok (.getfield 14, 3) := by decide +kernel
theorem dX11_isImage_46 : decode cX11_isImage 46 = .ok (.aload_n 0, 1) := by decide +kernel
theorem dX11_isImage_47 : decode cX11_isImage 47 = .ok (.getfield 14, 3) := by decide +kernel
theorem dX11_isImage_50 : decode cX11_isImage 50 = .ok (.getfield 113, 3) := by decide +kernel
theorem dX11_isImage_53 : decode cX11_isImage 53 = .ok (.iconst 1, 1) := by decide +kernel
theorem dX11_isImage_54 : decode cX11_isImage 54 = .ok (.isub, 1) := by decide +kernel
theorem dX11_isImage_55 : decode cX11_isImage 55 = .ok (.invokevirtual 322, 3) := by decide +kernel
theorem dX11_isImage_58 : decode cX11_isImage 58 = .ok (.aload_n 0, 1) := by decide +kernel
theorem dX11_isImage_59 : decode cX11_isImage 59 = .ok (.getfield 14, 3) := by decide +kernel
theorem dX11_isImage_62 : decode cX11_isImage 62 = .ok (.aload_n 0, 1) := by decide +kernel
theorem dX11_isImage_63 : decode cX11_isImage 63 = .ok (.getfield 14, 3) := by decide +kernel
theorem dX11_isImage_66 : decode cX11_isImage 66 = .ok (.getfield 113, 3) := by decide +kernel
theorem dX11_isImage_69 : decode cX11_isImage 69 = .ok (.iconst 1, 1) := by decide +kernel
theorem dX11_isImage_70 : decode cX11_isImage 70 = .ok (.isub, 1) := by decide +kernel
theorem dX11_isImage_71 : decode cX11_isImage 71 = .ok (.invokevirtual 338, 3) := by decide +kernel
theorem dX11_isImage_74 : decode cX11_isImage 74 = .ok (.if_icmp .eq 5, 3) := by decide +kernel
theorem dX11_isImage_77 : decode cX11_isImage 77 = .ok (.iconst 0, 1) := by decide +kernel
theorem dX11_isImage_78 : decode cX11_isImage 78 = .ok (.ireturn, 1) := by decide +kernel
theorem dX11_isImage_79 : decode cX11_isImage 79 = .ok (.iconst 0, 1) := by decide +kernel
theorem dX11_isImage_80 : decode cX11_isImage 80 = .ok (.istore_n 2, 1) := by decide +kernel
theorem dX11_isImage_81 : decode cX11_isImage 81 = .ok (.iload_n 2, 1) := by decide +kernel
theorem dX11_isImage_82 : decode cX11_isImage 82 = .ok (.iload_n 1, 1) := by decide +kernel
theorem dX11_isImage_83 : decode cX11_isImage 83 = .ok (.if_icmp .ge 33, 3) := by decide +kernel
theorem dX11_isImage_86 : decode cX11_isImage 86 = .ok (.aload_n 0, 1) := by decide +kernel
theorem dX11_isImage_87 : decode cX11_isImage 87 = .ok (.getfield 14, 3) := by decide +kernel
theorem dX11_isImage_90 : decode cX11_isImage 90 = .ok (.iconst 5, 1) := by decide +kernel
theorem dX11_isImage_91 : decode cX11_isImage 91 = .ok (.iconst 2, 1) := by decide +kernel
theorem dX11_isImage_92 : decode cX11_isImage 92 = .ok (.iload_n 2, 1) := by decide +kernel
theorem dX11_isImage_93 : decode cX11_isImage 93 = .ok (.imul, 1) := by decide +kernel
theorem dX11_isImage_94 : decode cX11_isImage 94 = .ok (.iadd, 1) := by decide +kernel
theorem dX11_isImage_95 : decode cX11_isImage 95 = .ok (.invokevirtual 341, 3) := by decide +kernel
theorem dX11_isImage_98 : decode cX11_isImage 98 = .ok (.aload_n 0, 1) := by decide +kernel
theorem dX11_isImage_99 : decode cX11_isImage 99 = .ok (.getfield 90, 3) := by decide +kernel
theorem dX11_isImage_102 : decode cX11_isImage 102 = .ok (.getfield 142, 3) := by decide +kernel
theorem dX11_isImage_105 : decode cX11_isImage 105 = .ok (.if_icmp .le 5, 3) := by decide +kernel
theorem dX11_isImage_108 : decode cX11_isImage 108 = .ok (.iconst 0, 1) := by decide +kernel
theorem dX11_isImage_109 : decode cX11_isImage 109 = .ok (.ireturn, 1) := by decide +kernel
theorem dX11_isImage_110 : decode cX11_isImage 110 = .ok (.iinc 2 1, 3) := by decide +kernel
theorem dX11_isImage_113 : decode cX11_isImage 113 = .ok (.goto (-32), 3) := by decide +kernel
theorem dX11_isImage_116 : decode cX11_isImage 116 = .ok (.aload_n 0, 1) := by decide +kernel
theorem dX11_isImage_117 : decode cX11_isImage 117 = .ok (.getfield 14, 3) := by decide +kernel
theorem dX11_isImage_120 : decode cX11_isImage 120 = .ok (.iconst 0, 1) := by decide +kernel
theorem dX11_isImage_121 : decode cX11_isImage 121 = .ok (.invokevirtual 341, 3) := by decide +kernel
theorem dX11_isImage_124 : decode cX11_isImage 124 = .ok (.aload_n 0, 1) := by decide +kernel
theorem dX11_isImage_125 : decode cX11_isImage 125 = .ok (.getfield 90, 3) := by decide +kernel
theorem dX11_isImage_128 : decode cX11_isImage 128 = .ok (.getfield 142, 3) := by decide +kernel
theorem dX11_isImage_131 : decode cX11_isImage 131 = .ok (.if_icmp .gt 40, 3) := by decide +kernel
theorem dX11_isImage_134 : decode cX11_isImage 134 = .ok (.aload_n 0, 1) := by decide +kernel
theorem dX11_isImage_135 : decode cX11_isImage 135 = .ok (.getfield 14, 3) := by decide +kernel
theorem dX11_isImage_138 : decode cX11_isImage 138 = .ok (.iconst 2, 1) := by decide +kernel
theorem dX11_isImage_139 : decode cX11_isImage 139 = .ok (.invokevirtual 322, 3) := by decide +kernel
theorem dX11_isImage_142 : decode cX11_isImage 142 = .ok (.bipush 99, 2) := by decide +kernel
theorem dX11_isImage_144 : decode cX11_isImage 144 = .ok (.if_icmp .gt 27, 3) := by decide +kernel
theorem dX11_isImage_147 : decode cX11_isImage 147 = .ok (.aload_n 0, 1) := by decide +kernel
theorem dX11_isImage_148 : decode cX11_isImage 148 = .ok (.getfield 14, 3) := by decide +kernel
theorem dX11_isImage_151 : decode cX11_isImage 151 = .ok (.iconst 3, 1) := by decide +kernel
theorem dX11_isImage_152 : decode cX11_isImage 152 = .ok (.invokevirtual 322, 3) := by decide +kernel
theorem dX11_isImage_155 : decode cX11_isImage 155 = .ok (.iconst 1, 1) := by decide +kernel
theorem dX11_isImage_156 : decode cX11_isImage 156 = .ok (.aload_n 0, 1) := by decide +kernel
theorem dX11_isImage_157 : decode cX11_isImage 157 = .ok (.getfield 90, 3) := by decide +kernel
theorem dX11_isImage_160 : decode cX11_isImage 160 = .ok (.getfield 145, 3) := by decide +kernel
theorem dX11_isImage_163 : decode cX11_isImage 163 = .ok (.ishl, 1) := by decide +kernel
theorem dX11_isImage_164 : decode cX11_isImage 164 = .ok (.if_icmp .ge 7, 3) := by decide +kernel
theorem dX11_isImage_167 : decode cX11_isImage 167 = .ok (.iconst 1, 1) := by decide +kernel
theorem dX11_isImage_168 : decode cX11_isImage 168 = .ok (.goto 4, 3) := by decide +kernel
theorem dX11_isImage_171 : decode cX11_isImage 171 = .ok (.iconst 0, 1) := by decide +kernel
theorem dX11_isImage_172 : decode cX11_isImage 172 = .ok (.ireturn, 1) := by decide +kernel
theorem dX11_readQuestion_0 : decode cX11_readQuestion 0 = .ok (.aload_n 0, 1) := by decide +kernel
theorem dX11_readQuestion_1 : decode cX11_readQuestion 1 = .ok (.getfield 26, 3) := by decide +kernel
theorem dX11_readQuestion_4 : decode cX11_readQuestion 4 = .ok (.invokevirtual 344, 3) := by decide +kernel
theorem dX11_readQuestion_7 : decode cX11_readQuestion 7 = .ok (.aload_n 0, 1) := by decide +kernel
theorem dX11_readQuestion_8 : decode cX11_readQuestion 8 = .ok (.getfield 26, 3) := by decide +kernel
theorem dX11_readQuestion_11 : decode cX11_readQuestion 11 = .ok (.getfield 345, 3) := by decide +kernel
theorem dX11_readQuestion_14 : decode cX11_readQuestion 14 = .ok (.iconst 1, 1) := by decide +kernel
theorem dX11_readQuestion_15 : decode cX11_readQuestion 15 = .ok (.if_icmp .ne 25, 3) := by decide +kernel
theorem dX11_readQuestion_18 : decode cX11_readQuestion 18 = .ok (.aload_n 0, 1) := by decide +kernel
theorem dX11_readQuestion_19 : decode cX11_readQuestion 19 = .ok (.getfield 26, 3) := by decide +kernel
theorem dX11_readQuestion_22 : decode cX11_readQuestion 22 = .ok (.getfield 348, 3) := by decide +kernel
theorem dX11_readQuestion_25 : decode cX11_readQuestion 25 = .ok (.bipush 25, 2) := by decide +kernel
theorem dX11_readQuestion_27 : decode cX11_readQuestion 27 = .ok (.if_icmp .lt 13, 3) := by decide +kernel
theorem dX11_readQuestion_30 : decode cX11_readQuestion 30 = .ok (.aload_n 0, 1) := by decide +kernel
theorem dX11_readQuestion_31 : decode cX11_readQuestion 31 = .ok (.getfield 26, 3) := by decide +kernel
theorem dX11_readQuestion_34 : decode cX11_readQuestion 34 = .ok (.getfield 348, 3) := by decide +kernel
theorem dX11_readQuestion_37 : decode cX11_readQuestion 37 = .ok (.goto 4, 3) := by decide +kernel
theorem dX11_readQuestion_40 : decode cX11_readQuestion 40 = .ok (.iconst (-1), 1) := by decide +kernel
theorem dX11_readQuestion_41 : decode cX11_readQuestion 41 = .ok (.istore_n 1, 1) := by decide +kernel
theorem dX11_readQuestion_42 : decode cX11_readQuestion 42 = .ok (.iload_n 1, 1) := by decide +kernel
theorem dX11_readQuestion_43 : decode cX11_readQuestion 43 = .ok (.iconst (-1), 1) := by decide +kernel
theorem dX11_readQuestion_44 : decode cX11_readQuestion 44 = .ok (.if_icmp .ne 20, 3) := by decide +kernel
theorem dX11_readQuestion_47 : decode cX11_readQuestion 47 = .ok (.aload_n 0, 1) := by decide +kernel
theorem dX11_readQuestion_48 : decode cX11_readQuestion 48 = .ok (.getfield 26, 3) := by decide +kernel
theorem dX11_readQuestion_51 : decode cX11_readQuestion 51 = .ok (.iconst 1, 1) := by decide +kernel
theorem dX11_readQuestion_52 : decode cX11_readQuestion 52 = .ok (.aload_n 0, 1) := by decide +kernel
theorem dX11_readQuestion_53 : decode cX11_readQuestion 53 = .ok (.getfield 26, 3) := by decide +kernel
theorem dX11_readQuestion_56 : decode cX11_readQuestion 56 = .ok (.getfield 351, 3) := by decide +kernel
theorem dX11_readQuestion_59 : decode cX11_readQuestion 59 = .ok (.invokevirtual 354, 3) := by decide +kernel
theorem dX11_readQuestion_62 : decode cX11_readQuestion 62 = .ok (.iconst (-1), 1) := by decide +kernel
theorem dX11_readQuestion_63 : decode cX11_readQuestion 63 = .ok (.ireturn, 1) := by decide +kernel
theorem dX11_readQuestion_64 : decode cX11_readQuestion 64 = .ok (.aload_n 0, 1) := by decide +kernel
theorem dX11_readQuestion_65 : decode cX11_readQuestion 65 = .ok (.getfield 26, 3) := by decide +kernel
theorem dX11_readQuestion_68 : decode cX11_readQuestion 68 = .ok (.invokevirtual 357, 3) := by decide +kernel
theorem dX11_readQuestion_71 : decode cX11_readQuestion 71 = .ok (.aload_n 0, 1) := by decide +kernel
theorem dX11_readQuestion_72 : decode cX11_readQuestion 72 = .ok (.getfield 42, 3) := by decide +kernel
theorem dX11_readQuestion_75 : decode cX11_readQuestion 75 = .ok (.aload_n 0, 1) := by decide +kernel
theorem dX11_readQuestion_76 : decode cX11_readQuestion 76 = .ok (.getfield 33, 3) := by decide +kernel
theorem dX11_readQuestion_79 : decode cX11_readQuestion 79 = .ok (.iconst 2, 1) := by decide +kernel
theorem dX11_readQuestion_80 : decode cX11_readQuestion 80 = .ok (.invokevirtual 360, 3) := by decide +kernel
theorem dX11_readQuestion_83 : decode cX11_readQuestion 83 = .ok (.iload_n 1, 1) := by decide +kernel
theorem dX11_readQuestion_84 : decode cX11_readQuestion 84 = .ok (.bipush 27, 2) := by decide +kernel
theorem dX11_readQuestion_86 : decode cX11_readQuestion 86 = .ok (.if_icmp .gt 13, 3) := by decide +kernel
theorem dX11_readQuestion_89 : decode cX11_readQuestion 89 = .ok (.aload_n 0, 1) := by decide +kernel
theorem dX11_readQuestion_90 : decode cX11_readQuestion 90 = .ok (.getfield 42, 3) := by decide +kernel
theorem dX11_readQuestion_93 : decode cX11_readQuestion 93 = .ok (.invokevirtual 363, 3) := by decide +kernel
theorem dX11_readQuestion_96 : decode cX11_readQuestion 96 = .ok (.goto 10, 3) := by decide +kernel
theorem dX11_readQuestion_99 : decode cX11_readQuestion 99 = .ok (.aload_n 0, 1) := by decide +kernel
theorem dX11_readQuestion_100 : decode cX11_readQuestion 100 = .ok (.getfield 42, 3) := by decide +kernel
theorem dX11_readQuestion_103 : decode cX11_readQuestion 103 = .ok (.invokevirtual 366, 3) := by decide +kernel
theorem dX11_readQuestion_106 : decode cX11_readQuestion 106 = .ok (.aload_n 0, 1) := by decide +kernel
theorem dX11_readQuestion_107 : decode cX11_readQuestion 107 = .ok (.getfield 26, 3) := by decide +kernel
theorem dX11_readQuestion_110 : decode cX11_readQuestion 110 = .ok (.getfield 345, 3) := by decide +kernel
theorem dX11_readQuestion_113 : decode cX11_readQuestion 113 = .ok (.ifCond .eq 18, 3) := by decide +kernel
theorem dX11_readQuestion_116 : decode cX11_readQuestion 116 = .ok (.aload_n 0, 1) := by decide +kernel
theorem dX11_readQuestion_117 : decode cX11_readQuestion 117 = .ok (.getfield 26, 3) := by decide +kernel
theorem dX11_readQuestion_120 : decode cX11_readQuestion 120 = .ok (.iconst 1, 1) := by decide +kernel
theorem dX11_readQuestion_121 : decode cX11_readQuestion 121 = .ok (.aload_n 0, 1) := by decide +kernel
theorem dX11_readQuestion_122 : decode cX11_readQuestion 122 = .ok (.getfield 26, 3) := by decide +kernel
