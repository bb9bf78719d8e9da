theorem dX0_init_0 : decode cX0_init 0 = .ok (.aload_n 0, 1) := by decide +kernel
theorem dX0_init_1 : decode cX0_init 1 = .ok (.invokespecial 3, 3) := by decide +kernel
theorem dX0_init_4 : decode cX0_init 4 = .ok (.aload_n 0, 1) := by decide +kernel
theorem dX0_init_5 : decode cX0_init 5 = .ok (.sipush 1600, 3) := by decide +kernel
theorem dX0_init_8 : decode cX0_init 8 = .ok (.newarray .int, 2) := by decide +kernel
theorem dX0_init_10 : decode cX0_init 10 = .ok (.putfield 9, 3) := by decide +kernel
theorem dX0_init_13 : decode cX0_init 13 = .ok (.aload_n 0, 1) := by decide +kernel
theorem dX0_init_14 : decode cX0_init 14 = .ok (.iconst 0, 1) := by decide +kernel
theorem dX0_init_15 : decode cX0_init 15 = .ok (.putfield 15, 3) := by decide +kernel
theorem dX0_init_18 : decode cX0_init 18 = .ok (.return_, 1) := by decide +kernel
theorem dX0_put_0 : decode cX0_put 0 = .ok (.aload_n 0, 1) := by decide +kernel
theorem dX0_put_1 : decode cX0_put 1 = .ok (.getfield 15, 3) := by decide +kernel
theorem dX0_put_4 : decode cX0_put 4 = .ok (.ifCond .lt 35, 3) := by decide +kernel
theorem dX0_put_7 : decode cX0_put 7 = .ok (.aload_n 0, 1) := by decide +kernel
theorem dX0_put_8 : decode cX0_put 8 = .ok (.getfield 15, 3) := by decide +kernel
theorem dX0_put_11 : decode cX0_put 11 = .ok (.aload_n 0, 1) := by decide +kernel
theorem dX0_put_12 : decode cX0_put 12 = .ok (.getfield 9, 3) := by decide +kernel
theorem dX0_put_15 : decode cX0_put 15 = .ok (.arraylength, 1) := by decide +kernel
theorem dX0_put_16 : decode cX0_put 16 = .ok (.if_icmp .ge 23, 3) := by decide +kernel
theorem dX0_put_19 : decode cX0_put 19 = .ok (.aload_n 0, 1) := by decide +kernel
theorem dX0_put_20 : decode cX0_put 20 = .ok (.getfield 9, 3) := by decide +kernel
theorem dX0_put_23 : decode cX0_put 23 = .ok (.aload_n 0, 1) := by decide +kernel
theorem dX0_put_24 : decode cX0_put 24 = .ok (.getfield 15, 3) := by decide +kernel
theorem dX0_put_27 : decode cX0_put 27 = .ok (.iload_n 1, 1) := by decide +kernel
theorem dX0_put_28 : decode cX0_put 28 = .ok (.iastore, 1) := by decide +kernel
theorem dX0_put_29 : decode cX0_put 29 = .ok (.aload_n 0, 1) := by decide +kernel
theorem dX0_put_30 : decode cX0_put 30 = .ok (.dup, 1) := by decide +kernel
theorem dX0_put_31 : decode cX0_put 31 = .ok (.getfield 15, 3) := by decide +kernel
theorem dX0_put_34 : decode cX0_put 34 = .ok (.iconst 1, 1) := by decide +kernel
theorem dX0_put_35 : decode cX0_put 35 = .ok (.iadd, 1) := by decide +kernel
theorem dX0_put_36 : decode cX0_put 36 = .ok (.putfield 15, 3) := by decide +kernel
theorem dX0_put_39 : decode cX0_put 39 = .ok (.return_, 1) := by decide +kernel
theorem dX0_putOperation_0 : decode cX0_putOperation 0 = .ok (.aload_n 0, 1) := by decide +kernel
theorem dX0_putOperation_1 : decode cX0_putOperation 1 = .ok (.sipush 10000, 3) := by decide +kernel
theorem dX0_putOperation_4 : decode cX0_putOperation 4 = .ok (.iload_n 1, 1) := by decide +kernel
theorem dX0_putOperation_5 : decode cX0_putOperation 5 = .ok (.iadd, 1) := by decide +kernel
theorem dX0_putOperation_6 : decode cX0_putOperation 6 = .ok (.invokevirtual 19, 3) := by decide +kernel
theorem dX0_putOperation_9 : decode cX0_putOperation 9 = .ok (.return_, 1) := by decide +kernel
theorem dX1_init_0 : decode cX1_init 0 = .ok (.aload_n 0, 1) := by decide +kernel
theorem dX1_init_1 : decode cX1_init 1 = .ok (.invokespecial 3, 3) := by decide +kernel
theorem dX1_init_4 : decode cX1_init 4 = .ok (.aload_n 0, 1) := by decide +kernel
theorem dX1_init_5 : decode cX1_init 5 = .ok (.iconst 0, 1) := by decide +kernel
theorem dX1_init_6 : decode cX1_init 6 = .ok (.putfield 9, 3) := by decide +kernel
theorem dX1_init_9 : decode cX1_init 9 = .ok (.aload_n 0, 1) := by decide +kernel
theorem dX1_init_10 : decode cX1_init 10 = .ok (.iconst 0, 1) := by decide +kernel
theorem dX1_init_11 : decode cX1_init 11 = .ok (.putfield 15, 3) := by decide +kernel
theorem dX1_init_14 : decode cX1_init 14 = .ok (.aload_n 0, 1) := by decide +kernel
theorem dX1_init_15 : decode cX1_init 15 = .ok (.iconst 0, 1) := by decide +kernel
theorem dX1_init_16 : decode cX1_init 16 = .ok (.putfield 18, 3) := by decide +kernel
theorem dX1_init_19 : decode cX1_init 19 = .ok (.aload_n 0, 1) := by decide +kernel
theorem dX1_init_20 : decode cX1_init 20 = .ok (.iconst 0, 1) := by decide +kernel
theorem dX1_init_21 : decode cX1_init 21 = .ok (.putfield 21, 3) := by decide +kernel
theorem dX1_init_24 : decode cX1_init 24 = .ok (.aload_n 0, 1) := by decide +kernel
theorem dX1_init_25 : decode cX1_init 25 = .ok (.bipush 16, 2) := by decide +kernel
theorem dX1_init_27 : decode cX1_init 27 = .ok (.newarray .int, 2) := by decide +kernel
theorem dX1_init_29 : decode cX1_init 29 = .ok (.putfield 24, 3) := by decide +kernel
theorem dX1_init_32 : decode cX1_init 32 = .ok (.aload_n 0, 1) := by decide +kernel
theorem dX1_init_33 : decode cX1_init 33 = .ok (.iconst 0, 1) := by decide +kernel
theorem dX1_init_34 : decode cX1_init 34 = .ok (.putfield 28, 3) := by decide +kernel
theorem dX1_init_37 : decode cX1_init 37 = .ok (.aload_n 0, 1) := by decide +kernel
theorem dX1_init_38 : decode cX1_init 38 = .ok (.bipush 6, 2) := by decide +kernel
theorem dX1_init_40 : decode cX1_init 40 = .ok (.newarray .int, 2) := by decide +kernel
theorem dX1_init_42 : decode cX1_init 42 = .ok (.putfield 31, 3) := by decide +kernel
theorem dX1_init_45 : decode cX1_init 45 = .ok (.aload_n 0, 1) := by decide +kernel
theorem dX1_init_46 : decode cX1_init 46 = .ok (.bipush 6, 2) := by decide +kernel
theorem dX1_init_48 : decode cX1_init 48 = .ok (.newarray .int, 2) := by decide +kernel
theorem dX1_init_50 : decode cX1_init 50 = .ok (.putfield 34, 3) := by decide +kernel
theorem dX1_init_53 : decode cX1_init 53 = .ok (.aload_n 0, 1) := by decide +kernel
theorem dX1_init_54 : decode cX1_init 54 = .ok (.bipush 6, 2) := by decide +kernel
theorem dX1_init_56 : decode cX1_init 56 = .ok (.newarray .int, 2) := by decide +kernel
theorem dX1_init_58 : decode cX1_init 58 = .ok (.putfield 37, 3) := by decide +kernel
theorem dX1_init_61 : decode cX1_init 61 = .ok (.aload_n 0, 1) := by decide +kernel
theorem dX1_init_62 : decode cX1_init 62 = .ok (.bipush 20, 2) := by decide +kernel
theorem dX1_init_64 : decode cX1_init 64 = .ok (.iconst 5, 1) := by decide +kernel
theorem dX1_init_65 : decode cX1_init 65 = .ok (.multianewarray 40 2, 4) := by decide +kernel
theorem dX1_init_69 : decode cX1_init 69 = .ok (.putfield 42, 3) := by decide +kernel
theorem dX1_init_72 : decode cX1_init 72 = .ok (.aload_n 0, 1) := by decide +kernel
theorem dX1_init_73 : decode cX1_init 73 = .ok (.iconst 0, 1) := by decide +kernel
theorem dX1_init_74 : decode cX1_init 74 = .ok (.putfield 45, 3) := by decide +kernel
theorem dX1_init_77 : decode cX1_init 77 = .ok (.aload_n 0, 1) := by decide +kernel
theorem dX1_init_78 : decode cX1_init 78 = .ok (.iconst 0, 1) := by decide +kernel
theorem dX1_init_79 : decode cX1_init 79 = .ok (.putfield 48, 3) := by decide +kernel
theorem dX1_init_82 : decode cX1_init 82 = .ok (.aload_n 0, 1) := by decide +kernel
theorem dX1_init_83 : decode cX1_init 83 = .ok (.lconst 1, 1) := by decide +kernel
theorem dX1_init_84 : decode cX1_init 84 = .ok (.putfield 51, 3) := by decide +kernel
theorem dX1_init_87 : decode cX1_init 87 = .ok (.return_, 1) := by decide +kernel
theorem dX1_begin_0 : decode cX1_begin 0 = .ok (.aload_n 0, 1) := by decide +kernel
theorem dX1_begin_1 : decode cX1_begin 1 = .ok (.iconst 0, 1) := by decide +kernel
theorem dX1_begin_2 : decode cX1_begin 2 = .ok (.putfield 9, 3) := by decide +kernel
theorem dX1_begin_5 : decode cX1_begin 5 = .ok (.aload_n 0, 1) := by decide +kernel
theorem dX1_begin_6 : decode cX1_begin 6 = .ok (.iconst 0, 1) := by decide +kernel
theorem dX1_begin_7 : decode cX1_begin 7 = .ok (.putfield 15, 3) := by decide +kernel
theorem dX1_begin_10 : decode cX1_begin 10 = .ok (.aload_n 0, 1) := by decide +kernel
theorem dX1_begin_11 : decode cX1_begin 11 = .ok (.iconst 0, 1) := by decide +kernel
theorem dX1_begin_12 : decode cX1_begin 12 = .ok (.putfield 18, 3) := by decide +kernel
theorem dX1_begin_15 : decode cX1_begin 15 = .ok (.aload_n 0, 1) := by decide +kernel
theorem dX1_begin_16 : decode cX1_begin 16 = .ok (.iconst 0, 1) := by decide +kernel
theorem dX1_begin_17 : decode cX1_begin 17 = .ok (.putfield 21, 3) := by decide +kernel
theorem dX1_begin_20 : decode cX1_begin 20 = .ok (.aload_n 0, 1) := by decide +kernel
theorem dX1_begin_21 : decode cX1_begin 21 = .ok (.invokevirtual 55, 3) := by decide +kernel
theorem dX1_begin_24 : decode cX1_begin 24 = .ok (.return_, 1) := by decide +kernel
theorem dX1_forget_0 : decode cX1_forget 0 = .ok (.aload_n 0, 1) := by decide +kernel
theorem dX1_forget_1 : decode cX1_forget 1 = .ok (.iconst 0, 1) := by decide +kernel
theorem dX1_forget_2 : decode cX1_forget 2 = .ok (.putfield 28, 3) := by decide +kernel
theorem dX1_forget_5 : decode cX1_forget 5 = .ok (.aload_n 0, 1) := by decide +kernel
theorem dX1_forget_6 : decode cX1_forget 6 = .ok (.iconst 0, 1) := by decide +kernel
theorem dX1_forget_7 : decode cX1_forget 7 = .ok (.putfield 48, 3) := by decide +kernel
theorem dX1_forget_10 : decode cX1_forget 10 = .ok (.aload_n 0, 1) := by decide +kernel
theorem dX1_forget_11 : decode cX1_forget 11 = .ok (.iconst 0, 1) := by decide +kernel
theorem dX1_forget_12 : decode cX1_forget 12 = .ok (.putfield 45, 3) := by decide +kernel
theorem dX1_forget_15 : decode cX1_forget 15 = .ok (.return_, 1) := by decide +kernel
theorem dX1_hasBought_0 : decode cX1_hasBought 0 = .ok (.aload_n 0, 1) := by decide +kernel
theorem dX1_hasBought_1 : decode cX1_hasBought 1 = .ok (.getfield 18, 3) := by decide +kernel
theorem dX1_hasBought_4 : decode cX1_hasBought 4 = .ok (.iload_n 1, 1) := by decide +kernel
theorem dX1_hasBought_5 : decode cX1_hasBought 5 = .ok (.ishr, 1) := by decide +kernel
theorem dX1_hasBought_6 : decode cX1_hasBought 6 = .ok (.iconst 1, 1) := by decide +kernel
theorem dX1_hasBought_7 : decode cX1_hasBought 7 = .ok (.iand, 1) := by decide +kernel
theorem dX1_hasBought_8 : decode cX1_hasBought 8 = .ok (.iconst 1, 1) := by decide +kernel
theorem dX1_hasBought_9 : decode cX1_hasBought 9 = .ok (.if_icmp .ne 7, 3) := by decide +kernel
theorem dX1_hasBought_12 : decode cX1_hasBought 12 = .ok (.iconst 1, 1) := by decide +kernel
theorem dX1_hasBought_13 : decode cX1_hasBought 13 = .ok (.goto 4, 3) := by decide +kernel
theorem dX1_hasBought_16 : decode cX1_hasBought 16 = .ok (.iconst 0, 1) := by decide +kernel
theorem dX1_hasBought_17 : decode cX1_hasBought 17 = .ok (.ireturn, 1) := by decide +kernel
theorem dX1_remember_0 : decode cX1_remember 0 = .ok (.aload_n 0, 1) := by decide +kernel
theorem dX1_remember_1 : decode cX1_remember 1 = .ok (.getfield 42, 3) := by decide +kernel
theorem dX1_remember_4 : decode cX1_remember 4 = .ok (.aload_n 0, 1) := by decide +kernel
theorem dX1_remember_5 : decode cX1_remember 5 = .ok (.getfield 45, 3) := by decide +kernel
theorem dX1_remember_8 : decode cX1_remember 8 = .ok (.aaload, 1) := by decide +kernel
theorem dX1_remember_9 : decode cX1_remember 9 = .ok (.astore_n 1, 1) := by decide +kernel
theorem dX1_remember_10 : decode cX1_remember 10 = .ok (.aload_n 1, 1) := by decide +kernel
theorem dX1_remember_11 : decode cX1_remember 11 = .ok (.iconst 0, 1) := by decide +kernel
theorem dX1_remember_12 : decode cX1_remember 12 = .ok (.aload_n 0, 1) := by decide +kernel
theorem dX1_remember_13 : decode cX1_remember 13 = .ok (.getfield 9, 3) := by decide +kernel
theorem dX1_remember_16 : decode cX1_remember 16 = .ok (.iastore, 1) := by decide +kernel
theorem dX1_remember_17 : decode cX1_remember 17 = .ok (.aload_n 1, 1) := by decide +kernel
theorem dX1_remember_18 : decode cX1_remember 18 = .ok (.iconst 1, 1) := by decide +kernel
theorem dX1_remember_19 : decode cX1_remember 19 = .ok (.aload_n 0, 1) := by decide +kernel
theorem dX1_remember_20 : decode cX1_remember 20 = .ok (.getfield 15, 3) := by decide +kernel
theorem dX1_remember_23 : decode cX1_remember 23 = .ok (.iastore, 1) := by decide +kernel
theorem dX1_remember_24 : decode cX1_remember 24 = .ok (.aload_n 1, 1) := by decide +kernel
theorem dX1_remember_25 : decode cX1_remember 25 = .ok (.iconst 2, 1) := by decide +kernel
theorem dX1_remember_26 : decode cX1_remember 26 = .ok (.aload_n 0, 1) := by decide +kernel
theorem dX1_remember_27 : decode cX1_remember 27 = .ok (.getfield 18, 3) := by decide +kernel
theorem dX1_remember_30 : decode cX1_remember 30 = .ok (.iastore, 1) := by decide +kernel
theorem dX1_remember_31 : decode cX1_remember 31 = .ok (.aload_n 1, 1) := by decide +kernel
theorem dX1_remember_32 : decode cX1_remember 32 = .ok (.iconst 3, 1) := by decide +kernel
theorem dX1_remember_33 : decode cX1_remember 33 = .ok (.aload_n 0, 1) := by decide +kernel
theorem dX1_remember_34 : decode cX1_remember 34 = .ok (.getfield 21, 3) := by decide +kernel
theorem dX1_remember_37 : decode cX1_remember 37 = .ok (.iastore, 1) := by decide +kernel
theorem dX1_remember_38 : decode cX1_remember 38 = .ok (.aload_n 1, 1) := by decide +kernel
theorem dX1_remember_39 : decode cX1_remember 39 = .ok (.iconst 4, 1) := by decide +kernel
theorem dX1_remember_40 : decode cX1_remember 40 = .ok (.aload_n 0, 1) := by decide +kernel
theorem dX1_remember_41 : decode cX1_remember 41 = .ok (.getfield 28, 3) := by decide +kernel
theorem dX1_remember_44 : decode cX1_remember 44 = .ok (.iastore, 1) := by decide +kernel
theorem dX1_remember_45 : decode cX1_remember 45 = .ok (.aload_n 0, 1) := by decide +kernel
theorem dX1_remember_46 : decode cX1_remember 46 = .ok (.aload_n 0, 1) := by decide +kernel
theorem dX1_remember_47 : decode cX1_remember 47 = .ok (.getfield 45, 3) := by decide +kernel
theorem dX1_remember_50 : decode cX1_remember 50 = .ok (.iconst 1, 1) := by decide +kernel
theorem dX1_remember_51 : decode cX1_remember 51 = .ok (.iadd, 1) := by decide +kernel
theorem dX1_remember_52 : decode cX1_remember 52 = .ok (.bipush 20, 2) := by decide +kernel
theorem dX1_remember_54 : decode cX1_remember 54 = .ok (.irem, 1) := by decide +kernel
theorem dX1_remember_55 : decode cX1_remember 55 = .ok (.putfield 45, 3) := by decide +kernel
theorem dX1_remember_58 : decode cX1_remember 58 = .ok (.aload_n 0, 1) := by decide +kernel
theorem dX1_remember_59 : decode cX1_remember 59 = .ok (.bipush 20, 2) := by decide +kernel
theorem dX1_remember_61 : decode cX1_remember 61 = .ok (.aload_n 0, 1) := by decide +kernel
theorem dX1_remember_62 : decode cX1_remember 62 = .ok (.getfield 48, 3) := by decide +kernel
theorem dX1_remember_65 : decode cX1_remember 65 = .ok (.iconst 1, 1) := by decide +kernel
theorem dX1_remember_66 : decode cX1_remember 66 = .ok (.iadd, 1) := by decide +kernel
theorem dX1_remember_67 : decode cX1_remember 67 = .ok (.invokestatic 58, 3) := by decide +kernel
theorem dX1_remember_70 : decode cX1_remember 70 = .ok (.putfield 48, 3) := by decide +kernel
theorem dX1_remember_73 : decode cX1_remember 73 = .ok (.return_, 1) := by decide +kernel
theorem dX1_takeBack_0 : decode cX1_takeBack 0 = .ok (.aload_n 0, 1) := by decide +kernel
theorem dX1_takeBack_1 : decode cX1_takeBack 1 = .ok (.aload_n 0, 1) := by decide +kernel
theorem dX1_takeBack_2 : decode cX1_takeBack 2 = .ok (.getfield 45, 3) := by decide +kernel
theorem dX1_takeBack_5 : decode cX1_takeBack 5 = .ok (.bipush 20, 2) := by decide +kernel
theorem dX1_takeBack_7 : decode cX1_takeBack 7 = .ok (.iadd, 1) := by decide +kernel
theorem dX1_takeBack_8 : decode cX1_takeBack 8 = .ok (.iconst 1, 1) := by decide +kernel
theorem dX1_takeBack_9 : decode cX1_takeBack 9 = .ok (.isub, 1) := by decide +kernel
theorem dX1_takeBack_10 : decode cX1_takeBack 10 = .ok (.bipush 20, 2) := by decide +kernel
theorem dX1_takeBack_12 : decode cX1_takeBack 12 = .ok (.irem, 1) := by decide +kernel
theorem dX1_takeBack_13 : decode cX1_takeBack 13 = .ok (.putfield 45, 3) := by decide +kernel
theorem dX1_takeBack_16 : decode cX1_takeBack 16 = .ok (.aload_n 0, 1) := by decide +kernel
theorem dX1_takeBack_17 : decode cX1_takeBack 17 = .ok (.dup, 1) := by decide +kernel
theorem dX1_takeBack_18 : decode cX1_takeBack 18 = .ok (.getfield 48, 3) := by decide +kernel
theorem dX1_takeBack_21 : decode cX1_takeBack 21 = .ok (.iconst 1, 1) := by decide +kernel
theorem dX1_takeBack_22 : decode cX1_takeBack 22 = .ok (.isub, 1) := by decide +kernel
theorem dX1_takeBack_23 : decode cX1_takeBack 23 = .ok (.putfield 48, 3) := by decide +kernel
theorem dX1_takeBack_26 : decode cX1_takeBack 26 = .ok (.aload_n 0, 1) := by decide +kernel
theorem dX1_takeBack_27 : decode cX1_takeBack 27 = .ok (.getfield 42, 3) := by decide +kernel
theorem dX1_takeBack_30 : decode cX1_takeBack 30 = .ok (.aload_n 0, 1) := by decide +kernel
theorem dX1_takeBack_31 : decode cX1_takeBack 31 = .ok (.getfield 45, 3) := by decide +kernel
theorem dX1_takeBack_34 : decode cX1_takeBack 34 = .ok (.aaload, 1) := by decide +kernel
theorem dX1_takeBack_35 : decode cX1_takeBack 35 = .ok (.astore_n 1, 1) := by decide +kernel
theorem dX1_takeBack_36 : decode cX1_takeBack 36 = .ok (.aload_n 0, 1) := by decide +kernel
theorem dX1_takeBack_37 : decode cX1_takeBack 37 = .ok (.aload_n 1, 1) := by decide +kernel
theorem dX1_takeBack_38 : decode cX1_takeBack 38 = .ok (.iconst 0, 1) := by decide +kernel
theorem dX1_takeBack_39 : decode cX1_takeBack 39 = .ok (.iaload, 1) := by decide +kernel
theorem dX1_takeBack_40 : decode cX1_takeBack 40 = .ok (.putfield 9, 3) := by decide +kernel
theorem dX1_takeBack_43 : decode cX1_takeBack 43 = .ok (.aload_n 0, 1) := by decide +kernel
theorem dX1_takeBack_44 : decode cX1_takeBack 44 = .ok (.aload_n 1, 1) := by decide +kernel
theorem dX1_takeBack_45 : decode cX1_takeBack 45 = .ok (.iconst 1, 1) := by decide +kernel
theorem dX1_takeBack_46 : decode cX1_takeBack 46 = .ok (.iaload, 1) := by decide +kernel
theorem dX1_takeBack_47 : decode cX1_takeBack 47 = .ok (.putfield 15, 3) := by decide +kernel
theorem dX1_takeBack_50 : decode cX1_takeBack 50 = .ok (.aload_n 0, 1) := by decide +kernel
theorem dX1_takeBack_51 : decode cX1_takeBack 51 = .ok (.aload_n 1, 1) := by decide +kernel
theorem dX1_takeBack_52 : decode cX1_takeBack 52 = .ok (.iconst 2, 1) := by decide +kernel
theorem dX1_takeBack_53 : decode cX1_takeBack 53 = .ok (.iaload, 1) := by decide +kernel
theorem dX1_takeBack_54 : decode cX1_takeBack 54 = .ok (.putfield 18, 3) := by decide +kernel
theorem dX1_takeBack_57 : decode cX1_takeBack 57 = .ok (.aload_n 0, 1) := by decide +kernel
theorem dX1_takeBack_58 : decode cX1_takeBack 58 = .ok (.aload_n 1, 1) := by decide +kernel
theorem dX1_takeBack_59 : decode cX1_takeBack 59 = .ok (.iconst 3, 1) := by decide +kernel
theorem dX1_takeBack_60 : decode cX1_takeBack 60 = .ok (.iaload, 1) := by decide +kernel
theorem dX1_takeBack_61 : decode cX1_takeBack 61 = .ok (.putfield 21, 3) := by decide +kernel
theorem dX1_takeBack_64 : decode cX1_takeBack 64 = .ok (.aload_n 0, 1) := by decide +kernel
theorem dX1_takeBack_65 : decode cX1_takeBack 65 = .ok (.aload_n 1, 1) := by decide +kernel
theorem dX1_takeBack_66 : decode cX1_takeBack 66 = .ok (.iconst 4, 1) := by decide +kernel
theorem dX1_takeBack_67 : decode cX1_takeBack 67 = .ok (.iaload, 1) := by decide +kernel
theorem dX1_takeBack_68 : decode cX1_takeBack 68 = .ok (.putfield 28, 3) := by decide +kernel
theorem dX1_takeBack_71 : decode cX1_takeBack 71 = .ok (.return_, 1) := by decide +kernel
theorem dX1_keep_0 : decode cX1_keep 0 = .ok (.aload_n 0, 1) := by decide +kernel
theorem dX1_keep_1 : decode cX1_keep 1 = .ok (.dup, 1) := by decide +kernel
theorem dX1_keep_2 : decode cX1_keep 2 = .ok (.getfield 18, 3) := by decide +kernel
theorem dX1_keep_5 : decode cX1_keep 5 = .ok (.iconst 1, 1) := by decide +kernel
theorem dX1_keep_6 : decode cX1_keep 6 = .ok (.iload_n 2, 1) := by decide +kernel
theorem dX1_keep_7 : decode cX1_keep 7 = .ok (.ishl, 1) := by decide +kernel
theorem dX1_keep_8 : decode cX1_keep 8 = .ok (.ior, 1) := by decide +kernel
theorem dX1_keep_9 : decode cX1_keep 9 = .ok (.putfield 18, 3) := by decide +kernel
theorem dX1_keep_12 : decode cX1_keep 12 = .ok (.aload_n 0, 1) := by decide +kernel
theorem dX1_keep_13 : decode cX1_keep 13 = .ok (.getfield 28, 3) := by decide +kernel
theorem dX1_keep_16 : decode cX1_keep 16 = .ok (.bipush 6, 2) := by decide +kernel
theorem dX1_keep_18 : decode cX1_keep 18 = .ok (.if_icmp .ge 46, 3) := by decide +kernel
theorem dX1_keep_21 : decode cX1_keep 21 = .ok (.aload_n 0, 1) := by decide +kernel
theorem dX1_keep_22 : decode cX1_keep 22 = .ok (.getfield 31, 3) := by decide +kernel
theorem dX1_keep_25 : decode cX1_keep 25 = .ok (.aload_n 0, 1) := by decide +kernel
theorem dX1_keep_26 : decode cX1_keep 26 = .ok (.getfield 28, 3) := by decide +kernel
theorem dX1_keep_29 : decode cX1_keep 29 = .ok (.aload_n 0, 1) := by decide +kernel
theorem dX1_keep_30 : decode cX1_keep 30 = .ok (.getfield 9, 3) := by decide +kernel
theorem dX1_keep_33 : decode cX1_keep 33 = .ok (.iastore, 1) := by decide +kernel
theorem dX1_keep_34 : decode cX1_keep 34 = .ok (.aload_n 0, 1) := by decide +kernel
theorem dX1_keep_35 : decode cX1_keep 35 = .ok (.getfield 34, 3) := by decide +kernel
theorem dX1_keep_38 : decode cX1_keep 38 = .ok (.aload_n 0, 1) := by decide +kernel
theorem dX1_keep_39 : decode cX1_keep 39 = .ok (.getfield 28, 3) := by decide +kernel
theorem dX1_keep_42 : decode cX1_keep 42 = .ok (.iload_n 2, 1) := by decide +kernel
theorem dX1_keep_43 : decode cX1_keep 43 = .ok (.iastore, 1) := by decide +kernel
theorem dX1_keep_44 : decode cX1_keep 44 = .ok (.aload_n 0, 1) := by decide +kernel
theorem dX1_keep_45 : decode cX1_keep 45 = .ok (.getfield 37, 3) := by decide +kernel
theorem dX1_keep_48 : decode cX1_keep 48 = .ok (.aload_n 0, 1) := by decide +kernel
theorem dX1_keep_49 : decode cX1_keep 49 = .ok (.getfield 28, 3) := by decide +kernel
theorem dX1_keep_52 : decode cX1_keep 52 = .ok (.iload_n 1, 1) := by decide +kernel
theorem dX1_keep_53 : decode cX1_keep 53 = .ok (.iastore, 1) := by decide +kernel
theorem dX1_keep_54 : decode cX1_keep 54 = .ok (.aload_n 0, 1) := by decide +kernel
theorem dX1_keep_55 : decode cX1_keep 55 = .ok (.dup, 1) := by decide +kernel
theorem dX1_keep_56 : decode cX1_keep 56 = .ok (.getfield 28, 3) := by decide +kernel
theorem dX1_keep_59 : decode cX1_keep 59 = .ok (.iconst 1, 1) := by decide +kernel
theorem dX1_keep_60 : decode cX1_keep 60 = .ok (.iadd, 1) := by decide +kernel
theorem dX1_keep_61 : decode cX1_keep 61 = .ok (.putfield 28, 3) := by decide +kernel
theorem dX1_keep_64 : decode cX1_keep 64 = .ok (.return_, 1) := by decide +kernel
theorem dX1_waitByChance_0 : decode cX1_waitByChance 0 = .ok (.aload_n 0, 1) := by decide +kernel
theorem dX1_waitByChance_1 : decode cX1_waitByChance 1 = .ok (.ldc2_w 64, 3) := by decide +kernel
theorem dX1_waitByChance_4 : decode cX1_waitByChance 4 = .ok (.aload_n 0, 1) := by decide +kernel
theorem dX1_waitByChance_5 : decode cX1_waitByChance 5 = .ok (.getfield 51, 3) := by decide +kernel
theorem dX1_waitByChance_8 : decode cX1_waitByChance 8 = .ok (.lmul, 1) := by decide +kernel
theorem dX1_waitByChance_9 : decode cX1_waitByChance 9 = .ok (.ldc2_w 66, 3) := by decide +kernel
theorem dX1_waitByChance_12 : decode cX1_waitByChance 12 = .ok (.ladd, 1) := by decide +kernel
theorem dX1_waitByChance_13 : decode cX1_waitByChance 13 = .ok (.ldc2_w 68, 3) := by decide +kernel
theorem dX1_waitByChance_16 : decode cX1_waitByChance 16 = .ok (.lrem, 1) := by decide +kernel
theorem dX1_waitByChance_17 : decode cX1_waitByChance 17 = .ok (.putfield 51, 3) := by decide +kernel
theorem dX1_waitByChance_20 : decode cX1_waitByChance 20 = .ok (.aload_n 0, 1) := by decide +kernel
theorem dX1_waitByChance_21 : decode cX1_waitByChance 21 = .ok (.getfield 51, 3) := by decide +kernel
theorem dX1_waitByChance_24 : decode cX1_waitByChance 24 = .ok (.ldc2_w 70, 3) := by decide +kernel
theorem dX1_waitByChance_27 : decode cX1_waitByChance 27 = .ok (.ldiv, 1) := by decide +kernel
theorem dX1_waitByChance_28 : decode cX1_waitByChance 28 = .ok (.ldc2_w 72, 3) := by decide +kernel
theorem dX1_waitByChance_31 : decode cX1_waitByChance 31 = .ok (.lrem, 1) := by decide +kernel
theorem dX1_waitByChance_32 : decode cX1_waitByChance 32 = .ok (.aload_n 1, 1) := by decide +kernel
theorem dX1_waitByChance_33 : decode cX1_waitByChance 33 = .ok (.getfield 74, 3) := by decide +kernel
theorem dX1_waitByChance_36 : decode cX1_waitByChance 36 = .ok (.i2l, 1) := by decide +kernel
theorem dX1_waitByChance_37 : decode cX1_waitByChance 37 = .ok (.lcmp, 1) := by decide +kernel
theorem dX1_waitByChance_38 : decode cX1_waitByChance 38 = .ok (.ifCond .ge 40, 3) := by decide +kernel
theorem dX1_waitByChance_41 : decode cX1_waitByChance 41 = .ok (.aload_n 1, 1) := by decide +kernel
theorem dX1_waitByChance_42 : decode cX1_waitByChance 42 = .ok (.getfield 79, 3) := by decide +kernel
theorem dX1_waitByChance_45 : decode cX1_waitByChance 45 = .ok (.aload_n 0, 1) := by decide +kernel
theorem dX1_waitByChance_46 : decode cX1_waitByChance 46 = .ok (.getfield 21, 3) := by decide +kernel
theorem dX1_waitByChance_49 : decode cX1_waitByChance 49 = .ok (.iadd, 1) := by decide +kernel
theorem dX1_waitByChance_50 : decode cX1_waitByChance 50 = .ok (.bipush 16, 2) := by decide +kernel
theorem dX1_waitByChance_52 : decode cX1_waitByChance 52 = .ok (.if_icmp .ge 26, 3) := by decide +kernel
theorem dX1_waitByChance_55 : decode cX1_waitByChance 55 = .ok (.aload_n 0, 1) := by decide +kernel
theorem dX1_waitByChance_56 : decode cX1_waitByChance 56 = .ok (.getfield 24, 3) := by decide +kernel
theorem dX1_waitByChance_59 : decode cX1_waitByChance 59 = .ok (.aload_n 0, 1) := by decide +kernel
theorem dX1_waitByChance_60 : decode cX1_waitByChance 60 = .ok (.getfield 21, 3) := by decide +kernel
theorem dX1_waitByChance_63 : decode cX1_waitByChance 63 = .ok (.aload_n 0, 1) := by decide +kernel
theorem dX1_waitByChance_64 : decode cX1_waitByChance 64 = .ok (.getfield 9, 3) := by decide +kernel
theorem dX1_waitByChance_67 : decode cX1_waitByChance 67 = .ok (.iastore, 1) := by decide +kernel
theorem dX1_waitByChance_68 : decode cX1_waitByChance 68 = .ok (.aload_n 0, 1) := by decide +kernel
theorem dX1_waitByChance_69 : decode cX1_waitByChance 69 = .ok (.dup, 1) := by decide +kernel
theorem dX1_waitByChance_70 : decode cX1_waitByChance 70 = .ok (.getfield 21, 3) := by decide +kernel
theorem dX1_waitByChance_73 : decode cX1_waitByChance 73 = .ok (.iconst 1, 1) := by decide +kernel
theorem dX1_waitByChance_74 : decode cX1_waitByChance 74 = .ok (.iadd, 1) := by decide +kernel
theorem dX1_waitByChance_75 : decode cX1_waitByChance 75 = .ok (.putfield 21, 3) := by decide +kernel
theorem dX1_waitByChance_78 : decode cX1_waitByChance 78 = .ok (.aload_n 0, 1) := by decide +kernel
theorem dX1_waitByChance_79 : decode cX1_waitByChance 79 = .ok (.dup, 1) := by decide +kernel
theorem dX1_waitByChance_80 : decode cX1_waitByChance 80 = .ok (.getfield 9, 3) := by decide +kernel
theorem dX1_waitByChance_83 : decode cX1_waitByChance 83 = .ok (.iconst 1, 1) := by decide +kernel
theorem dX1_waitByChance_84 : decode cX1_waitByChance 84 = .ok (.iadd, 1) := by decide +kernel
theorem dX1_waitByChance_85 : decode cX1_waitByChance 85 = .ok (.putfield 9, 3) := by decide +kernel
theorem dX1_waitByChance_88 : decode cX1_waitByChance 88 = .ok (.return_, 1) := by decide +kernel
theorem dX1_imageLength_0 : decode cX1_imageLength 0 = .ok (.iconst 5, 1) := by decide +kernel
theorem dX1_imageLength_1 : decode cX1_imageLength 1 = .ok (.iconst 2, 1) := by decide +kernel
theorem dX1_imageLength_2 : decode cX1_imageLength 2 = .ok (.iload_n 0, 1) := by decide +kernel
theorem dX1_imageLength_3 : decode cX1_imageLength 3 = .ok (.imul, 1) := by decide +kernel
theorem dX1_imageLength_4 : decode cX1_imageLength 4 = .ok (.iadd, 1) := by decide +kernel
theorem dX1_imageLength_5 : decode cX1_imageLength 5 = .ok (.iconst 1, 1) := by decide +kernel
theorem dX1_imageLength_6 : decode cX1_imageLength 6 = .ok (.iadd, 1) := by decide +kernel
theorem dX1_imageLength_7 : decode cX1_imageLength 7 = .ok (.ireturn, 1) := by decide +kernel
theorem dX1_write_0 : decode cX1_write 0 = .ok (.aload_n 1, 1) := by decide +kernel
theorem dX1_write_1 : decode cX1_write 1 = .ok (.iconst 0, 1) := by decide +kernel
theorem dX1_write_2 : decode cX1_write 2 = .ok (.putfield 80, 3) := by decide +kernel
theorem dX1_write_5 : decode cX1_write 5 = .ok (.aload_n 1, 1) := by decide +kernel
theorem dX1_write_6 : decode cX1_write 6 = .ok (.aload_n 0, 1) := by decide +kernel
theorem dX1_write_7 : decode cX1_write 7 = .ok (.getfield 9, 3) := by decide +kernel
theorem dX1_write_10 : decode cX1_write 10 = .ok (.invokevirtual 85, 3) := by decide +kernel
theorem dX1_write_13 : decode cX1_write 13 = .ok (.aload_n 1, 1) := by decide +kernel
theorem dX1_write_14 : decode cX1_write 14 = .ok (.aload_n 0, 1) := by decide +kernel
theorem dX1_write_15 : decode cX1_write 15 = .ok (.getfield 15, 3) := by decide +kernel
theorem dX1_write_18 : decode cX1_write 18 = .ok (.invokevirtual 89, 3) := by decide +kernel
theorem dX1_write_21 : decode cX1_write 21 = .ok (.aload_n 1, 1) := by decide +kernel
theorem dX1_write_22 : decode cX1_write 22 = .ok (.aload_n 0, 1) := by decide +kernel
theorem dX1_write_23 : decode cX1_write 23 = .ok (.getfield 18, 3) := by decide +kernel
theorem dX1_write_26 : decode cX1_write 26 = .ok (.invokevirtual 89, 3) := by decide +kernel
theorem dX1_write_29 : decode cX1_write 29 = .ok (.aload_n 1, 1) := by decide +kernel
theorem dX1_write_30 : decode cX1_write 30 = .ok (.aload_n 0, 1) := by decide +kernel
theorem dX1_write_31 : decode cX1_write 31 = .ok (.getfield 21, 3) := by decide +kernel
theorem dX1_write_34 : decode cX1_write 34 = .ok (.invokevirtual 89, 3) := by decide +kernel
theorem dX1_write_37 : decode cX1_write 37 = .ok (.iconst 0, 1) := by decide +kernel
theorem dX1_write_38 : decode cX1_write 38 = .ok (.istore_n 2, 1) := by decide +kernel
theorem dX1_write_39 : decode cX1_write 39 = .ok (.iload_n 2, 1) := by decide +kernel
theorem dX1_write_40 : decode cX1_write 40 = .ok (.aload_n 0, 1) := by decide +kernel
theorem dX1_write_41 : decode cX1_write 41 = .ok (.getfield 21, 3) := by decide +kernel
theorem dX1_write_44 : decode cX1_write 44 = .ok (.if_icmp .ge 19, 3) := by decide +kernel
theorem dX1_write_47 : decode cX1_write 47 = .ok (.aload_n 1, 1) := by decide +kernel
theorem dX1_write_48 : decode cX1_write 48 = .ok (.aload_n 0, 1) := by decide +kernel
theorem dX1_write_49 : decode cX1_write 49 = .ok (.getfield 24, 3) := by decide +kernel
theorem dX1_write_52 : decode cX1_write 52 = .ok (.iload_n 2, 1) := by decide +kernel
theorem dX1_write_53 : decode cX1_write 53 = .ok (.iaload, 1) := by decide +kernel
theorem dX1_write_54 : decode cX1_write 54 = .ok (.invokevirtual 85, 3) := by decide +kernel
theorem dX1_write_57 : decode cX1_write 57 = .ok (.iinc 2 1, 3) := by decide +kernel
theorem dX1_write_60 : decode cX1_write 60 = .ok (.goto (-21), 3) := by decide +kernel
theorem dX1_write_63 : decode cX1_write 63 = .ok (.aload_n 1, 1) := by decide +kernel
theorem dX1_write_64 : decode cX1_write 64 = .ok (.aload_n 1, 1) := by decide +kernel
theorem dX1_write_65 : decode cX1_write 65 = .ok (.aload_n 1, 1) := by decide +kernel
theorem dX1_write_66 : decode cX1_write 66 = .ok (.getfield 80, 3) := by decide +kernel
theorem dX1_write_69 : decode cX1_write 69 = .ok (.invokevirtual 92, 3) := by decide +kernel
theorem dX1_write_72 : decode cX1_write 72 = .ok (.invokevirtual 89, 3) := by decide +kernel
theorem dX1_write_75 : decode cX1_write 75 = .ok (.return_, 1) := by decide +kernel
theorem dX1_read_0 : decode cX1_read 0 = .ok (.aload_n 0, 1) := by decide +kernel
theorem dX1_read_1 : decode cX1_read 1 = .ok (.aload_n 1, 1) := by decide +kernel
theorem dX1_read_2 : decode cX1_read 2 = .ok (.iconst 0, 1) := by decide +kernel
theorem dX1_read_3 : decode cX1_read 3 = .ok (.invokevirtual 96, 3) := by decide +kernel
theorem dX1_read_6 : decode cX1_read 6 = .ok (.putfield 9, 3) := by decide +kernel
theorem dX1_read_9 : decode cX1_read 9 = .ok (.aload_n 0, 1) := by decide +kernel
theorem dX1_read_10 : decode cX1_read 10 = .ok (.aload_n 1, 1) := by decide +kernel
theorem dX1_read_11 : decode cX1_read 11 = .ok (.iconst 2, 1) := by decide +kernel
theorem dX1_read_12 : decode cX1_read 12 = .ok (.invokevirtual 99, 3) := by decide +kernel
theorem dX1_read_15 : decode cX1_read 15 = .ok (.putfield 15, 3) := by decide +kernel
theorem dX1_read_18 : decode cX1_read 18 = .ok (.aload_n 0, 1) := by decide +kernel
theorem dX1_read_19 : decode cX1_read 19 = .ok (.aload_n 1, 1) := by decide +kernel
theorem dX1_read_20 : decode cX1_read 20 = .ok (.iconst 3, 1) := by decide +kernel
theorem dX1_read_21 : decode cX1_read 21 = .ok (.invokevirtual 99, 3) := by decide +kernel
theorem dX1_read_24 : decode cX1_read 24 = .ok (.putfield 18, 3) := by decide +kernel
theorem dX1_read_27 : decode cX1_read 27 = .ok (.aload_n 0, 1) := by decide +kernel
theorem dX1_read_28 : decode cX1_read 28 = .ok (.bipush 16, 2) := by decide +kernel
theorem dX1_read_30 : decode cX1_read 30 = .ok (.aload_n 1, 1) := by decide +kernel
theorem dX1_read_31 : decode cX1_read 31 = .ok (.iconst 4, 1) := by decide +kernel
theorem dX1_read_32 : decode cX1_read 32 = .ok (.invokevirtual 99, 3) := by decide +kernel
theorem dX1_read_35 : decode cX1_read 35 = .ok (.invokestatic 58, 3) := by decide +kernel
theorem dX1_read_38 : decode cX1_read 38 = .ok (.putfield 21, 3) := by decide +kernel
theorem dX1_read_41 : decode cX1_read 41 = .ok (.iconst 0, 1) := by decide +kernel
theorem dX1_read_42 : decode cX1_read 42 = .ok (.istore_n 2, 1) := by decide +kernel
theorem dX1_read_43 : decode cX1_read 43 = .ok (.iload_n 2, 1) := by decide +kernel
theorem dX1_read_44 : decode cX1_read 44 = .ok (.aload_n 0, 1) := by decide +kernel
theorem dX1_read_45 : decode cX1_read 45 = .ok (.getfield 21, 3) := by decide +kernel
theorem dX1_read_48 : decode cX1_read 48 = .ok (.if_icmp .ge 24, 3) := by decide +kernel
theorem dX1_read_51 : decode cX1_read 51 = .ok (.aload_n 0, 1) := by decide +kernel
theorem dX1_read_52 : decode cX1_read 52 = .ok (.getfield 24, 3) := by decide +kernel
theorem dX1_read_55 : decode cX1_read 55 = .ok (.iload_n 2, 1) := by decide +kernel
theorem dX1_read_56 : decode cX1_read 56 = .ok (.aload_n 1, 1) := by decide +kernel
theorem dX1_read_57 : decode cX1_read 57 = .ok (.iconst 5, 1) := by decide +kernel
theorem dX1_read_58 : decode cX1_read 58 = .ok (.iconst 2, 1) := by decide +kernel
theorem dX1_read_59 : decode cX1_read 59 = .ok (.iload_n 2, 1) := by decide +kernel
theorem dX1_read_60 : decode cX1_read 60 = .ok (.imul, 1) := by decide +kernel
theorem dX1_read_61 : decode cX1_read 61 = .ok (.iadd, 1) := by decide +kernel
theorem dX1_read_62 : decode cX1_read 62 = .ok (.invokevirtual 96, 3) := by decide +kernel
theorem dX1_read_65 : decode cX1_read 65 = .ok (.iastore, 1) := by decide +kernel
theorem dX1_read_66 : decode cX1_read 66 = .ok (.iinc 2 1, 3) := by decide +kernel
theorem dX1_read_69 : decode cX1_read 69 = .ok (.goto (-26), 3) := by decide +kernel
theorem dX1_read_72 : decode cX1_read 72 = .ok (.aload_n 0, 1) := by decide +kernel
theorem dX1_read_73 : decode cX1_read 73 = .ok (.invokevirtual 55, 3) := by decide +kernel
theorem dX1_read_76 : decode cX1_read 76 = .ok (.return_, 1) := by decide +kernel
theorem dX2_init_0 : decode cX2_init 0 = .ok (.aload_n 0, 1) := by decide +kernel
theorem dX2_init_1 : decode cX2_init 1 = .ok (.invokespecial 3, 3) := by decide +kernel
theorem dX2_init_4 : decode cX2_init 4 = .ok (.aload_n 0, 1) := by decide +kernel
theorem dX2_init_5 : decode cX2_init 5 = .ok (.iconst 0, 1) := by decide +kernel
theorem dX2_init_6 : decode cX2_init 6 = .ok (.putfield 9, 3) := by decide +kernel
theorem dX2_init_9 : decode cX2_init 9 = .ok (.aload_n 0, 1) := by decide +kernel
theorem dX2_init_10 : decode cX2_init 10 = .ok (.iconst 0, 1) := by decide +kernel
theorem dX2_init_11 : decode cX2_init 11 = .ok (.putfield 15, 3) := by decide +kernel
theorem dX2_init_14 : decode cX2_init 14 = .ok (.aload_n 0, 1) := by decide +kernel
theorem dX2_init_15 : decode cX2_init 15 = .ok (.bipush 6, 2) := by decide +kernel
theorem dX2_init_17 : decode cX2_init 17 = .ok (.newarray .int, 2) := by decide +kernel
theorem dX2_init_19 : decode cX2_init 19 = .ok (.putfield 18, 3) := by decide +kernel
theorem dX2_init_22 : decode cX2_init 22 = .ok (.aload_n 0, 1) := by decide +kernel
theorem dX2_init_23 : decode cX2_init 23 = .ok (.bipush 6, 2) := by decide +kernel
theorem dX2_init_25 : decode cX2_init 25 = .ok (.newarray .int, 2) := by decide +kernel
theorem dX2_init_27 : decode cX2_init 27 = .ok (.putfield 22, 3) := by decide +kernel
theorem dX2_init_30 : decode cX2_init 30 = .ok (.aload_n 0, 1) := by decide +kernel
theorem dX2_init_31 : decode cX2_init 31 = .ok (.bipush 6, 2) := by decide +kernel
theorem dX2_init_33 : decode cX2_init 33 = .ok (.newarray .int, 2) := by decide +kernel
theorem dX2_init_35 : decode cX2_init 35 = .ok (.putfield 25, 3) := by decide +kernel
theorem dX2_init_38 : decode cX2_init 38 = .ok (.aload_n 0, 1) := by decide +kernel
theorem dX2_init_39 : decode cX2_init 39 = .ok (.bipush 6, 2) := by decide +kernel
theorem dX2_init_41 : decode cX2_init 41 = .ok (.newarray .int, 2) := by decide +kernel
theorem dX2_init_43 : decode cX2_init 43 = .ok (.putfield 28, 3) := by decide +kernel
theorem dX2_init_46 : decode cX2_init 46 = .ok (.aload_n 0, 1) := by decide +kernel
theorem dX2_init_47 : decode cX2_init 47 = .ok (.bipush 6, 2) := by decide +kernel
theorem dX2_init_49 : decode cX2_init 49 = .ok (.newarray .int, 2) := by decide +kernel
theorem dX2_init_51 : decode cX2_init 51 = .ok (.putfield 31, 3) := by decide +kernel
theorem dX2_init_54 : decode cX2_init 54 = .ok (.aload_n 0, 1) := by decide +kernel
theorem dX2_init_55 : decode cX2_init 55 = .ok (.iconst 0, 1) := by decide +kernel
theorem dX2_init_56 : decode cX2_init 56 = .ok (.putfield 34, 3) := by decide +kernel
theorem dX2_init_59 : decode cX2_init 59 = .ok (.aload_n 0, 1) := by decide +kernel
theorem dX2_init_60 : decode cX2_init 60 = .ok (.bipush 8, 2) := by decide +kernel
theorem dX2_init_62 : decode cX2_init 62 = .ok (.newarray .int, 2) := by decide +kernel
theorem dX2_init_64 : decode cX2_init 64 = .ok (.putfield 37, 3) := by decide +kernel
theorem dX2_init_67 : decode cX2_init 67 = .ok (.aload_n 0, 1) := by decide +kernel
theorem dX2_init_68 : decode cX2_init 68 = .ok (.bipush 8, 2) := by decide +kernel
theorem dX2_init_70 : decode cX2_init 70 = .ok (.newarray .int, 2) := by decide +kernel
theorem dX2_init_72 : decode cX2_init 72 = .ok (.putfield 40, 3) := by decide +kernel
theorem dX2_init_75 : decode cX2_init 75 = .ok (.aload_n 0, 1) := by decide +kernel
theorem dX2_init_76 : decode cX2_init 76 = .ok (.bipush 8, 2) := by decide +kernel
theorem dX2_init_78 : decode cX2_init 78 = .ok (.newarray .int, 2) := by decide +kernel
theorem dX2_init_80 : decode cX2_init 80 = .ok (.putfield 43, 3) := by decide +kernel
theorem dX2_init_83 : decode cX2_init 83 = .ok (.aload_n 0, 1) := by decide +kernel
theorem dX2_init_84 : decode cX2_init 84 = .ok (.iconst 0, 1) := by decide +kernel
theorem dX2_init_85 : decode cX2_init 85 = .ok (.putfield 46, 3) := by decide +kernel
theorem dX2_init_88 : decode cX2_init 88 = .ok (.aload_n 0, 1) := by decide +kernel
theorem dX2_init_89 : decode cX2_init 89 = .ok (.bipush 8, 2) := by decide +kernel
theorem dX2_init_91 : decode cX2_init 91 = .ok (.newarray .int, 2) := by decide +kernel
theorem dX2_init_93 : decode cX2_init 93 = .ok (.putfield 49, 3) := by decide +kernel
theorem dX2_init_96 : decode cX2_init 96 = .ok (.aload_n 0, 1) := by decide +kernel
theorem dX2_init_97 : decode cX2_init 97 = .ok (.bipush 8, 2) := by decide +kernel
theorem dX2_init_99 : decode cX2_init 99 = .ok (.newarray .int, 2) := by decide +kernel
theorem dX2_init_101 : decode cX2_init 101 = .ok (.putfield 52, 3) := by decide +kernel
theorem dX2_init_104 : decode cX2_init 104 = .ok (.aload_n 0, 1) := by decide +kernel
theorem dX2_init_105 : decode cX2_init 105 = .ok (.new 55, 3) := by decide +kernel
theorem dX2_init_108 : decode cX2_init 108 = .ok (.dup, 1) := by decide +kernel
theorem dX2_init_109 : decode cX2_init 109 = .ok (.invokespecial 57, 3) := by decide +kernel
theorem dX2_init_112 : decode cX2_init 112 = .ok (.putfield 58, 3) := by decide +kernel
theorem dX2_init_115 : decode cX2_init 115 = .ok (.aload_n 0, 1) := by decide +kernel
theorem dX2_init_116 : decode cX2_init 116 = .ok (.new 55, 3) := by decide +kernel
theorem dX2_init_119 : decode cX2_init 119 = .ok (.dup, 1) := by decide +kernel
theorem dX2_init_120 : decode cX2_init 120 = .ok (.invokespecial 57, 3) := by decide +kernel
theorem dX2_init_123 : decode cX2_init 123 = .ok (.putfield 62, 3) := by decide +kernel
theorem dX2_init_126 : decode cX2_init 126 = .ok (.aload_n 0, 1) := by decide +kernel
theorem dX2_init_127 : decode cX2_init 127 = .ok (.iconst 0, 1) := by decide +kernel
theorem dX2_init_128 : decode cX2_init 128 = .ok (.putfield 65, 3) := by decide +kernel
theorem dX2_init_131 : decode cX2_init 131 = .ok (.aload_n 0, 1) := by decide +kernel
theorem dX2_init_132 : decode cX2_init 132 = .ok (.iconst 0, 1) := by decide +kernel
theorem dX2_init_133 : decode cX2_init 133 = .ok (.putfield 68, 3) := by decide +kernel
theorem dX2_init_136 : decode cX2_init 136 = .ok (.return_, 1) := by decide +kernel
theorem dX2_clear_0 : decode cX2_clear 0 = .ok (.aload_n 0, 1) := by decide +kernel
theorem dX2_clear_1 : decode cX2_clear 1 = .ok (.iconst 0, 1) := by decide +kernel
theorem dX2_clear_2 : decode cX2_clear 2 = .ok (.putfield 9, 3) := by decide +kernel
theorem dX2_clear_5 : decode cX2_clear 5 = .ok (.aload_n 0, 1) := by decide +kernel
theorem dX2_clear_6 : decode cX2_clear 6 = .ok (.iconst 0, 1) := by decide +kernel
theorem dX2_clear_7 : decode cX2_clear 7 = .ok (.putfield 15, 3) := by decide +kernel
theorem dX2_clear_10 : decode cX2_clear 10 = .ok (.aload_n 0, 1) := by decide +kernel
theorem dX2_clear_11 : decode cX2_clear 11 = .ok (.iconst 0, 1) := by decide +kernel
theorem dX2_clear_12 : decode cX2_clear 12 = .ok (.putfield 34, 3) := by decide +kernel
theorem dX2_clear_15 : decode cX2_clear 15 = .ok (.aload_n 0, 1) := by decide +kernel
theorem dX2_clear_16 : decode cX2_clear 16 = .ok (.iconst 0, 1) := by decide +kernel
theorem dX2_clear_17 : decode cX2_clear 17 = .ok (.putfield 46, 3) := by decide +kernel
theorem dX2_clear_20 : decode cX2_clear 20 = .ok (.aload_n 0, 1) := by decide +kernel
theorem dX2_clear_21 : decode cX2_clear 21 = .ok (.getfield 58, 3) := by decide +kernel
theorem dX2_clear_24 : decode cX2_clear 24 = .ok (.iconst 0, 1) := by decide +kernel
theorem dX2_clear_25 : decode cX2_clear 25 = .ok (.putfield 71, 3) := by decide +kernel
theorem dX2_clear_28 : decode cX2_clear 28 = .ok (.aload_n 0, 1) := by decide +kernel
theorem dX2_clear_29 : decode cX2_clear 29 = .ok (.getfield 62, 3) := by decide +kernel
theorem dX2_clear_32 : decode cX2_clear 32 = .ok (.iconst 0, 1) := by decide +kernel
theorem dX2_clear_33 : decode cX2_clear 33 = .ok (.putfield 71, 3) := by decide +kernel
theorem dX2_clear_36 : decode cX2_clear 36 = .ok (.aload_n 0, 1) := by decide +kernel
theorem dX2_clear_37 : decode cX2_clear 37 = .ok (.iconst 0, 1) := by decide +kernel
theorem dX2_clear_38 : decode cX2_clear 38 = .ok (.putfield 65, 3) := by decide +kernel
theorem dX2_clear_41 : decode cX2_clear 41 = .ok (.aload_n 0, 1) := by decide +kernel
theorem dX2_clear_42 : decode cX2_clear 42 = .ok (.iconst 0, 1) := by decide +kernel
theorem dX2_clear_43 : decode cX2_clear 43 = .ok (.putfield 68, 3) := by decide +kernel
theorem dX2_clear_46 : decode cX2_clear 46 = .ok (.return_, 1) := by decide +kernel
theorem dX2_hasName_0 : decode cX2_hasName 0 = .ok (.iconst 0, 1) := by decide +kernel
theorem dX2_hasName_1 : decode cX2_hasName 1 = .ok (.istore_n 2, 1) := by decide +kernel
theorem dX2_hasName_2 : decode cX2_hasName 2 = .ok (.iload_n 2, 1) := by decide +kernel
theorem dX2_hasName_3 : decode cX2_hasName 3 = .ok (.aload_n 0, 1) := by decide +kernel
theorem dX2_hasName_4 : decode cX2_hasName 4 = .ok (.getfield 15, 3) := by decide +kernel
theorem dX2_hasName_7 : decode cX2_hasName 7 = .ok (.if_icmp .ge 21, 3) := by decide +kernel
theorem dX2_hasName_10 : decode cX2_hasName 10 = .ok (.aload_n 0, 1) := by decide +kernel
theorem dX2_hasName_11 : decode cX2_hasName 11 = .ok (.getfield 18, 3) := by decide +kernel
theorem dX2_hasName_14 : decode cX2_hasName 14 = .ok (.iload_n 2, 1) := by decide +kernel
theorem dX2_hasName_15 : decode cX2_hasName 15 = .ok (.iaload, 1) := by decide +kernel
theorem dX2_hasName_16 : decode cX2_hasName 16 = .ok (.iload_n 1, 1) := by decide +kernel
theorem dX2_hasName_17 : decode cX2_hasName 17 = .ok (.if_icmp .ne 5, 3) := by decide +kernel
theorem dX2_hasName_20 : decode cX2_hasName 20 = .ok (.iconst 1, 1) := by decide +kernel
theorem dX2_hasName_21 : decode cX2_hasName 21 = .ok (.ireturn, 1) := by decide +kernel
theorem dX2_hasName_22 : decode cX2_hasName 22 = .ok (.iinc 2 1, 3) := by decide +kernel
theorem dX2_hasName_25 : decode cX2_hasName 25 = .ok (.goto (-23), 3) := by decide +kernel
theorem dX2_hasName_28 : decode cX2_hasName 28 = .ok (.iconst 0, 1) := by decide +kernel
theorem dX2_hasName_29 : decode cX2_hasName 29 = .ok (.istore_n 2, 1) := by decide +kernel
theorem dX2_hasName_30 : decode cX2_hasName 30 = .ok (.iload_n 2, 1) := by decide +kernel
theorem dX2_hasName_31 : decode cX2_hasName 31 = .ok (.aload_n 0, 1) := by decide +kernel
theorem dX2_hasName_32 : decode cX2_hasName 32 = .ok (.getfield 34, 3) := by decide +kernel
theorem dX2_hasName_35 : decode cX2_hasName 35 = .ok (.if_icmp .ge 21, 3) := by decide +kernel
theorem dX2_hasName_38 : decode cX2_hasName 38 = .ok (.aload_n 0, 1) := by decide +kernel
theorem dX2_hasName_39 : decode cX2_hasName 39 = .ok (.getfield 37, 3) := by decide +kernel
theorem dX2_hasName_42 : decode cX2_hasName 42 = .ok (.iload_n 2, 1) := by decide +kernel
theorem dX2_hasName_43 : decode cX2_hasName 43 = .ok (.iaload, 1) := by decide +kernel
theorem dX2_hasName_44 : decode cX2_hasName 44 = .ok (.iload_n 1, 1) := by decide +kernel
theorem dX2_hasName_45 : decode cX2_hasName 45 = .ok (.if_icmp .ne 5, 3) := by decide +kernel
theorem dX2_hasName_48 : decode cX2_hasName 48 = .ok (.iconst 1, 1) := by decide +kernel
theorem dX2_hasName_49 : decode cX2_hasName 49 = .ok (.ireturn, 1) := by decide +kernel
theorem dX2_hasName_50 : decode cX2_hasName 50 = .ok (.iinc 2 1, 3) := by decide +kernel
theorem dX2_hasName_53 : decode cX2_hasName 53 = .ok (.goto (-23), 3) := by decide +kernel
theorem dX2_hasName_56 : decode cX2_hasName 56 = .ok (.iconst 0, 1) := by decide +kernel
theorem dX2_hasName_57 : decode cX2_hasName 57 = .ok (.ireturn, 1) := by decide +kernel
theorem dX3_init_0 : decode cX3_init 0 = .ok (.aload_n 0, 1) := by decide +kernel
theorem dX3_init_1 : decode cX3_init 1 = .ok (.invokespecial 3, 3) := by decide +kernel
theorem dX3_init_4 : decode cX3_init 4 = .ok (.aload_n 0, 1) := by decide +kernel
theorem dX3_init_5 : decode cX3_init 5 = .ok (.aload_n 1, 1) := by decide +kernel
theorem dX3_init_6 : decode cX3_init 6 = .ok (.putfield 9, 3) := by decide +kernel
theorem dX3_init_9 : decode cX3_init 9 = .ok (.aload_n 0, 1) := by decide +kernel
theorem dX3_init_10 : decode cX3_init 10 = .ok (.aload_n 2, 1) := by decide +kernel
theorem dX3_init_11 : decode cX3_init 11 = .ok (.putfield 15, 3) := by decide +kernel
theorem dX3_init_14 : decode cX3_init 14 = .ok (.return_, 1) := by decide +kernel
theorem dX3_read_0 : decode cX3_read 0 = .ok (.aload_n 1, 1) := by decide +kernel
theorem dX3_read_1 : decode cX3_read 1 = .ok (.invokevirtual 19, 3) := by decide +kernel
theorem dX3_read_4 : decode cX3_read 4 = .ok (.aload_n 0, 1) := by decide +kernel
theorem dX3_read_5 : decode cX3_read 5 = .ok (.getfield 9, 3) := by decide +kernel
theorem dX3_read_8 : decode cX3_read 8 = .ok (.invokevirtual 24, 3) := by decide +kernel
theorem dX3_read_11 : decode cX3_read 11 = .ok (.iconst 0, 1) := by decide +kernel
theorem dX3_read_12 : decode cX3_read 12 = .ok (.istore_n 2, 1) := by decide +kernel
theorem dX3_read_13 : decode cX3_read 13 = .ok (.iload_n 2, 1) := by decide +kernel
theorem dX3_read_14 : decode cX3_read 14 = .ok (.bipush 80, 2) := by decide +kernel
theorem dX3_read_16 : decode cX3_read 16 = .ok (.if_icmp .ge 52, 3) := by decide +kernel
theorem dX3_read_19 : decode cX3_read 19 = .ok (.aload_n 0, 1) := by decide +kernel
theorem dX3_read_20 : decode cX3_read 20 = .ok (.getfield 9, 3) := by decide +kernel
theorem dX3_read_23 : decode cX3_read 23 = .ok (.getfield 29, 3) := by decide +kernel
theorem dX3_read_26 : decode cX3_read 26 = .ok (.ifCond .ne 42, 3) := by decide +kernel
theorem dX3_read_29 : decode cX3_read 29 = .ok (.aload_n 0, 1) := by decide +kernel
theorem dX3_read_30 : decode cX3_read 30 = .ok (.getfield 9, 3) := by decide +kernel
theorem dX3_read_33 : decode cX3_read 33 = .ok (.getfield 33, 3) := by decide +kernel
theorem dX3_read_36 : decode cX3_read 36 = .ok (.ifCond .eq 32, 3) := by decide +kernel
theorem dX3_read_39 : decode cX3_read 39 = .ok (.aload_n 0, 1) := by decide +kernel
theorem dX3_read_40 : decode cX3_read 40 = .ok (.aload_n 1, 1) := by decide +kernel
theorem dX3_read_41 : decode cX3_read 41 = .ok (.iload_n 2, 1) := by decide +kernel
theorem dX3_read_42 : decode cX3_read 42 = .ok (.ifCond .ne 7, 3) := by decide +kernel
theorem dX3_read_45 : decode cX3_read 45 = .ok (.iconst 1, 1) := by decide +kernel
theorem dX3_read_46 : decode cX3_read 46 = .ok (.goto 4, 3) := by decide +kernel
theorem dX3_read_49 : decode cX3_read 49 = .ok (.iconst 0, 1) := by decide +kernel
theorem dX3_read_50 : decode cX3_read 50 = .ok (.invokevirtual 36, 3) := by decide +kernel
theorem dX3_read_53 : decode cX3_read 53 = .ok (.aload_n 0, 1) := by decide +kernel
theorem dX3_read_54 : decode cX3_read 54 = .ok (.getfield 9, 3) := by decide +kernel
theorem dX3_read_57 : decode cX3_read 57 = .ok (.bipush 59, 2) := by decide +kernel
theorem dX3_read_59 : decode cX3_read 59 = .ok (.invokevirtual 40, 3) := by decide +kernel
theorem dX3_read_62 : decode cX3_read 62 = .ok (.iinc 2 1, 3) := by decide +kernel
theorem dX3_read_65 : decode cX3_read 65 = .ok (.goto (-52), 3) := by decide +kernel
theorem dX3_read_68 : decode cX3_read 68 = .ok (.iload_n 2, 1) := by decide +kernel
theorem dX3_read_69 : decode cX3_read 69 = .ok (.ifCond .ne 21, 3) := by decide +kernel
theorem dX3_read_72 : decode cX3_read 72 = .ok (.aload_n 0, 1) := by decide +kernel
theorem dX3_read_73 : decode cX3_read 73 = .ok (.getfield 9, 3) := by decide +kernel
theorem dX3_read_76 : decode cX3_read 76 = .ok (.iconst 1, 1) := by decide +kernel
theorem dX3_read_77 : decode cX3_read 77 = .ok (.aload_n 0, 1) := by decide +kernel
theorem dX3_read_78 : decode cX3_read 78 = .ok (.getfield 9, 3) := by decide +kernel
theorem dX3_read_81 : decode cX3_read 81 = .ok (.getfield 44, 3) := by decide +kernel
theorem dX3_read_84 : decode cX3_read 84 = .ok (.invokevirtual 47, 3) := by decide +kernel
theorem dX3_read_87 : decode cX3_read 87 = .ok (.goto 28, 3) := by decide +kernel
theorem dX3_read_90 : decode cX3_read 90 = .ok (.aload_n 0, 1) := by decide +kernel
theorem dX3_read_91 : decode cX3_read 91 = .ok (.getfield 9, 3) := by decide +kernel
theorem dX3_read_94 : decode cX3_read 94 = .ok (.getfield 33, 3) := by decide +kernel
theorem dX3_read_97 : decode cX3_read 97 = .ok (.ifCond .eq 18, 3) := by decide +kernel
theorem dX3_read_100 : decode cX3_read 100 = .ok (.aload_n 0, 1) := by decide +kernel
theorem dX3_read_101 : decode cX3_read 101 = .ok (.getfield 9, 3) := by decide +kernel
theorem dX3_read_104 : decode cX3_read 104 = .ok (.iconst 5, 1) := by decide +kernel
theorem dX3_read_105 : decode cX3_read 105 = .ok (.aload_n 0, 1) := by decide +kernel
theorem dX3_read_106 : decode cX3_read 106 = .ok (.getfield 9, 3) := by decide +kernel
theorem dX3_read_109 : decode cX3_read 109 = .ok (.getfield 44, 3) := by decide +kernel
theorem dX3_read_112 : decode cX3_read 112 = .ok (.invokevirtual 47, 3) := by decide +kernel
theorem dX3_read_115 : decode cX3_read 115 = .ok (.iload_n 2, 1) := by decide +kernel
theorem dX3_read_116 : decode cX3_read 116 = .ok (.ireturn, 1) := by decide +kernel
theorem dX3_readStatement_0 : decode cX3_readStatement 0 = .ok (.aload_n 0, 1) := by decide +kernel
theorem dX3_readStatement_1 : decode cX3_readStatement 1 = .ok (.getfield 9, 3) := by decide +kernel
theorem dX3_readStatement_4 : decode cX3_readStatement 4 = .ok (.getfield 33, 3) := by decide +kernel
theorem dX3_readStatement_7 : decode cX3_readStatement 7 = .ok (.iconst 1, 1) := by decide +kernel
theorem dX3_readStatement_8 : decode cX3_readStatement 8 = .ok (.if_icmp .ne 15, 3) := by decide +kernel
theorem dX3_readStatement_11 : decode cX3_readStatement 11 = .ok (.iload_n 2, 1) := by decide +kernel
theorem dX3_readStatement_12 : decode cX3_readStatement 12 = .ok (.aload_n 0, 1) := by decide +kernel
theorem dX3_readStatement_13 : decode cX3_readStatement 13 = .ok (.getfield 9, 3) := by decide +kernel
theorem dX3_readStatement_16 : decode cX3_readStatement 16 = .ok (.iconst 0, 1) := by decide +kernel
theorem dX3_readStatement_17 : decode cX3_readStatement 17 = .ok (.invokevirtual 51, 3) := by decide +kernel
theorem dX3_readStatement_20 : decode cX3_readStatement 20 = .ok (.if_icmp .eq 19, 3) := by decide +kernel
theorem dX3_readStatement_23 : decode cX3_readStatement 23 = .ok (.aload_n 0, 1) := by decide +kernel
theorem dX3_readStatement_24 : decode cX3_readStatement 24 = .ok (.getfield 9, 3) := by decide +kernel
theorem dX3_readStatement_27 : decode cX3_readStatement 27 = .ok (.iconst 1, 1) := by decide +kernel
theorem dX3_readStatement_28 : decode cX3_readStatement 28 = .ok (.aload_n 0, 1) := by decide +kernel
theorem dX3_readStatement_29 : decode cX3_readStatement 29 = .ok (.getfield 9, 3) := by decide +kernel
theorem dX3_readStatement_32 : decode cX3_readStatement 32 = .ok (.getfield 44, 3) := by decide +kernel
theorem dX3_readStatement_35 : decode cX3_readStatement 35 = .ok (.invokevirtual 47, 3) := by decide +kernel
theorem dX3_readStatement_38 : decode cX3_readStatement 38 = .ok (.return_, 1) := by decide +kernel
theorem dX3_readStatement_39 : decode cX3_readStatement 39 = .ok (.aload_n 0, 1) := by decide +kernel
theorem dX3_readStatement_40 : decode cX3_readStatement 40 = .ok (.getfield 9, 3) := by decide +kernel
theorem dX3_readStatement_43 : decode cX3_readStatement 43 = .ok (.getfield 55, 3) := by decide +kernel
theorem dX3_readStatement_46 : decode cX3_readStatement 46 = .ok (.tableswitch 261 0 14 #[74, 100, 261, 261, 261, 261, 108, 261, 261, 116, 261, 124, 168, 212, 237], 74) := by decide +kernel
theorem dX3_readStatement_120 : decode cX3_readStatement 120 = .ok (.aload_n 0, 1) := by decide +kernel
theorem dX3_readStatement_121 : decode cX3_readStatement 121 = .ok (.getfield 9, 3) := by decide +kernel
theorem dX3_readStatement_124 : decode cX3_readStatement 124 = .ok (.invokevirtual 58, 3) := by decide +kernel
theorem dX3_readStatement_127 : decode cX3_readStatement 127 = .ok (.aload_n 1, 1) := by decide +kernel
theorem dX3_readStatement_128 : decode cX3_readStatement 128 = .ok (.aload_n 0, 1) := by decide +kernel
theorem dX3_readStatement_129 : decode cX3_readStatement 129 = .ok (.getfield 9, 3) := by decide +kernel
theorem dX3_readStatement_132 : decode cX3_readStatement 132 = .ok (.bipush 10, 2) := by decide +kernel
theorem dX3_readStatement_134 : decode cX3_readStatement 134 = .ok (.sipush 400, 3) := by decide +kernel
theorem dX3_readStatement_137 : decode cX3_readStatement 137 = .ok (.invokevirtual 61, 3) := by decide +kernel
theorem dX3_readStatement_140 : decode cX3_readStatement 140 = .ok (.putfield 65, 3) := by decide +kernel
theorem dX3_readStatement_143 : decode cX3_readStatement 143 = .ok (.goto 179, 3) := by decide +kernel
theorem dX3_readStatement_146 : decode cX3_readStatement 146 = .ok (.aload_n 0, 1) := by decide +kernel
theorem dX3_readStatement_147 : decode cX3_readStatement 147 = .ok (.aload_n 1, 1) := by decide +kernel
theorem dX3_readStatement_148 : decode cX3_readStatement 148 = .ok (.invokevirtual 68, 3) := by decide +kernel
theorem dX3_readStatement_151 : decode cX3_readStatement 151 = .ok (.goto 171, 3) := by decide +kernel
theorem dX3_readStatement_154 : decode cX3_readStatement 154 = .ok (.aload_n 0, 1) := by decide +kernel
theorem dX3_readStatement_155 : decode cX3_readStatement 155 = .ok (.aload_n 1, 1) := by decide +kernel
theorem dX3_readStatement_156 : decode cX3_readStatement 156 = .ok (.invokevirtual 72, 3) := by decide +kernel
theorem dX3_readStatement_159 : decode cX3_readStatement 159 = .ok (.goto 163, 3) := by decide +kernel
theorem dX3_readStatement_162 : decode cX3_readStatement 162 = .ok (.aload_n 0, 1) := by decide +kernel
theorem dX3_readStatement_163 : decode cX3_readStatement 163 = .ok (.aload_n 1, 1) := by decide +kernel
theorem dX3_readStatement_164 : decode cX3_readStatement 164 = .ok (.invokevirtual 75, 3) := by decide +kernel
theorem dX3_readStatement_167 : decode cX3_readStatement 167 = .ok (.goto 155, 3) := by decide +kernel
theorem dX3_readStatement_170 : decode cX3_readStatement 170 = .ok (.aload_n 0, 1) := by decide +kernel
theorem dX3_readStatement_171 : decode cX3_readStatement 171 = .ok (.aload_n 1, 1) := by decide +kernel
theorem dX3_readStatement_172 : decode cX3_readStatement 172 = .ok (.getfield 78, 3) := by decide +kernel
theorem dX3_readStatement_175 : decode cX3_readStatement 175 = .ok (.getfield 82, 3) := by decide +kernel
theorem dX3_readStatement_178 : decode cX3_readStatement 178 = .ok (.iconst 1, 1) := by decide +kernel
theorem dX3_readStatement_179 : decode cX3_readStatement 179 = .ok (.invokevirtual 87, 3) := by decide +kernel
theorem dX3_readStatement_182 : decode cX3_readStatement 182 = .ok (.ifCond .eq 140, 3) := by decide +kernel
theorem dX3_readStatement_185 : decode cX3_readStatement 185 = .ok (.aload_n 0, 1) := by decide +kernel
theorem dX3_readStatement_186 : decode cX3_readStatement 186 = .ok (.getfield 9, 3) := by decide +kernel
theorem dX3_readStatement_189 : decode cX3_readStatement 189 = .ok (.invokevirtual 58, 3) := by decide +kernel
theorem dX3_readStatement_192 : decode cX3_readStatement 192 = .ok (.aload_n 0, 1) := by decide +kernel
theorem dX3_readStatement_193 : decode cX3_readStatement 193 = .ok (.getfield 15, 3) := by decide +kernel
theorem dX3_readStatement_196 : decode cX3_readStatement 196 = .ok (.aload_n 1, 1) := by decide +kernel
theorem dX3_readStatement_197 : decode cX3_readStatement 197 = .ok (.getfield 78, 3) := by decide +kernel
theorem dX3_readStatement_200 : decode cX3_readStatement 200 = .ok (.iconst 0, 1) := by decide +kernel
theorem dX3_readStatement_201 : decode cX3_readStatement 201 = .ok (.invokevirtual 93, 3) := by decide +kernel
theorem dX3_readStatement_204 : decode cX3_readStatement 204 = .ok (.aload_n 0, 1) := by decide +kernel
theorem dX3_readStatement_205 : decode cX3_readStatement 205 = .ok (.getfield 15, 3) := by decide +kernel
theorem dX3_readStatement_208 : decode cX3_readStatement 208 = .ok (.invokevirtual 96, 3) := by decide +kernel
theorem dX3_readStatement_211 : decode cX3_readStatement 211 = .ok (.goto 111, 3) := by decide +kernel
theorem dX3_readStatement_214 : decode cX3_readStatement 214 = .ok (.aload_n 0, 1) := by decide +kernel
theorem dX3_readStatement_215 : decode cX3_readStatement 215 = .ok (.aload_n 1, 1) := by decide +kernel
theorem dX3_readStatement_216 : decode cX3_readStatement 216 = .ok (.getfield 99, 3) := by decide +kernel
theorem dX3_readStatement_219 : decode cX3_readStatement 219 = .ok (.getfield 82, 3) := by decide +kernel
theorem dX3_readStatement_222 : decode cX3_readStatement 222 = .ok (.iconst 1, 1) := by decide +kernel
theorem dX3_readStatement_223 : decode cX3_readStatement 223 = .ok (.invokevirtual 87, 3) := by decide +kernel
theorem dX3_readStatement_226 : decode cX3_readStatement 226 = .ok (.ifCond .eq 96, 3) := by decide +kernel
theorem dX3_readStatement_229 : decode cX3_readStatement 229 = .ok (.aload_n 0, 1) := by decide +kernel
theorem dX3_readStatement_230 : decode cX3_readStatement 230 = .ok (.getfield 9, 3) := by decide +kernel
theorem dX3_readStatement_233 : decode cX3_readStatement 233 = .ok (.invokevirtual 58, 3) := by decide +kernel
theorem dX3_readStatement_236 : decode cX3_readStatement 236 = .ok (.aload_n 0, 1) := by decide +kernel
theorem dX3_readStatement_237 : decode cX3_readStatement 237 = .ok (.getfield 15, 3) := by decide +kernel
theorem dX3_readStatement_240 : decode cX3_readStatement 240 = .ok (.aload_n 1, 1) := by decide +kernel
theorem dX3_readStatement_241 : decode cX3_readStatement 241 = .ok (.getfield 99, 3) := by decide +kernel
theorem dX3_readStatement_244 : decode cX3_readStatement 244 = .ok (.iconst 1, 1) := by decide +kernel
theorem dX3_readStatement_245 : decode cX3_readStatement 245 = .ok (.invokevirtual 93, 3) := by decide +kernel
theorem dX3_readStatement_248 : decode cX3_readStatement 248 = .ok (.aload_n 0, 1) := by decide +kernel
theorem dX3_readStatement_249 : decode cX3_readStatement 249 = .ok (.getfield 15, 3) := by decide +kernel
theorem dX3_readStatement_252 : decode cX3_readStatement 252 = .ok (.invokevirtual 102, 3) := by decide +kernel
theorem dX3_readStatement_255 : decode cX3_readStatement 255 = .ok (.goto 67, 3) := by decide +kernel
theorem dX3_readStatement_258 : decode cX3_readStatement 258 = .ok (.aload_n 0, 1) := by decide +kernel
theorem dX3_readStatement_259 : decode cX3_readStatement 259 = .ok (.getfield 9, 3) := by decide +kernel
theorem dX3_readStatement_262 : decode cX3_readStatement 262 = .ok (.invokevirtual 58, 3) := by decide +kernel
theorem dX3_readStatement_265 : decode cX3_readStatement 265 = .ok (.aload_n 1, 1) := by decide +kernel
theorem dX3_readStatement_266 : decode cX3_readStatement 266 = .ok (.aload_n 0, 1) := by decide +kernel
theorem dX3_readStatement_267 : decode cX3_readStatement 267 = .ok (.getfield 9, 3) := by decide +kernel
theorem dX3_readStatement_270 : decode cX3_readStatement 270 = .ok (.iconst 0, 1) := by decide +kernel
theorem dX3_readStatement_271 : decode cX3_readStatement 271 = .ok (.sipush 9999, 3) := by decide +kernel
theorem dX3_readStatement_274 : decode cX3_readStatement 274 = .ok (.invokevirtual 61, 3) := by decide +kernel
theorem dX3_readStatement_277 : decode cX3_readStatement 277 = .ok (.putfield 105, 3) := by decide +kernel
theorem dX3_readStatement_280 : decode cX3_readStatement 280 = .ok (.goto 42, 3) := by decide +kernel
theorem dX3_readStatement_283 : decode cX3_readStatement 283 = .ok (.aload_n 0, 1) := by decide +kernel
theorem dX3_readStatement_284 : decode cX3_readStatement 284 = .ok (.getfield 9, 3) := by decide +kernel
theorem dX3_readStatement_287 : decode cX3_readStatement 287 = .ok (.invokevirtual 58, 3) := by decide +kernel
theorem dX3_readStatement_290 : decode cX3_readStatement 290 = .ok (.aload_n 1, 1) := by decide +kernel
theorem dX3_readStatement_291 : decode cX3_readStatement 291 = .ok (.aload_n 0, 1) := by decide +kernel
theorem dX3_readStatement_292 : decode cX3_readStatement 292 = .ok (.getfield 9, 3) := by decide +kernel
theorem dX3_readStatement_295 : decode cX3_readStatement 295 = .ok (.iconst 0, 1) := by decide +kernel
theorem dX3_readStatement_296 : decode cX3_readStatement 296 = .ok (.bipush 100, 2) := by decide +kernel
theorem dX3_readStatement_298 : decode cX3_readStatement 298 = .ok (.invokevirtual 61, 3) := by decide +kernel
theorem dX3_readStatement_301 : decode cX3_readStatement 301 = .ok (.putfield 108, 3) := by decide +kernel
theorem dX3_readStatement_304 : decode cX3_readStatement 304 = .ok (.goto 18, 3) := by decide +kernel
theorem dX3_readStatement_307 : decode cX3_readStatement 307 = .ok (.aload_n 0, 1) := by decide +kernel
theorem dX3_readStatement_308 : decode cX3_readStatement 308 = .ok (.getfield 9, 3) := by decide +kernel
theorem dX3_readStatement_311 : decode cX3_readStatement 311 = .ok (.iconst 1, 1) := by decide +kernel
theorem dX3_readStatement_312 : decode cX3_readStatement 312 = .ok (.aload_n 0, 1) := by decide +kernel
theorem dX3_readStatement_313 : decode cX3_readStatement 313 = .ok (.getfield 9, 3) := by decide +kernel
theorem dX3_readStatement_316 : decode cX3_readStatement 316 = .ok (.getfield 44, 3) := by decide +kernel
theorem dX3_readStatement_319 : decode cX3_readStatement 319 = .ok (.invokevirtual 47, 3) := by decide +kernel
theorem dX3_readStatement_322 : decode cX3_readStatement 322 = .ok (.return_, 1) := by decide +kernel
theorem dX3_hasRoom_0 : decode cX3_hasRoom 0 = .ok (.iload_n 1, 1) := by decide +kernel
theorem dX3_hasRoom_1 : decode cX3_hasRoom 1 = .ok (.iload_n 2, 1) := by decide +kernel
theorem dX3_hasRoom_2 : decode cX3_hasRoom 2 = .ok (.if_icmp .ge 5, 3) := by decide +kernel
theorem dX3_hasRoom_5 : decode cX3_hasRoom 5 = .ok (.iconst 1, 1) := by decide +kernel
theorem dX3_hasRoom_6 : decode cX3_hasRoom 6 = .ok (.ireturn, 1) := by decide +kernel
theorem dX3_hasRoom_7 : decode cX3_hasRoom 7 = .ok (.aload_n 0, 1) := by decide +kernel
theorem dX3_hasRoom_8 : decode cX3_hasRoom 8 = .ok (.getfield 9, 3) := by decide +kernel
theorem dX3_hasRoom_11 : decode cX3_hasRoom 11 = .ok (.iconst 5, 1) := by decide +kernel
theorem dX3_hasRoom_12 : decode cX3_hasRoom 12 = .ok (.aload_n 0, 1) := by decide +kernel
theorem dX3_hasRoom_13 : decode cX3_hasRoom 13 = .ok (.getfield 9, 3) := by decide +kernel
theorem dX3_hasRoom_16 : decode cX3_hasRoom 16 = .ok (.getfield 44, 3) := by decide +kernel
theorem dX3_hasRoom_19 : decode cX3_hasRoom 19 = .ok (.invokevirtual 47, 3) := by decide +kernel
theorem dX3_hasRoom_22 : decode cX3_hasRoom 22 = .ok (.iconst 0, 1) := by decide +kernel
theorem dX3_hasRoom_23 : decode cX3_hasRoom 23 = .ok (.ireturn, 1) := by decide +kernel
theorem dX3_readStall_0 : decode cX3_readStall 0 = .ok (.aload_n 1, 1) := by decide +kernel
theorem dX3_readStall_1 : decode cX3_readStall 1 = .ok (.getfield 111, 3) := by decide +kernel
theorem dX3_readStall_4 : decode cX3_readStall 4 = .ok (.istore_n 2, 1) := by decide +kernel
theorem dX3_readStall_5 : decode cX3_readStall 5 = .ok (.aload_n 0, 1) := by decide +kernel
theorem dX3_readStall_6 : decode cX3_readStall 6 = .ok (.iload_n 2, 1) := by decide +kernel
theorem dX3_readStall_7 : decode cX3_readStall 7 = .ok (.bipush 6, 2) := by decide +kernel
theorem dX3_readStall_9 : decode cX3_readStall 9 = .ok (.invokevirtual 87, 3) := by decide +kernel
theorem dX3_readStall_12 : decode cX3_readStall 12 = .ok (.ifCond .ne 4, 3) := by decide +kernel
theorem dX3_readStall_15 : decode cX3_readStall 15 = .ok (.return_, 1) := by decide +kernel
theorem dX3_readStall_16 : decode cX3_readStall 16 = .ok (.aload_n 0, 1) := by decide +kernel
theorem dX3_readStall_17 : decode cX3_readStall 17 = .ok (.getfield 9, 3) := by decide +kernel
theorem dX3_readStall_20 : decode cX3_readStall 20 = .ok (.invokevirtual 58, 3) := by decide +kernel
theorem dX3_readStall_23 : decode cX3_readStall 23 = .ok (.aload_n 1, 1) := by decide +kernel
theorem dX3_readStall_24 : decode cX3_readStall 24 = .ok (.getfield 114, 3) := by decide +kernel
theorem dX3_readStall_27 : decode cX3_readStall 27 = .ok (.iload_n 2, 1) := by decide +kernel
theorem dX3_readStall_28 : decode cX3_readStall 28 = .ok (.aload_n 0, 1) := by decide +kernel
theorem dX3_readStall_29 : decode cX3_readStall 29 = .ok (.getfield 9, 3) := by decide +kernel
theorem dX3_readStall_32 : decode cX3_readStall 32 = .ok (.aload_n 1, 1) := by decide +kernel
theorem dX3_readStall_33 : decode cX3_readStall 33 = .ok (.invokevirtual 118, 3) := by decide +kernel
theorem dX3_readStall_36 : decode cX3_readStall 36 = .ok (.iastore, 1) := by decide +kernel
theorem dX3_readStall_37 : decode cX3_readStall 37 = .ok (.aload_n 0, 1) := by decide +kernel
theorem dX3_readStall_38 : decode cX3_readStall 38 = .ok (.getfield 9, 3) := by decide +kernel
theorem dX3_readStall_41 : decode cX3_readStall 41 = .ok (.iconst 2, 1) := by decide +kernel
theorem dX3_readStall_42 : decode cX3_readStall 42 = .ok (.invokevirtual 122, 3) := by decide +kernel
theorem dX3_readStall_45 : decode cX3_readStall 45 = .ok (.aload_n 1, 1) := by decide +kernel
theorem dX3_readStall_46 : decode cX3_readStall 46 = .ok (.getfield 125, 3) := by decide +kernel
theorem dX3_readStall_49 : decode cX3_readStall 49 = .ok (.iload_n 2, 1) := by decide +kernel
theorem dX3_readStall_50 : decode cX3_readStall 50 = .ok (.aload_n 0, 1) := by decide +kernel
theorem dX3_readStall_51 : decode cX3_readStall 51 = .ok (.getfield 9, 3) := by decide +kernel
theorem dX3_readStall_54 : decode cX3_readStall 54 = .ok (.iconst 0, 1) := by decide +kernel
theorem dX3_readStall_55 : decode cX3_readStall 55 = .ok (.bipush 99, 2) := by decide +kernel
theorem dX3_readStall_57 : decode cX3_readStall 57 = .ok (.invokevirtual 61, 3) := by decide +kernel
theorem dX3_readStall_60 : decode cX3_readStall 60 = .ok (.iastore, 1) := by decide +kernel
theorem dX3_readStall_61 : decode cX3_readStall 61 = .ok (.aload_n 0, 1) := by decide +kernel
theorem dX3_readStall_62 : decode cX3_readStall 62 = .ok (.getfield 9, 3) := by decide +kernel
theorem dX3_readStall_65 : decode cX3_readStall 65 = .ok (.iconst 3, 1) := by decide +kernel
theorem dX3_readStall_66 : decode cX3_readStall 66 = .ok (.invokevirtual 122, 3) := by decide +kernel
theorem dX3_readStall_69 : decode cX3_readStall 69 = .ok (.aload_n 1, 1) := by decide +kernel
theorem dX3_readStall_70 : decode cX3_readStall 70 = .ok (.getfield 128, 3) := by decide +kernel
theorem dX3_readStall_73 : decode cX3_readStall 73 = .ok (.iload_n 2, 1) := by decide +kernel
theorem dX3_readStall_74 : decode cX3_readStall 74 = .ok (.aload_n 0, 1) := by decide +kernel
theorem dX3_readStall_75 : decode cX3_readStall 75 = .ok (.getfield 9, 3) := by decide +kernel
theorem dX3_readStall_78 : decode cX3_readStall 78 = .ok (.iconst 0, 1) := by decide +kernel
theorem dX3_readStall_79 : decode cX3_readStall 79 = .ok (.bipush 9, 2) := by decide +kernel
theorem dX3_readStall_81 : decode cX3_readStall 81 = .ok (.invokevirtual 61, 3) := by decide +kernel
theorem dX3_readStall_84 : decode cX3_readStall 84 = .ok (.iastore, 1) := by decide +kernel
theorem dX3_readStall_85 : decode cX3_readStall 85 = .ok (.aload_n 0, 1) := by decide +kernel
theorem dX3_readStall_86 : decode cX3_readStall 86 = .ok (.getfield 9, 3) := by decide +kernel
theorem dX3_readStall_89 : decode cX3_readStall 89 = .ok (.iconst 4, 1) := by decide +kernel
theorem dX3_readStall_90 : decode cX3_readStall 90 = .ok (.invokevirtual 122, 3) := by decide +kernel
theorem dX3_readStall_93 : decode cX3_readStall 93 = .ok (.aload_n 1, 1) := by decide +kernel
theorem dX3_readStall_94 : decode cX3_readStall 94 = .ok (.getfield 131, 3) := by decide +kernel
theorem dX3_readStall_97 : decode cX3_readStall 97 = .ok (.iload_n 2, 1) := by decide +kernel
theorem dX3_readStall_98 : decode cX3_readStall 98 = .ok (.aload_n 0, 1) := by decide +kernel
theorem dX3_readStall_99 : decode cX3_readStall 99 = .ok (.getfield 9, 3) := by decide +kernel
theorem dX3_readStall_102 : decode cX3_readStall 102 = .ok (.iconst 0, 1) := by decide +kernel
theorem dX3_readStall_103 : decode cX3_readStall 103 = .ok (.sipush 999, 3) := by decide +kernel
theorem dX3_readStall_106 : decode cX3_readStall 106 = .ok (.invokevirtual 61, 3) := by decide +kernel
theorem dX3_readStall_109 : decode cX3_readStall 109 = .ok (.iastore, 1) := by decide +kernel
theorem dX3_readStall_110 : decode cX3_readStall 110 = .ok (.aload_n 0, 1) := by decide +kernel
theorem dX3_readStall_111 : decode cX3_readStall 111 = .ok (.getfield 9, 3) := by decide +kernel
theorem dX3_readStall_114 : decode cX3_readStall 114 = .ok (.iconst 5, 1) := by decide +kernel
theorem dX3_readStall_115 : decode cX3_readStall 115 = .ok (.invokevirtual 122, 3) := by decide +kernel
theorem dX3_readStall_118 : decode cX3_readStall 118 = .ok (.aload_n 1, 1) := by decide +kernel
theorem dX3_readStall_119 : decode cX3_readStall 119 = .ok (.getfield 134, 3) := by decide +kernel
theorem dX3_readStall_122 : decode cX3_readStall 122 = .ok (.iload_n 2, 1) := by decide +kernel
theorem dX3_readStall_123 : decode cX3_readStall 123 = .ok (.aload_n 0, 1) := by decide +kernel
theorem dX3_readStall_124 : decode cX3_readStall 124 = .ok (.getfield 9, 3) := by decide +kernel
theorem dX3_readStall_127 : decode cX3_readStall 127 = .ok (.iconst 0, 1) := by decide +kernel
theorem dX3_readStall_128 : decode cX3_readStall 128 = .ok (.sipush 400, 3) := by decide +kernel
theorem dX3_readStall_131 : decode cX3_readStall 131 = .ok (.invokevirtual 61, 3) := by decide +kernel
theorem dX3_readStall_134 : decode cX3_readStall 134 = .ok (.iastore, 1) := by decide +kernel
theorem dX3_readStall_135 : decode cX3_readStall 135 = .ok (.aload_n 1, 1) := by decide +kernel
theorem dX3_readStall_136 : decode cX3_readStall 136 = .ok (.dup, 1) := by decide +kernel
theorem dX3_readStall_137 : decode cX3_readStall 137 = .ok (.getfield 111, 3) := by decide +kernel
theorem dX3_readStall_140 : decode cX3_readStall 140 = .ok (.iconst 1, 1) := by decide +kernel
theorem dX3_readStall_141 : decode cX3_readStall 141 = .ok (.iadd, 1) := by decide +kernel
theorem dX3_readStall_142 : decode cX3_readStall 142 = .ok (.putfield 111, 3) := by decide +kernel
theorem dX3_readStall_145 : decode cX3_readStall 145 = .ok (.return_, 1) := by decide +kernel
theorem dX3_readCoin_0 : decode cX3_readCoin 0 = .ok (.aload_n 1, 1) := by decide +kernel
theorem dX3_readCoin_1 : decode cX3_readCoin 1 = .ok (.getfield 137, 3) := by decide +kernel
theorem dX3_readCoin_4 : decode cX3_readCoin 4 = .ok (.istore_n 2, 1) := by decide +kernel
theorem dX3_readCoin_5 : decode cX3_readCoin 5 = .ok (.aload_n 0, 1) := by decide +kernel
theorem dX3_readCoin_6 : decode cX3_readCoin 6 = .ok (.iload_n 2, 1) := by decide +kernel
theorem dX3_readCoin_7 : decode cX3_readCoin 7 = .ok (.bipush 8, 2) := by decide +kernel
theorem dX3_readCoin_9 : decode cX3_readCoin 9 = .ok (.invokevirtual 87, 3) := by decide +kernel
theorem dX3_readCoin_12 : decode cX3_readCoin 12 = .ok (.ifCond .ne 4, 3) := by decide +kernel
theorem dX3_readCoin_15 : decode cX3_readCoin 15 = .ok (.return_, 1) := by decide +kernel
theorem dX3_readCoin_16 : decode cX3_readCoin 16 = .ok (.aload_n 0, 1) := by decide +kernel
theorem dX3_readCoin_17 : decode cX3_readCoin 17 = .ok (.getfield 9, 3) := by decide +kernel
theorem dX3_readCoin_20 : decode cX3_readCoin 20 = .ok (.invokevirtual 58, 3) := by decide +kernel
theorem dX3_readCoin_23 : decode cX3_readCoin 23 = .ok (.aload_n 1, 1) := by decide +kernel
theorem dX3_readCoin_24 : decode cX3_readCoin 24 = .ok (.getfield 140, 3) := by decide +kernel
theorem dX3_readCoin_27 : decode cX3_readCoin 27 = .ok (.iload_n 2, 1) := by decide +kernel
theorem dX3_readCoin_28 : decode cX3_readCoin 28 = .ok (.aload_n 0, 1) := by decide +kernel
theorem dX3_readCoin_29 : decode cX3_readCoin 29 = .ok (.getfield 9, 3) := by decide +kernel
theorem dX3_readCoin_32 : decode cX3_readCoin 32 = .ok (.aload_n 1, 1) := by decide +kernel
theorem dX3_readCoin_33 : decode cX3_readCoin 33 = .ok (.invokevirtual 118, 3) := by decide +kernel
theorem dX3_readCoin_36 : decode cX3_readCoin 36 = .ok (.iastore, 1) := by decide +kernel
theorem dX3_readCoin_37 : decode cX3_readCoin 37 = .ok (.aload_n 0, 1) := by decide +kernel
theorem dX3_readCoin_38 : decode cX3_readCoin 38 = .ok (.getfield 9, 3) := by decide +kernel
theorem dX3_readCoin_41 : decode cX3_readCoin 41 = .ok (.bipush 7, 2) := by decide +kernel
theorem dX3_readCoin_43 : decode cX3_readCoin 43 = .ok (.invokevirtual 122, 3) := by decide +kernel
theorem dX3_readCoin_46 : decode cX3_readCoin 46 = .ok (.aload_n 1, 1) := by decide +kernel
theorem dX3_readCoin_47 : decode cX3_readCoin 47 = .ok (.getfield 143, 3) := by decide +kernel
theorem dX3_readCoin_50 : decode cX3_readCoin 50 = .ok (.iload_n 2, 1) := by decide +kernel
theorem dX3_readCoin_51 : decode cX3_readCoin 51 = .ok (.aload_n 0, 1) := by decide +kernel
theorem dX3_readCoin_52 : decode cX3_readCoin 52 = .ok (.getfield 9, 3) := by decide +kernel
theorem dX3_readCoin_55 : decode cX3_readCoin 55 = .ok (.iconst 0, 1) := by decide +kernel
theorem dX3_readCoin_56 : decode cX3_readCoin 56 = .ok (.bipush 99, 2) := by decide +kernel
theorem dX3_readCoin_58 : decode cX3_readCoin 58 = .ok (.invokevirtual 61, 3) := by decide +kernel
theorem dX3_readCoin_61 : decode cX3_readCoin 61 = .ok (.iastore, 1) := by decide +kernel
theorem dX3_readCoin_62 : decode cX3_readCoin 62 = .ok (.aload_n 0, 1) := by decide +kernel
theorem dX3_readCoin_63 : decode cX3_readCoin 63 = .ok (.getfield 9, 3) := by decide +kernel
theorem dX3_readCoin_66 : decode cX3_readCoin 66 = .ok (.bipush 8, 2) := by decide +kernel
theorem dX3_readCoin_68 : decode cX3_readCoin 68 = .ok (.invokevirtual 122, 3) := by decide +kernel
theorem dX3_readCoin_71 : decode cX3_readCoin 71 = .ok (.aload_n 1, 1) := by decide +kernel
theorem dX3_readCoin_72 : decode cX3_readCoin 72 = .ok (.getfield 146, 3) := by decide +kernel
theorem dX3_readCoin_75 : decode cX3_readCoin 75 = .ok (.iload_n 2, 1) := by decide +kernel
theorem dX3_readCoin_76 : decode cX3_readCoin 76 = .ok (.aload_n 0, 1) := by decide +kernel
theorem dX3_readCoin_77 : decode cX3_readCoin 77 = .ok (.getfield 9, 3) := by decide +kernel
theorem dX3_readCoin_80 : decode cX3_readCoin 80 = .ok (.iconst 0, 1) := by decide +kernel
theorem dX3_readCoin_81 : decode cX3_readCoin 81 = .ok (.bipush 9, 2) := by decide +kernel
theorem dX3_readCoin_83 : decode cX3_readCoin 83 = .ok (.invokevirtual 61, 3) := by decide +kernel
theorem dX3_readCoin_86 : decode cX3_readCoin 86 = .ok (.iastore, 1) := by decide +kernel
theorem dX3_readCoin_87 : decode cX3_readCoin 87 = .ok (.aload_n 1, 1) := by decide +kernel
theorem dX3_readCoin_88 : decode cX3_readCoin 88 = .ok (.dup, 1) := by decide +kernel
theorem dX3_readCoin_89 : decode cX3_readCoin 89 = .ok (.getfield 137, 3) := by decide +kernel
theorem dX3_readCoin_92 : decode cX3_readCoin 92 = .ok (.iconst 1, 1) := by decide +kernel
theorem dX3_readCoin_93 : decode cX3_readCoin 93 = .ok (.iadd, 1) := by decide +kernel
theorem dX3_readCoin_94 : decode cX3_readCoin 94 = .ok (.putfield 137, 3) := by decide +kernel
theorem dX3_readCoin_97 : decode cX3_readCoin 97 = .ok (.return_, 1) := by decide +kernel
theorem dX3_readCloud_0 : decode cX3_readCloud 0 = .ok (.aload_n 1, 1) := by decide +kernel
theorem dX3_readCloud_1 : decode cX3_readCloud 1 = .ok (.getfield 149, 3) := by decide +kernel
theorem dX3_readCloud_4 : decode cX3_readCloud 4 = .ok (.istore_n 2, 1) := by decide +kernel
theorem dX3_readCloud_5 : decode cX3_readCloud 5 = .ok (.aload_n 0, 1) := by decide +kernel
theorem dX3_readCloud_6 : decode cX3_readCloud 6 = .ok (.iload_n 2, 1) := by decide +kernel
theorem dX3_readCloud_7 : decode cX3_readCloud 7 = .ok (.bipush 8, 2) := by decide +kernel
theorem dX3_readCloud_9 : decode cX3_readCloud 9 = .ok (.invokevirtual 87, 3) := by decide +kernel
theorem dX3_readCloud_12 : decode cX3_readCloud 12 = .ok (.ifCond .ne 4, 3) := by decide +kernel
theorem dX3_readCloud_15 : decode cX3_readCloud 15 = .ok (.return_, 1) := by decide +kernel
theorem dX3_readCloud_16 : decode cX3_readCloud 16 = .ok (.aload_n 0, 1) := by decide +kernel
theorem dX3_readCloud_17 : decode cX3_readCloud 17 = .ok (.getfield 9, 3) := by decide +kernel
theorem dX3_readCloud_20 : decode cX3_readCloud 20 = .ok (.invokevirtual 58, 3) := by decide +kernel
theorem dX3_readCloud_23 : decode cX3_readCloud 23 = .ok (.aload_n 1, 1) := by decide +kernel
theorem dX3_readCloud_24 : decode cX3_readCloud 24 = .ok (.getfield 152, 3) := by decide +kernel
theorem dX3_readCloud_27 : decode cX3_readCloud 27 = .ok (.iload_n 2, 1) := by decide +kernel
theorem dX3_readCloud_28 : decode cX3_readCloud 28 = .ok (.aload_n 0, 1) := by decide +kernel
theorem dX3_readCloud_29 : decode cX3_readCloud 29 = .ok (.getfield 9, 3) := by decide +kernel
theorem dX3_readCloud_32 : decode cX3_readCloud 32 = .ok (.iconst 0, 1) := by decide +kernel
theorem dX3_readCloud_33 : decode cX3_readCloud 33 = .ok (.sipush 400, 3) := by decide +kernel
theorem dX3_readCloud_36 : decode cX3_readCloud 36 = .ok (.invokevirtual 61, 3) := by decide +kernel
theorem dX3_readCloud_39 : decode cX3_readCloud 39 = .ok (.iastore, 1) := by decide +kernel
theorem dX3_readCloud_40 : decode cX3_readCloud 40 = .ok (.aload_n 0, 1) := by decide +kernel
theorem dX3_readCloud_41 : decode cX3_readCloud 41 = .ok (.getfield 9, 3) := by decide +kernel
theorem dX3_readCloud_44 : decode cX3_readCloud 44 = .ok (.bipush 10, 2) := by decide +kernel
theorem dX3_readCloud_46 : decode cX3_readCloud 46 = .ok (.invokevirtual 122, 3) := by decide +kernel
theorem dX3_readCloud_49 : decode cX3_readCloud 49 = .ok (.aload_n 1, 1) := by decide +kernel
theorem dX3_readCloud_50 : decode cX3_readCloud 50 = .ok (.getfield 155, 3) := by decide +kernel
theorem dX3_readCloud_53 : decode cX3_readCloud 53 = .ok (.iload_n 2, 1) := by decide +kernel
theorem dX3_readCloud_54 : decode cX3_readCloud 54 = .ok (.aload_n 0, 1) := by decide +kernel
theorem dX3_readCloud_55 : decode cX3_readCloud 55 = .ok (.getfield 9, 3) := by decide +kernel
theorem dX3_readCloud_58 : decode cX3_readCloud 58 = .ok (.aload_n 1, 1) := by decide +kernel
theorem dX3_readCloud_59 : decode cX3_readCloud 59 = .ok (.getfield 152, 3) := by decide +kernel
theorem dX3_readCloud_62 : decode cX3_readCloud 62 = .ok (.iload_n 2, 1) := by decide +kernel
theorem dX3_readCloud_63 : decode cX3_readCloud 63 = .ok (.iaload, 1) := by decide +kernel
theorem dX3_readCloud_64 : decode cX3_readCloud 64 = .ok (.sipush 400, 3) := by decide +kernel
theorem dX3_readCloud_67 : decode cX3_readCloud 67 = .ok (.invokevirtual 61, 3) := by decide +kernel
theorem dX3_readCloud_70 : decode cX3_readCloud 70 = .ok (.iastore, 1) := by decide +kernel
theorem dX3_readCloud_71 : decode cX3_readCloud 71 = .ok (.aload_n 1, 1) := by decide +kernel
theorem dX3_readCloud_72 : decode cX3_readCloud 72 = .ok (.dup, 1) := by decide +kernel
theorem dX3_readCloud_73 : decode cX3_readCloud 73 = .ok (.getfield 149, 3) := by decide +kernel
theorem dX3_readCloud_76 : decode cX3_readCloud 76 = .ok (.iconst 1, 1) := by decide +kernel
theorem dX3_readCloud_77 : decode cX3_readCloud 77 = .ok (.iadd, 1) := by decide +kernel
theorem dX3_readCloud_78 : decode cX3_readCloud 78 = .ok (.putfield 149, 3) := by decide +kernel
theorem dX3_readCloud_81 : decode cX3_readCloud 81 = .ok (.return_, 1) := by decide +kernel
theorem dX4_init_0 : decode cX4_init 0 = .ok (.aload_n 0, 1) := by decide +kernel
theorem dX4_init_1 : decode cX4_init 1 = .ok (.invokespecial 3, 3) := by decide +kernel
theorem dX4_init_4 : decode cX4_init 4 = .ok (.aload_n 0, 1) := by decide +kernel
theorem dX4_init_5 : decode cX4_init 5 = .ok (.iconst 0, 1) := by decide +kernel
theorem dX4_init_6 : decode cX4_init 6 = .ok (.putfield 11, 3) := by decide +kernel
theorem dX4_init_9 : decode cX4_init 9 = .ok (.aload_n 0, 1) := by decide +kernel
theorem dX4_init_10 : decode cX4_init 10 = .ok (.iconst 0, 1) := by decide +kernel
theorem dX4_init_11 : decode cX4_init 11 = .ok (.putfield 15, 3) := by decide +kernel
theorem dX4_init_14 : decode cX4_init 14 = .ok (.aload_n 0, 1) := by decide +kernel
theorem dX4_init_15 : decode cX4_init 15 = .ok (.aload_n 1, 1) := by decide +kernel
theorem dX4_init_16 : decode cX4_init 16 = .ok (.putfield 18, 3) := by decide +kernel
theorem dX4_init_19 : decode cX4_init 19 = .ok (.aload_n 0, 1) := by decide +kernel
theorem dX4_init_20 : decode cX4_init 20 = .ok (.aload_n 2, 1) := by decide +kernel
theorem dX4_init_21 : decode cX4_init 21 = .ok (.putfield 22, 3) := by decide +kernel
theorem dX4_init_24 : decode cX4_init 24 = .ok (.return_, 1) := by decide +kernel
theorem dX4_begin_0 : decode cX4_begin 0 = .ok (.aload_n 0, 1) := by decide +kernel
theorem dX4_begin_1 : decode cX4_begin 1 = .ok (.aload_n 1, 1) := by decide +kernel
theorem dX4_begin_2 : decode cX4_begin 2 = .ok (.putfield 22, 3) := by decide +kernel
theorem dX4_begin_5 : decode cX4_begin 5 = .ok (.aload_n 0, 1) := by decide +kernel
theorem dX4_begin_6 : decode cX4_begin 6 = .ok (.getfield 22, 3) := by decide +kernel
theorem dX4_begin_9 : decode cX4_begin 9 = .ok (.iconst 0, 1) := by decide +kernel
theorem dX4_begin_10 : decode cX4_begin 10 = .ok (.putfield 26, 3) := by decide +kernel
theorem dX4_begin_13 : decode cX4_begin 13 = .ok (.aload_n 0, 1) := by decide +kernel
theorem dX4_begin_14 : decode cX4_begin 14 = .ok (.iload_n 2, 1) := by decide +kernel
theorem dX4_begin_15 : decode cX4_begin 15 = .ok (.putfield 11, 3) := by decide +kernel
theorem dX4_begin_18 : decode cX4_begin 18 = .ok (.aload_n 0, 1) := by decide +kernel
theorem dX4_begin_19 : decode cX4_begin 19 = .ok (.iconst 0, 1) := by decide +kernel
theorem dX4_begin_20 : decode cX4_begin 20 = .ok (.putfield 15, 3) := by decide +kernel
theorem dX4_begin_23 : decode cX4_begin 23 = .ok (.return_, 1) := by decide +kernel
theorem dX4_test_0 : decode cX4_test 0 = .ok (.aload_n 0, 1) := by decide +kernel
theorem dX4_test_1 : decode cX4_test 1 = .ok (.invokevirtual 31, 3) := by decide +kernel
theorem dX4_test_4 : decode cX4_test 4 = .ok (.iconst 0, 1) := by decide +kernel
theorem dX4_test_5 : decode cX4_test 5 = .ok (.istore_n 1, 1) := by decide +kernel
theorem dX4_test_6 : decode cX4_test 6 = .ok (.iload_n 1, 1) := by decide +kernel
theorem dX4_test_7 : decode cX4_test 7 = .ok (.sipush 1600, 3) := by decide +kernel
theorem dX4_test_10 : decode cX4_test 10 = .ok (.if_icmp .ge 41, 3) := by decide +kernel
theorem dX4_test_13 : decode cX4_test 13 = .ok (.aload_n 0, 1) := by decide +kernel
theorem dX4_test_14 : decode cX4_test 14 = .ok (.getfield 18, 3) := by decide +kernel
theorem dX4_test_17 : decode cX4_test 17 = .ok (.bipush 19, 2) := by decide +kernel
theorem dX4_test_19 : decode cX4_test 19 = .ok (.invokevirtual 34, 3) := by decide +kernel
theorem dX4_test_22 : decode cX4_test 22 = .ok (.ifCond .eq 29, 3) := by decide +kernel
theorem dX4_test_25 : decode cX4_test 25 = .ok (.aload_n 0, 1) := by decide +kernel
theorem dX4_test_26 : decode cX4_test 26 = .ok (.getfield 18, 3) := by decide +kernel
theorem dX4_test_29 : decode cX4_test 29 = .ok (.invokevirtual 40, 3) := by decide +kernel
theorem dX4_test_32 : decode cX4_test 32 = .ok (.aload_n 0, 1) := by decide +kernel
theorem dX4_test_33 : decode cX4_test 33 = .ok (.invokevirtual 31, 3) := by decide +kernel
theorem dX4_test_36 : decode cX4_test 36 = .ok (.aload_n 0, 1) := by decide +kernel
theorem dX4_test_37 : decode cX4_test 37 = .ok (.getfield 22, 3) := by decide +kernel
theorem dX4_test_40 : decode cX4_test 40 = .ok (.bipush 19, 2) := by decide +kernel
theorem dX4_test_42 : decode cX4_test 42 = .ok (.invokevirtual 43, 3) := by decide +kernel
theorem dX4_test_45 : decode cX4_test 45 = .ok (.iinc 1 1, 3) := by decide +kernel
theorem dX4_test_48 : decode cX4_test 48 = .ok (.goto (-42), 3) := by decide +kernel
theorem dX4_test_51 : decode cX4_test 51 = .ok (.return_, 1) := by decide +kernel
theorem dX4_both_0 : decode cX4_both 0 = .ok (.aload_n 0, 1) := by decide +kernel
theorem dX4_both_1 : decode cX4_both 1 = .ok (.invokevirtual 47, 3) := by decide +kernel
theorem dX4_both_4 : decode cX4_both 4 = .ok (.iconst 0, 1) := by decide +kernel
theorem dX4_both_5 : decode cX4_both 5 = .ok (.istore_n 1, 1) := by decide +kernel
theorem dX4_both_6 : decode cX4_both 6 = .ok (.iload_n 1, 1) := by decide +kernel
theorem dX4_both_7 : decode cX4_both 7 = .ok (.sipush 1600, 3) := by decide +kernel
theorem dX4_both_10 : decode cX4_both 10 = .ok (.if_icmp .ge 41, 3) := by decide +kernel
theorem dX4_both_13 : decode cX4_both 13 = .ok (.aload_n 0, 1) := by decide +kernel
theorem dX4_both_14 : decode cX4_both 14 = .ok (.getfield 18, 3) := by decide +kernel
theorem dX4_both_17 : decode cX4_both 17 = .ok (.bipush 20, 2) := by decide +kernel
theorem dX4_both_19 : decode cX4_both 19 = .ok (.invokevirtual 34, 3) := by decide +kernel
theorem dX4_both_22 : decode cX4_both 22 = .ok (.ifCond .eq 29, 3) := by decide +kernel
theorem dX4_both_25 : decode cX4_both 25 = .ok (.aload_n 0, 1) := by decide +kernel
theorem dX4_both_26 : decode cX4_both 26 = .ok (.getfield 18, 3) := by decide +kernel
theorem dX4_both_29 : decode cX4_both 29 = .ok (.invokevirtual 40, 3) := by decide +kernel
theorem dX4_both_32 : decode cX4_both 32 = .ok (.aload_n 0, 1) := by decide +kernel
theorem dX4_both_33 : decode cX4_both 33 = .ok (.invokevirtual 47, 3) := by decide +kernel
theorem dX4_both_36 : decode cX4_both 36 = .ok (.aload_n 0, 1) := by decide +kernel
theorem dX4_both_37 : decode cX4_both 37 = .ok (.getfield 22, 3) := by decide +kernel
theorem dX4_both_40 : decode cX4_both 40 = .ok (.bipush 20, 2) := by decide +kernel
theorem dX4_both_42 : decode cX4_both 42 = .ok (.invokevirtual 43, 3) := by decide +kernel
theorem dX4_both_45 : decode cX4_both 45 = .ok (.iinc 1 1, 3) := by decide +kernel
theorem dX4_both_48 : decode cX4_both 48 = .ok (.goto (-42), 3) := by decide +kernel
theorem dX4_both_51 : decode cX4_both 51 = .ok (.return_, 1) := by decide +kernel
theorem dX4_fact_0 : decode cX4_fact 0 = .ok (.aload_n 0, 1) := by decide +kernel
theorem dX4_fact_1 : decode cX4_fact 1 = .ok (.getfield 18, 3) := by decide +kernel
theorem dX4_fact_4 : decode cX4_fact 4 = .ok (.bipush 21, 2) := by decide +kernel
theorem dX4_fact_6 : decode cX4_fact 6 = .ok (.invokevirtual 34, 3) := by decide +kernel
theorem dX4_fact_9 : decode cX4_fact 9 = .ok (.ifCond .eq 27, 3) := by decide +kernel
theorem dX4_fact_12 : decode cX4_fact 12 = .ok (.aload_n 0, 1) := by decide +kernel
theorem dX4_fact_13 : decode cX4_fact 13 = .ok (.invokevirtual 50, 3) := by decide +kernel
theorem dX4_fact_16 : decode cX4_fact 16 = .ok (.aload_n 0, 1) := by decide +kernel
theorem dX4_fact_17 : decode cX4_fact 17 = .ok (.invokevirtual 47, 3) := by decide +kernel
theorem dX4_fact_20 : decode cX4_fact 20 = .ok (.aload_n 0, 1) := by decide +kernel
theorem dX4_fact_21 : decode cX4_fact 21 = .ok (.invokevirtual 53, 3) := by decide +kernel
theorem dX4_fact_24 : decode cX4_fact 24 = .ok (.aload_n 0, 1) := by decide +kernel
theorem dX4_fact_25 : decode cX4_fact 25 = .ok (.getfield 22, 3) := by decide +kernel
theorem dX4_fact_28 : decode cX4_fact 28 = .ok (.bipush 21, 2) := by decide +kernel
theorem dX4_fact_30 : decode cX4_fact 30 = .ok (.invokevirtual 43, 3) := by decide +kernel
theorem dX4_fact_33 : decode cX4_fact 33 = .ok (.goto 152, 3) := by decide +kernel
theorem dX4_fact_36 : decode cX4_fact 36 = .ok (.aload_n 0, 1) := by decide +kernel
theorem dX4_fact_37 : decode cX4_fact 37 = .ok (.getfield 18, 3) := by decide +kernel
theorem dX4_fact_40 : decode cX4_fact 40 = .ok (.bipush 91, 2) := by decide +kernel
theorem dX4_fact_42 : decode cX4_fact 42 = .ok (.invokevirtual 56, 3) := by decide +kernel
theorem dX4_fact_45 : decode cX4_fact 45 = .ok (.ifCond .eq 27, 3) := by decide +kernel
theorem dX4_fact_48 : decode cX4_fact 48 = .ok (.aload_n 0, 1) := by decide +kernel
theorem dX4_fact_49 : decode cX4_fact 49 = .ok (.invokevirtual 50, 3) := by decide +kernel
theorem dX4_fact_52 : decode cX4_fact 52 = .ok (.aload_n 0, 1) := by decide +kernel
theorem dX4_fact_53 : decode cX4_fact 53 = .ok (.invokevirtual 59, 3) := by decide +kernel
theorem dX4_fact_56 : decode cX4_fact 56 = .ok (.aload_n 0, 1) := by decide +kernel
theorem dX4_fact_57 : decode cX4_fact 57 = .ok (.getfield 18, 3) := by decide +kernel
theorem dX4_fact_60 : decode cX4_fact 60 = .ok (.bipush 93, 2) := by decide +kernel
theorem dX4_fact_62 : decode cX4_fact 62 = .ok (.invokevirtual 62, 3) := by decide +kernel
theorem dX4_fact_65 : decode cX4_fact 65 = .ok (.aload_n 0, 1) := by decide +kernel
theorem dX4_fact_66 : decode cX4_fact 66 = .ok (.invokevirtual 53, 3) := by decide +kernel
theorem dX4_fact_69 : decode cX4_fact 69 = .ok (.goto 116, 3) := by decide +kernel
theorem dX4_fact_72 : decode cX4_fact 72 = .ok (.aload_n 0, 1) := by decide +kernel
theorem dX4_fact_73 : decode cX4_fact 73 = .ok (.getfield 18, 3) := by decide +kernel
theorem dX4_fact_76 : decode cX4_fact 76 = .ok (.bipush 22, 2) := by decide +kernel
theorem dX4_fact_78 : decode cX4_fact 78 = .ok (.invokevirtual 34, 3) := by decide +kernel
theorem dX4_fact_81 : decode cX4_fact 81 = .ok (.ifCond .eq 22, 3) := by decide +kernel
theorem dX4_fact_84 : decode cX4_fact 84 = .ok (.aload_n 0, 1) := by decide +kernel
theorem dX4_fact_85 : decode cX4_fact 85 = .ok (.getfield 18, 3) := by decide +kernel
theorem dX4_fact_88 : decode cX4_fact 88 = .ok (.invokevirtual 40, 3) := by decide +kernel
theorem dX4_fact_91 : decode cX4_fact 91 = .ok (.aload_n 0, 1) := by decide +kernel
theorem dX4_fact_92 : decode cX4_fact 92 = .ok (.getfield 22, 3) := by decide +kernel
theorem dX4_fact_95 : decode cX4_fact 95 = .ok (.bipush 22, 2) := by decide +kernel
theorem dX4_fact_97 : decode cX4_fact 97 = .ok (.invokevirtual 43, 3) := by decide +kernel
theorem dX4_fact_100 : decode cX4_fact 100 = .ok (.goto 85, 3) := by decide +kernel
theorem dX4_fact_103 : decode cX4_fact 103 = .ok (.aload_n 0, 1) := by decide +kernel
theorem dX4_fact_104 : decode cX4_fact 104 = .ok (.invokevirtual 65, 3) := by decide +kernel
theorem dX4_fact_107 : decode cX4_fact 107 = .ok (.aload_n 0, 1) := by decide +kernel
theorem dX4_fact_108 : decode cX4_fact 108 = .ok (.getfield 18, 3) := by decide +kernel
theorem dX4_fact_111 : decode cX4_fact 111 = .ok (.getfield 68, 3) := by decide +kernel
theorem dX4_fact_114 : decode cX4_fact 114 = .ok (.istore_n 1, 1) := by decide +kernel
theorem dX4_fact_115 : decode cX4_fact 115 = .ok (.aload_n 0, 1) := by decide +kernel
theorem dX4_fact_116 : decode cX4_fact 116 = .ok (.getfield 18, 3) := by decide +kernel
theorem dX4_fact_119 : decode cX4_fact 119 = .ok (.bipush 60, 2) := by decide +kernel
theorem dX4_fact_121 : decode cX4_fact 121 = .ok (.invokevirtual 56, 3) := by decide +kernel
theorem dX4_fact_124 : decode cX4_fact 124 = .ok (.ifCond .ne 42, 3) := by decide +kernel
theorem dX4_fact_127 : decode cX4_fact 127 = .ok (.aload_n 0, 1) := by decide +kernel
theorem dX4_fact_128 : decode cX4_fact 128 = .ok (.getfield 18, 3) := by decide +kernel
theorem dX4_fact_131 : decode cX4_fact 131 = .ok (.bipush 62, 2) := by decide +kernel
theorem dX4_fact_133 : decode cX4_fact 133 = .ok (.invokevirtual 56, 3) := by decide +kernel
theorem dX4_fact_136 : decode cX4_fact 136 = .ok (.ifCond .ne 30, 3) := by decide +kernel
theorem dX4_fact_139 : decode cX4_fact 139 = .ok (.aload_n 0, 1) := by decide +kernel
theorem dX4_fact_140 : decode cX4_fact 140 = .ok (.getfield 18, 3) := by decide +kernel
theorem dX4_fact_143 : decode cX4_fact 143 = .ok (.bipush 61, 2) := by decide +kernel
theorem dX4_fact_145 : decode cX4_fact 145 = .ok (.invokevirtual 56, 3) := by decide +kernel
theorem dX4_fact_148 : decode cX4_fact 148 = .ok (.ifCond .ne 18, 3) := by decide +kernel
theorem dX4_fact_151 : decode cX4_fact 151 = .ok (.aload_n 0, 1) := by decide +kernel
theorem dX4_fact_152 : decode cX4_fact 152 = .ok (.getfield 18, 3) := by decide +kernel
theorem dX4_fact_155 : decode cX4_fact 155 = .ok (.iconst 1, 1) := by decide +kernel
theorem dX4_fact_156 : decode cX4_fact 156 = .ok (.aload_n 0, 1) := by decide +kernel
theorem dX4_fact_157 : decode cX4_fact 157 = .ok (.getfield 18, 3) := by decide +kernel
theorem dX4_fact_160 : decode cX4_fact 160 = .ok (.getfield 71, 3) := by decide +kernel
theorem dX4_fact_163 : decode cX4_fact 163 = .ok (.invokevirtual 74, 3) := by decide +kernel
theorem dX4_fact_166 : decode cX4_fact 166 = .ok (.aload_n 0, 1) := by decide +kernel
theorem dX4_fact_167 : decode cX4_fact 167 = .ok (.getfield 18, 3) := by decide +kernel
theorem dX4_fact_170 : decode cX4_fact 170 = .ok (.invokevirtual 40, 3) := by decide +kernel
theorem dX4_fact_173 : decode cX4_fact 173 = .ok (.aload_n 0, 1) := by decide +kernel
theorem dX4_fact_174 : decode cX4_fact 174 = .ok (.invokevirtual 65, 3) := by decide +kernel
theorem dX4_fact_177 : decode cX4_fact 177 = .ok (.aload_n 0, 1) := by decide +kernel
theorem dX4_fact_178 : decode cX4_fact 178 = .ok (.getfield 22, 3) := by decide +kernel
theorem dX4_fact_181 : decode cX4_fact 181 = .ok (.iload_n 1, 1) := by decide +kernel
theorem dX4_fact_182 : decode cX4_fact 182 = .ok (.invokevirtual 43, 3) := by decide +kernel
theorem dX4_fact_185 : decode cX4_fact 185 = .ok (.return_, 1) := by decide +kernel
theorem dX4_sum_0 : decode cX4_sum 0 = .ok (.aload_n 0, 1) := by decide +kernel
theorem dX4_sum_1 : decode cX4_sum 1 = .ok (.invokevirtual 78, 3) := by decide +kernel
theorem dX4_sum_4 : decode cX4_sum 4 = .ok (.iconst 0, 1) := by decide +kernel
theorem dX4_sum_5 : decode cX4_sum 5 = .ok (.istore_n 1, 1) := by decide +kernel
theorem dX4_sum_6 : decode cX4_sum 6 = .ok (.iload_n 1, 1) := by decide +kernel
theorem dX4_sum_7 : decode cX4_sum 7 = .ok (.sipush 1600, 3) := by decide +kernel
theorem dX4_sum_10 : decode cX4_sum 10 = .ok (.if_icmp .ge 60, 3) := by decide +kernel
theorem dX4_sum_13 : decode cX4_sum 13 = .ok (.aload_n 0, 1) := by decide +kernel
theorem dX4_sum_14 : decode cX4_sum 14 = .ok (.getfield 18, 3) := by decide +kernel
theorem dX4_sum_17 : decode cX4_sum 17 = .ok (.bipush 43, 2) := by decide +kernel
theorem dX4_sum_19 : decode cX4_sum 19 = .ok (.invokevirtual 56, 3) := by decide +kernel
theorem dX4_sum_22 : decode cX4_sum 22 = .ok (.ifCond .ne 15, 3) := by decide +kernel
theorem dX4_sum_25 : decode cX4_sum 25 = .ok (.aload_n 0, 1) := by decide +kernel
theorem dX4_sum_26 : decode cX4_sum 26 = .ok (.getfield 18, 3) := by decide +kernel
theorem dX4_sum_29 : decode cX4_sum 29 = .ok (.bipush 45, 2) := by decide +kernel
theorem dX4_sum_31 : decode cX4_sum 31 = .ok (.invokevirtual 56, 3) := by decide +kernel
theorem dX4_sum_34 : decode cX4_sum 34 = .ok (.ifCond .eq 36, 3) := by decide +kernel
theorem dX4_sum_37 : decode cX4_sum 37 = .ok (.aload_n 0, 1) := by decide +kernel
theorem dX4_sum_38 : decode cX4_sum 38 = .ok (.getfield 18, 3) := by decide +kernel
theorem dX4_sum_41 : decode cX4_sum 41 = .ok (.getfield 68, 3) := by decide +kernel
theorem dX4_sum_44 : decode cX4_sum 44 = .ok (.istore_n 2, 1) := by decide +kernel
theorem dX4_sum_45 : decode cX4_sum 45 = .ok (.aload_n 0, 1) := by decide +kernel
theorem dX4_sum_46 : decode cX4_sum 46 = .ok (.getfield 18, 3) := by decide +kernel
theorem dX4_sum_49 : decode cX4_sum 49 = .ok (.invokevirtual 40, 3) := by decide +kernel
theorem dX4_sum_52 : decode cX4_sum 52 = .ok (.aload_n 0, 1) := by decide +kernel
theorem dX4_sum_53 : decode cX4_sum 53 = .ok (.invokevirtual 78, 3) := by decide +kernel
theorem dX4_sum_56 : decode cX4_sum 56 = .ok (.aload_n 0, 1) := by decide +kernel
theorem dX4_sum_57 : decode cX4_sum 57 = .ok (.getfield 22, 3) := by decide +kernel
theorem dX4_sum_60 : decode cX4_sum 60 = .ok (.iload_n 2, 1) := by decide +kernel
theorem dX4_sum_61 : decode cX4_sum 61 = .ok (.invokevirtual 43, 3) := by decide +kernel
theorem dX4_sum_64 : decode cX4_sum 64 = .ok (.iinc 1 1, 3) := by decide +kernel
theorem dX4_sum_67 : decode cX4_sum 67 = .ok (.goto (-61), 3) := by decide +kernel
theorem dX4_sum_70 : decode cX4_sum 70 = .ok (.return_, 1) := by decide +kernel
theorem dX4_product_0 : decode cX4_product 0 = .ok (.aload_n 0, 1) := by decide +kernel
theorem dX4_product_1 : decode cX4_product 1 = .ok (.invokevirtual 81, 3) := by decide +kernel
theorem dX4_product_4 : decode cX4_product 4 = .ok (.iconst 0, 1) := by decide +kernel
theorem dX4_product_5 : decode cX4_product 5 = .ok (.istore_n 1, 1) := by decide +kernel
theorem dX4_product_6 : decode cX4_product 6 = .ok (.iload_n 1, 1) := by decide +kernel
theorem dX4_product_7 : decode cX4_product 7 = .ok (.sipush 1600, 3) := by decide +kernel
theorem dX4_product_10 : decode cX4_product 10 = .ok (.if_icmp .ge 60, 3) := by decide +kernel
theorem dX4_product_13 : decode cX4_product 13 = .ok (.aload_n 0, 1) := by decide +kernel
theorem dX4_product_14 : decode cX4_product 14 = .ok (.getfield 18, 3) := by decide +kernel
theorem dX4_product_17 : decode cX4_product 17 = .ok (.bipush 42, 2) := by decide +kernel
theorem dX4_product_19 : decode cX4_product 19 = .ok (.invokevirtual 56, 3) := by decide +kernel
theorem dX4_product_22 : decode cX4_product 22 = .ok (.ifCond .ne 15, 3) := by decide +kernel
theorem dX4_product_25 : decode cX4_product 25 = .ok (.aload_n 0, 1) := by decide +kernel
theorem dX4_product_26 : decode cX4_product 26 = .ok (.getfield 18, 3) := by decide +kernel
theorem dX4_product_29 : decode cX4_product 29 = .ok (.bipush 47, 2) := by decide +kernel
theorem dX4_product_31 : decode cX4_product 31 = .ok (.invokevirtual 56, 3) := by decide +kernel
theorem dX4_product_34 : decode cX4_product 34 = .ok (.ifCond .eq 36, 3) := by decide +kernel
theorem dX4_product_37 : decode cX4_product 37 = .ok (.aload_n 0, 1) := by decide +kernel
theorem dX4_product_38 : decode cX4_product 38 = .ok (.getfield 18, 3) := by decide +kernel
theorem dX4_product_41 : decode cX4_product 41 = .ok (.getfield 68, 3) := by decide +kernel
theorem dX4_product_44 : decode cX4_product 44 = .ok (.istore_n 2, 1) := by decide +kernel
theorem dX4_product_45 : decode cX4_product 45 = .ok (.aload_n 0, 1) := by decide +kernel
theorem dX4_product_46 : decode cX4_product 46 = .ok (.getfield 18, 3) := by decide +kernel
theorem dX4_product_49 : decode cX4_product 49 = .ok (.invokevirtual 40, 3) := by decide +kernel
theorem dX4_product_52 : decode cX4_product 52 = .ok (.aload_n 0, 1) := by decide +kernel
theorem dX4_product_53 : decode cX4_product 53 = .ok (.invokevirtual 81, 3) := by decide +kernel
theorem dX4_product_56 : decode cX4_product 56 = .ok (.aload_n 0, 1) := by decide +kernel
theorem dX4_product_57 : decode cX4_product 57 = .ok (.getfield 22, 3) := by decide +kernel
theorem dX4_product_60 : decode cX4_product 60 = .ok (.iload_n 2, 1) := by decide +kernel
theorem dX4_product_61 : decode cX4_product 61 = .ok (.invokevirtual 43, 3) := by decide +kernel
theorem dX4_product_64 : decode cX4_product 64 = .ok (.iinc 1 1, 3) := by decide +kernel
theorem dX4_product_67 : decode cX4_product 67 = .ok (.goto (-61), 3) := by decide +kernel
theorem dX4_product_70 : decode cX4_product 70 = .ok (.return_, 1) := by decide +kernel
theorem dX4_part_0 : decode cX4_part 0 = .ok (.aload_n 0, 1) := by decide +kernel
theorem dX4_part_1 : decode cX4_part 1 = .ok (.getfield 18, 3) := by decide +kernel
theorem dX4_part_4 : decode cX4_part 4 = .ok (.getfield 68, 3) := by decide +kernel
theorem dX4_part_7 : decode cX4_part 7 = .ok (.istore_n 1, 1) := by decide +kernel
theorem dX4_part_8 : decode cX4_part 8 = .ok (.aload_n 0, 1) := by decide +kernel
theorem dX4_part_9 : decode cX4_part 9 = .ok (.getfield 18, 3) := by decide +kernel
theorem dX4_part_12 : decode cX4_part 12 = .ok (.getfield 84, 3) := by decide +kernel
theorem dX4_part_15 : decode cX4_part 15 = .ok (.iconst 2, 1) := by decide +kernel
theorem dX4_part_16 : decode cX4_part 16 = .ok (.if_icmp .ne 24, 3) := by decide +kernel
theorem dX4_part_19 : decode cX4_part 19 = .ok (.aload_n 0, 1) := by decide +kernel
theorem dX4_part_20 : decode cX4_part 20 = .ok (.getfield 22, 3) := by decide +kernel
theorem dX4_part_23 : decode cX4_part 23 = .ok (.aload_n 0, 1) := by decide +kernel
theorem dX4_part_24 : decode cX4_part 24 = .ok (.getfield 18, 3) := by decide +kernel
theorem dX4_part_27 : decode cX4_part 27 = .ok (.iconst 0, 1) := by decide +kernel
theorem dX4_part_28 : decode cX4_part 28 = .ok (.sipush 9999, 3) := by decide +kernel
theorem dX4_part_31 : decode cX4_part 31 = .ok (.invokevirtual 87, 3) := by decide +kernel
theorem dX4_part_34 : decode cX4_part 34 = .ok (.invokevirtual 91, 3) := by decide +kernel
theorem dX4_part_37 : decode cX4_part 37 = .ok (.goto 184, 3) := by decide +kernel
theorem dX4_part_40 : decode cX4_part 40 = .ok (.aload_n 0, 1) := by decide +kernel
theorem dX4_part_41 : decode cX4_part 41 = .ok (.getfield 18, 3) := by decide +kernel
theorem dX4_part_44 : decode cX4_part 44 = .ok (.bipush 40, 2) := by decide +kernel
theorem dX4_part_46 : decode cX4_part 46 = .ok (.invokevirtual 56, 3) := by decide +kernel
theorem dX4_part_49 : decode cX4_part 49 = .ok (.ifCond .eq 27, 3) := by decide +kernel
theorem dX4_part_52 : decode cX4_part 52 = .ok (.aload_n 0, 1) := by decide +kernel
theorem dX4_part_53 : decode cX4_part 53 = .ok (.invokevirtual 50, 3) := by decide +kernel
theorem dX4_part_56 : decode cX4_part 56 = .ok (.aload_n 0, 1) := by decide +kernel
theorem dX4_part_57 : decode cX4_part 57 = .ok (.invokevirtual 65, 3) := by decide +kernel
theorem dX4_part_60 : decode cX4_part 60 = .ok (.aload_n 0, 1) := by decide +kernel
theorem dX4_part_61 : decode cX4_part 61 = .ok (.getfield 18, 3) := by decide +kernel
theorem dX4_part_64 : decode cX4_part 64 = .ok (.bipush 41, 2) := by decide +kernel
theorem dX4_part_66 : decode cX4_part 66 = .ok (.invokevirtual 62, 3) := by decide +kernel
theorem dX4_part_69 : decode cX4_part 69 = .ok (.aload_n 0, 1) := by decide +kernel
theorem dX4_part_70 : decode cX4_part 70 = .ok (.invokevirtual 53, 3) := by decide +kernel
theorem dX4_part_73 : decode cX4_part 73 = .ok (.goto 148, 3) := by decide +kernel
theorem dX4_part_76 : decode cX4_part 76 = .ok (.aload_n 0, 1) := by decide +kernel
theorem dX4_part_77 : decode cX4_part 77 = .ok (.getfield 18, 3) := by decide +kernel
theorem dX4_part_80 : decode cX4_part 80 = .ok (.bipush 23, 2) := by decide +kernel
theorem dX4_part_82 : decode cX4_part 82 = .ok (.invokevirtual 34, 3) := by decide +kernel
theorem dX4_part_85 : decode cX4_part 85 = .ok (.ifCond .ne 15, 3) := by decide +kernel
theorem dX4_part_88 : decode cX4_part 88 = .ok (.aload_n 0, 1) := by decide +kernel
theorem dX4_part_89 : decode cX4_part 89 = .ok (.getfield 18, 3) := by decide +kernel
theorem dX4_part_92 : decode cX4_part 92 = .ok (.bipush 24, 2) := by decide +kernel
theorem dX4_part_94 : decode cX4_part 94 = .ok (.invokevirtual 34, 3) := by decide +kernel
theorem dX4_part_97 : decode cX4_part 97 = .ok (.ifCond .eq 18, 3) := by decide +kernel
theorem dX4_part_100 : decode cX4_part 100 = .ok (.aload_n 0, 1) := by decide +kernel
theorem dX4_part_101 : decode cX4_part 101 = .ok (.invokevirtual 94, 3) := by decide +kernel
theorem dX4_part_104 : decode cX4_part 104 = .ok (.aload_n 0, 1) := by decide +kernel
theorem dX4_part_105 : decode cX4_part 105 = .ok (.getfield 22, 3) := by decide +kernel
theorem dX4_part_108 : decode cX4_part 108 = .ok (.iload_n 1, 1) := by decide +kernel
theorem dX4_part_109 : decode cX4_part 109 = .ok (.invokevirtual 43, 3) := by decide +kernel
theorem dX4_part_112 : decode cX4_part 112 = .ok (.goto 109, 3) := by decide +kernel
theorem dX4_part_115 : decode cX4_part 115 = .ok (.aload_n 0, 1) := by decide +kernel
theorem dX4_part_116 : decode cX4_part 116 = .ok (.getfield 11, 3) := by decide +kernel
theorem dX4_part_119 : decode cX4_part 119 = .ok (.iconst 2, 1) := by decide +kernel
theorem dX4_part_120 : decode cX4_part 120 = .ok (.if_icmp .ne 49, 3) := by decide +kernel
theorem dX4_part_123 : decode cX4_part 123 = .ok (.aload_n 0, 1) := by decide +kernel
theorem dX4_part_124 : decode cX4_part 124 = .ok (.getfield 18, 3) := by decide +kernel
theorem dX4_part_127 : decode cX4_part 127 = .ok (.bipush 11, 2) := by decide +kernel
theorem dX4_part_129 : decode cX4_part 129 = .ok (.invokevirtual 34, 3) := by decide +kernel
theorem dX4_part_132 : decode cX4_part 132 = .ok (.ifCond .ne 14, 3) := by decide +kernel
theorem dX4_part_135 : decode cX4_part 135 = .ok (.aload_n 0, 1) := by decide +kernel
theorem dX4_part_136 : decode cX4_part 136 = .ok (.getfield 18, 3) := by decide +kernel
theorem dX4_part_139 : decode cX4_part 139 = .ok (.iconst 2, 1) := by decide +kernel
theorem dX4_part_140 : decode cX4_part 140 = .ok (.invokevirtual 34, 3) := by decide +kernel
theorem dX4_part_143 : decode cX4_part 143 = .ok (.ifCond .eq 26, 3) := by decide +kernel
theorem dX4_part_146 : decode cX4_part 146 = .ok (.aload_n 0, 1) := by decide +kernel
theorem dX4_part_147 : decode cX4_part 147 = .ok (.invokevirtual 50, 3) := by decide +kernel
theorem dX4_part_150 : decode cX4_part 150 = .ok (.aload_n 0, 1) := by decide +kernel
theorem dX4_part_151 : decode cX4_part 151 = .ok (.invokevirtual 81, 3) := by decide +kernel
theorem dX4_part_154 : decode cX4_part 154 = .ok (.aload_n 0, 1) := by decide +kernel
theorem dX4_part_155 : decode cX4_part 155 = .ok (.invokevirtual 53, 3) := by decide +kernel
theorem dX4_part_158 : decode cX4_part 158 = .ok (.aload_n 0, 1) := by decide +kernel
theorem dX4_part_159 : decode cX4_part 159 = .ok (.getfield 22, 3) := by decide +kernel
theorem dX4_part_162 : decode cX4_part 162 = .ok (.iload_n 1, 1) := by decide +kernel
theorem dX4_part_163 : decode cX4_part 163 = .ok (.invokevirtual 43, 3) := by decide +kernel
theorem dX4_part_166 : decode cX4_part 166 = .ok (.goto 55, 3) := by decide +kernel
theorem dX4_part_169 : decode cX4_part 169 = .ok (.aload_n 0, 1) := by decide +kernel
theorem dX4_part_170 : decode cX4_part 170 = .ok (.getfield 18, 3) := by decide +kernel
theorem dX4_part_173 : decode cX4_part 173 = .ok (.getfield 84, 3) := by decide +kernel
theorem dX4_part_176 : decode cX4_part 176 = .ok (.iconst 1, 1) := by decide +kernel
theorem dX4_part_177 : decode cX4_part 177 = .ok (.if_icmp .ne 29, 3) := by decide +kernel
theorem dX4_part_180 : decode cX4_part 180 = .ok (.aload_n 0, 1) := by decide +kernel
theorem dX4_part_181 : decode cX4_part 181 = .ok (.iload_n 1, 1) := by decide +kernel
theorem dX4_part_182 : decode cX4_part 182 = .ok (.invokevirtual 97, 3) := by decide +kernel
theorem dX4_part_185 : decode cX4_part 185 = .ok (.ifCond .eq 21, 3) := by decide +kernel
theorem dX4_part_188 : decode cX4_part 188 = .ok (.aload_n 0, 1) := by decide +kernel
theorem dX4_part_189 : decode cX4_part 189 = .ok (.getfield 18, 3) := by decide +kernel
theorem dX4_part_192 : decode cX4_part 192 = .ok (.invokevirtual 40, 3) := by decide +kernel
theorem dX4_part_195 : decode cX4_part 195 = .ok (.aload_n 0, 1) := by decide +kernel
theorem dX4_part_196 : decode cX4_part 196 = .ok (.getfield 22, 3) := by decide +kernel
theorem dX4_part_199 : decode cX4_part 199 = .ok (.iload_n 1, 1) := by decide +kernel
theorem dX4_part_200 : decode cX4_part 200 = .ok (.invokevirtual 43, 3) := by decide +kernel
theorem dX4_part_203 : decode cX4_part 203 = .ok (.goto 18, 3) := by decide +kernel
theorem dX4_part_206 : decode cX4_part 206 = .ok (.aload_n 0, 1) := by decide +kernel
theorem dX4_part_207 : decode cX4_part 207 = .ok (.getfield 18, 3) := by decide +kernel
theorem dX4_part_210 : decode cX4_part 210 = .ok (.iconst 1, 1) := by decide +kernel
theorem dX4_part_211 : decode cX4_part 211 = .ok (.aload_n 0, 1) := by decide +kernel
theorem dX4_part_212 : decode cX4_part 212 = .ok (.getfield 18, 3) := by decide +kernel
theorem dX4_part_215 : decode cX4_part 215 = .ok (.getfield 71, 3) := by decide +kernel
theorem dX4_part_218 : decode cX4_part 218 = .ok (.invokevirtual 74, 3) := by decide +kernel
theorem dX4_part_221 : decode cX4_part 221 = .ok (.return_, 1) := by decide +kernel
theorem dX4_twoSums_0 : decode cX4_twoSums 0 = .ok (.aload_n 0, 1) := by decide +kernel
theorem dX4_twoSums_1 : decode cX4_twoSums 1 = .ok (.getfield 18, 3) := by decide +kernel
theorem dX4_twoSums_4 : decode cX4_twoSums 4 = .ok (.invokevirtual 40, 3) := by decide +kernel
theorem dX4_twoSums_7 : decode cX4_twoSums 7 = .ok (.aload_n 0, 1) := by decide +kernel
theorem dX4_twoSums_8 : decode cX4_twoSums 8 = .ok (.getfield 18, 3) := by decide +kernel
theorem dX4_twoSums_11 : decode cX4_twoSums 11 = .ok (.bipush 40, 2) := by decide +kernel
theorem dX4_twoSums_13 : decode cX4_twoSums 13 = .ok (.invokevirtual 56, 3) := by decide +kernel
theorem dX4_twoSums_16 : decode cX4_twoSums 16 = .ok (.ifCond .ne 19, 3) := by decide +kernel
theorem dX4_twoSums_19 : decode cX4_twoSums 19 = .ok (.aload_n 0, 1) := by decide +kernel
theorem dX4_twoSums_20 : decode cX4_twoSums 20 = .ok (.getfield 18, 3) := by decide +kernel
theorem dX4_twoSums_23 : decode cX4_twoSums 23 = .ok (.iconst 1, 1) := by decide +kernel
theorem dX4_twoSums_24 : decode cX4_twoSums 24 = .ok (.aload_n 0, 1) := by decide +kernel
theorem dX4_twoSums_25 : decode cX4_twoSums 25 = .ok (.getfield 18, 3) := by decide +kernel
theorem dX4_twoSums_28 : decode cX4_twoSums 28 = .ok (.getfield 71, 3) := by decide +kernel
theorem dX4_twoSums_31 : decode cX4_twoSums 31 = .ok (.invokevirtual 74, 3) := by decide +kernel
theorem dX4_twoSums_34 : decode cX4_twoSums 34 = .ok (.return_, 1) := by decide +kernel
theorem dX4_twoSums_35 : decode cX4_twoSums 35 = .ok (.aload_n 0, 1) := by decide +kernel
theorem dX4_twoSums_36 : decode cX4_twoSums 36 = .ok (.invokevirtual 50, 3) := by decide +kernel
theorem dX4_twoSums_39 : decode cX4_twoSums 39 = .ok (.aload_n 0, 1) := by decide +kernel
theorem dX4_twoSums_40 : decode cX4_twoSums 40 = .ok (.invokevirtual 65, 3) := by decide +kernel
theorem dX4_twoSums_43 : decode cX4_twoSums 43 = .ok (.aload_n 0, 1) := by decide +kernel
theorem dX4_twoSums_44 : decode cX4_twoSums 44 = .ok (.getfield 18, 3) := by decide +kernel
theorem dX4_twoSums_47 : decode cX4_twoSums 47 = .ok (.bipush 44, 2) := by decide +kernel
theorem dX4_twoSums_49 : decode cX4_twoSums 49 = .ok (.invokevirtual 62, 3) := by decide +kernel
theorem dX4_twoSums_52 : decode cX4_twoSums 52 = .ok (.aload_n 0, 1) := by decide +kernel
theorem dX4_twoSums_53 : decode cX4_twoSums 53 = .ok (.invokevirtual 65, 3) := by decide +kernel
theorem dX4_twoSums_56 : decode cX4_twoSums 56 = .ok (.aload_n 0, 1) := by decide +kernel
theorem dX4_twoSums_57 : decode cX4_twoSums 57 = .ok (.getfield 18, 3) := by decide +kernel
theorem dX4_twoSums_60 : decode cX4_twoSums 60 = .ok (.bipush 41, 2) := by decide +kernel
theorem dX4_twoSums_62 : decode cX4_twoSums 62 = .ok (.invokevirtual 62, 3) := by decide +kernel
theorem dX4_twoSums_65 : decode cX4_twoSums 65 = .ok (.aload_n 0, 1) := by decide +kernel
theorem dX4_twoSums_66 : decode cX4_twoSums 66 = .ok (.invokevirtual 53, 3) := by decide +kernel
theorem dX4_twoSums_69 : decode cX4_twoSums 69 = .ok (.return_, 1) := by decide +kernel
theorem dX4_enter_0 : decode cX4_enter 0 = .ok (.aload_n 0, 1) := by decide +kernel
theorem dX4_enter_1 : decode cX4_enter 1 = .ok (.getfield 15, 3) := by decide +kernel
theorem dX4_enter_4 : decode cX4_enter 4 = .ok (.bipush 6, 2) := by decide +kernel
theorem dX4_enter_6 : decode cX4_enter 6 = .ok (.if_icmp .lt 18, 3) := by decide +kernel
theorem dX4_enter_9 : decode cX4_enter 9 = .ok (.aload_n 0, 1) := by decide +kernel
theorem dX4_enter_10 : decode cX4_enter 10 = .ok (.getfield 18, 3) := by decide +kernel
theorem dX4_enter_13 : decode cX4_enter 13 = .ok (.iconst 4, 1) := by decide +kernel
theorem dX4_enter_14 : decode cX4_enter 14 = .ok (.aload_n 0, 1) := by decide +kernel
theorem dX4_enter_15 : decode cX4_enter 15 = .ok (.getfield 18, 3) := by decide +kernel
theorem dX4_enter_18 : decode cX4_enter 18 = .ok (.getfield 71, 3) := by decide +kernel
theorem dX4_enter_21 : decode cX4_enter 21 = .ok (.invokevirtual 74, 3) := by decide +kernel
theorem dX4_enter_24 : decode cX4_enter 24 = .ok (.aload_n 0, 1) := by decide +kernel
theorem dX4_enter_25 : decode cX4_enter 25 = .ok (.dup, 1) := by decide +kernel
theorem dX4_enter_26 : decode cX4_enter 26 = .ok (.getfield 15, 3) := by decide +kernel
theorem dX4_enter_29 : decode cX4_enter 29 = .ok (.iconst 1, 1) := by decide +kernel
theorem dX4_enter_30 : decode cX4_enter 30 = .ok (.iadd, 1) := by decide +kernel
theorem dX4_enter_31 : decode cX4_enter 31 = .ok (.putfield 15, 3) := by decide +kernel
theorem dX4_enter_34 : decode cX4_enter 34 = .ok (.aload_n 0, 1) := by decide +kernel
theorem dX4_enter_35 : decode cX4_enter 35 = .ok (.getfield 18, 3) := by decide +kernel
theorem dX4_enter_38 : decode cX4_enter 38 = .ok (.invokevirtual 40, 3) := by decide +kernel
theorem dX4_enter_41 : decode cX4_enter 41 = .ok (.return_, 1) := by decide +kernel
theorem dX4_leave_0 : decode cX4_leave 0 = .ok (.aload_n 0, 1) := by decide +kernel
theorem dX4_leave_1 : decode cX4_leave 1 = .ok (.dup, 1) := by decide +kernel
theorem dX4_leave_2 : decode cX4_leave 2 = .ok (.getfield 15, 3) := by decide +kernel
theorem dX4_leave_5 : decode cX4_leave 5 = .ok (.iconst 1, 1) := by decide +kernel
theorem dX4_leave_6 : decode cX4_leave 6 = .ok (.isub, 1) := by decide +kernel
theorem dX4_leave_7 : decode cX4_leave 7 = .ok (.putfield 15, 3) := by decide +kernel
theorem dX4_leave_10 : decode cX4_leave 10 = .ok (.return_, 1) := by decide +kernel
theorem dX4_isValue_0 : decode cX4_isValue 0 = .ok (.iload_n 1, 1) := by decide +kernel
theorem dX4_isValue_1 : decode cX4_isValue 1 = .ok (.tableswitch 123 3 18 #[81, 95, 123, 123, 79, 79, 123, 123, 123, 123, 123, 123, 95, 79, 109, 109], 79) := by decide +kernel
theorem dX4_isValue_80 : decode cX4_isValue 80 = .ok (.iconst 1, 1) := by decide +kernel
theorem dX4_isValue_81 : decode cX4_isValue 81 = .ok (.ireturn, 1) := by decide +kernel
theorem dX4_isValue_82 : decode cX4_isValue 82 = .ok (.aload_n 0, 1) := by decide +kernel
theorem dX4_isValue_83 : decode cX4_isValue 83 = .ok (.getfield 11, 3) := by decide +kernel
theorem dX4_isValue_86 : decode cX4_isValue 86 = .ok (.iconst 2, 1) := by decide +kernel
theorem dX4_isValue_87 : decode cX4_isValue 87 = .ok (.if_icmp .eq 7, 3) := by decide +kernel
theorem dX4_isValue_90 : decode cX4_isValue 90 = .ok (.iconst 1, 1) := by decide +kernel
theorem dX4_isValue_91 : decode cX4_isValue 91 = .ok (.goto 4, 3) := by decide +kernel
theorem dX4_isValue_94 : decode cX4_isValue 94 = .ok (.iconst 0, 1) := by decide +kernel
theorem dX4_isValue_95 : decode cX4_isValue 95 = .ok (.ireturn, 1) := by decide +kernel
theorem dX4_isValue_96 : decode cX4_isValue 96 = .ok (.aload_n 0, 1) := by decide +kernel
theorem dX4_isValue_97 : decode cX4_isValue 97 = .ok (.getfield 11, 3) := by decide +kernel
theorem dX4_isValue_100 : decode cX4_isValue 100 = .ok (.iconst 1, 1) := by decide +kernel
theorem dX4_isValue_101 : decode cX4_isValue 101 = .ok (.if_icmp .ne 7, 3) := by decide +kernel
theorem dX4_isValue_104 : decode cX4_isValue 104 = .ok (.iconst 1, 1) := by decide +kernel
theorem dX4_isValue_105 : decode cX4_isValue 105 = .ok (.goto 4, 3) := by decide +kernel
theorem dX4_isValue_108 : decode cX4_isValue 108 = .ok (.iconst 0, 1) := by decide +kernel
theorem dX4_isValue_109 : decode cX4_isValue 109 = .ok (.ireturn, 1) := by decide +kernel
theorem dX4_isValue_110 : decode cX4_isValue 110 = .ok (.aload_n 0, 1) := by decide +kernel
theorem dX4_isValue_111 : decode cX4_isValue 111 = .ok (.getfield 11, 3) := by decide +kernel
theorem dX4_isValue_114 : decode cX4_isValue 114 = .ok (.iconst 2, 1) := by decide +kernel
theorem dX4_isValue_115 : decode cX4_isValue 115 = .ok (.if_icmp .ne 7, 3) := by decide +kernel
theorem dX4_isValue_118 : decode cX4_isValue 118 = .ok (.iconst 1, 1) := by decide +kernel
theorem dX4_isValue_119 : decode cX4_isValue 119 = .ok (.goto 4, 3) := by decide +kernel
theorem dX4_isValue_122 : decode cX4_isValue 122 = .ok (.iconst 0, 1) := by decide +kernel
theorem dX4_isValue_123 : decode cX4_isValue 123 = .ok (.ireturn, 1) := by decide +kernel
theorem dX4_isValue_124 : decode cX4_isValue 124 = .ok (.iconst 0, 1) := by decide +kernel
theorem dX4_isValue_125 : decode cX4_isValue 125 = .ok (.ireturn, 1) := by decide +kernel
theorem dX5_init_0 : decode cX5_init 0 = .ok (.aload_n 0, 1) := by decide +kernel
theorem dX5_init_1 : decode cX5_init 1 = .ok (.invokespecial 3, 3) := by decide +kernel
theorem dX5_init_4 : decode cX5_init 4 = .ok (.aload_n 0, 1) := by decide +kernel
theorem dX5_init_5 : decode cX5_init 5 = .ok (.sipush 19248, 3) := by decide +kernel
theorem dX5_init_8 : decode cX5_init 8 = .ok (.newarray .int, 2) := by decide +kernel
theorem dX5_init_10 : decode cX5_init 10 = .ok (.putfield 9, 3) := by decide +kernel
theorem dX5_init_13 : decode cX5_init 13 = .ok (.aload_n 0, 1) := by decide +kernel
theorem dX5_init_14 : decode cX5_init 14 = .ok (.sipush 401, 3) := by decide +kernel
theorem dX5_init_17 : decode cX5_init 17 = .ok (.newarray .int, 2) := by decide +kernel
theorem dX5_init_19 : decode cX5_init 19 = .ok (.putfield 15, 3) := by decide +kernel
theorem dX5_init_22 : decode cX5_init 22 = .ok (.aload_n 0, 1) := by decide +kernel
theorem dX5_init_23 : decode cX5_init 23 = .ok (.new 18, 3) := by decide +kernel
theorem dX5_init_26 : decode cX5_init 26 = .ok (.dup, 1) := by decide +kernel
theorem dX5_init_27 : decode cX5_init 27 = .ok (.invokespecial 20, 3) := by decide +kernel
theorem dX5_init_30 : decode cX5_init 30 = .ok (.putfield 21, 3) := by decide +kernel
theorem dX5_init_33 : decode cX5_init 33 = .ok (.aload_n 0, 1) := by decide +kernel
theorem dX5_init_34 : decode cX5_init 34 = .ok (.aload_n 1, 1) := by decide +kernel
theorem dX5_init_35 : decode cX5_init 35 = .ok (.putfield 25, 3) := by decide +kernel
theorem dX5_init_38 : decode cX5_init 38 = .ok (.return_, 1) := by decide +kernel
theorem dX5_begin_0 : decode cX5_begin 0 = .ok (.aload_n 0, 1) := by decide +kernel
theorem dX5_begin_1 : decode cX5_begin 1 = .ok (.aload_n 1, 1) := by decide +kernel
theorem dX5_begin_2 : decode cX5_begin 2 = .ok (.putfield 25, 3) := by decide +kernel
theorem dX5_begin_5 : decode cX5_begin 5 = .ok (.aload_n 0, 1) := by decide +kernel
theorem dX5_begin_6 : decode cX5_begin 6 = .ok (.getfield 9, 3) := by decide +kernel
theorem dX5_begin_9 : decode cX5_begin 9 = .ok (.iconst (-1), 1) := by decide +kernel
theorem dX5_begin_10 : decode cX5_begin 10 = .ok (.invokestatic 29, 3) := by decide +kernel
theorem dX5_begin_13 : decode cX5_begin 13 = .ok (.return_, 1) := by decide +kernel
theorem dX5_markClouds_0 : decode cX5_markClouds 0 = .ok (.aload_n 0, 1) := by decide +kernel
theorem dX5_markClouds_1 : decode cX5_markClouds 1 = .ok (.getfield 15, 3) := by decide +kernel
theorem dX5_markClouds_4 : decode cX5_markClouds 4 = .ok (.iconst 0, 1) := by decide +kernel
theorem dX5_markClouds_5 : decode cX5_markClouds 5 = .ok (.invokestatic 29, 3) := by decide +kernel
theorem dX5_markClouds_8 : decode cX5_markClouds 8 = .ok (.iconst 0, 1) := by decide +kernel
theorem dX5_markClouds_9 : decode cX5_markClouds 9 = .ok (.istore_n 2, 1) := by decide +kernel
theorem dX5_markClouds_10 : decode cX5_markClouds 10 = .ok (.iload_n 2, 1) := by decide +kernel
theorem dX5_markClouds_11 : decode cX5_markClouds 11 = .ok (.aload_n 0, 1) := by decide +kernel
theorem dX5_markClouds_12 : decode cX5_markClouds 12 = .ok (.getfield 25, 3) := by decide +kernel
theorem dX5_markClouds_15 : decode cX5_markClouds 15 = .ok (.getfield 35, 3) := by decide +kernel
theorem dX5_markClouds_18 : decode cX5_markClouds 18 = .ok (.if_icmp .ge 45, 3) := by decide +kernel
theorem dX5_markClouds_21 : decode cX5_markClouds 21 = .ok (.aload_n 0, 1) := by decide +kernel
theorem dX5_markClouds_22 : decode cX5_markClouds 22 = .ok (.getfield 25, 3) := by decide +kernel
theorem dX5_markClouds_25 : decode cX5_markClouds 25 = .ok (.getfield 41, 3) := by decide +kernel
theorem dX5_markClouds_28 : decode cX5_markClouds 28 = .ok (.iload_n 2, 1) := by decide +kernel
theorem dX5_markClouds_29 : decode cX5_markClouds 29 = .ok (.iaload, 1) := by decide +kernel
theorem dX5_markClouds_30 : decode cX5_markClouds 30 = .ok (.istore_n 3, 1) := by decide +kernel
theorem dX5_markClouds_31 : decode cX5_markClouds 31 = .ok (.iload_n 3, 1) := by decide +kernel
theorem dX5_markClouds_32 : decode cX5_markClouds 32 = .ok (.aload_n 0, 1) := by decide +kernel
theorem dX5_markClouds_33 : decode cX5_markClouds 33 = .ok (.getfield 25, 3) := by decide +kernel
theorem dX5_markClouds_36 : decode cX5_markClouds 36 = .ok (.getfield 44, 3) := by decide +kernel
theorem dX5_markClouds_39 : decode cX5_markClouds 39 = .ok (.iload_n 2, 1) := by decide +kernel
theorem dX5_markClouds_40 : decode cX5_markClouds 40 = .ok (.iaload, 1) := by decide +kernel
theorem dX5_markClouds_41 : decode cX5_markClouds 41 = .ok (.if_icmp .gt 16, 3) := by decide +kernel
theorem dX5_markClouds_44 : decode cX5_markClouds 44 = .ok (.aload_n 0, 1) := by decide +kernel
theorem dX5_markClouds_45 : decode cX5_markClouds 45 = .ok (.getfield 15, 3) := by decide +kernel
theorem dX5_markClouds_48 : decode cX5_markClouds 48 = .ok (.iload_n 3, 1) := by decide +kernel
theorem dX5_markClouds_49 : decode cX5_markClouds 49 = .ok (.iconst 1, 1) := by decide +kernel
theorem dX5_markClouds_50 : decode cX5_markClouds 50 = .ok (.iastore, 1) := by decide +kernel
theorem dX5_markClouds_51 : decode cX5_markClouds 51 = .ok (.iinc 3 1, 3) := by decide +kernel
theorem dX5_markClouds_54 : decode cX5_markClouds 54 = .ok (.goto (-23), 3) := by decide +kernel
theorem dX5_markClouds_57 : decode cX5_markClouds 57 = .ok (.iinc 2 1, 3) := by decide +kernel
theorem dX5_markClouds_60 : decode cX5_markClouds 60 = .ok (.goto (-50), 3) := by decide +kernel
theorem dX5_markClouds_63 : decode cX5_markClouds 63 = .ok (.iconst 0, 1) := by decide +kernel
theorem dX5_markClouds_64 : decode cX5_markClouds 64 = .ok (.istore_n 2, 1) := by decide +kernel
theorem dX5_markClouds_65 : decode cX5_markClouds 65 = .ok (.iload_n 2, 1) := by decide +kernel
theorem dX5_markClouds_66 : decode cX5_markClouds 66 = .ok (.aload_n 1, 1) := by decide +kernel
theorem dX5_markClouds_67 : decode cX5_markClouds 67 = .ok (.getfield 47, 3) := by decide +kernel
theorem dX5_markClouds_70 : decode cX5_markClouds 70 = .ok (.if_icmp .ge 21, 3) := by decide +kernel
theorem dX5_markClouds_73 : decode cX5_markClouds 73 = .ok (.aload_n 0, 1) := by decide +kernel
theorem dX5_markClouds_74 : decode cX5_markClouds 74 = .ok (.getfield 15, 3) := by decide +kernel
theorem dX5_markClouds_77 : decode cX5_markClouds 77 = .ok (.aload_n 1, 1) := by decide +kernel
theorem dX5_markClouds_78 : decode cX5_markClouds 78 = .ok (.getfield 50, 3) := by decide +kernel
theorem dX5_markClouds_81 : decode cX5_markClouds 81 = .ok (.iload_n 2, 1) := by decide +kernel
theorem dX5_markClouds_82 : decode cX5_markClouds 82 = .ok (.iaload, 1) := by decide +kernel
theorem dX5_markClouds_83 : decode cX5_markClouds 83 = .ok (.iconst 1, 1) := by decide +kernel
theorem dX5_markClouds_84 : decode cX5_markClouds 84 = .ok (.iastore, 1) := by decide +kernel
theorem dX5_markClouds_85 : decode cX5_markClouds 85 = .ok (.iinc 2 1, 3) := by decide +kernel
theorem dX5_markClouds_88 : decode cX5_markClouds 88 = .ok (.goto (-23), 3) := by decide +kernel
theorem dX5_markClouds_91 : decode cX5_markClouds 91 = .ok (.return_, 1) := by decide +kernel
theorem dX5_isCloudy_0 : decode cX5_isCloudy 0 = .ok (.iload_n 1, 1) := by decide +kernel
theorem dX5_isCloudy_1 : decode cX5_isCloudy 1 = .ok (.ifCond .lt 24, 3) := by decide +kernel
theorem dX5_isCloudy_4 : decode cX5_isCloudy 4 = .ok (.iload_n 1, 1) := by decide +kernel
theorem dX5_isCloudy_5 : decode cX5_isCloudy 5 = .ok (.sipush 400, 3) := by decide +kernel
theorem dX5_isCloudy_8 : decode cX5_isCloudy 8 = .ok (.if_icmp .gt 17, 3) := by decide +kernel
theorem dX5_isCloudy_11 : decode cX5_isCloudy 11 = .ok (.aload_n 0, 1) := by decide +kernel
theorem dX5_isCloudy_12 : decode cX5_isCloudy 12 = .ok (.getfield 15, 3) := by decide +kernel
theorem dX5_isCloudy_15 : decode cX5_isCloudy 15 = .ok (.iload_n 1, 1) := by decide +kernel
theorem dX5_isCloudy_16 : decode cX5_isCloudy 16 = .ok (.iaload, 1) := by decide +kernel
theorem dX5_isCloudy_17 : decode cX5_isCloudy 17 = .ok (.iconst 1, 1) := by decide +kernel
theorem dX5_isCloudy_18 : decode cX5_isCloudy 18 = .ok (.if_icmp .ne 7, 3) := by decide +kernel
theorem dX5_isCloudy_21 : decode cX5_isCloudy 21 = .ok (.iconst 1, 1) := by decide +kernel
theorem dX5_isCloudy_22 : decode cX5_isCloudy 22 = .ok (.goto 4, 3) := by decide +kernel
theorem dX5_isCloudy_25 : decode cX5_isCloudy 25 = .ok (.iconst 0, 1) := by decide +kernel
theorem dX5_isCloudy_26 : decode cX5_isCloudy 26 = .ok (.ireturn, 1) := by decide +kernel
theorem dX5_lengthAt_0 : decode cX5_lengthAt 0 = .ok (.aload_n 0, 1) := by decide +kernel
theorem dX5_lengthAt_1 : decode cX5_lengthAt 1 = .ok (.iload_n 3, 1) := by decide +kernel
theorem dX5_lengthAt_2 : decode cX5_lengthAt 2 = .ok (.invokevirtual 53, 3) := by decide +kernel
theorem dX5_lengthAt_5 : decode cX5_lengthAt 5 = .ok (.ifCond .eq 7, 3) := by decide +kernel
theorem dX5_lengthAt_8 : decode cX5_lengthAt 8 = .ok (.iconst 0, 1) := by decide +kernel
theorem dX5_lengthAt_9 : decode cX5_lengthAt 9 = .ok (.goto 12, 3) := by decide +kernel
theorem dX5_lengthAt_12 : decode cX5_lengthAt 12 = .ok (.aload_n 0, 1) := by decide +kernel
theorem dX5_lengthAt_13 : decode cX5_lengthAt 13 = .ok (.iload_n 1, 1) := by decide +kernel
theorem dX5_lengthAt_14 : decode cX5_lengthAt 14 = .ok (.iload_n 2, 1) := by decide +kernel
theorem dX5_lengthAt_15 : decode cX5_lengthAt 15 = .ok (.iload_n 3, 1) := by decide +kernel
theorem dX5_lengthAt_16 : decode cX5_lengthAt 16 = .ok (.invokevirtual 57, 3) := by decide +kernel
theorem dX5_lengthAt_19 : decode cX5_lengthAt 19 = .ok (.iconst 1, 1) := by decide +kernel
theorem dX5_lengthAt_20 : decode cX5_lengthAt 20 = .ok (.ishr, 1) := by decide +kernel
theorem dX5_lengthAt_21 : decode cX5_lengthAt 21 = .ok (.ireturn, 1) := by decide +kernel
theorem dX5_paysAt_0 : decode cX5_paysAt 0 = .ok (.iload_n 3, 1) := by decide +kernel
theorem dX5_paysAt_1 : decode cX5_paysAt 1 = .ok (.aload_n 0, 1) := by decide +kernel
theorem dX5_paysAt_2 : decode cX5_paysAt 2 = .ok (.getfield 25, 3) := by decide +kernel
theorem dX5_paysAt_5 : decode cX5_paysAt 5 = .ok (.getfield 61, 3) := by decide +kernel
theorem dX5_paysAt_8 : decode cX5_paysAt 8 = .ok (.iload_n 2, 1) := by decide +kernel
theorem dX5_paysAt_9 : decode cX5_paysAt 9 = .ok (.iaload, 1) := by decide +kernel
theorem dX5_paysAt_10 : decode cX5_paysAt 10 = .ok (.if_icmp .ge 28, 3) := by decide +kernel
theorem dX5_paysAt_13 : decode cX5_paysAt 13 = .ok (.aload_n 0, 1) := by decide +kernel
theorem dX5_paysAt_14 : decode cX5_paysAt 14 = .ok (.iload_n 3, 1) := by decide +kernel
theorem dX5_paysAt_15 : decode cX5_paysAt 15 = .ok (.invokevirtual 53, 3) := by decide +kernel
theorem dX5_paysAt_18 : decode cX5_paysAt 18 = .ok (.ifCond .ne 20, 3) := by decide +kernel
theorem dX5_paysAt_21 : decode cX5_paysAt 21 = .ok (.aload_n 0, 1) := by decide +kernel
theorem dX5_paysAt_22 : decode cX5_paysAt 22 = .ok (.iload_n 1, 1) := by decide +kernel
theorem dX5_paysAt_23 : decode cX5_paysAt 23 = .ok (.iload_n 2, 1) := by decide +kernel
theorem dX5_paysAt_24 : decode cX5_paysAt 24 = .ok (.iload_n 3, 1) := by decide +kernel
theorem dX5_paysAt_25 : decode cX5_paysAt 25 = .ok (.invokevirtual 57, 3) := by decide +kernel
theorem dX5_paysAt_28 : decode cX5_paysAt 28 = .ok (.iconst 1, 1) := by decide +kernel
theorem dX5_paysAt_29 : decode cX5_paysAt 29 = .ok (.iand, 1) := by decide +kernel
theorem dX5_paysAt_30 : decode cX5_paysAt 30 = .ok (.iconst 1, 1) := by decide +kernel
theorem dX5_paysAt_31 : decode cX5_paysAt 31 = .ok (.if_icmp .ne 7, 3) := by decide +kernel
theorem dX5_paysAt_34 : decode cX5_paysAt 34 = .ok (.iconst 1, 1) := by decide +kernel
theorem dX5_paysAt_35 : decode cX5_paysAt 35 = .ok (.goto 4, 3) := by decide +kernel
theorem dX5_paysAt_38 : decode cX5_paysAt 38 = .ok (.iconst 0, 1) := by decide +kernel
theorem dX5_paysAt_39 : decode cX5_paysAt 39 = .ok (.ireturn, 1) := by decide +kernel
theorem dX5_cellAt_0 : decode cX5_cellAt 0 = .ok (.iload_n 1, 1) := by decide +kernel
theorem dX5_cellAt_1 : decode cX5_cellAt 1 = .ok (.bipush 6, 2) := by decide +kernel
theorem dX5_cellAt_3 : decode cX5_cellAt 3 = .ok (.imul, 1) := by decide +kernel
theorem dX5_cellAt_4 : decode cX5_cellAt 4 = .ok (.iload_n 2, 1) := by decide +kernel
theorem dX5_cellAt_5 : decode cX5_cellAt 5 = .ok (.iadd, 1) := by decide +kernel
theorem dX5_cellAt_6 : decode cX5_cellAt 6 = .ok (.sipush 401, 3) := by decide +kernel
theorem dX5_cellAt_9 : decode cX5_cellAt 9 = .ok (.imul, 1) := by decide +kernel
theorem dX5_cellAt_10 : decode cX5_cellAt 10 = .ok (.iload_n 3, 1) := by decide +kernel
theorem dX5_cellAt_11 : decode cX5_cellAt 11 = .ok (.iadd, 1) := by decide +kernel
theorem dX5_cellAt_12 : decode cX5_cellAt 12 = .ok (.istore 4, 2) := by decide +kernel
theorem dX5_cellAt_14 : decode cX5_cellAt 14 = .ok (.iload 4, 2) := by decide +kernel
theorem dX5_cellAt_16 : decode cX5_cellAt 16 = .ok (.ifCond .lt 13, 3) := by decide +kernel
theorem dX5_cellAt_19 : decode cX5_cellAt 19 = .ok (.iload 4, 2) := by decide +kernel
theorem dX5_cellAt_21 : decode cX5_cellAt 21 = .ok (.aload_n 0, 1) := by decide +kernel
theorem dX5_cellAt_22 : decode cX5_cellAt 22 = .ok (.getfield 9, 3) := by decide +kernel
theorem dX5_cellAt_25 : decode cX5_cellAt 25 = .ok (.arraylength, 1) := by decide +kernel
theorem dX5_cellAt_26 : decode cX5_cellAt 26 = .ok (.if_icmp .lt 5, 3) := by decide +kernel
theorem dX5_cellAt_29 : decode cX5_cellAt 29 = .ok (.iconst 0, 1) := by decide +kernel
theorem dX5_cellAt_30 : decode cX5_cellAt 30 = .ok (.ireturn, 1) := by decide +kernel
theorem dX5_cellAt_31 : decode cX5_cellAt 31 = .ok (.aload_n 0, 1) := by decide +kernel
theorem dX5_cellAt_32 : decode cX5_cellAt 32 = .ok (.getfield 9, 3) := by decide +kernel
theorem dX5_cellAt_35 : decode cX5_cellAt 35 = .ok (.iload 4, 2) := by decide +kernel
theorem dX5_cellAt_37 : decode cX5_cellAt 37 = .ok (.iaload, 1) := by decide +kernel
theorem dX5_cellAt_38 : decode cX5_cellAt 38 = .ok (.iconst (-1), 1) := by decide +kernel
theorem dX5_cellAt_39 : decode cX5_cellAt 39 = .ok (.if_icmp .eq 11, 3) := by decide +kernel
theorem dX5_cellAt_42 : decode cX5_cellAt 42 = .ok (.aload_n 0, 1) := by decide +kernel
theorem dX5_cellAt_43 : decode cX5_cellAt 43 = .ok (.getfield 9, 3) := by decide +kernel
theorem dX5_cellAt_46 : decode cX5_cellAt 46 = .ok (.iload 4, 2) := by decide +kernel
theorem dX5_cellAt_48 : decode cX5_cellAt 48 = .ok (.iaload, 1) := by decide +kernel
theorem dX5_cellAt_49 : decode cX5_cellAt 49 = .ok (.ireturn, 1) := by decide +kernel
theorem dX5_cellAt_50 : decode cX5_cellAt 50 = .ok (.aload_n 0, 1) := by decide +kernel
theorem dX5_cellAt_51 : decode cX5_cellAt 51 = .ok (.getfield 21, 3) := by decide +kernel
theorem dX5_cellAt_54 : decode cX5_cellAt 54 = .ok (.aload_n 0, 1) := by decide +kernel
theorem dX5_cellAt_55 : decode cX5_cellAt 55 = .ok (.getfield 25, 3) := by decide +kernel
theorem dX5_cellAt_58 : decode cX5_cellAt 58 = .ok (.getfield 64, 3) := by decide +kernel
theorem dX5_cellAt_61 : decode cX5_cellAt 61 = .ok (.iload_n 1, 1) := by decide +kernel
theorem dX5_cellAt_62 : decode cX5_cellAt 62 = .ok (.iaload, 1) := by decide +kernel
theorem dX5_cellAt_63 : decode cX5_cellAt 63 = .ok (.putfield 67, 3) := by decide +kernel
theorem dX5_cellAt_66 : decode cX5_cellAt 66 = .ok (.aload_n 0, 1) := by decide +kernel
theorem dX5_cellAt_67 : decode cX5_cellAt 67 = .ok (.getfield 21, 3) := by decide +kernel
theorem dX5_cellAt_70 : decode cX5_cellAt 70 = .ok (.aload_n 0, 1) := by decide +kernel
theorem dX5_cellAt_71 : decode cX5_cellAt 71 = .ok (.getfield 25, 3) := by decide +kernel
theorem dX5_cellAt_74 : decode cX5_cellAt 74 = .ok (.getfield 69, 3) := by decide +kernel
theorem dX5_cellAt_77 : decode cX5_cellAt 77 = .ok (.iload_n 1, 1) := by decide +kernel
theorem dX5_cellAt_78 : decode cX5_cellAt 78 = .ok (.iaload, 1) := by decide +kernel
theorem dX5_cellAt_79 : decode cX5_cellAt 79 = .ok (.putfield 72, 3) := by decide +kernel
theorem dX5_cellAt_82 : decode cX5_cellAt 82 = .ok (.aload_n 0, 1) := by decide +kernel
theorem dX5_cellAt_83 : decode cX5_cellAt 83 = .ok (.getfield 21, 3) := by decide +kernel
theorem dX5_cellAt_86 : decode cX5_cellAt 86 = .ok (.aload_n 0, 1) := by decide +kernel
theorem dX5_cellAt_87 : decode cX5_cellAt 87 = .ok (.getfield 25, 3) := by decide +kernel
theorem dX5_cellAt_90 : decode cX5_cellAt 90 = .ok (.getfield 74, 3) := by decide +kernel
theorem dX5_cellAt_93 : decode cX5_cellAt 93 = .ok (.iload_n 2, 1) := by decide +kernel
theorem dX5_cellAt_94 : decode cX5_cellAt 94 = .ok (.iaload, 1) := by decide +kernel
