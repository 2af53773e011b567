theorem dX0_init_0 : decode cX0_init 0 = .ok (.aload_n 0, 1) := by decide +kernel
theorem dX0_init_1 : decode cX0_init 1 = .ok (.invokespecial 3, 3) := by decide +kernel
theorem dX0_init_4 : decode cX0_init 4 = .ok (.aload_n 0, 1) := by decide +kernel
theorem dX0_init_5 : decode cX0_init 5 = .ok (.new 9, 3) := by decide +kernel
theorem dX0_init_8 : decode cX0_init 8 = .ok (.dup, 1) := by decide +kernel
theorem dX0_init_9 : decode cX0_init 9 = .ok (.invokespecial 11, 3) := by decide +kernel
theorem dX0_init_12 : decode cX0_init 12 = .ok (.putfield 12, 3) := by decide +kernel
theorem dX0_init_15 : decode cX0_init 15 = .ok (.aload_n 0, 1) := by decide +kernel
theorem dX0_init_16 : decode cX0_init 16 = .ok (.iconst 5, 1) := by decide +kernel
theorem dX0_init_17 : decode cX0_init 17 = .ok (.newarray .int, 2) := by decide +kernel
theorem dX0_init_19 : decode cX0_init 19 = .ok (.putfield 18, 3) := by decide +kernel
theorem dX0_init_22 : decode cX0_init 22 = .ok (.aload_n 0, 1) := by decide +kernel
theorem dX0_init_23 : decode cX0_init 23 = .ok (.iconst 0, 1) := by decide +kernel
theorem dX0_init_24 : decode cX0_init 24 = .ok (.putfield 22, 3) := by decide +kernel
theorem dX0_init_27 : decode cX0_init 27 = .ok (.aload_n 0, 1) := by decide +kernel
theorem dX0_init_28 : decode cX0_init 28 = .ok (.iconst 0, 1) := by decide +kernel
theorem dX0_init_29 : decode cX0_init 29 = .ok (.putfield 26, 3) := by decide +kernel
theorem dX0_init_32 : decode cX0_init 32 = .ok (.aload_n 0, 1) := by decide +kernel
theorem dX0_init_33 : decode cX0_init 33 = .ok (.aload_n 1, 1) := by decide +kernel
theorem dX0_init_34 : decode cX0_init 34 = .ok (.putfield 29, 3) := by decide +kernel
theorem dX0_init_37 : decode cX0_init 37 = .ok (.return_, 1) := by decide +kernel
theorem dX0_find_0 : decode cX0_find 0 = .ok (.aload_n 0, 1) := by decide +kernel
theorem dX0_find_1 : decode cX0_find 1 = .ok (.iconst 0, 1) := by decide +kernel
theorem dX0_find_2 : decode cX0_find 2 = .ok (.putfield 22, 3) := by decide +kernel
theorem dX0_find_5 : decode cX0_find 5 = .ok (.aload_n 0, 1) := by decide +kernel
theorem dX0_find_6 : decode cX0_find 6 = .ok (.iconst 0, 1) := by decide +kernel
theorem dX0_find_7 : decode cX0_find 7 = .ok (.putfield 26, 3) := by decide +kernel
theorem dX0_find_10 : decode cX0_find 10 = .ok (.aload_n 0, 1) := by decide +kernel
theorem dX0_find_11 : decode cX0_find 11 = .ok (.getfield 12, 3) := by decide +kernel
theorem dX0_find_14 : decode cX0_find 14 = .ok (.aload_n 0, 1) := by decide +kernel
theorem dX0_find_15 : decode cX0_find 15 = .ok (.getfield 29, 3) := by decide +kernel
theorem dX0_find_18 : decode cX0_find 18 = .ok (.getfield 33, 3) := by decide +kernel
theorem dX0_find_21 : decode cX0_find 21 = .ok (.invokevirtual 38, 3) := by decide +kernel
theorem dX0_find_24 : decode cX0_find 24 = .ok (.iconst 0, 1) := by decide +kernel
theorem dX0_find_25 : decode cX0_find 25 = .ok (.istore_n 2, 1) := by decide +kernel
theorem dX0_find_26 : decode cX0_find 26 = .ok (.iload_n 2, 1) := by decide +kernel
theorem dX0_find_27 : decode cX0_find 27 = .ok (.bipush 120, 2) := by decide +kernel
theorem dX0_find_29 : decode cX0_find 29 = .ok (.if_icmp .ge 80, 3) := by decide +kernel
theorem dX0_find_32 : decode cX0_find 32 = .ok (.aload_n 0, 1) := by decide +kernel
theorem dX0_find_33 : decode cX0_find 33 = .ok (.invokevirtual 42, 3) := by decide +kernel
theorem dX0_find_36 : decode cX0_find 36 = .ok (.ifCond .eq 56, 3) := by decide +kernel
theorem dX0_find_39 : decode cX0_find 39 = .ok (.aload_n 0, 1) := by decide +kernel
theorem dX0_find_40 : decode cX0_find 40 = .ok (.getfield 22, 3) := by decide +kernel
theorem dX0_find_43 : decode cX0_find 43 = .ok (.ifCond .ne 17, 3) := by decide +kernel
theorem dX0_find_46 : decode cX0_find 46 = .ok (.aload_n 0, 1) := by decide +kernel
theorem dX0_find_47 : decode cX0_find 47 = .ok (.getfield 12, 3) := by decide +kernel
theorem dX0_find_50 : decode cX0_find 50 = .ok (.getfield 46, 3) := by decide +kernel
theorem dX0_find_53 : decode cX0_find 53 = .ok (.aload_n 0, 1) := by decide +kernel
theorem dX0_find_54 : decode cX0_find 54 = .ok (.getfield 18, 3) := by decide +kernel
theorem dX0_find_57 : decode cX0_find 57 = .ok (.invokestatic 48, 3) := by decide +kernel
theorem dX0_find_60 : decode cX0_find 60 = .ok (.aload_n 0, 1) := by decide +kernel
theorem dX0_find_61 : decode cX0_find 61 = .ok (.dup, 1) := by decide +kernel
theorem dX0_find_62 : decode cX0_find 62 = .ok (.getfield 22, 3) := by decide +kernel
theorem dX0_find_65 : decode cX0_find 65 = .ok (.iconst 1, 1) := by decide +kernel
theorem dX0_find_66 : decode cX0_find 66 = .ok (.iadd, 1) := by decide +kernel
theorem dX0_find_67 : decode cX0_find 67 = .ok (.putfield 22, 3) := by decide +kernel
theorem dX0_find_70 : decode cX0_find 70 = .ok (.aload_n 0, 1) := by decide +kernel
theorem dX0_find_71 : decode cX0_find 71 = .ok (.iload_n 1, 1) := by decide +kernel
theorem dX0_find_72 : decode cX0_find 72 = .ok (.invokevirtual 52, 3) := by decide +kernel
theorem dX0_find_75 : decode cX0_find 75 = .ok (.istore_n 3, 1) := by decide +kernel
theorem dX0_find_76 : decode cX0_find 76 = .ok (.iload_n 3, 1) := by decide +kernel
theorem dX0_find_77 : decode cX0_find 77 = .ok (.ifCond .lt 15, 3) := by decide +kernel
theorem dX0_find_80 : decode cX0_find 80 = .ok (.aload_n 0, 1) := by decide +kernel
theorem dX0_find_81 : decode cX0_find 81 = .ok (.dup, 1) := by decide +kernel
theorem dX0_find_82 : decode cX0_find 82 = .ok (.getfield 26, 3) := by decide +kernel
theorem dX0_find_85 : decode cX0_find 85 = .ok (.iconst 1, 1) := by decide +kernel
theorem dX0_find_86 : decode cX0_find 86 = .ok (.iload_n 3, 1) := by decide +kernel
theorem dX0_find_87 : decode cX0_find 87 = .ok (.ishl, 1) := by decide +kernel
theorem dX0_find_88 : decode cX0_find 88 = .ok (.ior, 1) := by decide +kernel
theorem dX0_find_89 : decode cX0_find 89 = .ok (.putfield 26, 3) := by decide +kernel
theorem dX0_find_92 : decode cX0_find 92 = .ok (.aload_n 0, 1) := by decide +kernel
theorem dX0_find_93 : decode cX0_find 93 = .ok (.getfield 12, 3) := by decide +kernel
theorem dX0_find_96 : decode cX0_find 96 = .ok (.invokevirtual 56, 3) := by decide +kernel
theorem dX0_find_99 : decode cX0_find 99 = .ok (.ifCond .ne 4, 3) := by decide +kernel
theorem dX0_find_102 : decode cX0_find 102 = .ok (.return_, 1) := by decide +kernel
theorem dX0_find_103 : decode cX0_find 103 = .ok (.iinc 2 1, 3) := by decide +kernel
theorem dX0_find_106 : decode cX0_find 106 = .ok (.goto (-80), 3) := by decide +kernel
theorem dX0_find_109 : decode cX0_find 109 = .ok (.return_, 1) := by decide +kernel
theorem dX0_isFitting_0 : decode cX0_isFitting 0 = .ok (.iconst 0, 1) := by decide +kernel
theorem dX0_isFitting_1 : decode cX0_isFitting 1 = .ok (.istore_n 1, 1) := by decide +kernel
theorem dX0_isFitting_2 : decode cX0_isFitting 2 = .ok (.iload_n 1, 1) := by decide +kernel
theorem dX0_isFitting_3 : decode cX0_isFitting 3 = .ok (.aload_n 0, 1) := by decide +kernel
theorem dX0_isFitting_4 : decode cX0_isFitting 4 = .ok (.getfield 29, 3) := by decide +kernel
theorem dX0_isFitting_7 : decode cX0_isFitting 7 = .ok (.getfield 59, 3) := by decide +kernel
theorem dX0_isFitting_10 : decode cX0_isFitting 10 = .ok (.if_icmp .ge 52, 3) := by decide +kernel
theorem dX0_isFitting_13 : decode cX0_isFitting 13 = .ok (.aload_n 0, 1) := by decide +kernel
theorem dX0_isFitting_14 : decode cX0_isFitting 14 = .ok (.aload_n 0, 1) := by decide +kernel
theorem dX0_isFitting_15 : decode cX0_isFitting 15 = .ok (.getfield 29, 3) := by decide +kernel
theorem dX0_isFitting_18 : decode cX0_isFitting 18 = .ok (.iload_n 1, 1) := by decide +kernel
theorem dX0_isFitting_19 : decode cX0_isFitting 19 = .ok (.invokevirtual 62, 3) := by decide +kernel
theorem dX0_isFitting_22 : decode cX0_isFitting 22 = .ok (.iconst 3, 1) := by decide +kernel
theorem dX0_isFitting_23 : decode cX0_isFitting 23 = .ok (.idiv, 1) := by decide +kernel
theorem dX0_isFitting_24 : decode cX0_isFitting 24 = .ok (.invokevirtual 52, 3) := by decide +kernel
theorem dX0_isFitting_27 : decode cX0_isFitting 27 = .ok (.istore_n 2, 1) := by decide +kernel
theorem dX0_isFitting_28 : decode cX0_isFitting 28 = .ok (.iload_n 2, 1) := by decide +kernel
theorem dX0_isFitting_29 : decode cX0_isFitting 29 = .ok (.ifCond .lt 25, 3) := by decide +kernel
theorem dX0_isFitting_32 : decode cX0_isFitting 32 = .ok (.aload_n 0, 1) := by decide +kernel
theorem dX0_isFitting_33 : decode cX0_isFitting 33 = .ok (.getfield 29, 3) := by decide +kernel
theorem dX0_isFitting_36 : decode cX0_isFitting 36 = .ok (.iload_n 2, 1) := by decide +kernel
theorem dX0_isFitting_37 : decode cX0_isFitting 37 = .ok (.iconst 1, 1) := by decide +kernel
theorem dX0_isFitting_38 : decode cX0_isFitting 38 = .ok (.invokevirtual 65, 3) := by decide +kernel
theorem dX0_isFitting_41 : decode cX0_isFitting 41 = .ok (.aload_n 0, 1) := by decide +kernel
theorem dX0_isFitting_42 : decode cX0_isFitting 42 = .ok (.getfield 29, 3) := by decide +kernel
theorem dX0_isFitting_45 : decode cX0_isFitting 45 = .ok (.iload_n 1, 1) := by decide +kernel
theorem dX0_isFitting_46 : decode cX0_isFitting 46 = .ok (.invokevirtual 62, 3) := by decide +kernel
theorem dX0_isFitting_49 : decode cX0_isFitting 49 = .ok (.iconst 3, 1) := by decide +kernel
theorem dX0_isFitting_50 : decode cX0_isFitting 50 = .ok (.irem, 1) := by decide +kernel
theorem dX0_isFitting_51 : decode cX0_isFitting 51 = .ok (.if_icmp .eq 5, 3) := by decide +kernel
theorem dX0_isFitting_54 : decode cX0_isFitting 54 = .ok (.iconst 0, 1) := by decide +kernel
theorem dX0_isFitting_55 : decode cX0_isFitting 55 = .ok (.ireturn, 1) := by decide +kernel
theorem dX0_isFitting_56 : decode cX0_isFitting 56 = .ok (.iinc 1 1, 3) := by decide +kernel
theorem dX0_isFitting_59 : decode cX0_isFitting 59 = .ok (.goto (-57), 3) := by decide +kernel
theorem dX0_isFitting_62 : decode cX0_isFitting 62 = .ok (.iconst 1, 1) := by decide +kernel
theorem dX0_isFitting_63 : decode cX0_isFitting 63 = .ok (.ireturn, 1) := by decide +kernel
theorem dX0_lastIn_0 : decode cX0_lastIn 0 = .ok (.aload_n 0, 1) := by decide +kernel
theorem dX0_lastIn_1 : decode cX0_lastIn 1 = .ok (.getfield 12, 3) := by decide +kernel
theorem dX0_lastIn_4 : decode cX0_lastIn 4 = .ok (.getfield 69, 3) := by decide +kernel
theorem dX0_lastIn_7 : decode cX0_lastIn 7 = .ok (.iconst 1, 1) := by decide +kernel
theorem dX0_lastIn_8 : decode cX0_lastIn 8 = .ok (.isub, 1) := by decide +kernel
theorem dX0_lastIn_9 : decode cX0_lastIn 9 = .ok (.istore_n 2, 1) := by decide +kernel
theorem dX0_lastIn_10 : decode cX0_lastIn 10 = .ok (.iload_n 2, 1) := by decide +kernel
theorem dX0_lastIn_11 : decode cX0_lastIn 11 = .ok (.ifCond .lt 43, 3) := by decide +kernel
theorem dX0_lastIn_14 : decode cX0_lastIn 14 = .ok (.aload_n 0, 1) := by decide +kernel
theorem dX0_lastIn_15 : decode cX0_lastIn 15 = .ok (.getfield 29, 3) := by decide +kernel
theorem dX0_lastIn_18 : decode cX0_lastIn 18 = .ok (.aload_n 0, 1) := by decide +kernel
theorem dX0_lastIn_19 : decode cX0_lastIn 19 = .ok (.getfield 12, 3) := by decide +kernel
theorem dX0_lastIn_22 : decode cX0_lastIn 22 = .ok (.getfield 46, 3) := by decide +kernel
theorem dX0_lastIn_25 : decode cX0_lastIn 25 = .ok (.iload_n 2, 1) := by decide +kernel
theorem dX0_lastIn_26 : decode cX0_lastIn 26 = .ok (.invokestatic 72, 3) := by decide +kernel
theorem dX0_lastIn_29 : decode cX0_lastIn 29 = .ok (.iload_n 1, 1) := by decide +kernel
theorem dX0_lastIn_30 : decode cX0_lastIn 30 = .ok (.invokevirtual 76, 3) := by decide +kernel
theorem dX0_lastIn_33 : decode cX0_lastIn 33 = .ok (.ifCond .eq 15, 3) := by decide +kernel
theorem dX0_lastIn_36 : decode cX0_lastIn 36 = .ok (.aload_n 0, 1) := by decide +kernel
theorem dX0_lastIn_37 : decode cX0_lastIn 37 = .ok (.getfield 12, 3) := by decide +kernel
theorem dX0_lastIn_40 : decode cX0_lastIn 40 = .ok (.getfield 46, 3) := by decide +kernel
theorem dX0_lastIn_43 : decode cX0_lastIn 43 = .ok (.iload_n 2, 1) := by decide +kernel
theorem dX0_lastIn_44 : decode cX0_lastIn 44 = .ok (.invokestatic 72, 3) := by decide +kernel
theorem dX0_lastIn_47 : decode cX0_lastIn 47 = .ok (.ireturn, 1) := by decide +kernel
theorem dX0_lastIn_48 : decode cX0_lastIn 48 = .ok (.iinc 2 (-1), 3) := by decide +kernel
theorem dX0_lastIn_51 : decode cX0_lastIn 51 = .ok (.goto (-41), 3) := by decide +kernel
theorem dX0_lastIn_54 : decode cX0_lastIn 54 = .ok (.bipush (-4), 2) := by decide +kernel
theorem dX0_lastIn_56 : decode cX0_lastIn 56 = .ok (.ireturn, 1) := by decide +kernel
theorem dX1_init_0 : decode cX1_init 0 = .ok (.aload_n 0, 1) := by decide +kernel
theorem dX1_init_1 : decode cX1_init 1 = .ok (.invokespecial 3, 3) := by decide +kernel
theorem dX1_init_4 : decode cX1_init 4 = .ok (.aload_n 0, 1) := by decide +kernel
theorem dX1_init_5 : decode cX1_init 5 = .ok (.iconst 5, 1) := by decide +kernel
theorem dX1_init_6 : decode cX1_init 6 = .ok (.newarray .int, 2) := by decide +kernel
theorem dX1_init_8 : decode cX1_init 8 = .ok (.putfield 9, 3) := by decide +kernel
theorem dX1_init_11 : decode cX1_init 11 = .ok (.aload_n 0, 1) := by decide +kernel
theorem dX1_init_12 : decode cX1_init 12 = .ok (.iconst 0, 1) := by decide +kernel
theorem dX1_init_13 : decode cX1_init 13 = .ok (.putfield 15, 3) := by decide +kernel
theorem dX1_init_16 : decode cX1_init 16 = .ok (.return_, 1) := by decide +kernel
theorem dX1_begin_0 : decode cX1_begin 0 = .ok (.aload_n 0, 1) := by decide +kernel
theorem dX1_begin_1 : decode cX1_begin 1 = .ok (.iload_n 1, 1) := by decide +kernel
theorem dX1_begin_2 : decode cX1_begin 2 = .ok (.iconst 5, 1) := by decide +kernel
theorem dX1_begin_3 : decode cX1_begin 3 = .ok (.invokestatic 19, 3) := by decide +kernel
theorem dX1_begin_6 : decode cX1_begin 6 = .ok (.putfield 15, 3) := by decide +kernel
theorem dX1_begin_9 : decode cX1_begin 9 = .ok (.iconst 0, 1) := by decide +kernel
theorem dX1_begin_10 : decode cX1_begin 10 = .ok (.istore_n 2, 1) := by decide +kernel
theorem dX1_begin_11 : decode cX1_begin 11 = .ok (.iload_n 2, 1) := by decide +kernel
theorem dX1_begin_12 : decode cX1_begin 12 = .ok (.aload_n 0, 1) := by decide +kernel
theorem dX1_begin_13 : decode cX1_begin 13 = .ok (.getfield 9, 3) := by decide +kernel
theorem dX1_begin_16 : decode cX1_begin 16 = .ok (.arraylength, 1) := by decide +kernel
theorem dX1_begin_17 : decode cX1_begin 17 = .ok (.if_icmp .ge 16, 3) := by decide +kernel
theorem dX1_begin_20 : decode cX1_begin 20 = .ok (.aload_n 0, 1) := by decide +kernel
theorem dX1_begin_21 : decode cX1_begin 21 = .ok (.getfield 9, 3) := by decide +kernel
theorem dX1_begin_24 : decode cX1_begin 24 = .ok (.iload_n 2, 1) := by decide +kernel
theorem dX1_begin_25 : decode cX1_begin 25 = .ok (.iload_n 2, 1) := by decide +kernel
theorem dX1_begin_26 : decode cX1_begin 26 = .ok (.iastore, 1) := by decide +kernel
theorem dX1_begin_27 : decode cX1_begin 27 = .ok (.iinc 2 1, 3) := by decide +kernel
theorem dX1_begin_30 : decode cX1_begin 30 = .ok (.goto (-19), 3) := by decide +kernel
theorem dX1_begin_33 : decode cX1_begin 33 = .ok (.return_, 1) := by decide +kernel
theorem dX1_copyOf_0 : decode cX1_copyOf 0 = .ok (.aload_n 0, 1) := by decide +kernel
theorem dX1_copyOf_1 : decode cX1_copyOf 1 = .ok (.aload_n 1, 1) := by decide +kernel
theorem dX1_copyOf_2 : decode cX1_copyOf 2 = .ok (.getfield 15, 3) := by decide +kernel
theorem dX1_copyOf_5 : decode cX1_copyOf 5 = .ok (.putfield 15, 3) := by decide +kernel
theorem dX1_copyOf_8 : decode cX1_copyOf 8 = .ok (.aload_n 1, 1) := by decide +kernel
theorem dX1_copyOf_9 : decode cX1_copyOf 9 = .ok (.getfield 9, 3) := by decide +kernel
theorem dX1_copyOf_12 : decode cX1_copyOf 12 = .ok (.aload_n 0, 1) := by decide +kernel
theorem dX1_copyOf_13 : decode cX1_copyOf 13 = .ok (.getfield 9, 3) := by decide +kernel
theorem dX1_copyOf_16 : decode cX1_copyOf 16 = .ok (.invokestatic 25, 3) := by decide +kernel
theorem dX1_copyOf_19 : decode cX1_copyOf 19 = .ok (.return_, 1) := by decide +kernel
theorem dX1_advance_0 : decode cX1_advance 0 = .ok (.aload_n 0, 1) := by decide +kernel
theorem dX1_advance_1 : decode cX1_advance 1 = .ok (.getfield 15, 3) := by decide +kernel
theorem dX1_advance_4 : decode cX1_advance 4 = .ok (.iconst 2, 1) := by decide +kernel
theorem dX1_advance_5 : decode cX1_advance 5 = .ok (.isub, 1) := by decide +kernel
theorem dX1_advance_6 : decode cX1_advance 6 = .ok (.istore_n 1, 1) := by decide +kernel
theorem dX1_advance_7 : decode cX1_advance 7 = .ok (.iload_n 1, 1) := by decide +kernel
theorem dX1_advance_8 : decode cX1_advance 8 = .ok (.ifCond .lt 30, 3) := by decide +kernel
theorem dX1_advance_11 : decode cX1_advance 11 = .ok (.aload_n 0, 1) := by decide +kernel
theorem dX1_advance_12 : decode cX1_advance 12 = .ok (.getfield 9, 3) := by decide +kernel
theorem dX1_advance_15 : decode cX1_advance 15 = .ok (.iload_n 1, 1) := by decide +kernel
theorem dX1_advance_16 : decode cX1_advance 16 = .ok (.invokestatic 29, 3) := by decide +kernel
theorem dX1_advance_19 : decode cX1_advance 19 = .ok (.aload_n 0, 1) := by decide +kernel
theorem dX1_advance_20 : decode cX1_advance 20 = .ok (.getfield 9, 3) := by decide +kernel
theorem dX1_advance_23 : decode cX1_advance 23 = .ok (.iload_n 1, 1) := by decide +kernel
theorem dX1_advance_24 : decode cX1_advance 24 = .ok (.iconst 1, 1) := by decide +kernel
theorem dX1_advance_25 : decode cX1_advance 25 = .ok (.iadd, 1) := by decide +kernel
theorem dX1_advance_26 : decode cX1_advance 26 = .ok (.invokestatic 29, 3) := by decide +kernel
theorem dX1_advance_29 : decode cX1_advance 29 = .ok (.if_icmp .le 9, 3) := by decide +kernel
theorem dX1_advance_32 : decode cX1_advance 32 = .ok (.iinc 1 (-1), 3) := by decide +kernel
theorem dX1_advance_35 : decode cX1_advance 35 = .ok (.goto (-28), 3) := by decide +kernel
theorem dX1_advance_38 : decode cX1_advance 38 = .ok (.iload_n 1, 1) := by decide +kernel
theorem dX1_advance_39 : decode cX1_advance 39 = .ok (.ifCond .ge 5, 3) := by decide +kernel
theorem dX1_advance_42 : decode cX1_advance 42 = .ok (.iconst 0, 1) := by decide +kernel
theorem dX1_advance_43 : decode cX1_advance 43 = .ok (.ireturn, 1) := by decide +kernel
theorem dX1_advance_44 : decode cX1_advance 44 = .ok (.aload_n 0, 1) := by decide +kernel
theorem dX1_advance_45 : decode cX1_advance 45 = .ok (.getfield 15, 3) := by decide +kernel
theorem dX1_advance_48 : decode cX1_advance 48 = .ok (.iconst 1, 1) := by decide +kernel
theorem dX1_advance_49 : decode cX1_advance 49 = .ok (.isub, 1) := by decide +kernel
theorem dX1_advance_50 : decode cX1_advance 50 = .ok (.istore_n 2, 1) := by decide +kernel
theorem dX1_advance_51 : decode cX1_advance 51 = .ok (.iload_n 2, 1) := by decide +kernel
theorem dX1_advance_52 : decode cX1_advance 52 = .ok (.iload_n 1, 1) := by decide +kernel
theorem dX1_advance_53 : decode cX1_advance 53 = .ok (.if_icmp .le 28, 3) := by decide +kernel
theorem dX1_advance_56 : decode cX1_advance 56 = .ok (.aload_n 0, 1) := by decide +kernel
theorem dX1_advance_57 : decode cX1_advance 57 = .ok (.getfield 9, 3) := by decide +kernel
theorem dX1_advance_60 : decode cX1_advance 60 = .ok (.iload_n 2, 1) := by decide +kernel
theorem dX1_advance_61 : decode cX1_advance 61 = .ok (.invokestatic 29, 3) := by decide +kernel
theorem dX1_advance_64 : decode cX1_advance 64 = .ok (.aload_n 0, 1) := by decide +kernel
theorem dX1_advance_65 : decode cX1_advance 65 = .ok (.getfield 9, 3) := by decide +kernel
theorem dX1_advance_68 : decode cX1_advance 68 = .ok (.iload_n 1, 1) := by decide +kernel
theorem dX1_advance_69 : decode cX1_advance 69 = .ok (.invokestatic 29, 3) := by decide +kernel
theorem dX1_advance_72 : decode cX1_advance 72 = .ok (.if_icmp .ge 9, 3) := by decide +kernel
theorem dX1_advance_75 : decode cX1_advance 75 = .ok (.iinc 2 (-1), 3) := by decide +kernel
theorem dX1_advance_78 : decode cX1_advance 78 = .ok (.goto (-27), 3) := by decide +kernel
theorem dX1_advance_81 : decode cX1_advance 81 = .ok (.aload_n 0, 1) := by decide +kernel
theorem dX1_advance_82 : decode cX1_advance 82 = .ok (.iload_n 1, 1) := by decide +kernel
theorem dX1_advance_83 : decode cX1_advance 83 = .ok (.iload_n 2, 1) := by decide +kernel
theorem dX1_advance_84 : decode cX1_advance 84 = .ok (.invokevirtual 33, 3) := by decide +kernel
theorem dX1_advance_87 : decode cX1_advance 87 = .ok (.aload_n 0, 1) := by decide +kernel
theorem dX1_advance_88 : decode cX1_advance 88 = .ok (.getfield 15, 3) := by decide +kernel
theorem dX1_advance_91 : decode cX1_advance 91 = .ok (.iconst 1, 1) := by decide +kernel
theorem dX1_advance_92 : decode cX1_advance 92 = .ok (.isub, 1) := by decide +kernel
theorem dX1_advance_93 : decode cX1_advance 93 = .ok (.istore_n 3, 1) := by decide +kernel
theorem dX1_advance_94 : decode cX1_advance 94 = .ok (.iload_n 1, 1) := by decide +kernel
theorem dX1_advance_95 : decode cX1_advance 95 = .ok (.iconst 1, 1) := by decide +kernel
theorem dX1_advance_96 : decode cX1_advance 96 = .ok (.iadd, 1) := by decide +kernel
theorem dX1_advance_97 : decode cX1_advance 97 = .ok (.istore 4, 2) := by decide +kernel
theorem dX1_advance_99 : decode cX1_advance 99 = .ok (.iload 4, 2) := by decide +kernel
theorem dX1_advance_101 : decode cX1_advance 101 = .ok (.iload_n 3, 1) := by decide +kernel
theorem dX1_advance_102 : decode cX1_advance 102 = .ok (.if_icmp .ge 19, 3) := by decide +kernel
theorem dX1_advance_105 : decode cX1_advance 105 = .ok (.aload_n 0, 1) := by decide +kernel
theorem dX1_advance_106 : decode cX1_advance 106 = .ok (.iload 4, 2) := by decide +kernel
theorem dX1_advance_108 : decode cX1_advance 108 = .ok (.iload_n 3, 1) := by decide +kernel
theorem dX1_advance_109 : decode cX1_advance 109 = .ok (.invokevirtual 33, 3) := by decide +kernel
theorem dX1_advance_112 : decode cX1_advance 112 = .ok (.iinc 3 (-1), 3) := by decide +kernel
theorem dX1_advance_115 : decode cX1_advance 115 = .ok (.iinc 4 1, 3) := by decide +kernel
theorem dX1_advance_118 : decode cX1_advance 118 = .ok (.goto (-19), 3) := by decide +kernel
theorem dX1_advance_121 : decode cX1_advance 121 = .ok (.iconst 1, 1) := by decide +kernel
theorem dX1_advance_122 : decode cX1_advance 122 = .ok (.ireturn, 1) := by decide +kernel
theorem dX1_exchange_0 : decode cX1_exchange 0 = .ok (.aload_n 0, 1) := by decide +kernel
theorem dX1_exchange_1 : decode cX1_exchange 1 = .ok (.getfield 9, 3) := by decide +kernel
theorem dX1_exchange_4 : decode cX1_exchange 4 = .ok (.iload_n 1, 1) := by decide +kernel
theorem dX1_exchange_5 : decode cX1_exchange 5 = .ok (.aload_n 0, 1) := by decide +kernel
theorem dX1_exchange_6 : decode cX1_exchange 6 = .ok (.getfield 9, 3) := by decide +kernel
theorem dX1_exchange_9 : decode cX1_exchange 9 = .ok (.iload_n 2, 1) := by decide +kernel
theorem dX1_exchange_10 : decode cX1_exchange 10 = .ok (.aload_n 0, 1) := by decide +kernel
theorem dX1_exchange_11 : decode cX1_exchange 11 = .ok (.getfield 9, 3) := by decide +kernel
theorem dX1_exchange_14 : decode cX1_exchange 14 = .ok (.iload_n 1, 1) := by decide +kernel
theorem dX1_exchange_15 : decode cX1_exchange 15 = .ok (.invokestatic 29, 3) := by decide +kernel
theorem dX1_exchange_18 : decode cX1_exchange 18 = .ok (.invokestatic 37, 3) := by decide +kernel
theorem dX1_exchange_21 : decode cX1_exchange 21 = .ok (.invokestatic 41, 3) := by decide +kernel
theorem dX1_exchange_24 : decode cX1_exchange 24 = .ok (.return_, 1) := by decide +kernel
theorem dX2_init_0 : decode cX2_init 0 = .ok (.aload_n 0, 1) := by decide +kernel
theorem dX2_init_1 : decode cX2_init 1 = .ok (.invokespecial 3, 3) := by decide +kernel
theorem dX2_init_4 : decode cX2_init 4 = .ok (.aload_n 0, 1) := by decide +kernel
theorem dX2_init_5 : decode cX2_init 5 = .ok (.new 9, 3) := by decide +kernel
theorem dX2_init_8 : decode cX2_init 8 = .ok (.dup, 1) := by decide +kernel
theorem dX2_init_9 : decode cX2_init 9 = .ok (.invokespecial 11, 3) := by decide +kernel
theorem dX2_init_12 : decode cX2_init 12 = .ok (.putfield 12, 3) := by decide +kernel
theorem dX2_init_15 : decode cX2_init 15 = .ok (.aload_n 0, 1) := by decide +kernel
theorem dX2_init_16 : decode cX2_init 16 = .ok (.new 9, 3) := by decide +kernel
theorem dX2_init_19 : decode cX2_init 19 = .ok (.dup, 1) := by decide +kernel
theorem dX2_init_20 : decode cX2_init 20 = .ok (.invokespecial 11, 3) := by decide +kernel
theorem dX2_init_23 : decode cX2_init 23 = .ok (.putfield 18, 3) := by decide +kernel
theorem dX2_init_26 : decode cX2_init 26 = .ok (.aload_n 0, 1) := by decide +kernel
theorem dX2_init_27 : decode cX2_init 27 = .ok (.iconst 0, 1) := by decide +kernel
theorem dX2_init_28 : decode cX2_init 28 = .ok (.putfield 21, 3) := by decide +kernel
theorem dX2_init_31 : decode cX2_init 31 = .ok (.aload_n 0, 1) := by decide +kernel
theorem dX2_init_32 : decode cX2_init 32 = .ok (.iconst 0, 1) := by decide +kernel
theorem dX2_init_33 : decode cX2_init 33 = .ok (.putfield 25, 3) := by decide +kernel
theorem dX2_init_36 : decode cX2_init 36 = .ok (.aload_n 0, 1) := by decide +kernel
theorem dX2_init_37 : decode cX2_init 37 = .ok (.bipush (-4), 2) := by decide +kernel
theorem dX2_init_39 : decode cX2_init 39 = .ok (.putfield 28, 3) := by decide +kernel
theorem dX2_init_42 : decode cX2_init 42 = .ok (.aload_n 0, 1) := by decide +kernel
theorem dX2_init_43 : decode cX2_init 43 = .ok (.bipush (-4), 2) := by decide +kernel
theorem dX2_init_45 : decode cX2_init 45 = .ok (.putfield 32, 3) := by decide +kernel
theorem dX2_init_48 : decode cX2_init 48 = .ok (.aload_n 0, 1) := by decide +kernel
theorem dX2_init_49 : decode cX2_init 49 = .ok (.bipush (-4), 2) := by decide +kernel
theorem dX2_init_51 : decode cX2_init 51 = .ok (.putfield 35, 3) := by decide +kernel
theorem dX2_init_54 : decode cX2_init 54 = .ok (.aload_n 0, 1) := by decide +kernel
theorem dX2_init_55 : decode cX2_init 55 = .ok (.bipush (-4), 2) := by decide +kernel
theorem dX2_init_57 : decode cX2_init 57 = .ok (.putfield 38, 3) := by decide +kernel
theorem dX2_init_60 : decode cX2_init 60 = .ok (.aload_n 0, 1) := by decide +kernel
theorem dX2_init_61 : decode cX2_init 61 = .ok (.aload_n 1, 1) := by decide +kernel
theorem dX2_init_62 : decode cX2_init 62 = .ok (.putfield 41, 3) := by decide +kernel
theorem dX2_init_65 : decode cX2_init 65 = .ok (.aload_n 0, 1) := by decide +kernel
theorem dX2_init_66 : decode cX2_init 66 = .ok (.aload_n 2, 1) := by decide +kernel
theorem dX2_init_67 : decode cX2_init 67 = .ok (.putfield 45, 3) := by decide +kernel
theorem dX2_init_70 : decode cX2_init 70 = .ok (.return_, 1) := by decide +kernel
theorem dX2_drop_0 : decode cX2_drop 0 = .ok (.aload_n 0, 1) := by decide +kernel
theorem dX2_drop_1 : decode cX2_drop 1 = .ok (.iconst 0, 1) := by decide +kernel
theorem dX2_drop_2 : decode cX2_drop 2 = .ok (.putfield 21, 3) := by decide +kernel
theorem dX2_drop_5 : decode cX2_drop 5 = .ok (.aload_n 0, 1) := by decide +kernel
theorem dX2_drop_6 : decode cX2_drop 6 = .ok (.iconst 0, 1) := by decide +kernel
theorem dX2_drop_7 : decode cX2_drop 7 = .ok (.putfield 25, 3) := by decide +kernel
theorem dX2_drop_10 : decode cX2_drop 10 = .ok (.return_, 1) := by decide +kernel
theorem dX2_findOrder_0 : decode cX2_findOrder 0 = .ok (.aload_n 0, 1) := by decide +kernel
theorem dX2_findOrder_1 : decode cX2_findOrder 1 = .ok (.getfield 21, 3) := by decide +kernel
theorem dX2_findOrder_4 : decode cX2_findOrder 4 = .ok (.ifCond .eq 4, 3) := by decide +kernel
theorem dX2_findOrder_7 : decode cX2_findOrder 7 = .ok (.return_, 1) := by decide +kernel
theorem dX2_findOrder_8 : decode cX2_findOrder 8 = .ok (.aload_n 0, 1) := by decide +kernel
theorem dX2_findOrder_9 : decode cX2_findOrder 9 = .ok (.iconst 1, 1) := by decide +kernel
theorem dX2_findOrder_10 : decode cX2_findOrder 10 = .ok (.putfield 21, 3) := by decide +kernel
theorem dX2_findOrder_13 : decode cX2_findOrder 13 = .ok (.aload_n 0, 1) := by decide +kernel
theorem dX2_findOrder_14 : decode cX2_findOrder 14 = .ok (.bipush (-4), 2) := by decide +kernel
theorem dX2_findOrder_16 : decode cX2_findOrder 16 = .ok (.putfield 28, 3) := by decide +kernel
theorem dX2_findOrder_19 : decode cX2_findOrder 19 = .ok (.aload_n 0, 1) := by decide +kernel
theorem dX2_findOrder_20 : decode cX2_findOrder 20 = .ok (.getfield 12, 3) := by decide +kernel
theorem dX2_findOrder_23 : decode cX2_findOrder 23 = .ok (.aload_n 0, 1) := by decide +kernel
theorem dX2_findOrder_24 : decode cX2_findOrder 24 = .ok (.getfield 41, 3) := by decide +kernel
theorem dX2_findOrder_27 : decode cX2_findOrder 27 = .ok (.getfield 49, 3) := by decide +kernel
theorem dX2_findOrder_30 : decode cX2_findOrder 30 = .ok (.invokevirtual 54, 3) := by decide +kernel
theorem dX2_findOrder_33 : decode cX2_findOrder 33 = .ok (.iconst 0, 1) := by decide +kernel
theorem dX2_findOrder_34 : decode cX2_findOrder 34 = .ok (.istore_n 1, 1) := by decide +kernel
theorem dX2_findOrder_35 : decode cX2_findOrder 35 = .ok (.iload_n 1, 1) := by decide +kernel
theorem dX2_findOrder_36 : decode cX2_findOrder 36 = .ok (.bipush 120, 2) := by decide +kernel
theorem dX2_findOrder_38 : decode cX2_findOrder 38 = .ok (.if_icmp .ge 83, 3) := by decide +kernel
theorem dX2_findOrder_41 : decode cX2_findOrder 41 = .ok (.aload_n 0, 1) := by decide +kernel
theorem dX2_findOrder_42 : decode cX2_findOrder 42 = .ok (.getfield 45, 3) := by decide +kernel
theorem dX2_findOrder_45 : decode cX2_findOrder 45 = .ok (.aload_n 0, 1) := by decide +kernel
theorem dX2_findOrder_46 : decode cX2_findOrder 46 = .ok (.getfield 12, 3) := by decide +kernel
theorem dX2_findOrder_49 : decode cX2_findOrder 49 = .ok (.bipush (-4), 2) := by decide +kernel
theorem dX2_findOrder_51 : decode cX2_findOrder 51 = .ok (.bipush (-4), 2) := by decide +kernel
theorem dX2_findOrder_53 : decode cX2_findOrder 53 = .ok (.invokevirtual 58, 3) := by decide +kernel
theorem dX2_findOrder_56 : decode cX2_findOrder 56 = .ok (.ifCond .eq 48, 3) := by decide +kernel
theorem dX2_findOrder_59 : decode cX2_findOrder 59 = .ok (.aload_n 0, 1) := by decide +kernel
theorem dX2_findOrder_60 : decode cX2_findOrder 60 = .ok (.getfield 28, 3) := by decide +kernel
theorem dX2_findOrder_63 : decode cX2_findOrder 63 = .ok (.bipush (-4), 2) := by decide +kernel
theorem dX2_findOrder_65 : decode cX2_findOrder 65 = .ok (.if_icmp .eq 17, 3) := by decide +kernel
theorem dX2_findOrder_68 : decode cX2_findOrder 68 = .ok (.aload_n 0, 1) := by decide +kernel
theorem dX2_findOrder_69 : decode cX2_findOrder 69 = .ok (.getfield 45, 3) := by decide +kernel
theorem dX2_findOrder_72 : decode cX2_findOrder 72 = .ok (.invokevirtual 64, 3) := by decide +kernel
theorem dX2_findOrder_75 : decode cX2_findOrder 75 = .ok (.aload_n 0, 1) := by decide +kernel
theorem dX2_findOrder_76 : decode cX2_findOrder 76 = .ok (.getfield 28, 3) := by decide +kernel
theorem dX2_findOrder_79 : decode cX2_findOrder 79 = .ok (.if_icmp .ge 25, 3) := by decide +kernel
theorem dX2_findOrder_82 : decode cX2_findOrder 82 = .ok (.aload_n 0, 1) := by decide +kernel
theorem dX2_findOrder_83 : decode cX2_findOrder 83 = .ok (.aload_n 0, 1) := by decide +kernel
theorem dX2_findOrder_84 : decode cX2_findOrder 84 = .ok (.getfield 45, 3) := by decide +kernel
theorem dX2_findOrder_87 : decode cX2_findOrder 87 = .ok (.invokevirtual 64, 3) := by decide +kernel
theorem dX2_findOrder_90 : decode cX2_findOrder 90 = .ok (.putfield 28, 3) := by decide +kernel
theorem dX2_findOrder_93 : decode cX2_findOrder 93 = .ok (.aload_n 0, 1) := by decide +kernel
theorem dX2_findOrder_94 : decode cX2_findOrder 94 = .ok (.getfield 18, 3) := by decide +kernel
theorem dX2_findOrder_97 : decode cX2_findOrder 97 = .ok (.aload_n 0, 1) := by decide +kernel
theorem dX2_findOrder_98 : decode cX2_findOrder 98 = .ok (.getfield 12, 3) := by decide +kernel
theorem dX2_findOrder_101 : decode cX2_findOrder 101 = .ok (.invokevirtual 68, 3) := by decide +kernel
theorem dX2_findOrder_104 : decode cX2_findOrder 104 = .ok (.aload_n 0, 1) := by decide +kernel
theorem dX2_findOrder_105 : decode cX2_findOrder 105 = .ok (.getfield 12, 3) := by decide +kernel
theorem dX2_findOrder_108 : decode cX2_findOrder 108 = .ok (.invokevirtual 72, 3) := by decide +kernel
theorem dX2_findOrder_111 : decode cX2_findOrder 111 = .ok (.ifCond .ne 4, 3) := by decide +kernel
theorem dX2_findOrder_114 : decode cX2_findOrder 114 = .ok (.return_, 1) := by decide +kernel
theorem dX2_findOrder_115 : decode cX2_findOrder 115 = .ok (.iinc 1 1, 3) := by decide +kernel
theorem dX2_findOrder_118 : decode cX2_findOrder 118 = .ok (.goto (-83), 3) := by decide +kernel
theorem dX2_findOrder_121 : decode cX2_findOrder 121 = .ok (.return_, 1) := by decide +kernel
theorem dX2_findMending_0 : decode cX2_findMending 0 = .ok (.aload_n 0, 1) := by decide +kernel
theorem dX2_findMending_1 : decode cX2_findMending 1 = .ok (.getfield 25, 3) := by decide +kernel
theorem dX2_findMending_4 : decode cX2_findMending 4 = .ok (.ifCond .eq 4, 3) := by decide +kernel
theorem dX2_findMending_7 : decode cX2_findMending 7 = .ok (.return_, 1) := by decide +kernel
theorem dX2_findMending_8 : decode cX2_findMending 8 = .ok (.aload_n 0, 1) := by decide +kernel
theorem dX2_findMending_9 : decode cX2_findMending 9 = .ok (.iconst 1, 1) := by decide +kernel
theorem dX2_findMending_10 : decode cX2_findMending 10 = .ok (.putfield 25, 3) := by decide +kernel
theorem dX2_findMending_13 : decode cX2_findMending 13 = .ok (.aload_n 0, 1) := by decide +kernel
theorem dX2_findMending_14 : decode cX2_findMending 14 = .ok (.getfield 12, 3) := by decide +kernel
theorem dX2_findMending_17 : decode cX2_findMending 17 = .ok (.aload_n 0, 1) := by decide +kernel
theorem dX2_findMending_18 : decode cX2_findMending 18 = .ok (.getfield 41, 3) := by decide +kernel
theorem dX2_findMending_21 : decode cX2_findMending 21 = .ok (.getfield 49, 3) := by decide +kernel
theorem dX2_findMending_24 : decode cX2_findMending 24 = .ok (.invokevirtual 54, 3) := by decide +kernel
theorem dX2_findMending_27 : decode cX2_findMending 27 = .ok (.aload_n 0, 1) := by decide +kernel
theorem dX2_findMending_28 : decode cX2_findMending 28 = .ok (.iconst 0, 1) := by decide +kernel
theorem dX2_findMending_29 : decode cX2_findMending 29 = .ok (.bipush (-4), 2) := by decide +kernel
theorem dX2_findMending_31 : decode cX2_findMending 31 = .ok (.bipush (-4), 2) := by decide +kernel
theorem dX2_findMending_33 : decode cX2_findMending 33 = .ok (.invokevirtual 76, 3) := by decide +kernel
theorem dX2_findMending_36 : decode cX2_findMending 36 = .ok (.aload_n 0, 1) := by decide +kernel
theorem dX2_findMending_37 : decode cX2_findMending 37 = .ok (.getfield 45, 3) := by decide +kernel
theorem dX2_findMending_40 : decode cX2_findMending 40 = .ok (.aload_n 0, 1) := by decide +kernel
theorem dX2_findMending_41 : decode cX2_findMending 41 = .ok (.getfield 12, 3) := by decide +kernel
theorem dX2_findMending_44 : decode cX2_findMending 44 = .ok (.bipush (-4), 2) := by decide +kernel
theorem dX2_findMending_46 : decode cX2_findMending 46 = .ok (.bipush (-4), 2) := by decide +kernel
theorem dX2_findMending_48 : decode cX2_findMending 48 = .ok (.invokevirtual 58, 3) := by decide +kernel
theorem dX2_findMending_51 : decode cX2_findMending 51 = .ok (.ifCond .eq 4, 3) := by decide +kernel
theorem dX2_findMending_54 : decode cX2_findMending 54 = .ok (.return_, 1) := by decide +kernel
theorem dX2_findMending_55 : decode cX2_findMending 55 = .ok (.iconst 0, 1) := by decide +kernel
theorem dX2_findMending_56 : decode cX2_findMending 56 = .ok (.istore_n 1, 1) := by decide +kernel
theorem dX2_findMending_57 : decode cX2_findMending 57 = .ok (.iload_n 1, 1) := by decide +kernel
theorem dX2_findMending_58 : decode cX2_findMending 58 = .ok (.aload_n 0, 1) := by decide +kernel
theorem dX2_findMending_59 : decode cX2_findMending 59 = .ok (.getfield 41, 3) := by decide +kernel
theorem dX2_findMending_62 : decode cX2_findMending 62 = .ok (.getfield 80, 3) := by decide +kernel
theorem dX2_findMending_65 : decode cX2_findMending 65 = .ok (.if_icmp .gt 43, 3) := by decide +kernel
theorem dX2_findMending_68 : decode cX2_findMending 68 = .ok (.aload_n 0, 1) := by decide +kernel
theorem dX2_findMending_69 : decode cX2_findMending 69 = .ok (.iconst 1, 1) := by decide +kernel
theorem dX2_findMending_70 : decode cX2_findMending 70 = .ok (.iload_n 1, 1) := by decide +kernel
theorem dX2_findMending_71 : decode cX2_findMending 71 = .ok (.bipush (-4), 2) := by decide +kernel
theorem dX2_findMending_73 : decode cX2_findMending 73 = .ok (.invokevirtual 76, 3) := by decide +kernel
theorem dX2_findMending_76 : decode cX2_findMending 76 = .ok (.aload_n 0, 1) := by decide +kernel
theorem dX2_findMending_77 : decode cX2_findMending 77 = .ok (.iload_n 1, 1) := by decide +kernel
theorem dX2_findMending_78 : decode cX2_findMending 78 = .ok (.invokevirtual 83, 3) := by decide +kernel
theorem dX2_findMending_81 : decode cX2_findMending 81 = .ok (.ifCond .eq 21, 3) := by decide +kernel
theorem dX2_findMending_84 : decode cX2_findMending 84 = .ok (.aload_n 0, 1) := by decide +kernel
theorem dX2_findMending_85 : decode cX2_findMending 85 = .ok (.getfield 45, 3) := by decide +kernel
theorem dX2_findMending_88 : decode cX2_findMending 88 = .ok (.aload_n 0, 1) := by decide +kernel
theorem dX2_findMending_89 : decode cX2_findMending 89 = .ok (.getfield 12, 3) := by decide +kernel
theorem dX2_findMending_92 : decode cX2_findMending 92 = .ok (.iload_n 1, 1) := by decide +kernel
theorem dX2_findMending_93 : decode cX2_findMending 93 = .ok (.bipush (-4), 2) := by decide +kernel
theorem dX2_findMending_95 : decode cX2_findMending 95 = .ok (.invokevirtual 58, 3) := by decide +kernel
theorem dX2_findMending_98 : decode cX2_findMending 98 = .ok (.ifCond .eq 4, 3) := by decide +kernel
theorem dX2_findMending_101 : decode cX2_findMending 101 = .ok (.return_, 1) := by decide +kernel
theorem dX2_findMending_102 : decode cX2_findMending 102 = .ok (.iinc 1 1, 3) := by decide +kernel
theorem dX2_findMending_105 : decode cX2_findMending 105 = .ok (.goto (-48), 3) := by decide +kernel
theorem dX2_findMending_108 : decode cX2_findMending 108 = .ok (.iconst 0, 1) := by decide +kernel
theorem dX2_findMending_109 : decode cX2_findMending 109 = .ok (.istore_n 1, 1) := by decide +kernel
theorem dX2_findMending_110 : decode cX2_findMending 110 = .ok (.iload_n 1, 1) := by decide +kernel
theorem dX2_findMending_111 : decode cX2_findMending 111 = .ok (.aload_n 0, 1) := by decide +kernel
theorem dX2_findMending_112 : decode cX2_findMending 112 = .ok (.getfield 41, 3) := by decide +kernel
theorem dX2_findMending_115 : decode cX2_findMending 115 = .ok (.getfield 80, 3) := by decide +kernel
theorem dX2_findMending_118 : decode cX2_findMending 118 = .ok (.if_icmp .gt 70, 3) := by decide +kernel
theorem dX2_findMending_121 : decode cX2_findMending 121 = .ok (.iload_n 1, 1) := by decide +kernel
theorem dX2_findMending_122 : decode cX2_findMending 122 = .ok (.iconst 1, 1) := by decide +kernel
theorem dX2_findMending_123 : decode cX2_findMending 123 = .ok (.iadd, 1) := by decide +kernel
theorem dX2_findMending_124 : decode cX2_findMending 124 = .ok (.istore_n 2, 1) := by decide +kernel
theorem dX2_findMending_125 : decode cX2_findMending 125 = .ok (.aload_n 0, 1) := by decide +kernel
theorem dX2_findMending_126 : decode cX2_findMending 126 = .ok (.iload_n 1, 1) := by decide +kernel
theorem dX2_findMending_127 : decode cX2_findMending 127 = .ok (.invokevirtual 83, 3) := by decide +kernel
theorem dX2_findMending_130 : decode cX2_findMending 130 = .ok (.ifCond .eq 52, 3) := by decide +kernel
theorem dX2_findMending_133 : decode cX2_findMending 133 = .ok (.iload_n 2, 1) := by decide +kernel
theorem dX2_findMending_134 : decode cX2_findMending 134 = .ok (.aload_n 0, 1) := by decide +kernel
theorem dX2_findMending_135 : decode cX2_findMending 135 = .ok (.getfield 41, 3) := by decide +kernel
theorem dX2_findMending_138 : decode cX2_findMending 138 = .ok (.getfield 80, 3) := by decide +kernel
theorem dX2_findMending_141 : decode cX2_findMending 141 = .ok (.if_icmp .gt 41, 3) := by decide +kernel
theorem dX2_findMending_144 : decode cX2_findMending 144 = .ok (.aload_n 0, 1) := by decide +kernel
theorem dX2_findMending_145 : decode cX2_findMending 145 = .ok (.iconst 2, 1) := by decide +kernel
theorem dX2_findMending_146 : decode cX2_findMending 146 = .ok (.iload_n 1, 1) := by decide +kernel
theorem dX2_findMending_147 : decode cX2_findMending 147 = .ok (.iload_n 2, 1) := by decide +kernel
theorem dX2_findMending_148 : decode cX2_findMending 148 = .ok (.invokevirtual 76, 3) := by decide +kernel
theorem dX2_findMending_151 : decode cX2_findMending 151 = .ok (.aload_n 0, 1) := by decide +kernel
theorem dX2_findMending_152 : decode cX2_findMending 152 = .ok (.iload_n 2, 1) := by decide +kernel
theorem dX2_findMending_153 : decode cX2_findMending 153 = .ok (.invokevirtual 83, 3) := by decide +kernel
theorem dX2_findMending_156 : decode cX2_findMending 156 = .ok (.ifCond .eq 20, 3) := by decide +kernel
theorem dX2_findMending_159 : decode cX2_findMending 159 = .ok (.aload_n 0, 1) := by decide +kernel
theorem dX2_findMending_160 : decode cX2_findMending 160 = .ok (.getfield 45, 3) := by decide +kernel
theorem dX2_findMending_163 : decode cX2_findMending 163 = .ok (.aload_n 0, 1) := by decide +kernel
theorem dX2_findMending_164 : decode cX2_findMending 164 = .ok (.getfield 12, 3) := by decide +kernel
theorem dX2_findMending_167 : decode cX2_findMending 167 = .ok (.iload_n 1, 1) := by decide +kernel
theorem dX2_findMending_168 : decode cX2_findMending 168 = .ok (.iload_n 2, 1) := by decide +kernel
theorem dX2_findMending_169 : decode cX2_findMending 169 = .ok (.invokevirtual 58, 3) := by decide +kernel
theorem dX2_findMending_172 : decode cX2_findMending 172 = .ok (.ifCond .eq 4, 3) := by decide +kernel
theorem dX2_findMending_175 : decode cX2_findMending 175 = .ok (.return_, 1) := by decide +kernel
theorem dX2_findMending_176 : decode cX2_findMending 176 = .ok (.iinc 2 1, 3) := by decide +kernel
theorem dX2_findMending_179 : decode cX2_findMending 179 = .ok (.goto (-54), 3) := by decide +kernel
theorem dX2_findMending_182 : decode cX2_findMending 182 = .ok (.iinc 1 1, 3) := by decide +kernel
theorem dX2_findMending_185 : decode cX2_findMending 185 = .ok (.goto (-75), 3) := by decide +kernel
theorem dX2_findMending_188 : decode cX2_findMending 188 = .ok (.aload_n 0, 1) := by decide +kernel
theorem dX2_findMending_189 : decode cX2_findMending 189 = .ok (.bipush (-4), 2) := by decide +kernel
theorem dX2_findMending_191 : decode cX2_findMending 191 = .ok (.bipush (-4), 2) := by decide +kernel
theorem dX2_findMending_193 : decode cX2_findMending 193 = .ok (.bipush (-4), 2) := by decide +kernel
theorem dX2_findMending_195 : decode cX2_findMending 195 = .ok (.invokevirtual 76, 3) := by decide +kernel
theorem dX2_findMending_198 : decode cX2_findMending 198 = .ok (.return_, 1) := by decide +kernel
theorem dX2_setMending_0 : decode cX2_setMending 0 = .ok (.aload_n 0, 1) := by decide +kernel
theorem dX2_setMending_1 : decode cX2_setMending 1 = .ok (.iload_n 1, 1) := by decide +kernel
theorem dX2_setMending_2 : decode cX2_setMending 2 = .ok (.putfield 32, 3) := by decide +kernel
theorem dX2_setMending_5 : decode cX2_setMending 5 = .ok (.aload_n 0, 1) := by decide +kernel
theorem dX2_setMending_6 : decode cX2_setMending 6 = .ok (.iload_n 2, 1) := by decide +kernel
theorem dX2_setMending_7 : decode cX2_setMending 7 = .ok (.putfield 35, 3) := by decide +kernel
theorem dX2_setMending_10 : decode cX2_setMending 10 = .ok (.aload_n 0, 1) := by decide +kernel
theorem dX2_setMending_11 : decode cX2_setMending 11 = .ok (.iload_n 3, 1) := by decide +kernel
theorem dX2_setMending_12 : decode cX2_setMending 12 = .ok (.putfield 38, 3) := by decide +kernel
theorem dX2_setMending_15 : decode cX2_setMending 15 = .ok (.return_, 1) := by decide +kernel
theorem dX2_isWorn_0 : decode cX2_isWorn 0 = .ok (.iconst 0, 1) := by decide +kernel
theorem dX2_isWorn_1 : decode cX2_isWorn 1 = .ok (.istore_n 2, 1) := by decide +kernel
theorem dX2_isWorn_2 : decode cX2_isWorn 2 = .ok (.iload_n 2, 1) := by decide +kernel
theorem dX2_isWorn_3 : decode cX2_isWorn 3 = .ok (.iconst 3, 1) := by decide +kernel
theorem dX2_isWorn_4 : decode cX2_isWorn 4 = .ok (.if_icmp .ge 29, 3) := by decide +kernel
theorem dX2_isWorn_7 : decode cX2_isWorn 7 = .ok (.aload_n 0, 1) := by decide +kernel
theorem dX2_isWorn_8 : decode cX2_isWorn 8 = .ok (.getfield 41, 3) := by decide +kernel
theorem dX2_isWorn_11 : decode cX2_isWorn 11 = .ok (.getfield 87, 3) := by decide +kernel
theorem dX2_isWorn_14 : decode cX2_isWorn 14 = .ok (.iload_n 1, 1) := by decide +kernel
theorem dX2_isWorn_15 : decode cX2_isWorn 15 = .ok (.iload_n 2, 1) := by decide +kernel
theorem dX2_isWorn_16 : decode cX2_isWorn 16 = .ok (.invokestatic 91, 3) := by decide +kernel
theorem dX2_isWorn_19 : decode cX2_isWorn 19 = .ok (.invokestatic 95, 3) := by decide +kernel
theorem dX2_isWorn_22 : decode cX2_isWorn 22 = .ok (.ifCond .le 5, 3) := by decide +kernel
theorem dX2_isWorn_25 : decode cX2_isWorn 25 = .ok (.iconst 1, 1) := by decide +kernel
theorem dX2_isWorn_26 : decode cX2_isWorn 26 = .ok (.ireturn, 1) := by decide +kernel
theorem dX2_isWorn_27 : decode cX2_isWorn 27 = .ok (.iinc 2 1, 3) := by decide +kernel
theorem dX2_isWorn_30 : decode cX2_isWorn 30 = .ok (.goto (-28), 3) := by decide +kernel
theorem dX2_isWorn_33 : decode cX2_isWorn 33 = .ok (.iconst 0, 1) := by decide +kernel
theorem dX2_isWorn_34 : decode cX2_isWorn 34 = .ok (.ireturn, 1) := by decide +kernel
theorem dX3_init_0 : decode cX3_init 0 = .ok (.aload_n 0, 1) := by decide +kernel
theorem dX3_init_1 : decode cX3_init 1 = .ok (.invokespecial 3, 3) := by decide +kernel
theorem dX3_init_4 : decode cX3_init 4 = .ok (.aload_n 0, 1) := by decide +kernel
theorem dX3_init_5 : decode cX3_init 5 = .ok (.sipush 400, 3) := by decide +kernel
theorem dX3_init_8 : decode cX3_init 8 = .ok (.newarray .byte, 2) := by decide +kernel
theorem dX3_init_10 : decode cX3_init 10 = .ok (.putfield 9, 3) := by decide +kernel
theorem dX3_init_13 : decode cX3_init 13 = .ok (.aload_n 0, 1) := by decide +kernel
theorem dX3_init_14 : decode cX3_init 14 = .ok (.iconst 0, 1) := by decide +kernel
theorem dX3_init_15 : decode cX3_init 15 = .ok (.putfield 15, 3) := by decide +kernel
theorem dX3_init_18 : decode cX3_init 18 = .ok (.aload_n 0, 1) := by decide +kernel
theorem dX3_init_19 : decode cX3_init 19 = .ok (.new 19, 3) := by decide +kernel
theorem dX3_init_22 : decode cX3_init 22 = .ok (.dup, 1) := by decide +kernel
theorem dX3_init_23 : decode cX3_init 23 = .ok (.invokespecial 21, 3) := by decide +kernel
theorem dX3_init_26 : decode cX3_init 26 = .ok (.putfield 22, 3) := by decide +kernel
theorem dX3_init_29 : decode cX3_init 29 = .ok (.aload_n 0, 1) := by decide +kernel
theorem dX3_init_30 : decode cX3_init 30 = .ok (.iconst 0, 1) := by decide +kernel
theorem dX3_init_31 : decode cX3_init 31 = .ok (.putfield 26, 3) := by decide +kernel
theorem dX3_init_34 : decode cX3_init 34 = .ok (.aload_n 0, 1) := by decide +kernel
theorem dX3_init_35 : decode cX3_init 35 = .ok (.iconst 0, 1) := by decide +kernel
theorem dX3_init_36 : decode cX3_init 36 = .ok (.putfield 29, 3) := by decide +kernel
theorem dX3_init_39 : decode cX3_init 39 = .ok (.aload_n 0, 1) := by decide +kernel
theorem dX3_init_40 : decode cX3_init 40 = .ok (.iconst 0, 1) := by decide +kernel
theorem dX3_init_41 : decode cX3_init 41 = .ok (.putfield 32, 3) := by decide +kernel
theorem dX3_init_44 : decode cX3_init 44 = .ok (.aload_n 0, 1) := by decide +kernel
theorem dX3_init_45 : decode cX3_init 45 = .ok (.iconst 0, 1) := by decide +kernel
theorem dX3_init_46 : decode cX3_init 46 = .ok (.putfield 35, 3) := by decide +kernel
theorem dX3_init_49 : decode cX3_init 49 = .ok (.aload_n 0, 1) := by decide +kernel
theorem dX3_init_50 : decode cX3_init 50 = .ok (.iconst 0, 1) := by decide +kernel
theorem dX3_init_51 : decode cX3_init 51 = .ok (.putfield 38, 3) := by decide +kernel
theorem dX3_init_54 : decode cX3_init 54 = .ok (.aload_n 0, 1) := by decide +kernel
theorem dX3_init_55 : decode cX3_init 55 = .ok (.iconst 0, 1) := by decide +kernel
theorem dX3_init_56 : decode cX3_init 56 = .ok (.putfield 41, 3) := by decide +kernel
theorem dX3_init_59 : decode cX3_init 59 = .ok (.aload_n 0, 1) := by decide +kernel
theorem dX3_init_60 : decode cX3_init 60 = .ok (.iconst 0, 1) := by decide +kernel
theorem dX3_init_61 : decode cX3_init 61 = .ok (.putfield 45, 3) := by decide +kernel
theorem dX3_init_64 : decode cX3_init 64 = .ok (.aload_n 0, 1) := by decide +kernel
theorem dX3_init_65 : decode cX3_init 65 = .ok (.lconst 0, 1) := by decide +kernel
theorem dX3_init_66 : decode cX3_init 66 = .ok (.putfield 48, 3) := by decide +kernel
theorem dX3_init_69 : decode cX3_init 69 = .ok (.aload_n 0, 1) := by decide +kernel
theorem dX3_init_70 : decode cX3_init 70 = .ok (.iconst 0, 1) := by decide +kernel
theorem dX3_init_71 : decode cX3_init 71 = .ok (.putfield 52, 3) := by decide +kernel
theorem dX3_init_74 : decode cX3_init 74 = .ok (.return_, 1) := by decide +kernel
theorem dX3_append_0 : decode cX3_append 0 = .ok (.bipush 56, 2) := by decide +kernel
theorem dX3_append_2 : decode cX3_append 2 = .ok (.istore_n 3, 1) := by decide +kernel
theorem dX3_append_3 : decode cX3_append 3 = .ok (.iload_n 3, 1) := by decide +kernel
theorem dX3_append_4 : decode cX3_append 4 = .ok (.ifCond .lt 52, 3) := by decide +kernel
theorem dX3_append_7 : decode cX3_append 7 = .ok (.aload_n 0, 1) := by decide +kernel
theorem dX3_append_8 : decode cX3_append 8 = .ok (.getfield 15, 3) := by decide +kernel
theorem dX3_append_11 : decode cX3_append 11 = .ok (.ifCond .lt 29, 3) := by decide +kernel
theorem dX3_append_14 : decode cX3_append 14 = .ok (.aload_n 0, 1) := by decide +kernel
theorem dX3_append_15 : decode cX3_append 15 = .ok (.getfield 15, 3) := by decide +kernel
theorem dX3_append_18 : decode cX3_append 18 = .ok (.aload_n 0, 1) := by decide +kernel
theorem dX3_append_19 : decode cX3_append 19 = .ok (.getfield 9, 3) := by decide +kernel
theorem dX3_append_22 : decode cX3_append 22 = .ok (.arraylength, 1) := by decide +kernel
theorem dX3_append_23 : decode cX3_append 23 = .ok (.if_icmp .ge 17, 3) := by decide +kernel
theorem dX3_append_26 : decode cX3_append 26 = .ok (.aload_n 0, 1) := by decide +kernel
theorem dX3_append_27 : decode cX3_append 27 = .ok (.getfield 9, 3) := by decide +kernel
theorem dX3_append_30 : decode cX3_append 30 = .ok (.aload_n 0, 1) := by decide +kernel
theorem dX3_append_31 : decode cX3_append 31 = .ok (.getfield 15, 3) := by decide +kernel
theorem dX3_append_34 : decode cX3_append 34 = .ok (.lload_n 1, 1) := by decide +kernel
theorem dX3_append_35 : decode cX3_append 35 = .ok (.iload_n 3, 1) := by decide +kernel
theorem dX3_append_36 : decode cX3_append 36 = .ok (.lshr, 1) := by decide +kernel
theorem dX3_append_37 : decode cX3_append 37 = .ok (.l2i, 1) := by decide +kernel
theorem dX3_append_38 : decode cX3_append 38 = .ok (.i2b, 1) := by decide +kernel
theorem dX3_append_39 : decode cX3_append 39 = .ok (.bastore, 1) := by decide +kernel
theorem dX3_append_40 : decode cX3_append 40 = .ok (.aload_n 0, 1) := by decide +kernel
theorem dX3_append_41 : decode cX3_append 41 = .ok (.dup, 1) := by decide +kernel
theorem dX3_append_42 : decode cX3_append 42 = .ok (.getfield 15, 3) := by decide +kernel
theorem dX3_append_45 : decode cX3_append 45 = .ok (.iconst 1, 1) := by decide +kernel
theorem dX3_append_46 : decode cX3_append 46 = .ok (.iadd, 1) := by decide +kernel
theorem dX3_append_47 : decode cX3_append 47 = .ok (.putfield 15, 3) := by decide +kernel
theorem dX3_append_50 : decode cX3_append 50 = .ok (.iinc 3 (-8), 3) := by decide +kernel
theorem dX3_append_53 : decode cX3_append 53 = .ok (.goto (-50), 3) := by decide +kernel
theorem dX3_append_56 : decode cX3_append 56 = .ok (.aload_n 0, 1) := by decide +kernel
theorem dX3_append_57 : decode cX3_append 57 = .ok (.getfield 15, 3) := by decide +kernel
theorem dX3_append_60 : decode cX3_append 60 = .ok (.ireturn, 1) := by decide +kernel
theorem dX3_takeText_0 : decode cX3_takeText 0 = .ok (.aload_n 0, 1) := by decide +kernel
theorem dX3_takeText_1 : decode cX3_takeText 1 = .ok (.getfield 22, 3) := by decide +kernel
theorem dX3_takeText_4 : decode cX3_takeText 4 = .ok (.invokevirtual 55, 3) := by decide +kernel
theorem dX3_takeText_7 : decode cX3_takeText 7 = .ok (.aload_n 0, 1) := by decide +kernel
theorem dX3_takeText_8 : decode cX3_takeText 8 = .ok (.iconst 0, 1) := by decide +kernel
theorem dX3_takeText_9 : decode cX3_takeText 9 = .ok (.putfield 26, 3) := by decide +kernel
theorem dX3_takeText_12 : decode cX3_takeText 12 = .ok (.aload_n 0, 1) := by decide +kernel
theorem dX3_takeText_13 : decode cX3_takeText 13 = .ok (.iconst 0, 1) := by decide +kernel
theorem dX3_takeText_14 : decode cX3_takeText 14 = .ok (.putfield 29, 3) := by decide +kernel
theorem dX3_takeText_17 : decode cX3_takeText 17 = .ok (.aload_n 0, 1) := by decide +kernel
theorem dX3_takeText_18 : decode cX3_takeText 18 = .ok (.iconst 0, 1) := by decide +kernel
theorem dX3_takeText_19 : decode cX3_takeText 19 = .ok (.putfield 38, 3) := by decide +kernel
theorem dX3_takeText_22 : decode cX3_takeText 22 = .ok (.aload_n 0, 1) := by decide +kernel
theorem dX3_takeText_23 : decode cX3_takeText 23 = .ok (.iconst 0, 1) := by decide +kernel
theorem dX3_takeText_24 : decode cX3_takeText 24 = .ok (.putfield 41, 3) := by decide +kernel
theorem dX3_takeText_27 : decode cX3_takeText 27 = .ok (.aload_n 0, 1) := by decide +kernel
theorem dX3_takeText_28 : decode cX3_takeText 28 = .ok (.iconst 0, 1) := by decide +kernel
theorem dX3_takeText_29 : decode cX3_takeText 29 = .ok (.putfield 45, 3) := by decide +kernel
theorem dX3_takeText_32 : decode cX3_takeText 32 = .ok (.aload_n 0, 1) := by decide +kernel
theorem dX3_takeText_33 : decode cX3_takeText 33 = .ok (.lconst 0, 1) := by decide +kernel
theorem dX3_takeText_34 : decode cX3_takeText 34 = .ok (.putfield 48, 3) := by decide +kernel
theorem dX3_takeText_37 : decode cX3_takeText 37 = .ok (.aload_n 0, 1) := by decide +kernel
theorem dX3_takeText_38 : decode cX3_takeText 38 = .ok (.iconst 0, 1) := by decide +kernel
theorem dX3_takeText_39 : decode cX3_takeText 39 = .ok (.putfield 52, 3) := by decide +kernel
theorem dX3_takeText_42 : decode cX3_takeText 42 = .ok (.iconst 0, 1) := by decide +kernel
theorem dX3_takeText_43 : decode cX3_takeText 43 = .ok (.istore_n 1, 1) := by decide +kernel
theorem dX3_takeText_44 : decode cX3_takeText 44 = .ok (.iload_n 1, 1) := by decide +kernel
theorem dX3_takeText_45 : decode cX3_takeText 45 = .ok (.sipush 400, 3) := by decide +kernel
theorem dX3_takeText_48 : decode cX3_takeText 48 = .ok (.if_icmp .gt 47, 3) := by decide +kernel
theorem dX3_takeText_51 : decode cX3_takeText 51 = .ok (.aload_n 0, 1) := by decide +kernel
theorem dX3_takeText_52 : decode cX3_takeText 52 = .ok (.invokevirtual 58, 3) := by decide +kernel
theorem dX3_takeText_55 : decode cX3_takeText 55 = .ok (.ifCond .ne 5, 3) := by decide +kernel
theorem dX3_takeText_58 : decode cX3_takeText 58 = .ok (.iconst (-1), 1) := by decide +kernel
theorem dX3_takeText_59 : decode cX3_takeText 59 = .ok (.ireturn, 1) := by decide +kernel
theorem dX3_takeText_60 : decode cX3_takeText 60 = .ok (.aload_n 0, 1) := by decide +kernel
theorem dX3_takeText_61 : decode cX3_takeText 61 = .ok (.getfield 32, 3) := by decide +kernel
theorem dX3_takeText_64 : decode cX3_takeText 64 = .ok (.ifCond .ne 16, 3) := by decide +kernel
theorem dX3_takeText_67 : decode cX3_takeText 67 = .ok (.aload_n 0, 1) := by decide +kernel
theorem dX3_takeText_68 : decode cX3_takeText 68 = .ok (.invokevirtual 62, 3) := by decide +kernel
theorem dX3_takeText_71 : decode cX3_takeText 71 = .ok (.ifCond .eq 7, 3) := by decide +kernel
theorem dX3_takeText_74 : decode cX3_takeText 74 = .ok (.iload_n 1, 1) := by decide +kernel
theorem dX3_takeText_75 : decode cX3_takeText 75 = .ok (.goto 4, 3) := by decide +kernel
theorem dX3_takeText_78 : decode cX3_takeText 78 = .ok (.iconst (-1), 1) := by decide +kernel
theorem dX3_takeText_79 : decode cX3_takeText 79 = .ok (.ireturn, 1) := by decide +kernel
theorem dX3_takeText_80 : decode cX3_takeText 80 = .ok (.aload_n 0, 1) := by decide +kernel
theorem dX3_takeText_81 : decode cX3_takeText 81 = .ok (.invokevirtual 65, 3) := by decide +kernel
theorem dX3_takeText_84 : decode cX3_takeText 84 = .ok (.ifCond .ne 5, 3) := by decide +kernel
theorem dX3_takeText_87 : decode cX3_takeText 87 = .ok (.iconst (-1), 1) := by decide +kernel
theorem dX3_takeText_88 : decode cX3_takeText 88 = .ok (.ireturn, 1) := by decide +kernel
theorem dX3_takeText_89 : decode cX3_takeText 89 = .ok (.iinc 1 1, 3) := by decide +kernel
theorem dX3_takeText_92 : decode cX3_takeText 92 = .ok (.goto (-48), 3) := by decide +kernel
theorem dX3_takeText_95 : decode cX3_takeText 95 = .ok (.iconst (-1), 1) := by decide +kernel
theorem dX3_takeText_96 : decode cX3_takeText 96 = .ok (.ireturn, 1) := by decide +kernel
theorem dX3_isWhole_0 : decode cX3_isWhole 0 = .ok (.aload_n 0, 1) := by decide +kernel
theorem dX3_isWhole_1 : decode cX3_isWhole 1 = .ok (.getfield 52, 3) := by decide +kernel
theorem dX3_isWhole_4 : decode cX3_isWhole 4 = .ok (.aload_n 0, 1) := by decide +kernel
theorem dX3_isWhole_5 : decode cX3_isWhole 5 = .ok (.getfield 22, 3) := by decide +kernel
theorem dX3_isWhole_8 : decode cX3_isWhole 8 = .ok (.getfield 68, 3) := by decide +kernel
theorem dX3_isWhole_11 : decode cX3_isWhole 11 = .ok (.if_icmp .le 14, 3) := by decide +kernel
theorem dX3_isWhole_14 : decode cX3_isWhole 14 = .ok (.aload_n 0, 1) := by decide +kernel
theorem dX3_isWhole_15 : decode cX3_isWhole 15 = .ok (.bipush 6, 2) := by decide +kernel
theorem dX3_isWhole_17 : decode cX3_isWhole 17 = .ok (.aload_n 0, 1) := by decide +kernel
theorem dX3_isWhole_18 : decode cX3_isWhole 18 = .ok (.getfield 15, 3) := by decide +kernel
theorem dX3_isWhole_21 : decode cX3_isWhole 21 = .ok (.invokevirtual 71, 3) := by decide +kernel
theorem dX3_isWhole_24 : decode cX3_isWhole 24 = .ok (.ireturn, 1) := by decide +kernel
theorem dX3_isWhole_25 : decode cX3_isWhole 25 = .ok (.iconst 0, 1) := by decide +kernel
theorem dX3_isWhole_26 : decode cX3_isWhole 26 = .ok (.istore_n 1, 1) := by decide +kernel
theorem dX3_isWhole_27 : decode cX3_isWhole 27 = .ok (.iload_n 1, 1) := by decide +kernel
theorem dX3_isWhole_28 : decode cX3_isWhole 28 = .ok (.bipush 63, 2) := by decide +kernel
theorem dX3_isWhole_30 : decode cX3_isWhole 30 = .ok (.if_icmp .ge 49, 3) := by decide +kernel
theorem dX3_isWhole_33 : decode cX3_isWhole 33 = .ok (.aload_n 0, 1) := by decide +kernel
theorem dX3_isWhole_34 : decode cX3_isWhole 34 = .ok (.getfield 48, 3) := by decide +kernel
theorem dX3_isWhole_37 : decode cX3_isWhole 37 = .ok (.iload_n 1, 1) := by decide +kernel
theorem dX3_isWhole_38 : decode cX3_isWhole 38 = .ok (.lshr, 1) := by decide +kernel
theorem dX3_isWhole_39 : decode cX3_isWhole 39 = .ok (.lconst 1, 1) := by decide +kernel
theorem dX3_isWhole_40 : decode cX3_isWhole 40 = .ok (.land, 1) := by decide +kernel
theorem dX3_isWhole_41 : decode cX3_isWhole 41 = .ok (.lconst 0, 1) := by decide +kernel
theorem dX3_isWhole_42 : decode cX3_isWhole 42 = .ok (.lcmp, 1) := by decide +kernel
theorem dX3_isWhole_43 : decode cX3_isWhole 43 = .ok (.ifCond .eq 30, 3) := by decide +kernel
theorem dX3_isWhole_46 : decode cX3_isWhole 46 = .ok (.aload_n 0, 1) := by decide +kernel
theorem dX3_isWhole_47 : decode cX3_isWhole 47 = .ok (.getfield 22, 3) := by decide +kernel
theorem dX3_isWhole_50 : decode cX3_isWhole 50 = .ok (.iload_n 1, 1) := by decide +kernel
theorem dX3_isWhole_51 : decode cX3_isWhole 51 = .ok (.iconst 3, 1) := by decide +kernel
theorem dX3_isWhole_52 : decode cX3_isWhole 52 = .ok (.idiv, 1) := by decide +kernel
theorem dX3_isWhole_53 : decode cX3_isWhole 53 = .ok (.iload_n 1, 1) := by decide +kernel
theorem dX3_isWhole_54 : decode cX3_isWhole 54 = .ok (.iconst 3, 1) := by decide +kernel
theorem dX3_isWhole_55 : decode cX3_isWhole 55 = .ok (.irem, 1) := by decide +kernel
theorem dX3_isWhole_56 : decode cX3_isWhole 56 = .ok (.invokevirtual 75, 3) := by decide +kernel
theorem dX3_isWhole_59 : decode cX3_isWhole 59 = .ok (.ifCond .ne 14, 3) := by decide +kernel
theorem dX3_isWhole_62 : decode cX3_isWhole 62 = .ok (.aload_n 0, 1) := by decide +kernel
theorem dX3_isWhole_63 : decode cX3_isWhole 63 = .ok (.bipush 7, 2) := by decide +kernel
theorem dX3_isWhole_65 : decode cX3_isWhole 65 = .ok (.aload_n 0, 1) := by decide +kernel
theorem dX3_isWhole_66 : decode cX3_isWhole 66 = .ok (.getfield 15, 3) := by decide +kernel
theorem dX3_isWhole_69 : decode cX3_isWhole 69 = .ok (.invokevirtual 71, 3) := by decide +kernel
theorem dX3_isWhole_72 : decode cX3_isWhole 72 = .ok (.ireturn, 1) := by decide +kernel
theorem dX3_isWhole_73 : decode cX3_isWhole 73 = .ok (.iinc 1 1, 3) := by decide +kernel
theorem dX3_isWhole_76 : decode cX3_isWhole 76 = .ok (.goto (-49), 3) := by decide +kernel
theorem dX3_isWhole_79 : decode cX3_isWhole 79 = .ok (.iconst 1, 1) := by decide +kernel
theorem dX3_isWhole_80 : decode cX3_isWhole 80 = .ok (.ireturn, 1) := by decide +kernel
theorem dX3_refuse_0 : decode cX3_refuse 0 = .ok (.aload_n 0, 1) := by decide +kernel
theorem dX3_refuse_1 : decode cX3_refuse 1 = .ok (.iload_n 1, 1) := by decide +kernel
theorem dX3_refuse_2 : decode cX3_refuse 2 = .ok (.putfield 26, 3) := by decide +kernel
theorem dX3_refuse_5 : decode cX3_refuse 5 = .ok (.aload_n 0, 1) := by decide +kernel
theorem dX3_refuse_6 : decode cX3_refuse 6 = .ok (.iload_n 2, 1) := by decide +kernel
theorem dX3_refuse_7 : decode cX3_refuse 7 = .ok (.putfield 29, 3) := by decide +kernel
theorem dX3_refuse_10 : decode cX3_refuse 10 = .ok (.iconst 0, 1) := by decide +kernel
theorem dX3_refuse_11 : decode cX3_refuse 11 = .ok (.ireturn, 1) := by decide +kernel
theorem dX3_takeToken_0 : decode cX3_takeToken 0 = .ok (.aload_n 0, 1) := by decide +kernel
theorem dX3_takeToken_1 : decode cX3_takeToken 1 = .ok (.getfield 38, 3) := by decide +kernel
theorem dX3_takeToken_4 : decode cX3_takeToken 4 = .ok (.aload_n 0, 1) := by decide +kernel
theorem dX3_takeToken_5 : decode cX3_takeToken 5 = .ok (.getfield 15, 3) := by decide +kernel
theorem dX3_takeToken_8 : decode cX3_takeToken 8 = .ok (.if_icmp .ge 29, 3) := by decide +kernel
theorem dX3_takeToken_11 : decode cX3_takeToken 11 = .ok (.aload_n 0, 1) := by decide +kernel
theorem dX3_takeToken_12 : decode cX3_takeToken 12 = .ok (.aload_n 0, 1) := by decide +kernel
theorem dX3_takeToken_13 : decode cX3_takeToken 13 = .ok (.getfield 38, 3) := by decide +kernel
theorem dX3_takeToken_16 : decode cX3_takeToken 16 = .ok (.invokevirtual 78, 3) := by decide +kernel
theorem dX3_takeToken_19 : decode cX3_takeToken 19 = .ok (.bipush 32, 2) := by decide +kernel
theorem dX3_takeToken_21 : decode cX3_takeToken 21 = .ok (.if_icmp .ne 16, 3) := by decide +kernel
theorem dX3_takeToken_24 : decode cX3_takeToken 24 = .ok (.aload_n 0, 1) := by decide +kernel
theorem dX3_takeToken_25 : decode cX3_takeToken 25 = .ok (.dup, 1) := by decide +kernel
theorem dX3_takeToken_26 : decode cX3_takeToken 26 = .ok (.getfield 38, 3) := by decide +kernel
theorem dX3_takeToken_29 : decode cX3_takeToken 29 = .ok (.iconst 1, 1) := by decide +kernel
theorem dX3_takeToken_30 : decode cX3_takeToken 30 = .ok (.iadd, 1) := by decide +kernel
theorem dX3_takeToken_31 : decode cX3_takeToken 31 = .ok (.putfield 38, 3) := by decide +kernel
theorem dX3_takeToken_34 : decode cX3_takeToken 34 = .ok (.goto (-34), 3) := by decide +kernel
theorem dX3_takeToken_37 : decode cX3_takeToken 37 = .ok (.aload_n 0, 1) := by decide +kernel
theorem dX3_takeToken_38 : decode cX3_takeToken 38 = .ok (.aload_n 0, 1) := by decide +kernel
theorem dX3_takeToken_39 : decode cX3_takeToken 39 = .ok (.getfield 38, 3) := by decide +kernel
theorem dX3_takeToken_42 : decode cX3_takeToken 42 = .ok (.putfield 35, 3) := by decide +kernel
theorem dX3_takeToken_45 : decode cX3_takeToken 45 = .ok (.aload_n 0, 1) := by decide +kernel
theorem dX3_takeToken_46 : decode cX3_takeToken 46 = .ok (.aload_n 0, 1) := by decide +kernel
theorem dX3_takeToken_47 : decode cX3_takeToken 47 = .ok (.aload_n 0, 1) := by decide +kernel
theorem dX3_takeToken_48 : decode cX3_takeToken 48 = .ok (.getfield 38, 3) := by decide +kernel
theorem dX3_takeToken_51 : decode cX3_takeToken 51 = .ok (.invokevirtual 82, 3) := by decide +kernel
theorem dX3_takeToken_54 : decode cX3_takeToken 54 = .ok (.putfield 32, 3) := by decide +kernel
theorem dX3_takeToken_57 : decode cX3_takeToken 57 = .ok (.aload_n 0, 1) := by decide +kernel
theorem dX3_takeToken_58 : decode cX3_takeToken 58 = .ok (.getfield 32, 3) := by decide +kernel
theorem dX3_takeToken_61 : decode cX3_takeToken 61 = .ok (.iconst 3, 1) := by decide +kernel
theorem dX3_takeToken_62 : decode cX3_takeToken 62 = .ok (.if_icmp .ne 13, 3) := by decide +kernel
theorem dX3_takeToken_65 : decode cX3_takeToken 65 = .ok (.aload_n 0, 1) := by decide +kernel
theorem dX3_takeToken_66 : decode cX3_takeToken 66 = .ok (.dup, 1) := by decide +kernel
theorem dX3_takeToken_67 : decode cX3_takeToken 67 = .ok (.getfield 38, 3) := by decide +kernel
theorem dX3_takeToken_70 : decode cX3_takeToken 70 = .ok (.iconst 1, 1) := by decide +kernel
theorem dX3_takeToken_71 : decode cX3_takeToken 71 = .ok (.iadd, 1) := by decide +kernel
theorem dX3_takeToken_72 : decode cX3_takeToken 72 = .ok (.putfield 38, 3) := by decide +kernel
theorem dX3_takeToken_75 : decode cX3_takeToken 75 = .ok (.aload_n 0, 1) := by decide +kernel
theorem dX3_takeToken_76 : decode cX3_takeToken 76 = .ok (.getfield 32, 3) := by decide +kernel
theorem dX3_takeToken_79 : decode cX3_takeToken 79 = .ok (.iconst 1, 1) := by decide +kernel
theorem dX3_takeToken_80 : decode cX3_takeToken 80 = .ok (.if_icmp .eq 11, 3) := by decide +kernel
theorem dX3_takeToken_83 : decode cX3_takeToken 83 = .ok (.aload_n 0, 1) := by decide +kernel
theorem dX3_takeToken_84 : decode cX3_takeToken 84 = .ok (.getfield 32, 3) := by decide +kernel
theorem dX3_takeToken_87 : decode cX3_takeToken 87 = .ok (.iconst 2, 1) := by decide +kernel
theorem dX3_takeToken_88 : decode cX3_takeToken 88 = .ok (.if_icmp .ne 42, 3) := by decide +kernel
theorem dX3_takeToken_91 : decode cX3_takeToken 91 = .ok (.aload_n 0, 1) := by decide +kernel
theorem dX3_takeToken_92 : decode cX3_takeToken 92 = .ok (.getfield 38, 3) := by decide +kernel
theorem dX3_takeToken_95 : decode cX3_takeToken 95 = .ok (.aload_n 0, 1) := by decide +kernel
theorem dX3_takeToken_96 : decode cX3_takeToken 96 = .ok (.getfield 15, 3) := by decide +kernel
theorem dX3_takeToken_99 : decode cX3_takeToken 99 = .ok (.if_icmp .ge 31, 3) := by decide +kernel
theorem dX3_takeToken_102 : decode cX3_takeToken 102 = .ok (.aload_n 0, 1) := by decide +kernel
theorem dX3_takeToken_103 : decode cX3_takeToken 103 = .ok (.aload_n 0, 1) := by decide +kernel
theorem dX3_takeToken_104 : decode cX3_takeToken 104 = .ok (.getfield 38, 3) := by decide +kernel
theorem dX3_takeToken_107 : decode cX3_takeToken 107 = .ok (.invokevirtual 82, 3) := by decide +kernel
theorem dX3_takeToken_110 : decode cX3_takeToken 110 = .ok (.aload_n 0, 1) := by decide +kernel
theorem dX3_takeToken_111 : decode cX3_takeToken 111 = .ok (.getfield 32, 3) := by decide +kernel
theorem dX3_takeToken_114 : decode cX3_takeToken 114 = .ok (.if_icmp .ne 16, 3) := by decide +kernel
theorem dX3_takeToken_117 : decode cX3_takeToken 117 = .ok (.aload_n 0, 1) := by decide +kernel
theorem dX3_takeToken_118 : decode cX3_takeToken 118 = .ok (.dup, 1) := by decide +kernel
theorem dX3_takeToken_119 : decode cX3_takeToken 119 = .ok (.getfield 38, 3) := by decide +kernel
theorem dX3_takeToken_122 : decode cX3_takeToken 122 = .ok (.iconst 1, 1) := by decide +kernel
theorem dX3_takeToken_123 : decode cX3_takeToken 123 = .ok (.iadd, 1) := by decide +kernel
theorem dX3_takeToken_124 : decode cX3_takeToken 124 = .ok (.putfield 38, 3) := by decide +kernel
theorem dX3_takeToken_127 : decode cX3_takeToken 127 = .ok (.goto (-36), 3) := by decide +kernel
theorem dX3_takeToken_130 : decode cX3_takeToken 130 = .ok (.aload_n 0, 1) := by decide +kernel
theorem dX3_takeToken_131 : decode cX3_takeToken 131 = .ok (.getfield 32, 3) := by decide +kernel
theorem dX3_takeToken_134 : decode cX3_takeToken 134 = .ok (.iconst 4, 1) := by decide +kernel
theorem dX3_takeToken_135 : decode cX3_takeToken 135 = .ok (.if_icmp .eq 28, 3) := by decide +kernel
theorem dX3_takeToken_138 : decode cX3_takeToken 138 = .ok (.aload_n 0, 1) := by decide +kernel
theorem dX3_takeToken_139 : decode cX3_takeToken 139 = .ok (.getfield 32, 3) := by decide +kernel
theorem dX3_takeToken_142 : decode cX3_takeToken 142 = .ok (.iconst 2, 1) := by decide +kernel
theorem dX3_takeToken_143 : decode cX3_takeToken 143 = .ok (.if_icmp .ne 16, 3) := by decide +kernel
theorem dX3_takeToken_146 : decode cX3_takeToken 146 = .ok (.aload_n 0, 1) := by decide +kernel
theorem dX3_takeToken_147 : decode cX3_takeToken 147 = .ok (.getfield 38, 3) := by decide +kernel
theorem dX3_takeToken_150 : decode cX3_takeToken 150 = .ok (.aload_n 0, 1) := by decide +kernel
theorem dX3_takeToken_151 : decode cX3_takeToken 151 = .ok (.getfield 35, 3) := by decide +kernel
theorem dX3_takeToken_154 : decode cX3_takeToken 154 = .ok (.isub, 1) := by decide +kernel
theorem dX3_takeToken_155 : decode cX3_takeToken 155 = .ok (.iconst 2, 1) := by decide +kernel
theorem dX3_takeToken_156 : decode cX3_takeToken 156 = .ok (.if_icmp .gt 7, 3) := by decide +kernel
theorem dX3_takeToken_159 : decode cX3_takeToken 159 = .ok (.iconst 1, 1) := by decide +kernel
theorem dX3_takeToken_160 : decode cX3_takeToken 160 = .ok (.goto 4, 3) := by decide +kernel
theorem dX3_takeToken_163 : decode cX3_takeToken 163 = .ok (.iconst 0, 1) := by decide +kernel
theorem dX3_takeToken_164 : decode cX3_takeToken 164 = .ok (.istore_n 1, 1) := by decide +kernel
theorem dX3_takeToken_165 : decode cX3_takeToken 165 = .ok (.iload_n 1, 1) := by decide +kernel
theorem dX3_takeToken_166 : decode cX3_takeToken 166 = .ok (.ifCond .ne 15, 3) := by decide +kernel
theorem dX3_takeToken_169 : decode cX3_takeToken 169 = .ok (.aload_n 0, 1) := by decide +kernel
theorem dX3_takeToken_170 : decode cX3_takeToken 170 = .ok (.iconst 1, 1) := by decide +kernel
theorem dX3_takeToken_171 : decode cX3_takeToken 171 = .ok (.aload_n 0, 1) := by decide +kernel
theorem dX3_takeToken_172 : decode cX3_takeToken 172 = .ok (.getfield 35, 3) := by decide +kernel
theorem dX3_takeToken_175 : decode cX3_takeToken 175 = .ok (.invokevirtual 71, 3) := by decide +kernel
theorem dX3_takeToken_178 : decode cX3_takeToken 178 = .ok (.ifCond .eq 7, 3) := by decide +kernel
theorem dX3_takeToken_181 : decode cX3_takeToken 181 = .ok (.iconst 1, 1) := by decide +kernel
theorem dX3_takeToken_182 : decode cX3_takeToken 182 = .ok (.goto 4, 3) := by decide +kernel
theorem dX3_takeToken_185 : decode cX3_takeToken 185 = .ok (.iconst 0, 1) := by decide +kernel
theorem dX3_takeToken_186 : decode cX3_takeToken 186 = .ok (.ireturn, 1) := by decide +kernel
theorem dX3_sortAt_0 : decode cX3_sortAt 0 = .ok (.iload_n 1, 1) := by decide +kernel
theorem dX3_sortAt_1 : decode cX3_sortAt 1 = .ok (.ifCond .lt 20, 3) := by decide +kernel
theorem dX3_sortAt_4 : decode cX3_sortAt 4 = .ok (.iload_n 1, 1) := by decide +kernel
theorem dX3_sortAt_5 : decode cX3_sortAt 5 = .ok (.aload_n 0, 1) := by decide +kernel
theorem dX3_sortAt_6 : decode cX3_sortAt 6 = .ok (.getfield 15, 3) := by decide +kernel
theorem dX3_sortAt_9 : decode cX3_sortAt 9 = .ok (.if_icmp .ge 12, 3) := by decide +kernel
theorem dX3_sortAt_12 : decode cX3_sortAt 12 = .ok (.iload_n 1, 1) := by decide +kernel
theorem dX3_sortAt_13 : decode cX3_sortAt 13 = .ok (.aload_n 0, 1) := by decide +kernel
theorem dX3_sortAt_14 : decode cX3_sortAt 14 = .ok (.getfield 9, 3) := by decide +kernel
theorem dX3_sortAt_17 : decode cX3_sortAt 17 = .ok (.arraylength, 1) := by decide +kernel
theorem dX3_sortAt_18 : decode cX3_sortAt 18 = .ok (.if_icmp .lt 5, 3) := by decide +kernel
theorem dX3_sortAt_21 : decode cX3_sortAt 21 = .ok (.iconst 0, 1) := by decide +kernel
theorem dX3_sortAt_22 : decode cX3_sortAt 22 = .ok (.ireturn, 1) := by decide +kernel
theorem dX3_sortAt_23 : decode cX3_sortAt 23 = .ok (.aload_n 0, 1) := by decide +kernel
theorem dX3_sortAt_24 : decode cX3_sortAt 24 = .ok (.getfield 9, 3) := by decide +kernel
theorem dX3_sortAt_27 : decode cX3_sortAt 27 = .ok (.iload_n 1, 1) := by decide +kernel
theorem dX3_sortAt_28 : decode cX3_sortAt 28 = .ok (.baload, 1) := by decide +kernel
theorem dX3_sortAt_29 : decode cX3_sortAt 29 = .ok (.istore_n 2, 1) := by decide +kernel
theorem dX3_sortAt_30 : decode cX3_sortAt 30 = .ok (.iload_n 2, 1) := by decide +kernel
theorem dX3_sortAt_31 : decode cX3_sortAt 31 = .ok (.bipush 97, 2) := by decide +kernel
theorem dX3_sortAt_33 : decode cX3_sortAt 33 = .ok (.if_icmp .lt 11, 3) := by decide +kernel
theorem dX3_sortAt_36 : decode cX3_sortAt 36 = .ok (.iload_n 2, 1) := by decide +kernel
theorem dX3_sortAt_37 : decode cX3_sortAt 37 = .ok (.bipush 122, 2) := by decide +kernel
theorem dX3_sortAt_39 : decode cX3_sortAt 39 = .ok (.if_icmp .gt 5, 3) := by decide +kernel
theorem dX3_sortAt_42 : decode cX3_sortAt 42 = .ok (.iconst 1, 1) := by decide +kernel
theorem dX3_sortAt_43 : decode cX3_sortAt 43 = .ok (.ireturn, 1) := by decide +kernel
theorem dX3_sortAt_44 : decode cX3_sortAt 44 = .ok (.iload_n 2, 1) := by decide +kernel
theorem dX3_sortAt_45 : decode cX3_sortAt 45 = .ok (.bipush 48, 2) := by decide +kernel
theorem dX3_sortAt_47 : decode cX3_sortAt 47 = .ok (.if_icmp .lt 11, 3) := by decide +kernel
theorem dX3_sortAt_50 : decode cX3_sortAt 50 = .ok (.iload_n 2, 1) := by decide +kernel
theorem dX3_sortAt_51 : decode cX3_sortAt 51 = .ok (.bipush 57, 2) := by decide +kernel
theorem dX3_sortAt_53 : decode cX3_sortAt 53 = .ok (.if_icmp .gt 5, 3) := by decide +kernel
theorem dX3_sortAt_56 : decode cX3_sortAt 56 = .ok (.iconst 2, 1) := by decide +kernel
theorem dX3_sortAt_57 : decode cX3_sortAt 57 = .ok (.ireturn, 1) := by decide +kernel
theorem dX3_sortAt_58 : decode cX3_sortAt 58 = .ok (.iload_n 2, 1) := by decide +kernel
theorem dX3_sortAt_59 : decode cX3_sortAt 59 = .ok (.bipush 59, 2) := by decide +kernel
theorem dX3_sortAt_61 : decode cX3_sortAt 61 = .ok (.if_icmp .ne 7, 3) := by decide +kernel
theorem dX3_sortAt_64 : decode cX3_sortAt 64 = .ok (.iconst 3, 1) := by decide +kernel
theorem dX3_sortAt_65 : decode cX3_sortAt 65 = .ok (.goto 4, 3) := by decide +kernel
theorem dX3_sortAt_68 : decode cX3_sortAt 68 = .ok (.iconst 4, 1) := by decide +kernel
theorem dX3_sortAt_69 : decode cX3_sortAt 69 = .ok (.ireturn, 1) := by decide +kernel
theorem dX3_byteAt_0 : decode cX3_byteAt 0 = .ok (.iload_n 1, 1) := by decide +kernel
theorem dX3_byteAt_1 : decode cX3_byteAt 1 = .ok (.ifCond .lt 29, 3) := by decide +kernel
theorem dX3_byteAt_4 : decode cX3_byteAt 4 = .ok (.iload_n 1, 1) := by decide +kernel
theorem dX3_byteAt_5 : decode cX3_byteAt 5 = .ok (.aload_n 0, 1) := by decide +kernel
theorem dX3_byteAt_6 : decode cX3_byteAt 6 = .ok (.getfield 15, 3) := by decide +kernel
theorem dX3_byteAt_9 : decode cX3_byteAt 9 = .ok (.if_icmp .ge 21, 3) := by decide +kernel
theorem dX3_byteAt_12 : decode cX3_byteAt 12 = .ok (.iload_n 1, 1) := by decide +kernel
theorem dX3_byteAt_13 : decode cX3_byteAt 13 = .ok (.aload_n 0, 1) := by decide +kernel
theorem dX3_byteAt_14 : decode cX3_byteAt 14 = .ok (.getfield 9, 3) := by decide +kernel
theorem dX3_byteAt_17 : decode cX3_byteAt 17 = .ok (.arraylength, 1) := by decide +kernel
theorem dX3_byteAt_18 : decode cX3_byteAt 18 = .ok (.if_icmp .ge 12, 3) := by decide +kernel
theorem dX3_byteAt_21 : decode cX3_byteAt 21 = .ok (.aload_n 0, 1) := by decide +kernel
theorem dX3_byteAt_22 : decode cX3_byteAt 22 = .ok (.getfield 9, 3) := by decide +kernel
theorem dX3_byteAt_25 : decode cX3_byteAt 25 = .ok (.iload_n 1, 1) := by decide +kernel
theorem dX3_byteAt_26 : decode cX3_byteAt 26 = .ok (.baload, 1) := by decide +kernel
theorem dX3_byteAt_27 : decode cX3_byteAt 27 = .ok (.goto 4, 3) := by decide +kernel
theorem dX3_byteAt_30 : decode cX3_byteAt 30 = .ok (.iconst 0, 1) := by decide +kernel
theorem dX3_byteAt_31 : decode cX3_byteAt 31 = .ok (.ireturn, 1) := by decide +kernel
theorem dX3_isName_0 : decode cX3_isName 0 = .ok (.aload_n 0, 1) := by decide +kernel
theorem dX3_isName_1 : decode cX3_isName 1 = .ok (.getfield 32, 3) := by decide +kernel
theorem dX3_isName_4 : decode cX3_isName 4 = .ok (.iconst 1, 1) := by decide +kernel
theorem dX3_isName_5 : decode cX3_isName 5 = .ok (.if_icmp .ne 19, 3) := by decide +kernel
theorem dX3_isName_8 : decode cX3_isName 8 = .ok (.aload_n 0, 1) := by decide +kernel
theorem dX3_isName_9 : decode cX3_isName 9 = .ok (.getfield 38, 3) := by decide +kernel
theorem dX3_isName_12 : decode cX3_isName 12 = .ok (.aload_n 0, 1) := by decide +kernel
theorem dX3_isName_13 : decode cX3_isName 13 = .ok (.getfield 35, 3) := by decide +kernel
theorem dX3_isName_16 : decode cX3_isName 16 = .ok (.isub, 1) := by decide +kernel
theorem dX3_isName_17 : decode cX3_isName 17 = .ok (.aload_n 1, 1) := by decide +kernel
theorem dX3_isName_18 : decode cX3_isName 18 = .ok (.invokevirtual 85, 3) := by decide +kernel
theorem dX3_isName_21 : decode cX3_isName 21 = .ok (.if_icmp .eq 5, 3) := by decide +kernel
theorem dX3_isName_24 : decode cX3_isName 24 = .ok (.iconst 0, 1) := by decide +kernel
theorem dX3_isName_25 : decode cX3_isName 25 = .ok (.ireturn, 1) := by decide +kernel
theorem dX3_isName_26 : decode cX3_isName 26 = .ok (.iconst 0, 1) := by decide +kernel
theorem dX3_isName_27 : decode cX3_isName 27 = .ok (.istore_n 2, 1) := by decide +kernel
theorem dX3_isName_28 : decode cX3_isName 28 = .ok (.iload_n 2, 1) := by decide +kernel
theorem dX3_isName_29 : decode cX3_isName 29 = .ok (.aload_n 1, 1) := by decide +kernel
theorem dX3_isName_30 : decode cX3_isName 30 = .ok (.invokevirtual 85, 3) := by decide +kernel
theorem dX3_isName_33 : decode cX3_isName 33 = .ok (.if_icmp .ge 29, 3) := by decide +kernel
theorem dX3_isName_36 : decode cX3_isName 36 = .ok (.aload_n 0, 1) := by decide +kernel
theorem dX3_isName_37 : decode cX3_isName 37 = .ok (.aload_n 0, 1) := by decide +kernel
theorem dX3_isName_38 : decode cX3_isName 38 = .ok (.getfield 35, 3) := by decide +kernel
theorem dX3_isName_41 : decode cX3_isName 41 = .ok (.iload_n 2, 1) := by decide +kernel
theorem dX3_isName_42 : decode cX3_isName 42 = .ok (.iadd, 1) := by decide +kernel
theorem dX3_isName_43 : decode cX3_isName 43 = .ok (.invokevirtual 78, 3) := by decide +kernel
theorem dX3_isName_46 : decode cX3_isName 46 = .ok (.aload_n 1, 1) := by decide +kernel
theorem dX3_isName_47 : decode cX3_isName 47 = .ok (.iload_n 2, 1) := by decide +kernel
theorem dX3_isName_48 : decode cX3_isName 48 = .ok (.invokevirtual 90, 3) := by decide +kernel
theorem dX3_isName_51 : decode cX3_isName 51 = .ok (.if_icmp .eq 5, 3) := by decide +kernel
theorem dX3_isName_54 : decode cX3_isName 54 = .ok (.iconst 0, 1) := by decide +kernel
theorem dX3_isName_55 : decode cX3_isName 55 = .ok (.ireturn, 1) := by decide +kernel
theorem dX3_isName_56 : decode cX3_isName 56 = .ok (.iinc 2 1, 3) := by decide +kernel
theorem dX3_isName_59 : decode cX3_isName 59 = .ok (.goto (-31), 3) := by decide +kernel
theorem dX3_isName_62 : decode cX3_isName 62 = .ok (.iconst 1, 1) := by decide +kernel
theorem dX3_isName_63 : decode cX3_isName 63 = .ok (.ireturn, 1) := by decide +kernel
theorem dX3_takeSign_0 : decode cX3_takeSign 0 = .ok (.aload_n 0, 1) := by decide +kernel
theorem dX3_takeSign_1 : decode cX3_takeSign 1 = .ok (.invokevirtual 58, 3) := by decide +kernel
theorem dX3_takeSign_4 : decode cX3_takeSign 4 = .ok (.ifCond .eq 27, 3) := by decide +kernel
theorem dX3_takeSign_7 : decode cX3_takeSign 7 = .ok (.aload_n 0, 1) := by decide +kernel
theorem dX3_takeSign_8 : decode cX3_takeSign 8 = .ok (.getfield 32, 3) := by decide +kernel
theorem dX3_takeSign_11 : decode cX3_takeSign 11 = .ok (.iconst 3, 1) := by decide +kernel
theorem dX3_takeSign_12 : decode cX3_takeSign 12 = .ok (.if_icmp .eq 15, 3) := by decide +kernel
theorem dX3_takeSign_15 : decode cX3_takeSign 15 = .ok (.aload_n 0, 1) := by decide +kernel
theorem dX3_takeSign_16 : decode cX3_takeSign 16 = .ok (.iconst 2, 1) := by decide +kernel
theorem dX3_takeSign_17 : decode cX3_takeSign 17 = .ok (.aload_n 0, 1) := by decide +kernel
theorem dX3_takeSign_18 : decode cX3_takeSign 18 = .ok (.getfield 35, 3) := by decide +kernel
theorem dX3_takeSign_21 : decode cX3_takeSign 21 = .ok (.invokevirtual 71, 3) := by decide +kernel
theorem dX3_takeSign_24 : decode cX3_takeSign 24 = .ok (.ifCond .eq 7, 3) := by decide +kernel
theorem dX3_takeSign_27 : decode cX3_takeSign 27 = .ok (.iconst 1, 1) := by decide +kernel
theorem dX3_takeSign_28 : decode cX3_takeSign 28 = .ok (.goto 4, 3) := by decide +kernel
theorem dX3_takeSign_31 : decode cX3_takeSign 31 = .ok (.iconst 0, 1) := by decide +kernel
theorem dX3_takeSign_32 : decode cX3_takeSign 32 = .ok (.ireturn, 1) := by decide +kernel
theorem dX3_takeNumber_0 : decode cX3_takeNumber 0 = .ok (.aload_n 0, 1) := by decide +kernel
theorem dX3_takeNumber_1 : decode cX3_takeNumber 1 = .ok (.invokevirtual 58, 3) := by decide +kernel
theorem dX3_takeNumber_4 : decode cX3_takeNumber 4 = .ok (.ifCond .ne 5, 3) := by decide +kernel
theorem dX3_takeNumber_7 : decode cX3_takeNumber 7 = .ok (.iconst (-1), 1) := by decide +kernel
theorem dX3_takeNumber_8 : decode cX3_takeNumber 8 = .ok (.ireturn, 1) := by decide +kernel
theorem dX3_takeNumber_9 : decode cX3_takeNumber 9 = .ok (.aload_n 0, 1) := by decide +kernel
theorem dX3_takeNumber_10 : decode cX3_takeNumber 10 = .ok (.getfield 32, 3) := by decide +kernel
theorem dX3_takeNumber_13 : decode cX3_takeNumber 13 = .ok (.iconst 2, 1) := by decide +kernel
theorem dX3_takeNumber_14 : decode cX3_takeNumber 14 = .ok (.if_icmp .eq 15, 3) := by decide +kernel
theorem dX3_takeNumber_17 : decode cX3_takeNumber 17 = .ok (.aload_n 0, 1) := by decide +kernel
theorem dX3_takeNumber_18 : decode cX3_takeNumber 18 = .ok (.iconst 2, 1) := by decide +kernel
theorem dX3_takeNumber_19 : decode cX3_takeNumber 19 = .ok (.aload_n 0, 1) := by decide +kernel
theorem dX3_takeNumber_20 : decode cX3_takeNumber 20 = .ok (.getfield 35, 3) := by decide +kernel
theorem dX3_takeNumber_23 : decode cX3_takeNumber 23 = .ok (.invokevirtual 71, 3) := by decide +kernel
theorem dX3_takeNumber_26 : decode cX3_takeNumber 26 = .ok (.ifCond .eq 7, 3) := by decide +kernel
theorem dX3_takeNumber_29 : decode cX3_takeNumber 29 = .ok (.iconst 1, 1) := by decide +kernel
theorem dX3_takeNumber_30 : decode cX3_takeNumber 30 = .ok (.goto 4, 3) := by decide +kernel
theorem dX3_takeNumber_33 : decode cX3_takeNumber 33 = .ok (.iconst 0, 1) := by decide +kernel
theorem dX3_takeNumber_34 : decode cX3_takeNumber 34 = .ok (.istore_n 3, 1) := by decide +kernel
theorem dX3_takeNumber_35 : decode cX3_takeNumber 35 = .ok (.iconst 0, 1) := by decide +kernel
theorem dX3_takeNumber_36 : decode cX3_takeNumber 36 = .ok (.istore 4, 2) := by decide +kernel
theorem dX3_takeNumber_38 : decode cX3_takeNumber 38 = .ok (.aload_n 0, 1) := by decide +kernel
theorem dX3_takeNumber_39 : decode cX3_takeNumber 39 = .ok (.getfield 35, 3) := by decide +kernel
theorem dX3_takeNumber_42 : decode cX3_takeNumber 42 = .ok (.istore 5, 2) := by decide +kernel
theorem dX3_takeNumber_44 : decode cX3_takeNumber 44 = .ok (.iload_n 3, 1) := by decide +kernel
theorem dX3_takeNumber_45 : decode cX3_takeNumber 45 = .ok (.ifCond .eq 35, 3) := by decide +kernel
theorem dX3_takeNumber_48 : decode cX3_takeNumber 48 = .ok (.iload 5, 2) := by decide +kernel
theorem dX3_takeNumber_50 : decode cX3_takeNumber 50 = .ok (.aload_n 0, 1) := by decide +kernel
theorem dX3_takeNumber_51 : decode cX3_takeNumber 51 = .ok (.getfield 38, 3) := by decide +kernel
theorem dX3_takeNumber_54 : decode cX3_takeNumber 54 = .ok (.if_icmp .ge 26, 3) := by decide +kernel
theorem dX3_takeNumber_57 : decode cX3_takeNumber 57 = .ok (.bipush 10, 2) := by decide +kernel
theorem dX3_takeNumber_59 : decode cX3_takeNumber 59 = .ok (.iload 4, 2) := by decide +kernel
theorem dX3_takeNumber_61 : decode cX3_takeNumber 61 = .ok (.imul, 1) := by decide +kernel
theorem dX3_takeNumber_62 : decode cX3_takeNumber 62 = .ok (.aload_n 0, 1) := by decide +kernel
theorem dX3_takeNumber_63 : decode cX3_takeNumber 63 = .ok (.iload 5, 2) := by decide +kernel
theorem dX3_takeNumber_65 : decode cX3_takeNumber 65 = .ok (.invokevirtual 78, 3) := by decide +kernel
theorem dX3_takeNumber_68 : decode cX3_takeNumber 68 = .ok (.iadd, 1) := by decide +kernel
theorem dX3_takeNumber_69 : decode cX3_takeNumber 69 = .ok (.bipush 48, 2) := by decide +kernel
theorem dX3_takeNumber_71 : decode cX3_takeNumber 71 = .ok (.isub, 1) := by decide +kernel
theorem dX3_takeNumber_72 : decode cX3_takeNumber 72 = .ok (.istore 4, 2) := by decide +kernel
theorem dX3_takeNumber_74 : decode cX3_takeNumber 74 = .ok (.iinc 5 1, 3) := by decide +kernel
theorem dX3_takeNumber_77 : decode cX3_takeNumber 77 = .ok (.goto (-33), 3) := by decide +kernel
theorem dX3_takeNumber_80 : decode cX3_takeNumber 80 = .ok (.iload_n 3, 1) := by decide +kernel
theorem dX3_takeNumber_81 : decode cX3_takeNumber 81 = .ok (.ifCond .eq 31, 3) := by decide +kernel
theorem dX3_takeNumber_84 : decode cX3_takeNumber 84 = .ok (.iload 4, 2) := by decide +kernel
theorem dX3_takeNumber_86 : decode cX3_takeNumber 86 = .ok (.iload_n 1, 1) := by decide +kernel
theorem dX3_takeNumber_87 : decode cX3_takeNumber 87 = .ok (.if_icmp .lt 9, 3) := by decide +kernel
theorem dX3_takeNumber_90 : decode cX3_takeNumber 90 = .ok (.iload 4, 2) := by decide +kernel
theorem dX3_takeNumber_92 : decode cX3_takeNumber 92 = .ok (.iload_n 2, 1) := by decide +kernel
theorem dX3_takeNumber_93 : decode cX3_takeNumber 93 = .ok (.if_icmp .le 15, 3) := by decide +kernel
theorem dX3_takeNumber_96 : decode cX3_takeNumber 96 = .ok (.aload_n 0, 1) := by decide +kernel
theorem dX3_takeNumber_97 : decode cX3_takeNumber 97 = .ok (.iconst 3, 1) := by decide +kernel
theorem dX3_takeNumber_98 : decode cX3_takeNumber 98 = .ok (.aload_n 0, 1) := by decide +kernel
theorem dX3_takeNumber_99 : decode cX3_takeNumber 99 = .ok (.getfield 35, 3) := by decide +kernel
theorem dX3_takeNumber_102 : decode cX3_takeNumber 102 = .ok (.invokevirtual 71, 3) := by decide +kernel
theorem dX3_takeNumber_105 : decode cX3_takeNumber 105 = .ok (.ifCond .eq 7, 3) := by decide +kernel
theorem dX3_takeNumber_108 : decode cX3_takeNumber 108 = .ok (.iconst 1, 1) := by decide +kernel
theorem dX3_takeNumber_109 : decode cX3_takeNumber 109 = .ok (.goto 4, 3) := by decide +kernel
theorem dX3_takeNumber_112 : decode cX3_takeNumber 112 = .ok (.iconst 0, 1) := by decide +kernel
theorem dX3_takeNumber_113 : decode cX3_takeNumber 113 = .ok (.istore 5, 2) := by decide +kernel
theorem dX3_takeNumber_115 : decode cX3_takeNumber 115 = .ok (.iload 5, 2) := by decide +kernel
theorem dX3_takeNumber_117 : decode cX3_takeNumber 117 = .ok (.ifCond .eq 8, 3) := by decide +kernel
theorem dX3_takeNumber_120 : decode cX3_takeNumber 120 = .ok (.iload 4, 2) := by decide +kernel
theorem dX3_takeNumber_122 : decode cX3_takeNumber 122 = .ok (.goto 4, 3) := by decide +kernel
theorem dX3_takeNumber_125 : decode cX3_takeNumber 125 = .ok (.iconst (-1), 1) := by decide +kernel
theorem dX3_takeNumber_126 : decode cX3_takeNumber 126 = .ok (.ireturn, 1) := by decide +kernel
theorem dX3_takeYard_0 : decode cX3_takeYard 0 = .ok (.aload_n 0, 1) := by decide +kernel
theorem dX3_takeYard_1 : decode cX3_takeYard 1 = .ok (.iconst 0, 1) := by decide +kernel
theorem dX3_takeYard_2 : decode cX3_takeYard 2 = .ok (.bipush 20, 2) := by decide +kernel
theorem dX3_takeYard_4 : decode cX3_takeYard 4 = .ok (.invokevirtual 94, 3) := by decide +kernel
theorem dX3_takeYard_7 : decode cX3_takeYard 7 = .ok (.istore_n 1, 1) := by decide +kernel
theorem dX3_takeYard_8 : decode cX3_takeYard 8 = .ok (.aload_n 0, 1) := by decide +kernel
theorem dX3_takeYard_9 : decode cX3_takeYard 9 = .ok (.aload_n 0, 1) := by decide +kernel
theorem dX3_takeYard_10 : decode cX3_takeYard 10 = .ok (.getfield 52, 3) := by decide +kernel
theorem dX3_takeYard_13 : decode cX3_takeYard 13 = .ok (.iload_n 1, 1) := by decide +kernel
theorem dX3_takeYard_14 : decode cX3_takeYard 14 = .ok (.invokestatic 98, 3) := by decide +kernel
theorem dX3_takeYard_17 : decode cX3_takeYard 17 = .ok (.putfield 52, 3) := by decide +kernel
theorem dX3_takeYard_20 : decode cX3_takeYard 20 = .ok (.iload_n 1, 1) := by decide +kernel
theorem dX3_takeYard_21 : decode cX3_takeYard 21 = .ok (.ireturn, 1) := by decide +kernel
theorem dX3_takeWidth_0 : decode cX3_takeWidth 0 = .ok (.aload_n 0, 1) := by decide +kernel
theorem dX3_takeWidth_1 : decode cX3_takeWidth 1 = .ok (.iconst 0, 1) := by decide +kernel
theorem dX3_takeWidth_2 : decode cX3_takeWidth 2 = .ok (.iconst 2, 1) := by decide +kernel
theorem dX3_takeWidth_3 : decode cX3_takeWidth 3 = .ok (.invokevirtual 94, 3) := by decide +kernel
theorem dX3_takeWidth_6 : decode cX3_takeWidth 6 = .ok (.ireturn, 1) := by decide +kernel
theorem dX3_takeLine_0 : decode cX3_takeLine 0 = .ok (.aload_n 0, 1) := by decide +kernel
theorem dX3_takeLine_1 : decode cX3_takeLine 1 = .ok (.ldc 103, 2) := by decide +kernel
theorem dX3_takeLine_3 : decode cX3_takeLine 3 = .ok (.invokevirtual 105, 3) := by decide +kernel
theorem dX3_takeLine_6 : decode cX3_takeLine 6 = .ok (.ifCond .eq 8, 3) := by decide +kernel
theorem dX3_takeLine_9 : decode cX3_takeLine 9 = .ok (.aload_n 0, 1) := by decide +kernel
theorem dX3_takeLine_10 : decode cX3_takeLine 10 = .ok (.invokevirtual 109, 3) := by decide +kernel
theorem dX3_takeLine_13 : decode cX3_takeLine 13 = .ok (.ireturn, 1) := by decide +kernel
theorem dX3_takeLine_14 : decode cX3_takeLine 14 = .ok (.aload_n 0, 1) := by decide +kernel
theorem dX3_takeLine_15 : decode cX3_takeLine 15 = .ok (.ldc 112, 2) := by decide +kernel
theorem dX3_takeLine_17 : decode cX3_takeLine 17 = .ok (.invokevirtual 105, 3) := by decide +kernel
theorem dX3_takeLine_20 : decode cX3_takeLine 20 = .ok (.ifCond .eq 8, 3) := by decide +kernel
theorem dX3_takeLine_23 : decode cX3_takeLine 23 = .ok (.aload_n 0, 1) := by decide +kernel
theorem dX3_takeLine_24 : decode cX3_takeLine 24 = .ok (.invokevirtual 114, 3) := by decide +kernel
theorem dX3_takeLine_27 : decode cX3_takeLine 27 = .ok (.ireturn, 1) := by decide +kernel
theorem dX3_takeLine_28 : decode cX3_takeLine 28 = .ok (.aload_n 0, 1) := by decide +kernel
theorem dX3_takeLine_29 : decode cX3_takeLine 29 = .ok (.ldc 117, 2) := by decide +kernel
theorem dX3_takeLine_31 : decode cX3_takeLine 31 = .ok (.invokevirtual 105, 3) := by decide +kernel
theorem dX3_takeLine_34 : decode cX3_takeLine 34 = .ok (.ifCond .eq 8, 3) := by decide +kernel
theorem dX3_takeLine_37 : decode cX3_takeLine 37 = .ok (.aload_n 0, 1) := by decide +kernel
theorem dX3_takeLine_38 : decode cX3_takeLine 38 = .ok (.invokevirtual 119, 3) := by decide +kernel
theorem dX3_takeLine_41 : decode cX3_takeLine 41 = .ok (.ireturn, 1) := by decide +kernel
theorem dX3_takeLine_42 : decode cX3_takeLine 42 = .ok (.aload_n 0, 1) := by decide +kernel
theorem dX3_takeLine_43 : decode cX3_takeLine 43 = .ok (.ldc 122, 2) := by decide +kernel
theorem dX3_takeLine_45 : decode cX3_takeLine 45 = .ok (.invokevirtual 105, 3) := by decide +kernel
theorem dX3_takeLine_48 : decode cX3_takeLine 48 = .ok (.ifCond .eq 8, 3) := by decide +kernel
theorem dX3_takeLine_51 : decode cX3_takeLine 51 = .ok (.aload_n 0, 1) := by decide +kernel
theorem dX3_takeLine_52 : decode cX3_takeLine 52 = .ok (.invokevirtual 124, 3) := by decide +kernel
theorem dX3_takeLine_55 : decode cX3_takeLine 55 = .ok (.ireturn, 1) := by decide +kernel
theorem dX3_takeLine_56 : decode cX3_takeLine 56 = .ok (.aload_n 0, 1) := by decide +kernel
theorem dX3_takeLine_57 : decode cX3_takeLine 57 = .ok (.ldc 127, 2) := by decide +kernel
theorem dX3_takeLine_59 : decode cX3_takeLine 59 = .ok (.invokevirtual 105, 3) := by decide +kernel
theorem dX3_takeLine_62 : decode cX3_takeLine 62 = .ok (.ifCond .eq 8, 3) := by decide +kernel
theorem dX3_takeLine_65 : decode cX3_takeLine 65 = .ok (.aload_n 0, 1) := by decide +kernel
theorem dX3_takeLine_66 : decode cX3_takeLine 66 = .ok (.invokevirtual 129, 3) := by decide +kernel
theorem dX3_takeLine_69 : decode cX3_takeLine 69 = .ok (.ireturn, 1) := by decide +kernel
theorem dX3_takeLine_70 : decode cX3_takeLine 70 = .ok (.aload_n 0, 1) := by decide +kernel
theorem dX3_takeLine_71 : decode cX3_takeLine 71 = .ok (.ldc 132, 2) := by decide +kernel
theorem dX3_takeLine_73 : decode cX3_takeLine 73 = .ok (.invokevirtual 105, 3) := by decide +kernel
theorem dX3_takeLine_76 : decode cX3_takeLine 76 = .ok (.ifCond .eq 8, 3) := by decide +kernel
theorem dX3_takeLine_79 : decode cX3_takeLine 79 = .ok (.aload_n 0, 1) := by decide +kernel
theorem dX3_takeLine_80 : decode cX3_takeLine 80 = .ok (.invokevirtual 134, 3) := by decide +kernel
theorem dX3_takeLine_83 : decode cX3_takeLine 83 = .ok (.ireturn, 1) := by decide +kernel
theorem dX3_takeLine_84 : decode cX3_takeLine 84 = .ok (.aload_n 0, 1) := by decide +kernel
theorem dX3_takeLine_85 : decode cX3_takeLine 85 = .ok (.ldc 137, 2) := by decide +kernel
theorem dX3_takeLine_87 : decode cX3_takeLine 87 = .ok (.invokevirtual 105, 3) := by decide +kernel
theorem dX3_takeLine_90 : decode cX3_takeLine 90 = .ok (.ifCond .eq 8, 3) := by decide +kernel
theorem dX3_takeLine_93 : decode cX3_takeLine 93 = .ok (.aload_n 0, 1) := by decide +kernel
theorem dX3_takeLine_94 : decode cX3_takeLine 94 = .ok (.invokevirtual 139, 3) := by decide +kernel
theorem dX3_takeLine_97 : decode cX3_takeLine 97 = .ok (.ireturn, 1) := by decide +kernel
theorem dX3_takeLine_98 : decode cX3_takeLine 98 = .ok (.aload_n 0, 1) := by decide +kernel
theorem dX3_takeLine_99 : decode cX3_takeLine 99 = .ok (.ldc 142, 2) := by decide +kernel
theorem dX3_takeLine_101 : decode cX3_takeLine 101 = .ok (.invokevirtual 105, 3) := by decide +kernel
theorem dX3_takeLine_104 : decode cX3_takeLine 104 = .ok (.ifCond .eq 8, 3) := by decide +kernel
theorem dX3_takeLine_107 : decode cX3_takeLine 107 = .ok (.aload_n 0, 1) := by decide +kernel
theorem dX3_takeLine_108 : decode cX3_takeLine 108 = .ok (.invokevirtual 144, 3) := by decide +kernel
theorem dX3_takeLine_111 : decode cX3_takeLine 111 = .ok (.ireturn, 1) := by decide +kernel
theorem dX3_takeLine_112 : decode cX3_takeLine 112 = .ok (.aload_n 0, 1) := by decide +kernel
theorem dX3_takeLine_113 : decode cX3_takeLine 113 = .ok (.ldc 147, 2) := by decide +kernel
theorem dX3_takeLine_115 : decode cX3_takeLine 115 = .ok (.invokevirtual 105, 3) := by decide +kernel
theorem dX3_takeLine_118 : decode cX3_takeLine 118 = .ok (.ifCond .eq 10, 3) := by decide +kernel
theorem dX3_takeLine_121 : decode cX3_takeLine 121 = .ok (.aload_n 0, 1) := by decide +kernel
theorem dX3_takeLine_122 : decode cX3_takeLine 122 = .ok (.invokevirtual 149, 3) := by decide +kernel
theorem dX3_takeLine_125 : decode cX3_takeLine 125 = .ok (.goto 12, 3) := by decide +kernel
theorem dX3_takeLine_128 : decode cX3_takeLine 128 = .ok (.aload_n 0, 1) := by decide +kernel
theorem dX3_takeLine_129 : decode cX3_takeLine 129 = .ok (.iconst 2, 1) := by decide +kernel
theorem dX3_takeLine_130 : decode cX3_takeLine 130 = .ok (.aload_n 0, 1) := by decide +kernel
theorem dX3_takeLine_131 : decode cX3_takeLine 131 = .ok (.getfield 35, 3) := by decide +kernel
theorem dX3_takeLine_134 : decode cX3_takeLine 134 = .ok (.invokevirtual 71, 3) := by decide +kernel
theorem dX3_takeLine_137 : decode cX3_takeLine 137 = .ok (.ireturn, 1) := by decide +kernel
theorem dX3_takeLast_0 : decode cX3_takeLast 0 = .ok (.aload_n 0, 1) := by decide +kernel
theorem dX3_takeLast_1 : decode cX3_takeLast 1 = .ok (.getfield 41, 3) := by decide +kernel
theorem dX3_takeLast_4 : decode cX3_takeLast 4 = .ok (.ifCond .eq 13, 3) := by decide +kernel
theorem dX3_takeLast_7 : decode cX3_takeLast 7 = .ok (.aload_n 0, 1) := by decide +kernel
theorem dX3_takeLast_8 : decode cX3_takeLast 8 = .ok (.iconst 4, 1) := by decide +kernel
theorem dX3_takeLast_9 : decode cX3_takeLast 9 = .ok (.aload_n 0, 1) := by decide +kernel
theorem dX3_takeLast_10 : decode cX3_takeLast 10 = .ok (.getfield 35, 3) := by decide +kernel
theorem dX3_takeLast_13 : decode cX3_takeLast 13 = .ok (.invokevirtual 71, 3) := by decide +kernel
theorem dX3_takeLast_16 : decode cX3_takeLast 16 = .ok (.ireturn, 1) := by decide +kernel
theorem dX3_takeLast_17 : decode cX3_takeLast 17 = .ok (.aload_n 0, 1) := by decide +kernel
theorem dX3_takeLast_18 : decode cX3_takeLast 18 = .ok (.iconst 2, 1) := by decide +kernel
theorem dX3_takeLast_19 : decode cX3_takeLast 19 = .ok (.bipush 20, 2) := by decide +kernel
theorem dX3_takeLast_21 : decode cX3_takeLast 21 = .ok (.invokevirtual 94, 3) := by decide +kernel
theorem dX3_takeLast_24 : decode cX3_takeLast 24 = .ok (.istore_n 1, 1) := by decide +kernel
theorem dX3_takeLast_25 : decode cX3_takeLast 25 = .ok (.iload_n 1, 1) := by decide +kernel
theorem dX3_takeLast_26 : decode cX3_takeLast 26 = .ok (.ifCond .ge 5, 3) := by decide +kernel
theorem dX3_takeLast_29 : decode cX3_takeLast 29 = .ok (.iconst 0, 1) := by decide +kernel
theorem dX3_takeLast_30 : decode cX3_takeLast 30 = .ok (.ireturn, 1) := by decide +kernel
theorem dX3_takeLast_31 : decode cX3_takeLast 31 = .ok (.aload_n 0, 1) := by decide +kernel
theorem dX3_takeLast_32 : decode cX3_takeLast 32 = .ok (.getfield 22, 3) := by decide +kernel
theorem dX3_takeLast_35 : decode cX3_takeLast 35 = .ok (.iload_n 1, 1) := by decide +kernel
theorem dX3_takeLast_36 : decode cX3_takeLast 36 = .ok (.putfield 68, 3) := by decide +kernel
theorem dX3_takeLast_39 : decode cX3_takeLast 39 = .ok (.aload_n 0, 1) := by decide +kernel
theorem dX3_takeLast_40 : decode cX3_takeLast 40 = .ok (.iconst 1, 1) := by decide +kernel
theorem dX3_takeLast_41 : decode cX3_takeLast 41 = .ok (.putfield 41, 3) := by decide +kernel
theorem dX3_takeLast_44 : decode cX3_takeLast 44 = .ok (.aload_n 0, 1) := by decide +kernel
theorem dX3_takeLast_45 : decode cX3_takeLast 45 = .ok (.invokevirtual 152, 3) := by decide +kernel
theorem dX3_takeLast_48 : decode cX3_takeLast 48 = .ok (.ireturn, 1) := by decide +kernel
theorem dX3_takeBog_0 : decode cX3_takeBog 0 = .ok (.aload_n 0, 1) := by decide +kernel
theorem dX3_takeBog_1 : decode cX3_takeBog 1 = .ok (.invokevirtual 155, 3) := by decide +kernel
theorem dX3_takeBog_4 : decode cX3_takeBog 4 = .ok (.istore_n 1, 1) := by decide +kernel
theorem dX3_takeBog_5 : decode cX3_takeBog 5 = .ok (.iload_n 1, 1) := by decide +kernel
theorem dX3_takeBog_6 : decode cX3_takeBog 6 = .ok (.ifCond .ge 5, 3) := by decide +kernel
theorem dX3_takeBog_9 : decode cX3_takeBog 9 = .ok (.iconst 0, 1) := by decide +kernel
theorem dX3_takeBog_10 : decode cX3_takeBog 10 = .ok (.ireturn, 1) := by decide +kernel
theorem dX3_takeBog_11 : decode cX3_takeBog 11 = .ok (.aload_n 0, 1) := by decide +kernel
theorem dX3_takeBog_12 : decode cX3_takeBog 12 = .ok (.getfield 22, 3) := by decide +kernel
theorem dX3_takeBog_15 : decode cX3_takeBog 15 = .ok (.iload_n 1, 1) := by decide +kernel
theorem dX3_takeBog_16 : decode cX3_takeBog 16 = .ok (.invokevirtual 158, 3) := by decide +kernel
theorem dX3_takeBog_19 : decode cX3_takeBog 19 = .ok (.ifCond .eq 13, 3) := by decide +kernel
theorem dX3_takeBog_22 : decode cX3_takeBog 22 = .ok (.aload_n 0, 1) := by decide +kernel
theorem dX3_takeBog_23 : decode cX3_takeBog 23 = .ok (.iconst 4, 1) := by decide +kernel
theorem dX3_takeBog_24 : decode cX3_takeBog 24 = .ok (.aload_n 0, 1) := by decide +kernel
theorem dX3_takeBog_25 : decode cX3_takeBog 25 = .ok (.getfield 35, 3) := by decide +kernel
theorem dX3_takeBog_28 : decode cX3_takeBog 28 = .ok (.invokevirtual 71, 3) := by decide +kernel
theorem dX3_takeBog_31 : decode cX3_takeBog 31 = .ok (.ireturn, 1) := by decide +kernel
theorem dX3_takeBog_32 : decode cX3_takeBog 32 = .ok (.aload_n 0, 1) := by decide +kernel
theorem dX3_takeBog_33 : decode cX3_takeBog 33 = .ok (.getfield 22, 3) := by decide +kernel
theorem dX3_takeBog_36 : decode cX3_takeBog 36 = .ok (.iload_n 1, 1) := by decide +kernel
theorem dX3_takeBog_37 : decode cX3_takeBog 37 = .ok (.invokevirtual 162, 3) := by decide +kernel
theorem dX3_takeBog_40 : decode cX3_takeBog 40 = .ok (.aload_n 0, 1) := by decide +kernel
theorem dX3_takeBog_41 : decode cX3_takeBog 41 = .ok (.invokevirtual 152, 3) := by decide +kernel
theorem dX3_takeBog_44 : decode cX3_takeBog 44 = .ok (.ireturn, 1) := by decide +kernel
theorem dX3_takeHill_0 : decode cX3_takeHill 0 = .ok (.aload_n 0, 1) := by decide +kernel
theorem dX3_takeHill_1 : decode cX3_takeHill 1 = .ok (.invokevirtual 155, 3) := by decide +kernel
theorem dX3_takeHill_4 : decode cX3_takeHill 4 = .ok (.istore_n 1, 1) := by decide +kernel
theorem dX3_takeHill_5 : decode cX3_takeHill 5 = .ok (.iload_n 1, 1) := by decide +kernel
theorem dX3_takeHill_6 : decode cX3_takeHill 6 = .ok (.ifCond .ge 5, 3) := by decide +kernel
theorem dX3_takeHill_9 : decode cX3_takeHill 9 = .ok (.iconst 0, 1) := by decide +kernel
theorem dX3_takeHill_10 : decode cX3_takeHill 10 = .ok (.ireturn, 1) := by decide +kernel
theorem dX3_takeHill_11 : decode cX3_takeHill 11 = .ok (.aload_n 0, 1) := by decide +kernel
theorem dX3_takeHill_12 : decode cX3_takeHill 12 = .ok (.getfield 22, 3) := by decide +kernel
theorem dX3_takeHill_15 : decode cX3_takeHill 15 = .ok (.iload_n 1, 1) := by decide +kernel
theorem dX3_takeHill_16 : decode cX3_takeHill 16 = .ok (.invokevirtual 166, 3) := by decide +kernel
theorem dX3_takeHill_19 : decode cX3_takeHill 19 = .ok (.bipush (-4), 2) := by decide +kernel
theorem dX3_takeHill_21 : decode cX3_takeHill 21 = .ok (.if_icmp .eq 13, 3) := by decide +kernel
theorem dX3_takeHill_24 : decode cX3_takeHill 24 = .ok (.aload_n 0, 1) := by decide +kernel
theorem dX3_takeHill_25 : decode cX3_takeHill 25 = .ok (.iconst 4, 1) := by decide +kernel
theorem dX3_takeHill_26 : decode cX3_takeHill 26 = .ok (.aload_n 0, 1) := by decide +kernel
theorem dX3_takeHill_27 : decode cX3_takeHill 27 = .ok (.getfield 35, 3) := by decide +kernel
theorem dX3_takeHill_30 : decode cX3_takeHill 30 = .ok (.invokevirtual 71, 3) := by decide +kernel
theorem dX3_takeHill_33 : decode cX3_takeHill 33 = .ok (.ireturn, 1) := by decide +kernel
theorem dX3_takeHill_34 : decode cX3_takeHill 34 = .ok (.aload_n 0, 1) := by decide +kernel
theorem dX3_takeHill_35 : decode cX3_takeHill 35 = .ok (.invokevirtual 169, 3) := by decide +kernel
theorem dX3_takeHill_38 : decode cX3_takeHill 38 = .ok (.istore_n 2, 1) := by decide +kernel
theorem dX3_takeHill_39 : decode cX3_takeHill 39 = .ok (.iload_n 2, 1) := by decide +kernel
theorem dX3_takeHill_40 : decode cX3_takeHill 40 = .ok (.ifCond .ge 5, 3) := by decide +kernel
theorem dX3_takeHill_43 : decode cX3_takeHill 43 = .ok (.iconst 0, 1) := by decide +kernel
theorem dX3_takeHill_44 : decode cX3_takeHill 44 = .ok (.ireturn, 1) := by decide +kernel
theorem dX3_takeHill_45 : decode cX3_takeHill 45 = .ok (.aload_n 0, 1) := by decide +kernel
theorem dX3_takeHill_46 : decode cX3_takeHill 46 = .ok (.getfield 22, 3) := by decide +kernel
theorem dX3_takeHill_49 : decode cX3_takeHill 49 = .ok (.iload_n 1, 1) := by decide +kernel
theorem dX3_takeHill_50 : decode cX3_takeHill 50 = .ok (.iload_n 2, 1) := by decide +kernel
theorem dX3_takeHill_51 : decode cX3_takeHill 51 = .ok (.invokevirtual 172, 3) := by decide +kernel
theorem dX3_takeHill_54 : decode cX3_takeHill 54 = .ok (.aload_n 0, 1) := by decide +kernel
theorem dX3_takeHill_55 : decode cX3_takeHill 55 = .ok (.invokevirtual 152, 3) := by decide +kernel
theorem dX3_takeHill_58 : decode cX3_takeHill 58 = .ok (.ireturn, 1) := by decide +kernel
theorem dX3_takeSmith_0 : decode cX3_takeSmith 0 = .ok (.aload_n 0, 1) := by decide +kernel
theorem dX3_takeSmith_1 : decode cX3_takeSmith 1 = .ok (.invokevirtual 155, 3) := by decide +kernel
theorem dX3_takeSmith_4 : decode cX3_takeSmith 4 = .ok (.istore_n 1, 1) := by decide +kernel
theorem dX3_takeSmith_5 : decode cX3_takeSmith 5 = .ok (.iload_n 1, 1) := by decide +kernel
theorem dX3_takeSmith_6 : decode cX3_takeSmith 6 = .ok (.ifCond .ge 5, 3) := by decide +kernel
theorem dX3_takeSmith_9 : decode cX3_takeSmith 9 = .ok (.iconst 0, 1) := by decide +kernel
theorem dX3_takeSmith_10 : decode cX3_takeSmith 10 = .ok (.ireturn, 1) := by decide +kernel
theorem dX3_takeSmith_11 : decode cX3_takeSmith 11 = .ok (.aload_n 0, 1) := by decide +kernel
theorem dX3_takeSmith_12 : decode cX3_takeSmith 12 = .ok (.getfield 22, 3) := by decide +kernel
theorem dX3_takeSmith_15 : decode cX3_takeSmith 15 = .ok (.iload_n 1, 1) := by decide +kernel
theorem dX3_takeSmith_16 : decode cX3_takeSmith 16 = .ok (.invokevirtual 176, 3) := by decide +kernel
theorem dX3_takeSmith_19 : decode cX3_takeSmith 19 = .ok (.bipush (-4), 2) := by decide +kernel
theorem dX3_takeSmith_21 : decode cX3_takeSmith 21 = .ok (.if_icmp .eq 13, 3) := by decide +kernel
theorem dX3_takeSmith_24 : decode cX3_takeSmith 24 = .ok (.aload_n 0, 1) := by decide +kernel
theorem dX3_takeSmith_25 : decode cX3_takeSmith 25 = .ok (.iconst 4, 1) := by decide +kernel
theorem dX3_takeSmith_26 : decode cX3_takeSmith 26 = .ok (.aload_n 0, 1) := by decide +kernel
theorem dX3_takeSmith_27 : decode cX3_takeSmith 27 = .ok (.getfield 35, 3) := by decide +kernel
theorem dX3_takeSmith_30 : decode cX3_takeSmith 30 = .ok (.invokevirtual 71, 3) := by decide +kernel
theorem dX3_takeSmith_33 : decode cX3_takeSmith 33 = .ok (.ireturn, 1) := by decide +kernel
theorem dX3_takeSmith_34 : decode cX3_takeSmith 34 = .ok (.aload_n 0, 1) := by decide +kernel
theorem dX3_takeSmith_35 : decode cX3_takeSmith 35 = .ok (.iconst 0, 1) := by decide +kernel
theorem dX3_takeSmith_36 : decode cX3_takeSmith 36 = .ok (.bipush 9, 2) := by decide +kernel
theorem dX3_takeSmith_38 : decode cX3_takeSmith 38 = .ok (.invokevirtual 94, 3) := by decide +kernel
theorem dX3_takeSmith_41 : decode cX3_takeSmith 41 = .ok (.istore_n 2, 1) := by decide +kernel
theorem dX3_takeSmith_42 : decode cX3_takeSmith 42 = .ok (.iload_n 2, 1) := by decide +kernel
theorem dX3_takeSmith_43 : decode cX3_takeSmith 43 = .ok (.ifCond .ge 5, 3) := by decide +kernel
theorem dX3_takeSmith_46 : decode cX3_takeSmith 46 = .ok (.iconst 0, 1) := by decide +kernel
theorem dX3_takeSmith_47 : decode cX3_takeSmith 47 = .ok (.ireturn, 1) := by decide +kernel
theorem dX3_takeSmith_48 : decode cX3_takeSmith 48 = .ok (.aload_n 0, 1) := by decide +kernel
theorem dX3_takeSmith_49 : decode cX3_takeSmith 49 = .ok (.getfield 22, 3) := by decide +kernel
theorem dX3_takeSmith_52 : decode cX3_takeSmith 52 = .ok (.iload_n 1, 1) := by decide +kernel
theorem dX3_takeSmith_53 : decode cX3_takeSmith 53 = .ok (.iload_n 2, 1) := by decide +kernel
theorem dX3_takeSmith_54 : decode cX3_takeSmith 54 = .ok (.invokevirtual 179, 3) := by decide +kernel
theorem dX3_takeSmith_57 : decode cX3_takeSmith 57 = .ok (.aload_n 0, 1) := by decide +kernel
theorem dX3_takeSmith_58 : decode cX3_takeSmith 58 = .ok (.invokevirtual 152, 3) := by decide +kernel
theorem dX3_takeSmith_61 : decode cX3_takeSmith 61 = .ok (.ireturn, 1) := by decide +kernel
theorem dX3_takeToll_0 : decode cX3_takeToll 0 = .ok (.aload_n 0, 1) := by decide +kernel
theorem dX3_takeToll_1 : decode cX3_takeToll 1 = .ok (.invokevirtual 155, 3) := by decide +kernel
theorem dX3_takeToll_4 : decode cX3_takeToll 4 = .ok (.istore_n 1, 1) := by decide +kernel
theorem dX3_takeToll_5 : decode cX3_takeToll 5 = .ok (.iload_n 1, 1) := by decide +kernel
theorem dX3_takeToll_6 : decode cX3_takeToll 6 = .ok (.ifCond .ge 5, 3) := by decide +kernel
theorem dX3_takeToll_9 : decode cX3_takeToll 9 = .ok (.iconst 0, 1) := by decide +kernel
theorem dX3_takeToll_10 : decode cX3_takeToll 10 = .ok (.ireturn, 1) := by decide +kernel
theorem dX3_takeToll_11 : decode cX3_takeToll 11 = .ok (.aload_n 0, 1) := by decide +kernel
theorem dX3_takeToll_12 : decode cX3_takeToll 12 = .ok (.invokevirtual 169, 3) := by decide +kernel
theorem dX3_takeToll_15 : decode cX3_takeToll 15 = .ok (.istore_n 2, 1) := by decide +kernel
theorem dX3_takeToll_16 : decode cX3_takeToll 16 = .ok (.iload_n 2, 1) := by decide +kernel
theorem dX3_takeToll_17 : decode cX3_takeToll 17 = .ok (.ifCond .ge 5, 3) := by decide +kernel
theorem dX3_takeToll_20 : decode cX3_takeToll 20 = .ok (.iconst 0, 1) := by decide +kernel
theorem dX3_takeToll_21 : decode cX3_takeToll 21 = .ok (.ireturn, 1) := by decide +kernel
theorem dX3_takeToll_22 : decode cX3_takeToll 22 = .ok (.aload_n 0, 1) := by decide +kernel
theorem dX3_takeToll_23 : decode cX3_takeToll 23 = .ok (.iconst 0, 1) := by decide +kernel
theorem dX3_takeToll_24 : decode cX3_takeToll 24 = .ok (.bipush 9, 2) := by decide +kernel
theorem dX3_takeToll_26 : decode cX3_takeToll 26 = .ok (.invokevirtual 94, 3) := by decide +kernel
theorem dX3_takeToll_29 : decode cX3_takeToll 29 = .ok (.istore_n 3, 1) := by decide +kernel
theorem dX3_takeToll_30 : decode cX3_takeToll 30 = .ok (.iload_n 3, 1) := by decide +kernel
theorem dX3_takeToll_31 : decode cX3_takeToll 31 = .ok (.ifCond .ge 5, 3) := by decide +kernel
theorem dX3_takeToll_34 : decode cX3_takeToll 34 = .ok (.iconst 0, 1) := by decide +kernel
theorem dX3_takeToll_35 : decode cX3_takeToll 35 = .ok (.ireturn, 1) := by decide +kernel
theorem dX3_takeToll_36 : decode cX3_takeToll 36 = .ok (.aload_n 0, 1) := by decide +kernel
theorem dX3_takeToll_37 : decode cX3_takeToll 37 = .ok (.getfield 22, 3) := by decide +kernel
theorem dX3_takeToll_40 : decode cX3_takeToll 40 = .ok (.getfield 182, 3) := by decide +kernel
theorem dX3_takeToll_43 : decode cX3_takeToll 43 = .ok (.iload_n 1, 1) := by decide +kernel
theorem dX3_takeToll_44 : decode cX3_takeToll 44 = .ok (.iload_n 2, 1) := by decide +kernel
theorem dX3_takeToll_45 : decode cX3_takeToll 45 = .ok (.invokestatic 185, 3) := by decide +kernel
theorem dX3_takeToll_48 : decode cX3_takeToll 48 = .ok (.iload_n 3, 1) := by decide +kernel
theorem dX3_takeToll_49 : decode cX3_takeToll 49 = .ok (.invokestatic 187, 3) := by decide +kernel
theorem dX3_takeToll_52 : decode cX3_takeToll 52 = .ok (.aload_n 0, 1) := by decide +kernel
theorem dX3_takeToll_53 : decode cX3_takeToll 53 = .ok (.invokevirtual 152, 3) := by decide +kernel
theorem dX3_takeToll_56 : decode cX3_takeToll 56 = .ok (.ireturn, 1) := by decide +kernel
theorem dX3_takeRut_0 : decode cX3_takeRut 0 = .ok (.aload_n 0, 1) := by decide +kernel
theorem dX3_takeRut_1 : decode cX3_takeRut 1 = .ok (.invokevirtual 155, 3) := by decide +kernel
theorem dX3_takeRut_4 : decode cX3_takeRut 4 = .ok (.istore_n 1, 1) := by decide +kernel
theorem dX3_takeRut_5 : decode cX3_takeRut 5 = .ok (.iload_n 1, 1) := by decide +kernel
theorem dX3_takeRut_6 : decode cX3_takeRut 6 = .ok (.ifCond .ge 5, 3) := by decide +kernel
theorem dX3_takeRut_9 : decode cX3_takeRut 9 = .ok (.iconst 0, 1) := by decide +kernel
theorem dX3_takeRut_10 : decode cX3_takeRut 10 = .ok (.ireturn, 1) := by decide +kernel
theorem dX3_takeRut_11 : decode cX3_takeRut 11 = .ok (.aload_n 0, 1) := by decide +kernel
theorem dX3_takeRut_12 : decode cX3_takeRut 12 = .ok (.invokevirtual 169, 3) := by decide +kernel
theorem dX3_takeRut_15 : decode cX3_takeRut 15 = .ok (.istore_n 2, 1) := by decide +kernel
theorem dX3_takeRut_16 : decode cX3_takeRut 16 = .ok (.iload_n 2, 1) := by decide +kernel
theorem dX3_takeRut_17 : decode cX3_takeRut 17 = .ok (.ifCond .ge 5, 3) := by decide +kernel
theorem dX3_takeRut_20 : decode cX3_takeRut 20 = .ok (.iconst 0, 1) := by decide +kernel
theorem dX3_takeRut_21 : decode cX3_takeRut 21 = .ok (.ireturn, 1) := by decide +kernel
theorem dX3_takeRut_22 : decode cX3_takeRut 22 = .ok (.aload_n 0, 1) := by decide +kernel
theorem dX3_takeRut_23 : decode cX3_takeRut 23 = .ok (.iconst 0, 1) := by decide +kernel
theorem dX3_takeRut_24 : decode cX3_takeRut 24 = .ok (.bipush 99, 2) := by decide +kernel
theorem dX3_takeRut_26 : decode cX3_takeRut 26 = .ok (.invokevirtual 94, 3) := by decide +kernel
theorem dX3_takeRut_29 : decode cX3_takeRut 29 = .ok (.istore_n 3, 1) := by decide +kernel
theorem dX3_takeRut_30 : decode cX3_takeRut 30 = .ok (.iload_n 3, 1) := by decide +kernel
theorem dX3_takeRut_31 : decode cX3_takeRut 31 = .ok (.ifCond .ge 5, 3) := by decide +kernel
theorem dX3_takeRut_34 : decode cX3_takeRut 34 = .ok (.iconst 0, 1) := by decide +kernel
theorem dX3_takeRut_35 : decode cX3_takeRut 35 = .ok (.ireturn, 1) := by decide +kernel
theorem dX3_takeRut_36 : decode cX3_takeRut 36 = .ok (.aload_n 0, 1) := by decide +kernel
theorem dX3_takeRut_37 : decode cX3_takeRut 37 = .ok (.getfield 22, 3) := by decide +kernel
theorem dX3_takeRut_40 : decode cX3_takeRut 40 = .ok (.getfield 191, 3) := by decide +kernel
theorem dX3_takeRut_43 : decode cX3_takeRut 43 = .ok (.iload_n 1, 1) := by decide +kernel
theorem dX3_takeRut_44 : decode cX3_takeRut 44 = .ok (.iload_n 2, 1) := by decide +kernel
theorem dX3_takeRut_45 : decode cX3_takeRut 45 = .ok (.invokestatic 185, 3) := by decide +kernel
theorem dX3_takeRut_48 : decode cX3_takeRut 48 = .ok (.iload_n 3, 1) := by decide +kernel
theorem dX3_takeRut_49 : decode cX3_takeRut 49 = .ok (.invokestatic 187, 3) := by decide +kernel
theorem dX3_takeRut_52 : decode cX3_takeRut 52 = .ok (.aload_n 0, 1) := by decide +kernel
theorem dX3_takeRut_53 : decode cX3_takeRut 53 = .ok (.dup, 1) := by decide +kernel
theorem dX3_takeRut_54 : decode cX3_takeRut 54 = .ok (.getfield 48, 3) := by decide +kernel
theorem dX3_takeRut_57 : decode cX3_takeRut 57 = .ok (.lconst 1, 1) := by decide +kernel
theorem dX3_takeRut_58 : decode cX3_takeRut 58 = .ok (.iload_n 1, 1) := by decide +kernel
theorem dX3_takeRut_59 : decode cX3_takeRut 59 = .ok (.iload_n 2, 1) := by decide +kernel
theorem dX3_takeRut_60 : decode cX3_takeRut 60 = .ok (.invokestatic 185, 3) := by decide +kernel
theorem dX3_takeRut_63 : decode cX3_takeRut 63 = .ok (.lshl, 1) := by decide +kernel
theorem dX3_takeRut_64 : decode cX3_takeRut 64 = .ok (.lor, 1) := by decide +kernel
theorem dX3_takeRut_65 : decode cX3_takeRut 65 = .ok (.putfield 48, 3) := by decide +kernel
theorem dX3_takeRut_68 : decode cX3_takeRut 68 = .ok (.aload_n 0, 1) := by decide +kernel
theorem dX3_takeRut_69 : decode cX3_takeRut 69 = .ok (.invokevirtual 152, 3) := by decide +kernel
theorem dX3_takeRut_72 : decode cX3_takeRut 72 = .ok (.ireturn, 1) := by decide +kernel
theorem dX3_takeFrost_0 : decode cX3_takeFrost 0 = .ok (.aload_n 0, 1) := by decide +kernel
theorem dX3_takeFrost_1 : decode cX3_takeFrost 1 = .ok (.iconst 1, 1) := by decide +kernel
theorem dX3_takeFrost_2 : decode cX3_takeFrost 2 = .ok (.bipush 60, 2) := by decide +kernel
theorem dX3_takeFrost_4 : decode cX3_takeFrost 4 = .ok (.invokevirtual 94, 3) := by decide +kernel
theorem dX3_takeFrost_7 : decode cX3_takeFrost 7 = .ok (.istore_n 1, 1) := by decide +kernel
theorem dX3_takeFrost_8 : decode cX3_takeFrost 8 = .ok (.iload_n 1, 1) := by decide +kernel
theorem dX3_takeFrost_9 : decode cX3_takeFrost 9 = .ok (.ifCond .ge 5, 3) := by decide +kernel
theorem dX3_takeFrost_12 : decode cX3_takeFrost 12 = .ok (.iconst 0, 1) := by decide +kernel
theorem dX3_takeFrost_13 : decode cX3_takeFrost 13 = .ok (.ireturn, 1) := by decide +kernel
theorem dX3_takeFrost_14 : decode cX3_takeFrost 14 = .ok (.aload_n 0, 1) := by decide +kernel
theorem dX3_takeFrost_15 : decode cX3_takeFrost 15 = .ok (.getfield 22, 3) := by decide +kernel
theorem dX3_takeFrost_18 : decode cX3_takeFrost 18 = .ok (.iload_n 1, 1) := by decide +kernel
theorem dX3_takeFrost_19 : decode cX3_takeFrost 19 = .ok (.invokevirtual 194, 3) := by decide +kernel
theorem dX3_takeFrost_22 : decode cX3_takeFrost 22 = .ok (.ifCond .eq 13, 3) := by decide +kernel
theorem dX3_takeFrost_25 : decode cX3_takeFrost 25 = .ok (.aload_n 0, 1) := by decide +kernel
theorem dX3_takeFrost_26 : decode cX3_takeFrost 26 = .ok (.iconst 4, 1) := by decide +kernel
theorem dX3_takeFrost_27 : decode cX3_takeFrost 27 = .ok (.aload_n 0, 1) := by decide +kernel
theorem dX3_takeFrost_28 : decode cX3_takeFrost 28 = .ok (.getfield 35, 3) := by decide +kernel
theorem dX3_takeFrost_31 : decode cX3_takeFrost 31 = .ok (.invokevirtual 71, 3) := by decide +kernel
theorem dX3_takeFrost_34 : decode cX3_takeFrost 34 = .ok (.ireturn, 1) := by decide +kernel
theorem dX3_takeFrost_35 : decode cX3_takeFrost 35 = .ok (.aload_n 0, 1) := by decide +kernel
theorem dX3_takeFrost_36 : decode cX3_takeFrost 36 = .ok (.getfield 22, 3) := by decide +kernel
theorem dX3_takeFrost_39 : decode cX3_takeFrost 39 = .ok (.iload_n 1, 1) := by decide +kernel
theorem dX3_takeFrost_40 : decode cX3_takeFrost 40 = .ok (.iconst 1, 1) := by decide +kernel
theorem dX3_takeFrost_41 : decode cX3_takeFrost 41 = .ok (.invokevirtual 197, 3) := by decide +kernel
theorem dX3_takeFrost_44 : decode cX3_takeFrost 44 = .ok (.aload_n 0, 1) := by decide +kernel
theorem dX3_takeFrost_45 : decode cX3_takeFrost 45 = .ok (.invokevirtual 152, 3) := by decide +kernel
theorem dX3_takeFrost_48 : decode cX3_takeFrost 48 = .ok (.ireturn, 1) := by decide +kernel
theorem dX3_takeCart_0 : decode cX3_takeCart 0 = .ok (.aload_n 0, 1) := by decide +kernel
theorem dX3_takeCart_1 : decode cX3_takeCart 1 = .ok (.getfield 22, 3) := by decide +kernel
theorem dX3_takeCart_4 : decode cX3_takeCart 4 = .ok (.getfield 201, 3) := by decide +kernel
theorem dX3_takeCart_7 : decode cX3_takeCart 7 = .ok (.iconst 5, 1) := by decide +kernel
theorem dX3_takeCart_8 : decode cX3_takeCart 8 = .ok (.if_icmp .lt 13, 3) := by decide +kernel
theorem dX3_takeCart_11 : decode cX3_takeCart 11 = .ok (.aload_n 0, 1) := by decide +kernel
theorem dX3_takeCart_12 : decode cX3_takeCart 12 = .ok (.iconst 5, 1) := by decide +kernel
theorem dX3_takeCart_13 : decode cX3_takeCart 13 = .ok (.aload_n 0, 1) := by decide +kernel
theorem dX3_takeCart_14 : decode cX3_takeCart 14 = .ok (.getfield 35, 3) := by decide +kernel
theorem dX3_takeCart_17 : decode cX3_takeCart 17 = .ok (.invokevirtual 71, 3) := by decide +kernel
theorem dX3_takeCart_20 : decode cX3_takeCart 20 = .ok (.ireturn, 1) := by decide +kernel
theorem dX3_takeCart_21 : decode cX3_takeCart 21 = .ok (.aload_n 0, 1) := by decide +kernel
theorem dX3_takeCart_22 : decode cX3_takeCart 22 = .ok (.invokevirtual 58, 3) := by decide +kernel
theorem dX3_takeCart_25 : decode cX3_takeCart 25 = .ok (.ifCond .ne 5, 3) := by decide +kernel
theorem dX3_takeCart_28 : decode cX3_takeCart 28 = .ok (.iconst 0, 1) := by decide +kernel
theorem dX3_takeCart_29 : decode cX3_takeCart 29 = .ok (.ireturn, 1) := by decide +kernel
theorem dX3_takeCart_30 : decode cX3_takeCart 30 = .ok (.aload_n 0, 1) := by decide +kernel
theorem dX3_takeCart_31 : decode cX3_takeCart 31 = .ok (.invokevirtual 204, 3) := by decide +kernel
theorem dX3_takeCart_34 : decode cX3_takeCart 34 = .ok (.istore_n 1, 1) := by decide +kernel
theorem dX3_takeCart_35 : decode cX3_takeCart 35 = .ok (.iload_n 1, 1) := by decide +kernel
theorem dX3_takeCart_36 : decode cX3_takeCart 36 = .ok (.ifCond .ge 13, 3) := by decide +kernel
theorem dX3_takeCart_39 : decode cX3_takeCart 39 = .ok (.aload_n 0, 1) := by decide +kernel
theorem dX3_takeCart_40 : decode cX3_takeCart 40 = .ok (.iconst 2, 1) := by decide +kernel
theorem dX3_takeCart_41 : decode cX3_takeCart 41 = .ok (.aload_n 0, 1) := by decide +kernel
theorem dX3_takeCart_42 : decode cX3_takeCart 42 = .ok (.getfield 35, 3) := by decide +kernel
theorem dX3_takeCart_45 : decode cX3_takeCart 45 = .ok (.invokevirtual 71, 3) := by decide +kernel
theorem dX3_takeCart_48 : decode cX3_takeCart 48 = .ok (.ireturn, 1) := by decide +kernel
theorem dX3_takeCart_49 : decode cX3_takeCart 49 = .ok (.aload_n 0, 1) := by decide +kernel
theorem dX3_takeCart_50 : decode cX3_takeCart 50 = .ok (.getfield 22, 3) := by decide +kernel
theorem dX3_takeCart_53 : decode cX3_takeCart 53 = .ok (.getfield 201, 3) := by decide +kernel
theorem dX3_takeCart_56 : decode cX3_takeCart 56 = .ok (.istore_n 2, 1) := by decide +kernel
theorem dX3_takeCart_57 : decode cX3_takeCart 57 = .ok (.aload_n 0, 1) := by decide +kernel
theorem dX3_takeCart_58 : decode cX3_takeCart 58 = .ok (.getfield 22, 3) := by decide +kernel
theorem dX3_takeCart_61 : decode cX3_takeCart 61 = .ok (.iload_n 2, 1) := by decide +kernel
theorem dX3_takeCart_62 : decode cX3_takeCart 62 = .ok (.iconst 0, 1) := by decide +kernel
theorem dX3_takeCart_63 : decode cX3_takeCart 63 = .ok (.iload_n 1, 1) := by decide +kernel
theorem dX3_takeCart_64 : decode cX3_takeCart 64 = .ok (.invokevirtual 207, 3) := by decide +kernel
theorem dX3_takeCart_67 : decode cX3_takeCart 67 = .ok (.pop, 1) := by decide +kernel
theorem dX3_takeCart_68 : decode cX3_takeCart 68 = .ok (.iconst 1, 1) := by decide +kernel
theorem dX3_takeCart_69 : decode cX3_takeCart 69 = .ok (.istore_n 3, 1) := by decide +kernel
theorem dX3_takeCart_70 : decode cX3_takeCart 70 = .ok (.iload_n 3, 1) := by decide +kernel
theorem dX3_takeCart_71 : decode cX3_takeCart 71 = .ok (.bipush 6, 2) := by decide +kernel
theorem dX3_takeCart_73 : decode cX3_takeCart 73 = .ok (.if_icmp .gt 106, 3) := by decide +kernel
theorem dX3_takeCart_76 : decode cX3_takeCart 76 = .ok (.iload_n 3, 1) := by decide +kernel
theorem dX3_takeCart_77 : decode cX3_takeCart 77 = .ok (.iconst 4, 1) := by decide +kernel
theorem dX3_takeCart_78 : decode cX3_takeCart 78 = .ok (.if_icmp .eq 8, 3) := by decide +kernel
theorem dX3_takeCart_81 : decode cX3_takeCart 81 = .ok (.iload_n 3, 1) := by decide +kernel
theorem dX3_takeCart_82 : decode cX3_takeCart 82 = .ok (.iconst 5, 1) := by decide +kernel
theorem dX3_takeCart_83 : decode cX3_takeCart 83 = .ok (.if_icmp .ne 7, 3) := by decide +kernel
theorem dX3_takeCart_86 : decode cX3_takeCart 86 = .ok (.iconst 1, 1) := by decide +kernel
theorem dX3_takeCart_87 : decode cX3_takeCart 87 = .ok (.goto 4, 3) := by decide +kernel
theorem dX3_takeCart_90 : decode cX3_takeCart 90 = .ok (.iconst 0, 1) := by decide +kernel
theorem dX3_takeCart_91 : decode cX3_takeCart 91 = .ok (.istore 4, 2) := by decide +kernel
theorem dX3_takeCart_93 : decode cX3_takeCart 93 = .ok (.iload 4, 2) := by decide +kernel
theorem dX3_takeCart_95 : decode cX3_takeCart 95 = .ok (.ifCond .eq 10, 3) := by decide +kernel
theorem dX3_takeCart_98 : decode cX3_takeCart 98 = .ok (.aload_n 0, 1) := by decide +kernel
theorem dX3_takeCart_99 : decode cX3_takeCart 99 = .ok (.invokevirtual 155, 3) := by decide +kernel
theorem dX3_takeCart_102 : decode cX3_takeCart 102 = .ok (.goto 21, 3) := by decide +kernel
theorem dX3_takeCart_105 : decode cX3_takeCart 105 = .ok (.aload_n 0, 1) := by decide +kernel
theorem dX3_takeCart_106 : decode cX3_takeCart 106 = .ok (.getstatic 211, 3) := by decide +kernel
theorem dX3_takeCart_109 : decode cX3_takeCart 109 = .ok (.iload_n 3, 1) := by decide +kernel
theorem dX3_takeCart_110 : decode cX3_takeCart 110 = .ok (.invokestatic 214, 3) := by decide +kernel
theorem dX3_takeCart_113 : decode cX3_takeCart 113 = .ok (.getstatic 218, 3) := by decide +kernel
theorem dX3_takeCart_116 : decode cX3_takeCart 116 = .ok (.iload_n 3, 1) := by decide +kernel
theorem dX3_takeCart_117 : decode cX3_takeCart 117 = .ok (.invokestatic 214, 3) := by decide +kernel
theorem dX3_takeCart_120 : decode cX3_takeCart 120 = .ok (.invokevirtual 94, 3) := by decide +kernel
theorem dX3_takeCart_123 : decode cX3_takeCart 123 = .ok (.istore 5, 2) := by decide +kernel
theorem dX3_takeCart_125 : decode cX3_takeCart 125 = .ok (.iload 5, 2) := by decide +kernel
theorem dX3_takeCart_127 : decode cX3_takeCart 127 = .ok (.ifCond .ge 5, 3) := by decide +kernel
theorem dX3_takeCart_130 : decode cX3_takeCart 130 = .ok (.iconst 0, 1) := by decide +kernel
theorem dX3_takeCart_131 : decode cX3_takeCart 131 = .ok (.ireturn, 1) := by decide +kernel
theorem dX3_takeCart_132 : decode cX3_takeCart 132 = .ok (.iload_n 3, 1) := by decide +kernel
theorem dX3_takeCart_133 : decode cX3_takeCart 133 = .ok (.iconst 5, 1) := by decide +kernel
theorem dX3_takeCart_134 : decode cX3_takeCart 134 = .ok (.if_icmp .ne 27, 3) := by decide +kernel
theorem dX3_takeCart_137 : decode cX3_takeCart 137 = .ok (.iload 5, 2) := by decide +kernel
theorem dX3_takeCart_139 : decode cX3_takeCart 139 = .ok (.aload_n 0, 1) := by decide +kernel
theorem dX3_takeCart_140 : decode cX3_takeCart 140 = .ok (.getfield 22, 3) := by decide +kernel
theorem dX3_takeCart_143 : decode cX3_takeCart 143 = .ok (.iload_n 2, 1) := by decide +kernel
theorem dX3_takeCart_144 : decode cX3_takeCart 144 = .ok (.iconst 4, 1) := by decide +kernel
theorem dX3_takeCart_145 : decode cX3_takeCart 145 = .ok (.invokevirtual 221, 3) := by decide +kernel
theorem dX3_takeCart_148 : decode cX3_takeCart 148 = .ok (.if_icmp .ne 13, 3) := by decide +kernel
theorem dX3_takeCart_151 : decode cX3_takeCart 151 = .ok (.aload_n 0, 1) := by decide +kernel
theorem dX3_takeCart_152 : decode cX3_takeCart 152 = .ok (.iconst 4, 1) := by decide +kernel
theorem dX3_takeCart_153 : decode cX3_takeCart 153 = .ok (.aload_n 0, 1) := by decide +kernel
theorem dX3_takeCart_154 : decode cX3_takeCart 154 = .ok (.getfield 35, 3) := by decide +kernel
theorem dX3_takeCart_157 : decode cX3_takeCart 157 = .ok (.invokevirtual 71, 3) := by decide +kernel
theorem dX3_takeCart_160 : decode cX3_takeCart 160 = .ok (.ireturn, 1) := by decide +kernel
theorem dX3_takeCart_161 : decode cX3_takeCart 161 = .ok (.aload_n 0, 1) := by decide +kernel
theorem dX3_takeCart_162 : decode cX3_takeCart 162 = .ok (.getfield 22, 3) := by decide +kernel
theorem dX3_takeCart_165 : decode cX3_takeCart 165 = .ok (.iload_n 2, 1) := by decide +kernel
theorem dX3_takeCart_166 : decode cX3_takeCart 166 = .ok (.iload_n 3, 1) := by decide +kernel
theorem dX3_takeCart_167 : decode cX3_takeCart 167 = .ok (.iload 5, 2) := by decide +kernel
theorem dX3_takeCart_169 : decode cX3_takeCart 169 = .ok (.invokevirtual 207, 3) := by decide +kernel
theorem dX3_takeCart_172 : decode cX3_takeCart 172 = .ok (.pop, 1) := by decide +kernel
theorem dX3_takeCart_173 : decode cX3_takeCart 173 = .ok (.iinc 3 1, 3) := by decide +kernel
theorem dX3_takeCart_176 : decode cX3_takeCart 176 = .ok (.goto (-106), 3) := by decide +kernel
theorem dX3_takeCart_179 : decode cX3_takeCart 179 = .ok (.aload_n 0, 1) := by decide +kernel
theorem dX3_takeCart_180 : decode cX3_takeCart 180 = .ok (.getfield 22, 3) := by decide +kernel
theorem dX3_takeCart_183 : decode cX3_takeCart 183 = .ok (.dup, 1) := by decide +kernel
theorem dX3_takeCart_184 : decode cX3_takeCart 184 = .ok (.getfield 201, 3) := by decide +kernel
theorem dX3_takeCart_187 : decode cX3_takeCart 187 = .ok (.iconst 1, 1) := by decide +kernel
theorem dX3_takeCart_188 : decode cX3_takeCart 188 = .ok (.iadd, 1) := by decide +kernel
theorem dX3_takeCart_189 : decode cX3_takeCart 189 = .ok (.putfield 201, 3) := by decide +kernel
theorem dX3_takeCart_192 : decode cX3_takeCart 192 = .ok (.aload_n 0, 1) := by decide +kernel
theorem dX3_takeCart_193 : decode cX3_takeCart 193 = .ok (.invokevirtual 152, 3) := by decide +kernel
theorem dX3_takeCart_196 : decode cX3_takeCart 196 = .ok (.ireturn, 1) := by decide +kernel
theorem dX3_kindNamed_0 : decode cX3_kindNamed 0 = .ok (.aload_n 0, 1) := by decide +kernel
theorem dX3_kindNamed_1 : decode cX3_kindNamed 1 = .ok (.ldc 224, 2) := by decide +kernel
theorem dX3_kindNamed_3 : decode cX3_kindNamed 3 = .ok (.invokevirtual 105, 3) := by decide +kernel
theorem dX3_kindNamed_6 : decode cX3_kindNamed 6 = .ok (.ifCond .eq 5, 3) := by decide +kernel
theorem dX3_kindNamed_9 : decode cX3_kindNamed 9 = .ok (.iconst 0, 1) := by decide +kernel
theorem dX3_kindNamed_10 : decode cX3_kindNamed 10 = .ok (.ireturn, 1) := by decide +kernel
theorem dX3_kindNamed_11 : decode cX3_kindNamed 11 = .ok (.aload_n 0, 1) := by decide +kernel
theorem dX3_kindNamed_12 : decode cX3_kindNamed 12 = .ok (.ldc 226, 2) := by decide +kernel
theorem dX3_kindNamed_14 : decode cX3_kindNamed 14 = .ok (.invokevirtual 105, 3) := by decide +kernel
theorem dX3_kindNamed_17 : decode cX3_kindNamed 17 = .ok (.ifCond .eq 5, 3) := by decide +kernel
theorem dX3_kindNamed_20 : decode cX3_kindNamed 20 = .ok (.iconst 1, 1) := by decide +kernel
theorem dX3_kindNamed_21 : decode cX3_kindNamed 21 = .ok (.ireturn, 1) := by decide +kernel
theorem dX3_kindNamed_22 : decode cX3_kindNamed 22 = .ok (.aload_n 0, 1) := by decide +kernel
theorem dX3_kindNamed_23 : decode cX3_kindNamed 23 = .ok (.ldc 228, 2) := by decide +kernel
theorem dX3_kindNamed_25 : decode cX3_kindNamed 25 = .ok (.invokevirtual 105, 3) := by decide +kernel
theorem dX3_kindNamed_28 : decode cX3_kindNamed 28 = .ok (.ifCond .eq 5, 3) := by decide +kernel
theorem dX3_kindNamed_31 : decode cX3_kindNamed 31 = .ok (.iconst 2, 1) := by decide +kernel
theorem dX3_kindNamed_32 : decode cX3_kindNamed 32 = .ok (.ireturn, 1) := by decide +kernel
theorem dX3_kindNamed_33 : decode cX3_kindNamed 33 = .ok (.aload_n 0, 1) := by decide +kernel
theorem dX3_kindNamed_34 : decode cX3_kindNamed 34 = .ok (.ldc 230, 2) := by decide +kernel
theorem dX3_kindNamed_36 : decode cX3_kindNamed 36 = .ok (.invokevirtual 105, 3) := by decide +kernel
theorem dX3_kindNamed_39 : decode cX3_kindNamed 39 = .ok (.ifCond .eq 5, 3) := by decide +kernel
theorem dX3_kindNamed_42 : decode cX3_kindNamed 42 = .ok (.iconst 3, 1) := by decide +kernel
theorem dX3_kindNamed_43 : decode cX3_kindNamed 43 = .ok (.ireturn, 1) := by decide +kernel
theorem dX3_kindNamed_44 : decode cX3_kindNamed 44 = .ok (.aload_n 0, 1) := by decide +kernel
theorem dX3_kindNamed_45 : decode cX3_kindNamed 45 = .ok (.ldc 232, 2) := by decide +kernel
theorem dX3_kindNamed_47 : decode cX3_kindNamed 47 = .ok (.invokevirtual 105, 3) := by decide +kernel
theorem dX3_kindNamed_50 : decode cX3_kindNamed 50 = .ok (.ifCond .eq 7, 3) := by decide +kernel
theorem dX3_kindNamed_53 : decode cX3_kindNamed 53 = .ok (.iconst 4, 1) := by decide +kernel
theorem dX3_kindNamed_54 : decode cX3_kindNamed 54 = .ok (.goto 4, 3) := by decide +kernel
theorem dX3_kindNamed_57 : decode cX3_kindNamed 57 = .ok (.iconst (-1), 1) := by decide +kernel
theorem dX3_kindNamed_58 : decode cX3_kindNamed 58 = .ok (.ireturn, 1) := by decide +kernel
theorem dX3_takeCost_0 : decode cX3_takeCost 0 = .ok (.aload_n 0, 1) := by decide +kernel
theorem dX3_takeCost_1 : decode cX3_takeCost 1 = .ok (.iconst 1, 1) := by decide +kernel
theorem dX3_takeCost_2 : decode cX3_takeCost 2 = .ok (.bipush 7, 2) := by decide +kernel
theorem dX3_takeCost_4 : decode cX3_takeCost 4 = .ok (.invokevirtual 94, 3) := by decide +kernel
theorem dX3_takeCost_7 : decode cX3_takeCost 7 = .ok (.istore_n 1, 1) := by decide +kernel
theorem dX3_takeCost_8 : decode cX3_takeCost 8 = .ok (.iload_n 1, 1) := by decide +kernel
theorem dX3_takeCost_9 : decode cX3_takeCost 9 = .ok (.ifCond .ge 5, 3) := by decide +kernel
theorem dX3_takeCost_12 : decode cX3_takeCost 12 = .ok (.iconst 0, 1) := by decide +kernel
theorem dX3_takeCost_13 : decode cX3_takeCost 13 = .ok (.ireturn, 1) := by decide +kernel
theorem dX3_takeCost_14 : decode cX3_takeCost 14 = .ok (.aload_n 0, 1) := by decide +kernel
theorem dX3_takeCost_15 : decode cX3_takeCost 15 = .ok (.getfield 45, 3) := by decide +kernel
theorem dX3_takeCost_18 : decode cX3_takeCost 18 = .ok (.iload_n 1, 1) := by decide +kernel
theorem dX3_takeCost_19 : decode cX3_takeCost 19 = .ok (.ishr, 1) := by decide +kernel
theorem dX3_takeCost_20 : decode cX3_takeCost 20 = .ok (.iconst 1, 1) := by decide +kernel
theorem dX3_takeCost_21 : decode cX3_takeCost 21 = .ok (.iand, 1) := by decide +kernel
theorem dX3_takeCost_22 : decode cX3_takeCost 22 = .ok (.ifCond .eq 13, 3) := by decide +kernel
theorem dX3_takeCost_25 : decode cX3_takeCost 25 = .ok (.aload_n 0, 1) := by decide +kernel
theorem dX3_takeCost_26 : decode cX3_takeCost 26 = .ok (.iconst 4, 1) := by decide +kernel
theorem dX3_takeCost_27 : decode cX3_takeCost 27 = .ok (.aload_n 0, 1) := by decide +kernel
theorem dX3_takeCost_28 : decode cX3_takeCost 28 = .ok (.getfield 35, 3) := by decide +kernel
theorem dX3_takeCost_31 : decode cX3_takeCost 31 = .ok (.invokevirtual 71, 3) := by decide +kernel
theorem dX3_takeCost_34 : decode cX3_takeCost 34 = .ok (.ireturn, 1) := by decide +kernel
theorem dX3_takeCost_35 : decode cX3_takeCost 35 = .ok (.aload_n 0, 1) := by decide +kernel
theorem dX3_takeCost_36 : decode cX3_takeCost 36 = .ok (.iconst 0, 1) := by decide +kernel
theorem dX3_takeCost_37 : decode cX3_takeCost 37 = .ok (.bipush 60, 2) := by decide +kernel
theorem dX3_takeCost_39 : decode cX3_takeCost 39 = .ok (.invokevirtual 94, 3) := by decide +kernel
theorem dX3_takeCost_42 : decode cX3_takeCost 42 = .ok (.istore_n 2, 1) := by decide +kernel
theorem dX3_takeCost_43 : decode cX3_takeCost 43 = .ok (.iload_n 2, 1) := by decide +kernel
theorem dX3_takeCost_44 : decode cX3_takeCost 44 = .ok (.ifCond .ge 5, 3) := by decide +kernel
theorem dX3_takeCost_47 : decode cX3_takeCost 47 = .ok (.iconst 0, 1) := by decide +kernel
theorem dX3_takeCost_48 : decode cX3_takeCost 48 = .ok (.ireturn, 1) := by decide +kernel
theorem dX3_takeCost_49 : decode cX3_takeCost 49 = .ok (.aload_n 0, 1) := by decide +kernel
theorem dX3_takeCost_50 : decode cX3_takeCost 50 = .ok (.getfield 22, 3) := by decide +kernel
theorem dX3_takeCost_53 : decode cX3_takeCost 53 = .ok (.getfield 234, 3) := by decide +kernel
theorem dX3_takeCost_56 : decode cX3_takeCost 56 = .ok (.iload_n 1, 1) := by decide +kernel
theorem dX3_takeCost_57 : decode cX3_takeCost 57 = .ok (.iload_n 2, 1) := by decide +kernel
theorem dX3_takeCost_58 : decode cX3_takeCost 58 = .ok (.invokestatic 187, 3) := by decide +kernel
theorem dX3_takeCost_61 : decode cX3_takeCost 61 = .ok (.aload_n 0, 1) := by decide +kernel
theorem dX3_takeCost_62 : decode cX3_takeCost 62 = .ok (.dup, 1) := by decide +kernel
theorem dX3_takeCost_63 : decode cX3_takeCost 63 = .ok (.getfield 45, 3) := by decide +kernel
theorem dX3_takeCost_66 : decode cX3_takeCost 66 = .ok (.iconst 1, 1) := by decide +kernel
theorem dX3_takeCost_67 : decode cX3_takeCost 67 = .ok (.iload_n 1, 1) := by decide +kernel
theorem dX3_takeCost_68 : decode cX3_takeCost 68 = .ok (.ishl, 1) := by decide +kernel
theorem dX3_takeCost_69 : decode cX3_takeCost 69 = .ok (.ior, 1) := by decide +kernel
theorem dX3_takeCost_70 : decode cX3_takeCost 70 = .ok (.putfield 45, 3) := by decide +kernel
theorem dX3_takeCost_73 : decode cX3_takeCost 73 = .ok (.aload_n 0, 1) := by decide +kernel
theorem dX3_takeCost_74 : decode cX3_takeCost 74 = .ok (.invokevirtual 152, 3) := by decide +kernel
theorem dX3_takeCost_77 : decode cX3_takeCost 77 = .ok (.ireturn, 1) := by decide +kernel
theorem dX4_init_0 : decode cX4_init 0 = .ok (.aload_n 0, 1) := by decide +kernel
theorem dX4_init_1 : decode cX4_init 1 = .ok (.invokespecial 3, 3) := by decide +kernel
theorem dX4_init_4 : decode cX4_init 4 = .ok (.aload_n 0, 1) := by decide +kernel
theorem dX4_init_5 : decode cX4_init 5 = .ok (.bipush 21, 2) := by decide +kernel
theorem dX4_init_7 : decode cX4_init 7 = .ok (.newarray .int, 2) := by decide +kernel
theorem dX4_init_9 : decode cX4_init 9 = .ok (.putfield 9, 3) := by decide +kernel
theorem dX4_init_12 : decode cX4_init 12 = .ok (.aload_n 0, 1) := by decide +kernel
theorem dX4_init_13 : decode cX4_init 13 = .ok (.bipush 21, 2) := by decide +kernel
theorem dX4_init_15 : decode cX4_init 15 = .ok (.newarray .int, 2) := by decide +kernel
theorem dX4_init_17 : decode cX4_init 17 = .ok (.putfield 15, 3) := by decide +kernel
theorem dX4_init_20 : decode cX4_init 20 = .ok (.aload_n 0, 1) := by decide +kernel
theorem dX4_init_21 : decode cX4_init 21 = .ok (.bipush 63, 2) := by decide +kernel
theorem dX4_init_23 : decode cX4_init 23 = .ok (.newarray .int, 2) := by decide +kernel
theorem dX4_init_25 : decode cX4_init 25 = .ok (.putfield 18, 3) := by decide +kernel
theorem dX4_init_28 : decode cX4_init 28 = .ok (.aload_n 0, 1) := by decide +kernel
theorem dX4_init_29 : decode cX4_init 29 = .ok (.bipush 63, 2) := by decide +kernel
theorem dX4_init_31 : decode cX4_init 31 = .ok (.newarray .int, 2) := by decide +kernel
theorem dX4_init_33 : decode cX4_init 33 = .ok (.putfield 21, 3) := by decide +kernel
theorem dX4_init_36 : decode cX4_init 36 = .ok (.aload_n 0, 1) := by decide +kernel
theorem dX4_init_37 : decode cX4_init 37 = .ok (.bipush 35, 2) := by decide +kernel
theorem dX4_init_39 : decode cX4_init 39 = .ok (.newarray .int, 2) := by decide +kernel
theorem dX4_init_41 : decode cX4_init 41 = .ok (.putfield 24, 3) := by decide +kernel
theorem dX4_init_44 : decode cX4_init 44 = .ok (.aload_n 0, 1) := by decide +kernel
theorem dX4_init_45 : decode cX4_init 45 = .ok (.bipush 8, 2) := by decide +kernel
theorem dX4_init_47 : decode cX4_init 47 = .ok (.newarray .int, 2) := by decide +kernel
theorem dX4_init_49 : decode cX4_init 49 = .ok (.putfield 27, 3) := by decide +kernel
theorem dX4_init_52 : decode cX4_init 52 = .ok (.aload_n 0, 1) := by decide +kernel
theorem dX4_init_53 : decode cX4_init 53 = .ok (.bipush 8, 2) := by decide +kernel
theorem dX4_init_55 : decode cX4_init 55 = .ok (.newarray .int, 2) := by decide +kernel
theorem dX4_init_57 : decode cX4_init 57 = .ok (.putfield 30, 3) := by decide +kernel
theorem dX4_init_60 : decode cX4_init 60 = .ok (.aload_n 0, 1) := by decide +kernel
theorem dX4_init_61 : decode cX4_init 61 = .ok (.invokevirtual 33, 3) := by decide +kernel
theorem dX4_init_64 : decode cX4_init 64 = .ok (.return_, 1) := by decide +kernel
theorem dX4_reset_0 : decode cX4_reset 0 = .ok (.aload_n 0, 1) := by decide +kernel
theorem dX4_reset_1 : decode cX4_reset 1 = .ok (.getfield 9, 3) := by decide +kernel
theorem dX4_reset_4 : decode cX4_reset 4 = .ok (.bipush (-4), 2) := by decide +kernel
theorem dX4_reset_6 : decode cX4_reset 6 = .ok (.invokestatic 36, 3) := by decide +kernel
theorem dX4_reset_9 : decode cX4_reset 9 = .ok (.aload_n 0, 1) := by decide +kernel
theorem dX4_reset_10 : decode cX4_reset 10 = .ok (.getfield 15, 3) := by decide +kernel
theorem dX4_reset_13 : decode cX4_reset 13 = .ok (.bipush (-4), 2) := by decide +kernel
theorem dX4_reset_15 : decode cX4_reset 15 = .ok (.invokestatic 36, 3) := by decide +kernel
theorem dX4_reset_18 : decode cX4_reset 18 = .ok (.aload_n 0, 1) := by decide +kernel
theorem dX4_reset_19 : decode cX4_reset 19 = .ok (.getfield 18, 3) := by decide +kernel
theorem dX4_reset_22 : decode cX4_reset 22 = .ok (.iconst 0, 1) := by decide +kernel
theorem dX4_reset_23 : decode cX4_reset 23 = .ok (.invokestatic 36, 3) := by decide +kernel
theorem dX4_reset_26 : decode cX4_reset 26 = .ok (.aload_n 0, 1) := by decide +kernel
theorem dX4_reset_27 : decode cX4_reset 27 = .ok (.getfield 21, 3) := by decide +kernel
theorem dX4_reset_30 : decode cX4_reset 30 = .ok (.iconst 0, 1) := by decide +kernel
theorem dX4_reset_31 : decode cX4_reset 31 = .ok (.invokestatic 36, 3) := by decide +kernel
theorem dX4_reset_34 : decode cX4_reset 34 = .ok (.aload_n 0, 1) := by decide +kernel
theorem dX4_reset_35 : decode cX4_reset 35 = .ok (.getfield 27, 3) := by decide +kernel
theorem dX4_reset_38 : decode cX4_reset 38 = .ok (.iconst 0, 1) := by decide +kernel
theorem dX4_reset_39 : decode cX4_reset 39 = .ok (.invokestatic 36, 3) := by decide +kernel
theorem dX4_reset_42 : decode cX4_reset 42 = .ok (.aload_n 0, 1) := by decide +kernel
theorem dX4_reset_43 : decode cX4_reset 43 = .ok (.iconst 0, 1) := by decide +kernel
theorem dX4_reset_44 : decode cX4_reset 44 = .ok (.putfield 40, 3) := by decide +kernel
theorem dX4_reset_47 : decode cX4_reset 47 = .ok (.aload_n 0, 1) := by decide +kernel
theorem dX4_reset_48 : decode cX4_reset 48 = .ok (.lconst 0, 1) := by decide +kernel
theorem dX4_reset_49 : decode cX4_reset 49 = .ok (.putfield 44, 3) := by decide +kernel
theorem dX4_reset_52 : decode cX4_reset 52 = .ok (.aload_n 0, 1) := by decide +kernel
theorem dX4_reset_53 : decode cX4_reset 53 = .ok (.bipush 10, 2) := by decide +kernel
theorem dX4_reset_55 : decode cX4_reset 55 = .ok (.putfield 48, 3) := by decide +kernel
theorem dX4_reset_58 : decode cX4_reset 58 = .ok (.aload_n 0, 1) := by decide +kernel
theorem dX4_reset_59 : decode cX4_reset 59 = .ok (.iconst 0, 1) := by decide +kernel
theorem dX4_reset_60 : decode cX4_reset 60 = .ok (.putfield 51, 3) := by decide +kernel
theorem dX4_reset_63 : decode cX4_reset 63 = .ok (.aload_n 0, 1) := by decide +kernel
theorem dX4_reset_64 : decode cX4_reset 64 = .ok (.iconst 0, 1) := by decide +kernel
theorem dX4_reset_65 : decode cX4_reset 65 = .ok (.putfield 54, 3) := by decide +kernel
theorem dX4_reset_68 : decode cX4_reset 68 = .ok (.return_, 1) := by decide +kernel
theorem dX4_copyFrom_0 : decode cX4_copyFrom 0 = .ok (.aload_n 1, 1) := by decide +kernel
theorem dX4_copyFrom_1 : decode cX4_copyFrom 1 = .ok (.getfield 9, 3) := by decide +kernel
theorem dX4_copyFrom_4 : decode cX4_copyFrom 4 = .ok (.aload_n 0, 1) := by decide +kernel
theorem dX4_copyFrom_5 : decode cX4_copyFrom 5 = .ok (.getfield 9, 3) := by decide +kernel
theorem dX4_copyFrom_8 : decode cX4_copyFrom 8 = .ok (.invokestatic 57, 3) := by decide +kernel
theorem dX4_copyFrom_11 : decode cX4_copyFrom 11 = .ok (.aload_n 1, 1) := by decide +kernel
theorem dX4_copyFrom_12 : decode cX4_copyFrom 12 = .ok (.getfield 15, 3) := by decide +kernel
theorem dX4_copyFrom_15 : decode cX4_copyFrom 15 = .ok (.aload_n 0, 1) := by decide +kernel
theorem dX4_copyFrom_16 : decode cX4_copyFrom 16 = .ok (.getfield 15, 3) := by decide +kernel
theorem dX4_copyFrom_19 : decode cX4_copyFrom 19 = .ok (.invokestatic 57, 3) := by decide +kernel
theorem dX4_copyFrom_22 : decode cX4_copyFrom 22 = .ok (.aload_n 1, 1) := by decide +kernel
theorem dX4_copyFrom_23 : decode cX4_copyFrom 23 = .ok (.getfield 18, 3) := by decide +kernel
theorem dX4_copyFrom_26 : decode cX4_copyFrom 26 = .ok (.aload_n 0, 1) := by decide +kernel
theorem dX4_copyFrom_27 : decode cX4_copyFrom 27 = .ok (.getfield 18, 3) := by decide +kernel
theorem dX4_copyFrom_30 : decode cX4_copyFrom 30 = .ok (.invokestatic 57, 3) := by decide +kernel
theorem dX4_copyFrom_33 : decode cX4_copyFrom 33 = .ok (.aload_n 1, 1) := by decide +kernel
theorem dX4_copyFrom_34 : decode cX4_copyFrom 34 = .ok (.getfield 21, 3) := by decide +kernel
theorem dX4_copyFrom_37 : decode cX4_copyFrom 37 = .ok (.aload_n 0, 1) := by decide +kernel
theorem dX4_copyFrom_38 : decode cX4_copyFrom 38 = .ok (.getfield 21, 3) := by decide +kernel
theorem dX4_copyFrom_41 : decode cX4_copyFrom 41 = .ok (.invokestatic 57, 3) := by decide +kernel
theorem dX4_copyFrom_44 : decode cX4_copyFrom 44 = .ok (.aload_n 1, 1) := by decide +kernel
theorem dX4_copyFrom_45 : decode cX4_copyFrom 45 = .ok (.getfield 24, 3) := by decide +kernel
theorem dX4_copyFrom_48 : decode cX4_copyFrom 48 = .ok (.aload_n 0, 1) := by decide +kernel
theorem dX4_copyFrom_49 : decode cX4_copyFrom 49 = .ok (.getfield 24, 3) := by decide +kernel
theorem dX4_copyFrom_52 : decode cX4_copyFrom 52 = .ok (.invokestatic 57, 3) := by decide +kernel
theorem dX4_copyFrom_55 : decode cX4_copyFrom 55 = .ok (.aload_n 1, 1) := by decide +kernel
theorem dX4_copyFrom_56 : decode cX4_copyFrom 56 = .ok (.getfield 27, 3) := by decide +kernel
theorem dX4_copyFrom_59 : decode cX4_copyFrom 59 = .ok (.aload_n 0, 1) := by decide +kernel
theorem dX4_copyFrom_60 : decode cX4_copyFrom 60 = .ok (.getfield 27, 3) := by decide +kernel
theorem dX4_copyFrom_63 : decode cX4_copyFrom 63 = .ok (.invokestatic 57, 3) := by decide +kernel
theorem dX4_copyFrom_66 : decode cX4_copyFrom 66 = .ok (.aload_n 1, 1) := by decide +kernel
theorem dX4_copyFrom_67 : decode cX4_copyFrom 67 = .ok (.getfield 30, 3) := by decide +kernel
theorem dX4_copyFrom_70 : decode cX4_copyFrom 70 = .ok (.aload_n 0, 1) := by decide +kernel
theorem dX4_copyFrom_71 : decode cX4_copyFrom 71 = .ok (.getfield 30, 3) := by decide +kernel
theorem dX4_copyFrom_74 : decode cX4_copyFrom 74 = .ok (.invokestatic 57, 3) := by decide +kernel
theorem dX4_copyFrom_77 : decode cX4_copyFrom 77 = .ok (.aload_n 0, 1) := by decide +kernel
theorem dX4_copyFrom_78 : decode cX4_copyFrom 78 = .ok (.aload_n 1, 1) := by decide +kernel
theorem dX4_copyFrom_79 : decode cX4_copyFrom 79 = .ok (.getfield 40, 3) := by decide +kernel
theorem dX4_copyFrom_82 : decode cX4_copyFrom 82 = .ok (.putfield 40, 3) := by decide +kernel
theorem dX4_copyFrom_85 : decode cX4_copyFrom 85 = .ok (.aload_n 0, 1) := by decide +kernel
theorem dX4_copyFrom_86 : decode cX4_copyFrom 86 = .ok (.aload_n 1, 1) := by decide +kernel
theorem dX4_copyFrom_87 : decode cX4_copyFrom 87 = .ok (.getfield 44, 3) := by decide +kernel
theorem dX4_copyFrom_90 : decode cX4_copyFrom 90 = .ok (.putfield 44, 3) := by decide +kernel
theorem dX4_copyFrom_93 : decode cX4_copyFrom 93 = .ok (.aload_n 0, 1) := by decide +kernel
theorem dX4_copyFrom_94 : decode cX4_copyFrom 94 = .ok (.aload_n 1, 1) := by decide +kernel
theorem dX4_copyFrom_95 : decode cX4_copyFrom 95 = .ok (.getfield 48, 3) := by decide +kernel
theorem dX4_copyFrom_98 : decode cX4_copyFrom 98 = .ok (.putfield 48, 3) := by decide +kernel
theorem dX4_copyFrom_101 : decode cX4_copyFrom 101 = .ok (.aload_n 0, 1) := by decide +kernel
theorem dX4_copyFrom_102 : decode cX4_copyFrom 102 = .ok (.aload_n 1, 1) := by decide +kernel
theorem dX4_copyFrom_103 : decode cX4_copyFrom 103 = .ok (.getfield 51, 3) := by decide +kernel
theorem dX4_copyFrom_106 : decode cX4_copyFrom 106 = .ok (.putfield 51, 3) := by decide +kernel
theorem dX4_copyFrom_109 : decode cX4_copyFrom 109 = .ok (.aload_n 0, 1) := by decide +kernel
theorem dX4_copyFrom_110 : decode cX4_copyFrom 110 = .ok (.aload_n 1, 1) := by decide +kernel
theorem dX4_copyFrom_111 : decode cX4_copyFrom 111 = .ok (.getfield 54, 3) := by decide +kernel
theorem dX4_copyFrom_114 : decode cX4_copyFrom 114 = .ok (.putfield 54, 3) := by decide +kernel
theorem dX4_copyFrom_117 : decode cX4_copyFrom 117 = .ok (.return_, 1) := by decide +kernel
theorem dX4_hasYard_0 : decode cX4_hasYard 0 = .ok (.iload_n 1, 1) := by decide +kernel
theorem dX4_hasYard_1 : decode cX4_hasYard 1 = .ok (.ifCond .lt 15, 3) := by decide +kernel
theorem dX4_hasYard_4 : decode cX4_hasYard 4 = .ok (.iload_n 1, 1) := by decide +kernel
theorem dX4_hasYard_5 : decode cX4_hasYard 5 = .ok (.aload_n 0, 1) := by decide +kernel
theorem dX4_hasYard_6 : decode cX4_hasYard 6 = .ok (.getfield 48, 3) := by decide +kernel
theorem dX4_hasYard_9 : decode cX4_hasYard 9 = .ok (.if_icmp .gt 7, 3) := by decide +kernel
theorem dX4_hasYard_12 : decode cX4_hasYard 12 = .ok (.iconst 1, 1) := by decide +kernel
theorem dX4_hasYard_13 : decode cX4_hasYard 13 = .ok (.goto 4, 3) := by decide +kernel
theorem dX4_hasYard_16 : decode cX4_hasYard 16 = .ok (.iconst 0, 1) := by decide +kernel
theorem dX4_hasYard_17 : decode cX4_hasYard 17 = .ok (.ireturn, 1) := by decide +kernel
theorem dX4_isBog_0 : decode cX4_isBog 0 = .ok (.aload_n 0, 1) := by decide +kernel
theorem dX4_isBog_1 : decode cX4_isBog 1 = .ok (.getfield 40, 3) := by decide +kernel
theorem dX4_isBog_4 : decode cX4_isBog 4 = .ok (.iload_n 1, 1) := by decide +kernel
theorem dX4_isBog_5 : decode cX4_isBog 5 = .ok (.ishr, 1) := by decide +kernel
theorem dX4_isBog_6 : decode cX4_isBog 6 = .ok (.iconst 1, 1) := by decide +kernel
theorem dX4_isBog_7 : decode cX4_isBog 7 = .ok (.iand, 1) := by decide +kernel
theorem dX4_isBog_8 : decode cX4_isBog 8 = .ok (.ifCond .eq 7, 3) := by decide +kernel
theorem dX4_isBog_11 : decode cX4_isBog 11 = .ok (.iconst 1, 1) := by decide +kernel
theorem dX4_isBog_12 : decode cX4_isBog 12 = .ok (.goto 4, 3) := by decide +kernel
theorem dX4_isBog_15 : decode cX4_isBog 15 = .ok (.iconst 0, 1) := by decide +kernel
theorem dX4_isBog_16 : decode cX4_isBog 16 = .ok (.ireturn, 1) := by decide +kernel
theorem dX4_setBog_0 : decode cX4_setBog 0 = .ok (.aload_n 0, 1) := by decide +kernel
theorem dX4_setBog_1 : decode cX4_setBog 1 = .ok (.dup, 1) := by decide +kernel
theorem dX4_setBog_2 : decode cX4_setBog 2 = .ok (.getfield 40, 3) := by decide +kernel
theorem dX4_setBog_5 : decode cX4_setBog 5 = .ok (.iconst 1, 1) := by decide +kernel
theorem dX4_setBog_6 : decode cX4_setBog 6 = .ok (.iload_n 1, 1) := by decide +kernel
theorem dX4_setBog_7 : decode cX4_setBog 7 = .ok (.ishl, 1) := by decide +kernel
theorem dX4_setBog_8 : decode cX4_setBog 8 = .ok (.ior, 1) := by decide +kernel
theorem dX4_setBog_9 : decode cX4_setBog 9 = .ok (.putfield 40, 3) := by decide +kernel
theorem dX4_setBog_12 : decode cX4_setBog 12 = .ok (.return_, 1) := by decide +kernel
theorem dX4_hillAt_0 : decode cX4_hillAt 0 = .ok (.iload_n 1, 1) := by decide +kernel
theorem dX4_hillAt_1 : decode cX4_hillAt 1 = .ok (.ifCond .lt 21, 3) := by decide +kernel
theorem dX4_hillAt_4 : decode cX4_hillAt 4 = .ok (.iload_n 1, 1) := by decide +kernel
theorem dX4_hillAt_5 : decode cX4_hillAt 5 = .ok (.aload_n 0, 1) := by decide +kernel
theorem dX4_hillAt_6 : decode cX4_hillAt 6 = .ok (.getfield 9, 3) := by decide +kernel
theorem dX4_hillAt_9 : decode cX4_hillAt 9 = .ok (.arraylength, 1) := by decide +kernel
theorem dX4_hillAt_10 : decode cX4_hillAt 10 = .ok (.if_icmp .ge 12, 3) := by decide +kernel
theorem dX4_hillAt_13 : decode cX4_hillAt 13 = .ok (.aload_n 0, 1) := by decide +kernel
theorem dX4_hillAt_14 : decode cX4_hillAt 14 = .ok (.getfield 9, 3) := by decide +kernel
theorem dX4_hillAt_17 : decode cX4_hillAt 17 = .ok (.iload_n 1, 1) := by decide +kernel
theorem dX4_hillAt_18 : decode cX4_hillAt 18 = .ok (.iaload, 1) := by decide +kernel
theorem dX4_hillAt_19 : decode cX4_hillAt 19 = .ok (.goto 5, 3) := by decide +kernel
theorem dX4_hillAt_22 : decode cX4_hillAt 22 = .ok (.bipush (-4), 2) := by decide +kernel
theorem dX4_hillAt_24 : decode cX4_hillAt 24 = .ok (.ireturn, 1) := by decide +kernel
theorem dX4_setHill_0 : decode cX4_setHill 0 = .ok (.aload_n 0, 1) := by decide +kernel
theorem dX4_setHill_1 : decode cX4_setHill 1 = .ok (.getfield 9, 3) := by decide +kernel
theorem dX4_setHill_4 : decode cX4_setHill 4 = .ok (.iload_n 1, 1) := by decide +kernel
theorem dX4_setHill_5 : decode cX4_setHill 5 = .ok (.iload_n 2, 1) := by decide +kernel
theorem dX4_setHill_6 : decode cX4_setHill 6 = .ok (.invokestatic 61, 3) := by decide +kernel
theorem dX4_setHill_9 : decode cX4_setHill 9 = .ok (.return_, 1) := by decide +kernel
theorem dX4_smithAt_0 : decode cX4_smithAt 0 = .ok (.iload_n 1, 1) := by decide +kernel
theorem dX4_smithAt_1 : decode cX4_smithAt 1 = .ok (.ifCond .lt 21, 3) := by decide +kernel
theorem dX4_smithAt_4 : decode cX4_smithAt 4 = .ok (.iload_n 1, 1) := by decide +kernel
theorem dX4_smithAt_5 : decode cX4_smithAt 5 = .ok (.aload_n 0, 1) := by decide +kernel
theorem dX4_smithAt_6 : decode cX4_smithAt 6 = .ok (.getfield 15, 3) := by decide +kernel
theorem dX4_smithAt_9 : decode cX4_smithAt 9 = .ok (.arraylength, 1) := by decide +kernel
theorem dX4_smithAt_10 : decode cX4_smithAt 10 = .ok (.if_icmp .ge 12, 3) := by decide +kernel
theorem dX4_smithAt_13 : decode cX4_smithAt 13 = .ok (.aload_n 0, 1) := by decide +kernel
theorem dX4_smithAt_14 : decode cX4_smithAt 14 = .ok (.getfield 15, 3) := by decide +kernel
theorem dX4_smithAt_17 : decode cX4_smithAt 17 = .ok (.iload_n 1, 1) := by decide +kernel
theorem dX4_smithAt_18 : decode cX4_smithAt 18 = .ok (.iaload, 1) := by decide +kernel
theorem dX4_smithAt_19 : decode cX4_smithAt 19 = .ok (.goto 5, 3) := by decide +kernel
theorem dX4_smithAt_22 : decode cX4_smithAt 22 = .ok (.bipush (-4), 2) := by decide +kernel
theorem dX4_smithAt_24 : decode cX4_smithAt 24 = .ok (.ireturn, 1) := by decide +kernel
theorem dX4_setSmith_0 : decode cX4_setSmith 0 = .ok (.aload_n 0, 1) := by decide +kernel
theorem dX4_setSmith_1 : decode cX4_setSmith 1 = .ok (.getfield 15, 3) := by decide +kernel
theorem dX4_setSmith_4 : decode cX4_setSmith 4 = .ok (.iload_n 1, 1) := by decide +kernel
theorem dX4_setSmith_5 : decode cX4_setSmith 5 = .ok (.iload_n 2, 1) := by decide +kernel
theorem dX4_setSmith_6 : decode cX4_setSmith 6 = .ok (.invokestatic 61, 3) := by decide +kernel
theorem dX4_setSmith_9 : decode cX4_setSmith 9 = .ok (.return_, 1) := by decide +kernel
theorem dX4_hasRut_0 : decode cX4_hasRut 0 = .ok (.aload_n 0, 1) := by decide +kernel
theorem dX4_hasRut_1 : decode cX4_hasRut 1 = .ok (.iload_n 1, 1) := by decide +kernel
theorem dX4_hasRut_2 : decode cX4_hasRut 2 = .ok (.invokevirtual 65, 3) := by decide +kernel
theorem dX4_hasRut_5 : decode cX4_hasRut 5 = .ok (.ifCond .eq 33, 3) := by decide +kernel
theorem dX4_hasRut_8 : decode cX4_hasRut 8 = .ok (.iload_n 2, 1) := by decide +kernel
theorem dX4_hasRut_9 : decode cX4_hasRut 9 = .ok (.invokestatic 69, 3) := by decide +kernel
theorem dX4_hasRut_12 : decode cX4_hasRut 12 = .ok (.ifCond .eq 26, 3) := by decide +kernel
theorem dX4_hasRut_15 : decode cX4_hasRut 15 = .ok (.aload_n 0, 1) := by decide +kernel
theorem dX4_hasRut_16 : decode cX4_hasRut 16 = .ok (.iload_n 1, 1) := by decide +kernel
theorem dX4_hasRut_17 : decode cX4_hasRut 17 = .ok (.invokevirtual 72, 3) := by decide +kernel
theorem dX4_hasRut_20 : decode cX4_hasRut 20 = .ok (.bipush (-4), 2) := by decide +kernel
theorem dX4_hasRut_22 : decode cX4_hasRut 22 = .ok (.if_icmp .eq 12, 3) := by decide +kernel
theorem dX4_hasRut_25 : decode cX4_hasRut 25 = .ok (.aload_n 0, 1) := by decide +kernel
theorem dX4_hasRut_26 : decode cX4_hasRut 26 = .ok (.iload_n 1, 1) := by decide +kernel
theorem dX4_hasRut_27 : decode cX4_hasRut 27 = .ok (.invokevirtual 72, 3) := by decide +kernel
theorem dX4_hasRut_30 : decode cX4_hasRut 30 = .ok (.iload_n 2, 1) := by decide +kernel
theorem dX4_hasRut_31 : decode cX4_hasRut 31 = .ok (.if_icmp .ne 7, 3) := by decide +kernel
theorem dX4_hasRut_34 : decode cX4_hasRut 34 = .ok (.iconst 1, 1) := by decide +kernel
theorem dX4_hasRut_35 : decode cX4_hasRut 35 = .ok (.goto 4, 3) := by decide +kernel
theorem dX4_hasRut_38 : decode cX4_hasRut 38 = .ok (.iconst 0, 1) := by decide +kernel
theorem dX4_hasRut_39 : decode cX4_hasRut 39 = .ok (.ireturn, 1) := by decide +kernel
theorem dX4_widthsAt_0 : decode cX4_widthsAt 0 = .ok (.iconst 0, 1) := by decide +kernel
theorem dX4_widthsAt_1 : decode cX4_widthsAt 1 = .ok (.istore_n 2, 1) := by decide +kernel
theorem dX4_widthsAt_2 : decode cX4_widthsAt 2 = .ok (.iconst 0, 1) := by decide +kernel
theorem dX4_widthsAt_3 : decode cX4_widthsAt 3 = .ok (.istore_n 3, 1) := by decide +kernel
theorem dX4_widthsAt_4 : decode cX4_widthsAt 4 = .ok (.iload_n 3, 1) := by decide +kernel
theorem dX4_widthsAt_5 : decode cX4_widthsAt 5 = .ok (.iconst 3, 1) := by decide +kernel
theorem dX4_widthsAt_6 : decode cX4_widthsAt 6 = .ok (.if_icmp .ge 24, 3) := by decide +kernel
theorem dX4_widthsAt_9 : decode cX4_widthsAt 9 = .ok (.aload_n 0, 1) := by decide +kernel
theorem dX4_widthsAt_10 : decode cX4_widthsAt 10 = .ok (.iload_n 1, 1) := by decide +kernel
theorem dX4_widthsAt_11 : decode cX4_widthsAt 11 = .ok (.iload_n 3, 1) := by decide +kernel
theorem dX4_widthsAt_12 : decode cX4_widthsAt 12 = .ok (.invokevirtual 76, 3) := by decide +kernel
theorem dX4_widthsAt_15 : decode cX4_widthsAt 15 = .ok (.ifCond .eq 9, 3) := by decide +kernel
theorem dX4_widthsAt_18 : decode cX4_widthsAt 18 = .ok (.iload_n 2, 1) := by decide +kernel
theorem dX4_widthsAt_19 : decode cX4_widthsAt 19 = .ok (.iconst 1, 1) := by decide +kernel
theorem dX4_widthsAt_20 : decode cX4_widthsAt 20 = .ok (.iload_n 3, 1) := by decide +kernel
theorem dX4_widthsAt_21 : decode cX4_widthsAt 21 = .ok (.ishl, 1) := by decide +kernel
theorem dX4_widthsAt_22 : decode cX4_widthsAt 22 = .ok (.ior, 1) := by decide +kernel
theorem dX4_widthsAt_23 : decode cX4_widthsAt 23 = .ok (.istore_n 2, 1) := by decide +kernel
theorem dX4_widthsAt_24 : decode cX4_widthsAt 24 = .ok (.iinc 3 1, 3) := by decide +kernel
theorem dX4_widthsAt_27 : decode cX4_widthsAt 27 = .ok (.goto (-23), 3) := by decide +kernel
theorem dX4_widthsAt_30 : decode cX4_widthsAt 30 = .ok (.iload_n 2, 1) := by decide +kernel
theorem dX4_widthsAt_31 : decode cX4_widthsAt 31 = .ok (.ireturn, 1) := by decide +kernel
theorem dX4_isFrost_0 : decode cX4_isFrost 0 = .ok (.aload_n 0, 1) := by decide +kernel
theorem dX4_isFrost_1 : decode cX4_isFrost 1 = .ok (.getfield 44, 3) := by decide +kernel
theorem dX4_isFrost_4 : decode cX4_isFrost 4 = .ok (.iload_n 1, 1) := by decide +kernel
theorem dX4_isFrost_5 : decode cX4_isFrost 5 = .ok (.lshr, 1) := by decide +kernel
theorem dX4_isFrost_6 : decode cX4_isFrost 6 = .ok (.lconst 1, 1) := by decide +kernel
theorem dX4_isFrost_7 : decode cX4_isFrost 7 = .ok (.land, 1) := by decide +kernel
theorem dX4_isFrost_8 : decode cX4_isFrost 8 = .ok (.lconst 0, 1) := by decide +kernel
theorem dX4_isFrost_9 : decode cX4_isFrost 9 = .ok (.lcmp, 1) := by decide +kernel
theorem dX4_isFrost_10 : decode cX4_isFrost 10 = .ok (.ifCond .eq 7, 3) := by decide +kernel
theorem dX4_isFrost_13 : decode cX4_isFrost 13 = .ok (.iconst 1, 1) := by decide +kernel
theorem dX4_isFrost_14 : decode cX4_isFrost 14 = .ok (.goto 4, 3) := by decide +kernel
theorem dX4_isFrost_17 : decode cX4_isFrost 17 = .ok (.iconst 0, 1) := by decide +kernel
theorem dX4_isFrost_18 : decode cX4_isFrost 18 = .ok (.ireturn, 1) := by decide +kernel
theorem dX4_hasFrostFrom_0 : decode cX4_hasFrostFrom 0 = .ok (.aload_n 0, 1) := by decide +kernel
theorem dX4_hasFrostFrom_1 : decode cX4_hasFrostFrom 1 = .ok (.getfield 44, 3) := by decide +kernel
theorem dX4_hasFrostFrom_4 : decode cX4_hasFrostFrom 4 = .ok (.iload_n 1, 1) := by decide +kernel
theorem dX4_hasFrostFrom_5 : decode cX4_hasFrostFrom 5 = .ok (.lshr, 1) := by decide +kernel
theorem dX4_hasFrostFrom_6 : decode cX4_hasFrostFrom 6 = .ok (.lconst 0, 1) := by decide +kernel
theorem dX4_hasFrostFrom_7 : decode cX4_hasFrostFrom 7 = .ok (.lcmp, 1) := by decide +kernel
theorem dX4_hasFrostFrom_8 : decode cX4_hasFrostFrom 8 = .ok (.ifCond .eq 7, 3) := by decide +kernel
theorem dX4_hasFrostFrom_11 : decode cX4_hasFrostFrom 11 = .ok (.iconst 1, 1) := by decide +kernel
theorem dX4_hasFrostFrom_12 : decode cX4_hasFrostFrom 12 = .ok (.goto 4, 3) := by decide +kernel
theorem dX4_hasFrostFrom_15 : decode cX4_hasFrostFrom 15 = .ok (.iconst 0, 1) := by decide +kernel
theorem dX4_hasFrostFrom_16 : decode cX4_hasFrostFrom 16 = .ok (.ireturn, 1) := by decide +kernel
theorem dX4_setFrost_0 : decode cX4_setFrost 0 = .ok (.aload_n 0, 1) := by decide +kernel
theorem dX4_setFrost_1 : decode cX4_setFrost 1 = .ok (.iload_n 2, 1) := by decide +kernel
theorem dX4_setFrost_2 : decode cX4_setFrost 2 = .ok (.ifCond .eq 14, 3) := by decide +kernel
theorem dX4_setFrost_5 : decode cX4_setFrost 5 = .ok (.aload_n 0, 1) := by decide +kernel
theorem dX4_setFrost_6 : decode cX4_setFrost 6 = .ok (.getfield 44, 3) := by decide +kernel
theorem dX4_setFrost_9 : decode cX4_setFrost 9 = .ok (.lconst 1, 1) := by decide +kernel
theorem dX4_setFrost_10 : decode cX4_setFrost 10 = .ok (.iload_n 1, 1) := by decide +kernel
theorem dX4_setFrost_11 : decode cX4_setFrost 11 = .ok (.lshl, 1) := by decide +kernel
theorem dX4_setFrost_12 : decode cX4_setFrost 12 = .ok (.lor, 1) := by decide +kernel
theorem dX4_setFrost_13 : decode cX4_setFrost 13 = .ok (.goto 15, 3) := by decide +kernel
theorem dX4_setFrost_16 : decode cX4_setFrost 16 = .ok (.aload_n 0, 1) := by decide +kernel
theorem dX4_setFrost_17 : decode cX4_setFrost 17 = .ok (.getfield 44, 3) := by decide +kernel
theorem dX4_setFrost_20 : decode cX4_setFrost 20 = .ok (.lconst 1, 1) := by decide +kernel
theorem dX4_setFrost_21 : decode cX4_setFrost 21 = .ok (.iload_n 1, 1) := by decide +kernel
theorem dX4_setFrost_22 : decode cX4_setFrost 22 = .ok (.lshl, 1) := by decide +kernel
theorem dX4_setFrost_23 : decode cX4_setFrost 23 = .ok (.ldc2_w 80, 3) := by decide +kernel
theorem dX4_setFrost_26 : decode cX4_setFrost 26 = .ok (.lxor, 1) := by decide +kernel
theorem dX4_setFrost_27 : decode cX4_setFrost 27 = .ok (.land, 1) := by decide +kernel
theorem dX4_setFrost_28 : decode cX4_setFrost 28 = .ok (.putfield 44, 3) := by decide +kernel
theorem dX4_setFrost_31 : decode cX4_setFrost 31 = .ok (.return_, 1) := by decide +kernel
theorem dX4_hasCart_0 : decode cX4_hasCart 0 = .ok (.iload_n 1, 1) := by decide +kernel
theorem dX4_hasCart_1 : decode cX4_hasCart 1 = .ok (.ifCond .lt 15, 3) := by decide +kernel
theorem dX4_hasCart_4 : decode cX4_hasCart 4 = .ok (.iload_n 1, 1) := by decide +kernel
theorem dX4_hasCart_5 : decode cX4_hasCart 5 = .ok (.aload_n 0, 1) := by decide +kernel
theorem dX4_hasCart_6 : decode cX4_hasCart 6 = .ok (.getfield 51, 3) := by decide +kernel
theorem dX4_hasCart_9 : decode cX4_hasCart 9 = .ok (.if_icmp .ge 7, 3) := by decide +kernel
theorem dX4_hasCart_12 : decode cX4_hasCart 12 = .ok (.iconst 1, 1) := by decide +kernel
theorem dX4_hasCart_13 : decode cX4_hasCart 13 = .ok (.goto 4, 3) := by decide +kernel
theorem dX4_hasCart_16 : decode cX4_hasCart 16 = .ok (.iconst 0, 1) := by decide +kernel
theorem dX4_hasCart_17 : decode cX4_hasCart 17 = .ok (.ireturn, 1) := by decide +kernel
theorem dX4_part_0 : decode cX4_part 0 = .ok (.iload_n 1, 1) := by decide +kernel
theorem dX4_part_1 : decode cX4_part 1 = .ok (.bipush 7, 2) := by decide +kernel
theorem dX4_part_3 : decode cX4_part 3 = .ok (.imul, 1) := by decide +kernel
theorem dX4_part_4 : decode cX4_part 4 = .ok (.iload_n 2, 1) := by decide +kernel
theorem dX4_part_5 : decode cX4_part 5 = .ok (.iadd, 1) := by decide +kernel
theorem dX4_part_6 : decode cX4_part 6 = .ok (.istore_n 3, 1) := by decide +kernel
theorem dX4_part_7 : decode cX4_part 7 = .ok (.iload_n 3, 1) := by decide +kernel
theorem dX4_part_8 : decode cX4_part 8 = .ok (.ifCond .lt 21, 3) := by decide +kernel
theorem dX4_part_11 : decode cX4_part 11 = .ok (.iload_n 3, 1) := by decide +kernel
theorem dX4_part_12 : decode cX4_part 12 = .ok (.aload_n 0, 1) := by decide +kernel
theorem dX4_part_13 : decode cX4_part 13 = .ok (.getfield 24, 3) := by decide +kernel
theorem dX4_part_16 : decode cX4_part 16 = .ok (.arraylength, 1) := by decide +kernel
theorem dX4_part_17 : decode cX4_part 17 = .ok (.if_icmp .ge 12, 3) := by decide +kernel
theorem dX4_part_20 : decode cX4_part 20 = .ok (.aload_n 0, 1) := by decide +kernel
theorem dX4_part_21 : decode cX4_part 21 = .ok (.getfield 24, 3) := by decide +kernel
theorem dX4_part_24 : decode cX4_part 24 = .ok (.iload_n 3, 1) := by decide +kernel
theorem dX4_part_25 : decode cX4_part 25 = .ok (.iaload, 1) := by decide +kernel
theorem dX4_part_26 : decode cX4_part 26 = .ok (.goto 4, 3) := by decide +kernel
theorem dX4_part_29 : decode cX4_part 29 = .ok (.iconst 0, 1) := by decide +kernel
theorem dX4_part_30 : decode cX4_part 30 = .ok (.ireturn, 1) := by decide +kernel
theorem dX4_swapPart_0 : decode cX4_swapPart 0 = .ok (.aload_n 0, 1) := by decide +kernel
theorem dX4_swapPart_1 : decode cX4_swapPart 1 = .ok (.getfield 24, 3) := by decide +kernel
theorem dX4_swapPart_4 : decode cX4_swapPart 4 = .ok (.iload_n 1, 1) := by decide +kernel
theorem dX4_swapPart_5 : decode cX4_swapPart 5 = .ok (.bipush 7, 2) := by decide +kernel
theorem dX4_swapPart_7 : decode cX4_swapPart 7 = .ok (.imul, 1) := by decide +kernel
theorem dX4_swapPart_8 : decode cX4_swapPart 8 = .ok (.iload_n 2, 1) := by decide +kernel
theorem dX4_swapPart_9 : decode cX4_swapPart 9 = .ok (.iadd, 1) := by decide +kernel
theorem dX4_swapPart_10 : decode cX4_swapPart 10 = .ok (.iload_n 3, 1) := by decide +kernel
theorem dX4_swapPart_11 : decode cX4_swapPart 11 = .ok (.invokestatic 82, 3) := by decide +kernel
theorem dX4_swapPart_14 : decode cX4_swapPart 14 = .ok (.ireturn, 1) := by decide +kernel
theorem dX4_moveCart_0 : decode cX4_moveCart 0 = .ok (.iconst 0, 1) := by decide +kernel
theorem dX4_moveCart_1 : decode cX4_moveCart 1 = .ok (.istore_n 3, 1) := by decide +kernel
theorem dX4_moveCart_2 : decode cX4_moveCart 2 = .ok (.iload_n 3, 1) := by decide +kernel
theorem dX4_moveCart_3 : decode cX4_moveCart 3 = .ok (.bipush 7, 2) := by decide +kernel
theorem dX4_moveCart_5 : decode cX4_moveCart 5 = .ok (.if_icmp .ge 22, 3) := by decide +kernel
theorem dX4_moveCart_8 : decode cX4_moveCart 8 = .ok (.aload_n 0, 1) := by decide +kernel
theorem dX4_moveCart_9 : decode cX4_moveCart 9 = .ok (.iload_n 2, 1) := by decide +kernel
theorem dX4_moveCart_10 : decode cX4_moveCart 10 = .ok (.iload_n 3, 1) := by decide +kernel
theorem dX4_moveCart_11 : decode cX4_moveCart 11 = .ok (.aload_n 0, 1) := by decide +kernel
theorem dX4_moveCart_12 : decode cX4_moveCart 12 = .ok (.iload_n 1, 1) := by decide +kernel
theorem dX4_moveCart_13 : decode cX4_moveCart 13 = .ok (.iload_n 3, 1) := by decide +kernel
theorem dX4_moveCart_14 : decode cX4_moveCart 14 = .ok (.invokevirtual 86, 3) := by decide +kernel
theorem dX4_moveCart_17 : decode cX4_moveCart 17 = .ok (.invokevirtual 90, 3) := by decide +kernel
theorem dX4_moveCart_20 : decode cX4_moveCart 20 = .ok (.pop, 1) := by decide +kernel
theorem dX4_moveCart_21 : decode cX4_moveCart 21 = .ok (.iinc 3 1, 3) := by decide +kernel
theorem dX4_moveCart_24 : decode cX4_moveCart 24 = .ok (.goto (-22), 3) := by decide +kernel
theorem dX4_moveCart_27 : decode cX4_moveCart 27 = .ok (.return_, 1) := by decide +kernel
theorem dX4_nextYard_0 : decode cX4_nextYard 0 = .ok (.aload_n 0, 1) := by decide +kernel
theorem dX4_nextYard_1 : decode cX4_nextYard 1 = .ok (.iload_n 1, 1) := by decide +kernel
theorem dX4_nextYard_2 : decode cX4_nextYard 2 = .ok (.iconst 5, 1) := by decide +kernel
theorem dX4_nextYard_3 : decode cX4_nextYard 3 = .ok (.invokevirtual 86, 3) := by decide +kernel
theorem dX4_nextYard_6 : decode cX4_nextYard 6 = .ok (.iload_n 2, 1) := by decide +kernel
theorem dX4_nextYard_7 : decode cX4_nextYard 7 = .ok (.if_icmp .le 9, 3) := by decide +kernel
theorem dX4_nextYard_10 : decode cX4_nextYard 10 = .ok (.iload_n 2, 1) := by decide +kernel
theorem dX4_nextYard_11 : decode cX4_nextYard 11 = .ok (.iconst 1, 1) := by decide +kernel
theorem dX4_nextYard_12 : decode cX4_nextYard 12 = .ok (.iadd, 1) := by decide +kernel
theorem dX4_nextYard_13 : decode cX4_nextYard 13 = .ok (.goto 6, 3) := by decide +kernel
theorem dX4_nextYard_16 : decode cX4_nextYard 16 = .ok (.iload_n 2, 1) := by decide +kernel
theorem dX4_nextYard_17 : decode cX4_nextYard 17 = .ok (.iconst 1, 1) := by decide +kernel
theorem dX4_nextYard_18 : decode cX4_nextYard 18 = .ok (.isub, 1) := by decide +kernel
theorem dX4_nextYard_19 : decode cX4_nextYard 19 = .ok (.ireturn, 1) := by decide +kernel
theorem dX4_isOpen_0 : decode cX4_isOpen 0 = .ok (.aload_n 0, 1) := by decide +kernel
theorem dX4_isOpen_1 : decode cX4_isOpen 1 = .ok (.iload_n 1, 1) := by decide +kernel
theorem dX4_isOpen_2 : decode cX4_isOpen 2 = .ok (.iconst 0, 1) := by decide +kernel
theorem dX4_isOpen_3 : decode cX4_isOpen 3 = .ok (.invokevirtual 86, 3) := by decide +kernel
theorem dX4_isOpen_6 : decode cX4_isOpen 6 = .ok (.iconst 2, 1) := by decide +kernel
theorem dX4_isOpen_7 : decode cX4_isOpen 7 = .ok (.if_icmp .ne 9, 3) := by decide +kernel
theorem dX4_isOpen_10 : decode cX4_isOpen 10 = .ok (.aload_n 0, 1) := by decide +kernel
theorem dX4_isOpen_11 : decode cX4_isOpen 11 = .ok (.iload_n 2, 1) := by decide +kernel
theorem dX4_isOpen_12 : decode cX4_isOpen 12 = .ok (.invokevirtual 65, 3) := by decide +kernel
theorem dX4_isOpen_15 : decode cX4_isOpen 15 = .ok (.ireturn, 1) := by decide +kernel
theorem dX4_isOpen_16 : decode cX4_isOpen 16 = .ok (.aload_n 0, 1) := by decide +kernel
theorem dX4_isOpen_17 : decode cX4_isOpen 17 = .ok (.iload_n 2, 1) := by decide +kernel
theorem dX4_isOpen_18 : decode cX4_isOpen 18 = .ok (.iload_n 3, 1) := by decide +kernel
theorem dX4_isOpen_19 : decode cX4_isOpen 19 = .ok (.invokevirtual 76, 3) := by decide +kernel
theorem dX4_isOpen_22 : decode cX4_isOpen 22 = .ok (.ifCond .eq 18, 3) := by decide +kernel
theorem dX4_isOpen_25 : decode cX4_isOpen 25 = .ok (.iload 4, 2) := by decide +kernel
theorem dX4_isOpen_27 : decode cX4_isOpen 27 = .ok (.aload_n 0, 1) := by decide +kernel
theorem dX4_isOpen_28 : decode cX4_isOpen 28 = .ok (.iload_n 1, 1) := by decide +kernel
theorem dX4_isOpen_29 : decode cX4_isOpen 29 = .ok (.iconst 3, 1) := by decide +kernel
theorem dX4_isOpen_30 : decode cX4_isOpen 30 = .ok (.invokevirtual 86, 3) := by decide +kernel
theorem dX4_isOpen_33 : decode cX4_isOpen 33 = .ok (.if_icmp .gt 7, 3) := by decide +kernel
theorem dX4_isOpen_36 : decode cX4_isOpen 36 = .ok (.iconst 1, 1) := by decide +kernel
theorem dX4_isOpen_37 : decode cX4_isOpen 37 = .ok (.goto 4, 3) := by decide +kernel
theorem dX4_isOpen_40 : decode cX4_isOpen 40 = .ok (.iconst 0, 1) := by decide +kernel
theorem dX4_isOpen_41 : decode cX4_isOpen 41 = .ok (.ireturn, 1) := by decide +kernel
theorem dX4_tollOf_0 : decode cX4_tollOf 0 = .ok (.aload_n 0, 1) := by decide +kernel
theorem dX4_tollOf_1 : decode cX4_tollOf 1 = .ok (.iload_n 1, 1) := by decide +kernel
theorem dX4_tollOf_2 : decode cX4_tollOf 2 = .ok (.iconst 0, 1) := by decide +kernel
theorem dX4_tollOf_3 : decode cX4_tollOf 3 = .ok (.invokevirtual 86, 3) := by decide +kernel
theorem dX4_tollOf_6 : decode cX4_tollOf 6 = .ok (.iconst 4, 1) := by decide +kernel
theorem dX4_tollOf_7 : decode cX4_tollOf 7 = .ok (.if_icmp .ne 7, 3) := by decide +kernel
theorem dX4_tollOf_10 : decode cX4_tollOf 10 = .ok (.iconst 0, 1) := by decide +kernel
theorem dX4_tollOf_11 : decode cX4_tollOf 11 = .ok (.goto 15, 3) := by decide +kernel
theorem dX4_tollOf_14 : decode cX4_tollOf 14 = .ok (.aload_n 0, 1) := by decide +kernel
theorem dX4_tollOf_15 : decode cX4_tollOf 15 = .ok (.getfield 18, 3) := by decide +kernel
theorem dX4_tollOf_18 : decode cX4_tollOf 18 = .ok (.iload_n 2, 1) := by decide +kernel
theorem dX4_tollOf_19 : decode cX4_tollOf 19 = .ok (.iload_n 3, 1) := by decide +kernel
theorem dX4_tollOf_20 : decode cX4_tollOf 20 = .ok (.invokestatic 94, 3) := by decide +kernel
theorem dX4_tollOf_23 : decode cX4_tollOf 23 = .ok (.invokestatic 97, 3) := by decide +kernel
theorem dX4_tollOf_26 : decode cX4_tollOf 26 = .ok (.ireturn, 1) := by decide +kernel
theorem dX4_makesTrack_0 : decode cX4_makesTrack 0 = .ok (.aload_n 0, 1) := by decide +kernel
theorem dX4_makesTrack_1 : decode cX4_makesTrack 1 = .ok (.iload_n 1, 1) := by decide +kernel
theorem dX4_makesTrack_2 : decode cX4_makesTrack 2 = .ok (.iconst 0, 1) := by decide +kernel
theorem dX4_makesTrack_3 : decode cX4_makesTrack 3 = .ok (.invokevirtual 86, 3) := by decide +kernel
theorem dX4_makesTrack_6 : decode cX4_makesTrack 6 = .ok (.iconst 2, 1) := by decide +kernel
theorem dX4_makesTrack_7 : decode cX4_makesTrack 7 = .ok (.if_icmp .ne 5, 3) := by decide +kernel
theorem dX4_makesTrack_10 : decode cX4_makesTrack 10 = .ok (.iconst 0, 1) := by decide +kernel
theorem dX4_makesTrack_11 : decode cX4_makesTrack 11 = .ok (.ireturn, 1) := by decide +kernel
theorem dX4_makesTrack_12 : decode cX4_makesTrack 12 = .ok (.aload_n 0, 1) := by decide +kernel
theorem dX4_makesTrack_13 : decode cX4_makesTrack 13 = .ok (.iload_n 1, 1) := by decide +kernel
theorem dX4_makesTrack_14 : decode cX4_makesTrack 14 = .ok (.iconst 4, 1) := by decide +kernel
theorem dX4_makesTrack_15 : decode cX4_makesTrack 15 = .ok (.invokevirtual 86, 3) := by decide +kernel
theorem dX4_makesTrack_18 : decode cX4_makesTrack 18 = .ok (.istore_n 3, 1) := by decide +kernel
theorem dX4_makesTrack_19 : decode cX4_makesTrack 19 = .ok (.aload_n 0, 1) := by decide +kernel
theorem dX4_makesTrack_20 : decode cX4_makesTrack 20 = .ok (.iload_n 1, 1) := by decide +kernel
theorem dX4_makesTrack_21 : decode cX4_makesTrack 21 = .ok (.iconst 5, 1) := by decide +kernel
theorem dX4_makesTrack_22 : decode cX4_makesTrack 22 = .ok (.invokevirtual 86, 3) := by decide +kernel
theorem dX4_makesTrack_25 : decode cX4_makesTrack 25 = .ok (.istore 4, 2) := by decide +kernel
theorem dX4_makesTrack_27 : decode cX4_makesTrack 27 = .ok (.iload_n 3, 1) := by decide +kernel
theorem dX4_makesTrack_28 : decode cX4_makesTrack 28 = .ok (.iload 4, 2) := by decide +kernel
theorem dX4_makesTrack_30 : decode cX4_makesTrack 30 = .ok (.if_icmp .ge 22, 3) := by decide +kernel
theorem dX4_makesTrack_33 : decode cX4_makesTrack 33 = .ok (.iload_n 2, 1) := by decide +kernel
theorem dX4_makesTrack_34 : decode cX4_makesTrack 34 = .ok (.iload_n 3, 1) := by decide +kernel
theorem dX4_makesTrack_35 : decode cX4_makesTrack 35 = .ok (.if_icmp .le 13, 3) := by decide +kernel
theorem dX4_makesTrack_38 : decode cX4_makesTrack 38 = .ok (.iload_n 2, 1) := by decide +kernel
theorem dX4_makesTrack_39 : decode cX4_makesTrack 39 = .ok (.iload 4, 2) := by decide +kernel
theorem dX4_makesTrack_41 : decode cX4_makesTrack 41 = .ok (.if_icmp .gt 7, 3) := by decide +kernel
theorem dX4_makesTrack_44 : decode cX4_makesTrack 44 = .ok (.iconst 1, 1) := by decide +kernel
theorem dX4_makesTrack_45 : decode cX4_makesTrack 45 = .ok (.goto 23, 3) := by decide +kernel
theorem dX4_makesTrack_48 : decode cX4_makesTrack 48 = .ok (.iconst 0, 1) := by decide +kernel
theorem dX4_makesTrack_49 : decode cX4_makesTrack 49 = .ok (.goto 19, 3) := by decide +kernel
theorem dX4_makesTrack_52 : decode cX4_makesTrack 52 = .ok (.iload_n 2, 1) := by decide +kernel
theorem dX4_makesTrack_53 : decode cX4_makesTrack 53 = .ok (.iload_n 3, 1) := by decide +kernel
theorem dX4_makesTrack_54 : decode cX4_makesTrack 54 = .ok (.if_icmp .ge 13, 3) := by decide +kernel
theorem dX4_makesTrack_57 : decode cX4_makesTrack 57 = .ok (.iload_n 2, 1) := by decide +kernel
theorem dX4_makesTrack_58 : decode cX4_makesTrack 58 = .ok (.iload 4, 2) := by decide +kernel
theorem dX4_makesTrack_60 : decode cX4_makesTrack 60 = .ok (.if_icmp .lt 7, 3) := by decide +kernel
theorem dX4_makesTrack_63 : decode cX4_makesTrack 63 = .ok (.iconst 1, 1) := by decide +kernel
theorem dX4_makesTrack_64 : decode cX4_makesTrack 64 = .ok (.goto 4, 3) := by decide +kernel
theorem dX4_makesTrack_67 : decode cX4_makesTrack 67 = .ok (.iconst 0, 1) := by decide +kernel
theorem dX4_makesTrack_68 : decode cX4_makesTrack 68 = .ok (.ireturn, 1) := by decide +kernel
theorem dX4_isFirm_0 : decode cX4_isFirm 0 = .ok (.iload_n 1, 1) := by decide +kernel
theorem dX4_isFirm_1 : decode cX4_isFirm 1 = .ok (.iload_n 2, 1) := by decide +kernel
theorem dX4_isFirm_2 : decode cX4_isFirm 2 = .ok (.iadd, 1) := by decide +kernel
theorem dX4_isFirm_3 : decode cX4_isFirm 3 = .ok (.iload_n 3, 1) := by decide +kernel
theorem dX4_isFirm_4 : decode cX4_isFirm 4 = .ok (.iadd, 1) := by decide +kernel
theorem dX4_isFirm_5 : decode cX4_isFirm 5 = .ok (.aload_n 0, 1) := by decide +kernel
theorem dX4_isFirm_6 : decode cX4_isFirm 6 = .ok (.getfield 27, 3) := by decide +kernel
theorem dX4_isFirm_9 : decode cX4_isFirm 9 = .ok (.bipush 7, 2) := by decide +kernel
theorem dX4_isFirm_11 : decode cX4_isFirm 11 = .ok (.invokestatic 97, 3) := by decide +kernel
theorem dX4_isFirm_14 : decode cX4_isFirm 14 = .ok (.if_icmp .ne 86, 3) := by decide +kernel
theorem dX4_isFirm_17 : decode cX4_isFirm 17 = .ok (.iload_n 1, 1) := by decide +kernel
theorem dX4_isFirm_18 : decode cX4_isFirm 18 = .ok (.aload_n 0, 1) := by decide +kernel
theorem dX4_isFirm_19 : decode cX4_isFirm 19 = .ok (.getfield 27, 3) := by decide +kernel
theorem dX4_isFirm_22 : decode cX4_isFirm 22 = .ok (.iconst 1, 1) := by decide +kernel
theorem dX4_isFirm_23 : decode cX4_isFirm 23 = .ok (.invokestatic 97, 3) := by decide +kernel
theorem dX4_isFirm_26 : decode cX4_isFirm 26 = .ok (.if_icmp .gt 74, 3) := by decide +kernel
theorem dX4_isFirm_29 : decode cX4_isFirm 29 = .ok (.iload_n 2, 1) := by decide +kernel
theorem dX4_isFirm_30 : decode cX4_isFirm 30 = .ok (.aload_n 0, 1) := by decide +kernel
theorem dX4_isFirm_31 : decode cX4_isFirm 31 = .ok (.getfield 27, 3) := by decide +kernel
theorem dX4_isFirm_34 : decode cX4_isFirm 34 = .ok (.iconst 2, 1) := by decide +kernel
theorem dX4_isFirm_35 : decode cX4_isFirm 35 = .ok (.invokestatic 97, 3) := by decide +kernel
theorem dX4_isFirm_38 : decode cX4_isFirm 38 = .ok (.if_icmp .gt 62, 3) := by decide +kernel
theorem dX4_isFirm_41 : decode cX4_isFirm 41 = .ok (.iload_n 3, 1) := by decide +kernel
theorem dX4_isFirm_42 : decode cX4_isFirm 42 = .ok (.aload_n 0, 1) := by decide +kernel
theorem dX4_isFirm_43 : decode cX4_isFirm 43 = .ok (.getfield 27, 3) := by decide +kernel
theorem dX4_isFirm_46 : decode cX4_isFirm 46 = .ok (.iconst 4, 1) := by decide +kernel
theorem dX4_isFirm_47 : decode cX4_isFirm 47 = .ok (.invokestatic 97, 3) := by decide +kernel
theorem dX4_isFirm_50 : decode cX4_isFirm 50 = .ok (.if_icmp .gt 50, 3) := by decide +kernel
theorem dX4_isFirm_53 : decode cX4_isFirm 53 = .ok (.iload_n 1, 1) := by decide +kernel
theorem dX4_isFirm_54 : decode cX4_isFirm 54 = .ok (.iload_n 2, 1) := by decide +kernel
theorem dX4_isFirm_55 : decode cX4_isFirm 55 = .ok (.iadd, 1) := by decide +kernel
theorem dX4_isFirm_56 : decode cX4_isFirm 56 = .ok (.aload_n 0, 1) := by decide +kernel
theorem dX4_isFirm_57 : decode cX4_isFirm 57 = .ok (.getfield 27, 3) := by decide +kernel
theorem dX4_isFirm_60 : decode cX4_isFirm 60 = .ok (.iconst 3, 1) := by decide +kernel
theorem dX4_isFirm_61 : decode cX4_isFirm 61 = .ok (.invokestatic 97, 3) := by decide +kernel
theorem dX4_isFirm_64 : decode cX4_isFirm 64 = .ok (.if_icmp .gt 36, 3) := by decide +kernel
theorem dX4_isFirm_67 : decode cX4_isFirm 67 = .ok (.iload_n 1, 1) := by decide +kernel
theorem dX4_isFirm_68 : decode cX4_isFirm 68 = .ok (.iload_n 3, 1) := by decide +kernel
theorem dX4_isFirm_69 : decode cX4_isFirm 69 = .ok (.iadd, 1) := by decide +kernel
theorem dX4_isFirm_70 : decode cX4_isFirm 70 = .ok (.aload_n 0, 1) := by decide +kernel
theorem dX4_isFirm_71 : decode cX4_isFirm 71 = .ok (.getfield 27, 3) := by decide +kernel
theorem dX4_isFirm_74 : decode cX4_isFirm 74 = .ok (.iconst 5, 1) := by decide +kernel
theorem dX4_isFirm_75 : decode cX4_isFirm 75 = .ok (.invokestatic 97, 3) := by decide +kernel
theorem dX4_isFirm_78 : decode cX4_isFirm 78 = .ok (.if_icmp .gt 22, 3) := by decide +kernel
theorem dX4_isFirm_81 : decode cX4_isFirm 81 = .ok (.iload_n 2, 1) := by decide +kernel
theorem dX4_isFirm_82 : decode cX4_isFirm 82 = .ok (.iload_n 3, 1) := by decide +kernel
theorem dX4_isFirm_83 : decode cX4_isFirm 83 = .ok (.iadd, 1) := by decide +kernel
theorem dX4_isFirm_84 : decode cX4_isFirm 84 = .ok (.aload_n 0, 1) := by decide +kernel
theorem dX4_isFirm_85 : decode cX4_isFirm 85 = .ok (.getfield 27, 3) := by decide +kernel
theorem dX4_isFirm_88 : decode cX4_isFirm 88 = .ok (.bipush 6, 2) := by decide +kernel
theorem dX4_isFirm_90 : decode cX4_isFirm 90 = .ok (.invokestatic 97, 3) := by decide +kernel
theorem dX4_isFirm_93 : decode cX4_isFirm 93 = .ok (.if_icmp .gt 7, 3) := by decide +kernel
theorem dX4_isFirm_96 : decode cX4_isFirm 96 = .ok (.iconst 1, 1) := by decide +kernel
theorem dX4_isFirm_97 : decode cX4_isFirm 97 = .ok (.goto 4, 3) := by decide +kernel
theorem dX4_isFirm_100 : decode cX4_isFirm 100 = .ok (.iconst 0, 1) := by decide +kernel
theorem dX4_isFirm_101 : decode cX4_isFirm 101 = .ok (.ireturn, 1) := by decide +kernel
theorem dX4_refusesTrack_0 : decode cX4_refusesTrack 0 = .ok (.aload_n 0, 1) := by decide +kernel
theorem dX4_refusesTrack_1 : decode cX4_refusesTrack 1 = .ok (.iload_n 1, 1) := by decide +kernel
theorem dX4_refusesTrack_2 : decode cX4_refusesTrack 2 = .ok (.invokevirtual 65, 3) := by decide +kernel
theorem dX4_refusesTrack_5 : decode cX4_refusesTrack 5 = .ok (.ifCond .eq 10, 3) := by decide +kernel
theorem dX4_refusesTrack_8 : decode cX4_refusesTrack 8 = .ok (.iload_n 2, 1) := by decide +kernel
theorem dX4_refusesTrack_9 : decode cX4_refusesTrack 9 = .ok (.invokestatic 69, 3) := by decide +kernel
theorem dX4_refusesTrack_12 : decode cX4_refusesTrack 12 = .ok (.ifCond .ne 5, 3) := by decide +kernel
theorem dX4_refusesTrack_15 : decode cX4_refusesTrack 15 = .ok (.iconst (-1), 1) := by decide +kernel
theorem dX4_refusesTrack_16 : decode cX4_refusesTrack 16 = .ok (.ireturn, 1) := by decide +kernel
theorem dX4_refusesTrack_17 : decode cX4_refusesTrack 17 = .ok (.iload_n 3, 1) := by decide +kernel
theorem dX4_refusesTrack_18 : decode cX4_refusesTrack 18 = .ok (.bipush 8, 2) := by decide +kernel
theorem dX4_refusesTrack_20 : decode cX4_refusesTrack 20 = .ok (.if_icmp .lt 8, 3) := by decide +kernel
theorem dX4_refusesTrack_23 : decode cX4_refusesTrack 23 = .ok (.bipush (-3), 2) := by decide +kernel
theorem dX4_refusesTrack_25 : decode cX4_refusesTrack 25 = .ok (.goto 4, 3) := by decide +kernel
theorem dX4_refusesTrack_28 : decode cX4_refusesTrack 28 = .ok (.iconst 0, 1) := by decide +kernel
theorem dX4_refusesTrack_29 : decode cX4_refusesTrack 29 = .ok (.ireturn, 1) := by decide +kernel
theorem dX4_addTrack_0 : decode cX4_addTrack 0 = .ok (.aload_n 0, 1) := by decide +kernel
theorem dX4_addTrack_1 : decode cX4_addTrack 1 = .ok (.getfield 30, 3) := by decide +kernel
theorem dX4_addTrack_4 : decode cX4_addTrack 4 = .ok (.aload_n 0, 1) := by decide +kernel
theorem dX4_addTrack_5 : decode cX4_addTrack 5 = .ok (.getfield 54, 3) := by decide +kernel
theorem dX4_addTrack_8 : decode cX4_addTrack 8 = .ok (.iload_n 1, 1) := by decide +kernel
theorem dX4_addTrack_9 : decode cX4_addTrack 9 = .ok (.iload_n 2, 1) := by decide +kernel
theorem dX4_addTrack_10 : decode cX4_addTrack 10 = .ok (.invokestatic 94, 3) := by decide +kernel
theorem dX4_addTrack_13 : decode cX4_addTrack 13 = .ok (.invokestatic 61, 3) := by decide +kernel
theorem dX4_addTrack_16 : decode cX4_addTrack 16 = .ok (.aload_n 0, 1) := by decide +kernel
theorem dX4_addTrack_17 : decode cX4_addTrack 17 = .ok (.dup, 1) := by decide +kernel
theorem dX4_addTrack_18 : decode cX4_addTrack 18 = .ok (.getfield 54, 3) := by decide +kernel
theorem dX4_addTrack_21 : decode cX4_addTrack 21 = .ok (.iconst 1, 1) := by decide +kernel
theorem dX4_addTrack_22 : decode cX4_addTrack 22 = .ok (.iadd, 1) := by decide +kernel
theorem dX4_addTrack_23 : decode cX4_addTrack 23 = .ok (.putfield 54, 3) := by decide +kernel
theorem dX4_addTrack_26 : decode cX4_addTrack 26 = .ok (.aload_n 0, 1) := by decide +kernel
theorem dX4_addTrack_27 : decode cX4_addTrack 27 = .ok (.getfield 54, 3) := by decide +kernel
theorem dX4_addTrack_30 : decode cX4_addTrack 30 = .ok (.ireturn, 1) := by decide +kernel
theorem dX4_trackAt_0 : decode cX4_trackAt 0 = .ok (.aload_n 0, 1) := by decide +kernel
theorem dX4_trackAt_1 : decode cX4_trackAt 1 = .ok (.getfield 30, 3) := by decide +kernel
theorem dX4_trackAt_4 : decode cX4_trackAt 4 = .ok (.iload_n 1, 1) := by decide +kernel
theorem dX4_trackAt_5 : decode cX4_trackAt 5 = .ok (.invokestatic 97, 3) := by decide +kernel
theorem dX4_trackAt_8 : decode cX4_trackAt 8 = .ok (.ireturn, 1) := by decide +kernel
theorem dX5_init_0 : decode cX5_init 0 = .ok (.aload_n 0, 1) := by decide +kernel
theorem dX5_init_1 : decode cX5_init 1 = .ok (.invokespecial 3, 3) := by decide +kernel
theorem dX5_init_4 : decode cX5_init 4 = .ok (.aload_n 0, 1) := by decide +kernel
theorem dX5_init_5 : decode cX5_init 5 = .ok (.new 9, 3) := by decide +kernel
theorem dX5_init_8 : decode cX5_init 8 = .ok (.dup, 1) := by decide +kernel
theorem dX5_init_9 : decode cX5_init 9 = .ok (.invokespecial 11, 3) := by decide +kernel
theorem dX5_init_12 : decode cX5_init 12 = .ok (.putfield 12, 3) := by decide +kernel
theorem dX5_init_15 : decode cX5_init 15 = .ok (.aload_n 0, 1) := by decide +kernel
theorem dX5_init_16 : decode cX5_init 16 = .ok (.iconst 5, 1) := by decide +kernel
theorem dX5_init_17 : decode cX5_init 17 = .ok (.newarray .int, 2) := by decide +kernel
theorem dX5_init_19 : decode cX5_init 19 = .ok (.putfield 18, 3) := by decide +kernel
theorem dX5_init_22 : decode cX5_init 22 = .ok (.aload_n 0, 1) := by decide +kernel
theorem dX5_init_23 : decode cX5_init 23 = .ok (.iconst 5, 1) := by decide +kernel
theorem dX5_init_24 : decode cX5_init 24 = .ok (.newarray .int, 2) := by decide +kernel
theorem dX5_init_26 : decode cX5_init 26 = .ok (.putfield 22, 3) := by decide +kernel
theorem dX5_init_29 : decode cX5_init 29 = .ok (.aload_n 0, 1) := by decide +kernel
theorem dX5_init_30 : decode cX5_init 30 = .ok (.iconst 5, 1) := by decide +kernel
theorem dX5_init_31 : decode cX5_init 31 = .ok (.newarray .int, 2) := by decide +kernel
theorem dX5_init_33 : decode cX5_init 33 = .ok (.putfield 25, 3) := by decide +kernel
theorem dX5_init_36 : decode cX5_init 36 = .ok (.aload_n 0, 1) := by decide +kernel
theorem dX5_init_37 : decode cX5_init 37 = .ok (.iconst 5, 1) := by decide +kernel
theorem dX5_init_38 : decode cX5_init 38 = .ok (.newarray .int, 2) := by decide +kernel
theorem dX5_init_40 : decode cX5_init 40 = .ok (.putfield 28, 3) := by decide +kernel
theorem dX5_init_43 : decode cX5_init 43 = .ok (.aload_n 0, 1) := by decide +kernel
theorem dX5_init_44 : decode cX5_init 44 = .ok (.bipush 63, 2) := by decide +kernel
theorem dX5_init_46 : decode cX5_init 46 = .ok (.newarray .int, 2) := by decide +kernel
theorem dX5_init_48 : decode cX5_init 48 = .ok (.putfield 31, 3) := by decide +kernel
theorem dX5_init_51 : decode cX5_init 51 = .ok (.aload_n 0, 1) := by decide +kernel
theorem dX5_init_52 : decode cX5_init 52 = .ok (.bipush 63, 2) := by decide +kernel
theorem dX5_init_54 : decode cX5_init 54 = .ok (.newarray .int, 2) := by decide +kernel
theorem dX5_init_56 : decode cX5_init 56 = .ok (.putfield 34, 3) := by decide +kernel
theorem dX5_init_59 : decode cX5_init 59 = .ok (.aload_n 0, 1) := by decide +kernel
theorem dX5_init_60 : decode cX5_init 60 = .ok (.iconst 0, 1) := by decide +kernel
theorem dX5_init_61 : decode cX5_init 61 = .ok (.putfield 37, 3) := by decide +kernel
theorem dX5_init_64 : decode cX5_init 64 = .ok (.aload_n 0, 1) := by decide +kernel
theorem dX5_init_65 : decode cX5_init 65 = .ok (.iconst 0, 1) := by decide +kernel
theorem dX5_init_66 : decode cX5_init 66 = .ok (.putfield 41, 3) := by decide +kernel
theorem dX5_init_69 : decode cX5_init 69 = .ok (.aload_n 0, 1) := by decide +kernel
theorem dX5_init_70 : decode cX5_init 70 = .ok (.iconst 0, 1) := by decide +kernel
theorem dX5_init_71 : decode cX5_init 71 = .ok (.putfield 44, 3) := by decide +kernel
theorem dX5_init_74 : decode cX5_init 74 = .ok (.aload_n 0, 1) := by decide +kernel
theorem dX5_init_75 : decode cX5_init 75 = .ok (.iconst 0, 1) := by decide +kernel
theorem dX5_init_76 : decode cX5_init 76 = .ok (.putfield 47, 3) := by decide +kernel
theorem dX5_init_79 : decode cX5_init 79 = .ok (.aload_n 0, 1) := by decide +kernel
theorem dX5_init_80 : decode cX5_init 80 = .ok (.iconst 0, 1) := by decide +kernel
theorem dX5_init_81 : decode cX5_init 81 = .ok (.putfield 50, 3) := by decide +kernel
theorem dX5_init_84 : decode cX5_init 84 = .ok (.aload_n 0, 1) := by decide +kernel
theorem dX5_init_85 : decode cX5_init 85 = .ok (.aload_n 1, 1) := by decide +kernel
theorem dX5_init_86 : decode cX5_init 86 = .ok (.putfield 53, 3) := by decide +kernel
theorem dX5_init_89 : decode cX5_init 89 = .ok (.return_, 1) := by decide +kernel
theorem dX5_begin_0 : decode cX5_begin 0 = .ok (.aload_n 0, 1) := by decide +kernel
theorem dX5_begin_1 : decode cX5_begin 1 = .ok (.getfield 12, 3) := by decide +kernel
theorem dX5_begin_4 : decode cX5_begin 4 = .ok (.aload_n 1, 1) := by decide +kernel
theorem dX5_begin_5 : decode cX5_begin 5 = .ok (.invokevirtual 57, 3) := by decide +kernel
theorem dX5_begin_8 : decode cX5_begin 8 = .ok (.iconst 0, 1) := by decide +kernel
theorem dX5_begin_9 : decode cX5_begin 9 = .ok (.istore_n 2, 1) := by decide +kernel
theorem dX5_begin_10 : decode cX5_begin 10 = .ok (.iload_n 2, 1) := by decide +kernel
theorem dX5_begin_11 : decode cX5_begin 11 = .ok (.iconst 5, 1) := by decide +kernel
theorem dX5_begin_12 : decode cX5_begin 12 = .ok (.if_icmp .ge 26, 3) := by decide +kernel
theorem dX5_begin_15 : decode cX5_begin 15 = .ok (.aload_n 0, 1) := by decide +kernel
theorem dX5_begin_16 : decode cX5_begin 16 = .ok (.getfield 18, 3) := by decide +kernel
theorem dX5_begin_19 : decode cX5_begin 19 = .ok (.iload_n 2, 1) := by decide +kernel
theorem dX5_begin_20 : decode cX5_begin 20 = .ok (.aload_n 0, 1) := by decide +kernel
theorem dX5_begin_21 : decode cX5_begin 21 = .ok (.getfield 53, 3) := by decide +kernel
theorem dX5_begin_24 : decode cX5_begin 24 = .ok (.iload_n 2, 1) := by decide +kernel
theorem dX5_begin_25 : decode cX5_begin 25 = .ok (.iconst 4, 1) := by decide +kernel
theorem dX5_begin_26 : decode cX5_begin 26 = .ok (.invokevirtual 61, 3) := by decide +kernel
theorem dX5_begin_29 : decode cX5_begin 29 = .ok (.invokestatic 67, 3) := by decide +kernel
theorem dX5_begin_32 : decode cX5_begin 32 = .ok (.iinc 2 1, 3) := by decide +kernel
theorem dX5_begin_35 : decode cX5_begin 35 = .ok (.goto (-25), 3) := by decide +kernel
theorem dX5_begin_38 : decode cX5_begin 38 = .ok (.aload_n 0, 1) := by decide +kernel
theorem dX5_begin_39 : decode cX5_begin 39 = .ok (.getfield 22, 3) := by decide +kernel
theorem dX5_begin_42 : decode cX5_begin 42 = .ok (.iconst 0, 1) := by decide +kernel
theorem dX5_begin_43 : decode cX5_begin 43 = .ok (.invokestatic 71, 3) := by decide +kernel
theorem dX5_begin_46 : decode cX5_begin 46 = .ok (.aload_n 0, 1) := by decide +kernel
theorem dX5_begin_47 : decode cX5_begin 47 = .ok (.getfield 25, 3) := by decide +kernel
theorem dX5_begin_50 : decode cX5_begin 50 = .ok (.iconst 0, 1) := by decide +kernel
theorem dX5_begin_51 : decode cX5_begin 51 = .ok (.invokestatic 71, 3) := by decide +kernel
theorem dX5_begin_54 : decode cX5_begin 54 = .ok (.aload_n 0, 1) := by decide +kernel
theorem dX5_begin_55 : decode cX5_begin 55 = .ok (.getfield 28, 3) := by decide +kernel
theorem dX5_begin_58 : decode cX5_begin 58 = .ok (.iconst 0, 1) := by decide +kernel
theorem dX5_begin_59 : decode cX5_begin 59 = .ok (.invokestatic 71, 3) := by decide +kernel
theorem dX5_begin_62 : decode cX5_begin 62 = .ok (.aload_n 0, 1) := by decide +kernel
theorem dX5_begin_63 : decode cX5_begin 63 = .ok (.getfield 53, 3) := by decide +kernel
theorem dX5_begin_66 : decode cX5_begin 66 = .ok (.getfield 75, 3) := by decide +kernel
theorem dX5_begin_69 : decode cX5_begin 69 = .ok (.aload_n 0, 1) := by decide +kernel
theorem dX5_begin_70 : decode cX5_begin 70 = .ok (.getfield 31, 3) := by decide +kernel
theorem dX5_begin_73 : decode cX5_begin 73 = .ok (.invokestatic 78, 3) := by decide +kernel
theorem dX5_begin_76 : decode cX5_begin 76 = .ok (.aload_n 0, 1) := by decide +kernel
theorem dX5_begin_77 : decode cX5_begin 77 = .ok (.getfield 34, 3) := by decide +kernel
theorem dX5_begin_80 : decode cX5_begin 80 = .ok (.iconst 0, 1) := by decide +kernel
theorem dX5_begin_81 : decode cX5_begin 81 = .ok (.invokestatic 71, 3) := by decide +kernel
theorem dX5_begin_84 : decode cX5_begin 84 = .ok (.aload_n 0, 1) := by decide +kernel
theorem dX5_begin_85 : decode cX5_begin 85 = .ok (.iconst 0, 1) := by decide +kernel
theorem dX5_begin_86 : decode cX5_begin 86 = .ok (.putfield 37, 3) := by decide +kernel
theorem dX5_begin_89 : decode cX5_begin 89 = .ok (.aload_n 0, 1) := by decide +kernel
theorem dX5_begin_90 : decode cX5_begin 90 = .ok (.aload_n 0, 1) := by decide +kernel
theorem dX5_begin_91 : decode cX5_begin 91 = .ok (.getfield 53, 3) := by decide +kernel
theorem dX5_begin_94 : decode cX5_begin 94 = .ok (.getfield 82, 3) := by decide +kernel
theorem dX5_begin_97 : decode cX5_begin 97 = .ok (.putfield 41, 3) := by decide +kernel
theorem dX5_begin_100 : decode cX5_begin 100 = .ok (.aload_n 0, 1) := by decide +kernel
theorem dX5_begin_101 : decode cX5_begin 101 = .ok (.iconst 0, 1) := by decide +kernel
theorem dX5_begin_102 : decode cX5_begin 102 = .ok (.putfield 44, 3) := by decide +kernel
theorem dX5_begin_105 : decode cX5_begin 105 = .ok (.aload_n 0, 1) := by decide +kernel
theorem dX5_begin_106 : decode cX5_begin 106 = .ok (.iconst 0, 1) := by decide +kernel
theorem dX5_begin_107 : decode cX5_begin 107 = .ok (.putfield 47, 3) := by decide +kernel
theorem dX5_begin_110 : decode cX5_begin 110 = .ok (.iconst 0, 1) := by decide +kernel
theorem dX5_begin_111 : decode cX5_begin 111 = .ok (.istore_n 2, 1) := by decide +kernel
theorem dX5_begin_112 : decode cX5_begin 112 = .ok (.iload_n 2, 1) := by decide +kernel
theorem dX5_begin_113 : decode cX5_begin 113 = .ok (.aload_n 0, 1) := by decide +kernel
theorem dX5_begin_114 : decode cX5_begin 114 = .ok (.getfield 53, 3) := by decide +kernel
theorem dX5_begin_117 : decode cX5_begin 117 = .ok (.getfield 82, 3) := by decide +kernel
theorem dX5_begin_120 : decode cX5_begin 120 = .ok (.if_icmp .ge 30, 3) := by decide +kernel
theorem dX5_begin_123 : decode cX5_begin 123 = .ok (.aload_n 0, 1) := by decide +kernel
theorem dX5_begin_124 : decode cX5_begin 124 = .ok (.aload_n 0, 1) := by decide +kernel
theorem dX5_begin_125 : decode cX5_begin 125 = .ok (.getfield 47, 3) := by decide +kernel
theorem dX5_begin_128 : decode cX5_begin 128 = .ok (.aload_n 0, 1) := by decide +kernel
theorem dX5_begin_129 : decode cX5_begin 129 = .ok (.getfield 53, 3) := by decide +kernel
theorem dX5_begin_132 : decode cX5_begin 132 = .ok (.iload_n 2, 1) := by decide +kernel
theorem dX5_begin_133 : decode cX5_begin 133 = .ok (.bipush 6, 2) := by decide +kernel
theorem dX5_begin_135 : decode cX5_begin 135 = .ok (.invokevirtual 61, 3) := by decide +kernel
theorem dX5_begin_138 : decode cX5_begin 138 = .ok (.invokestatic 85, 3) := by decide +kernel
theorem dX5_begin_141 : decode cX5_begin 141 = .ok (.putfield 47, 3) := by decide +kernel
theorem dX5_begin_144 : decode cX5_begin 144 = .ok (.iinc 2 1, 3) := by decide +kernel
theorem dX5_begin_147 : decode cX5_begin 147 = .ok (.goto (-35), 3) := by decide +kernel
theorem dX5_begin_150 : decode cX5_begin 150 = .ok (.aload_n 0, 1) := by decide +kernel
theorem dX5_begin_151 : decode cX5_begin 151 = .ok (.iconst 0, 1) := by decide +kernel
theorem dX5_begin_152 : decode cX5_begin 152 = .ok (.putfield 50, 3) := by decide +kernel
theorem dX5_begin_155 : decode cX5_begin 155 = .ok (.return_, 1) := by decide +kernel
theorem dX5_level_0 : decode cX5_level 0 = .ok (.iconst 0, 1) := by decide +kernel
theorem dX5_level_1 : decode cX5_level 1 = .ok (.istore_n 2, 1) := by decide +kernel
theorem dX5_level_2 : decode cX5_level 2 = .ok (.iload_n 2, 1) := by decide +kernel
theorem dX5_level_3 : decode cX5_level 3 = .ok (.iconst 3, 1) := by decide +kernel
theorem dX5_level_4 : decode cX5_level 4 = .ok (.if_icmp .ge 19, 3) := by decide +kernel
theorem dX5_level_7 : decode cX5_level 7 = .ok (.aload_n 0, 1) := by decide +kernel
theorem dX5_level_8 : decode cX5_level 8 = .ok (.iload_n 1, 1) := by decide +kernel
theorem dX5_level_9 : decode cX5_level 9 = .ok (.iload_n 2, 1) := by decide +kernel
theorem dX5_level_10 : decode cX5_level 10 = .ok (.invokestatic 90, 3) := by decide +kernel
theorem dX5_level_13 : decode cX5_level 13 = .ok (.iconst 0, 1) := by decide +kernel
theorem dX5_level_14 : decode cX5_level 14 = .ok (.invokevirtual 93, 3) := by decide +kernel
theorem dX5_level_17 : decode cX5_level 17 = .ok (.iinc 2 1, 3) := by decide +kernel
theorem dX5_level_20 : decode cX5_level 20 = .ok (.goto (-18), 3) := by decide +kernel
theorem dX5_level_23 : decode cX5_level 23 = .ok (.return_, 1) := by decide +kernel
theorem dX5_upTo_0 : decode cX5_upTo 0 = .ok (.iconst 1, 1) := by decide +kernel
theorem dX5_upTo_1 : decode cX5_upTo 1 = .ok (.istore_n 2, 1) := by decide +kernel
theorem dX5_upTo_2 : decode cX5_upTo 2 = .ok (.iload_n 2, 1) := by decide +kernel
theorem dX5_upTo_3 : decode cX5_upTo 3 = .ok (.iload_n 1, 1) := by decide +kernel
theorem dX5_upTo_4 : decode cX5_upTo 4 = .ok (.if_icmp .gt 14, 3) := by decide +kernel
theorem dX5_upTo_7 : decode cX5_upTo 7 = .ok (.aload_n 0, 1) := by decide +kernel
theorem dX5_upTo_8 : decode cX5_upTo 8 = .ok (.iload_n 2, 1) := by decide +kernel
theorem dX5_upTo_9 : decode cX5_upTo 9 = .ok (.invokevirtual 97, 3) := by decide +kernel
theorem dX5_upTo_12 : decode cX5_upTo 12 = .ok (.iinc 2 1, 3) := by decide +kernel
theorem dX5_upTo_15 : decode cX5_upTo 15 = .ok (.goto (-13), 3) := by decide +kernel
theorem dX5_upTo_18 : decode cX5_upTo 18 = .ok (.return_, 1) := by decide +kernel
theorem dX5_allDone_0 : decode cX5_allDone 0 = .ok (.aload_n 0, 1) := by decide +kernel
theorem dX5_allDone_1 : decode cX5_allDone 1 = .ok (.aload_n 1, 1) := by decide +kernel
theorem dX5_allDone_2 : decode cX5_allDone 2 = .ok (.invokevirtual 101, 3) := by decide +kernel
theorem dX5_allDone_5 : decode cX5_allDone 5 = .ok (.iload_n 2, 1) := by decide +kernel
theorem dX5_allDone_6 : decode cX5_allDone 6 = .ok (.ifCond .lt 8, 3) := by decide +kernel
theorem dX5_allDone_9 : decode cX5_allDone 9 = .ok (.aload_n 0, 1) := by decide +kernel
theorem dX5_allDone_10 : decode cX5_allDone 10 = .ok (.iload_n 2, 1) := by decide +kernel
theorem dX5_allDone_11 : decode cX5_allDone 11 = .ok (.invokevirtual 104, 3) := by decide +kernel
theorem dX5_allDone_14 : decode cX5_allDone 14 = .ok (.iload_n 3, 1) := by decide +kernel
theorem dX5_allDone_15 : decode cX5_allDone 15 = .ok (.ifCond .lt 8, 3) := by decide +kernel
theorem dX5_allDone_18 : decode cX5_allDone 18 = .ok (.aload_n 0, 1) := by decide +kernel
theorem dX5_allDone_19 : decode cX5_allDone 19 = .ok (.iload_n 3, 1) := by decide +kernel
theorem dX5_allDone_20 : decode cX5_allDone 20 = .ok (.invokevirtual 104, 3) := by decide +kernel
theorem dX5_allDone_23 : decode cX5_allDone 23 = .ok (.iconst 0, 1) := by decide +kernel
theorem dX5_allDone_24 : decode cX5_allDone 24 = .ok (.istore 4, 2) := by decide +kernel
theorem dX5_allDone_26 : decode cX5_allDone 26 = .ok (.iconst 1, 1) := by decide +kernel
theorem dX5_allDone_27 : decode cX5_allDone 27 = .ok (.istore 5, 2) := by decide +kernel
theorem dX5_allDone_29 : decode cX5_allDone 29 = .ok (.iload 5, 2) := by decide +kernel
theorem dX5_allDone_31 : decode cX5_allDone 31 = .ok (.bipush 60, 2) := by decide +kernel
theorem dX5_allDone_33 : decode cX5_allDone 33 = .ok (.if_icmp .gt 86, 3) := by decide +kernel
theorem dX5_allDone_36 : decode cX5_allDone 36 = .ok (.aload_n 0, 1) := by decide +kernel
theorem dX5_allDone_37 : decode cX5_allDone 37 = .ok (.getfield 41, 3) := by decide +kernel
theorem dX5_allDone_40 : decode cX5_allDone 40 = .ok (.ifCond .le 79, 3) := by decide +kernel
theorem dX5_allDone_43 : decode cX5_allDone 43 = .ok (.iload 4, 2) := by decide +kernel
theorem dX5_allDone_45 : decode cX5_allDone 45 = .ok (.iconst 2, 1) := by decide +kernel
theorem dX5_allDone_46 : decode cX5_allDone 46 = .ok (.if_icmp .ge 73, 3) := by decide +kernel
theorem dX5_allDone_49 : decode cX5_allDone 49 = .ok (.iload 5, 2) := by decide +kernel
theorem dX5_allDone_51 : decode cX5_allDone 51 = .ok (.aload_n 0, 1) := by decide +kernel
theorem dX5_allDone_52 : decode cX5_allDone 52 = .ok (.getfield 47, 3) := by decide +kernel
theorem dX5_allDone_55 : decode cX5_allDone 55 = .ok (.if_icmp .le 15, 3) := by decide +kernel
theorem dX5_allDone_58 : decode cX5_allDone 58 = .ok (.aload_n 0, 1) := by decide +kernel
theorem dX5_allDone_59 : decode cX5_allDone 59 = .ok (.getfield 53, 3) := by decide +kernel
theorem dX5_allDone_62 : decode cX5_allDone 62 = .ok (.iload 5, 2) := by decide +kernel
theorem dX5_allDone_64 : decode cX5_allDone 64 = .ok (.invokevirtual 107, 3) := by decide +kernel
theorem dX5_allDone_67 : decode cX5_allDone 67 = .ok (.ifCond .eq 7, 3) := by decide +kernel
theorem dX5_allDone_70 : decode cX5_allDone 70 = .ok (.iconst 1, 1) := by decide +kernel
theorem dX5_allDone_71 : decode cX5_allDone 71 = .ok (.goto 4, 3) := by decide +kernel
theorem dX5_allDone_74 : decode cX5_allDone 74 = .ok (.iconst 0, 1) := by decide +kernel
theorem dX5_allDone_75 : decode cX5_allDone 75 = .ok (.istore 6, 2) := by decide +kernel
theorem dX5_allDone_77 : decode cX5_allDone 77 = .ok (.aload_n 0, 1) := by decide +kernel
theorem dX5_allDone_78 : decode cX5_allDone 78 = .ok (.getfield 44, 3) := by decide +kernel
theorem dX5_allDone_81 : decode cX5_allDone 81 = .ok (.istore 7, 2) := by decide +kernel
theorem dX5_allDone_83 : decode cX5_allDone 83 = .ok (.aload_n 0, 1) := by decide +kernel
theorem dX5_allDone_84 : decode cX5_allDone 84 = .ok (.iload 5, 2) := by decide +kernel
theorem dX5_allDone_86 : decode cX5_allDone 86 = .ok (.invokevirtual 97, 3) := by decide +kernel
theorem dX5_allDone_89 : decode cX5_allDone 89 = .ok (.iload 6, 2) := by decide +kernel
theorem dX5_allDone_91 : decode cX5_allDone 91 = .ok (.ifCond .ne 12, 3) := by decide +kernel
theorem dX5_allDone_94 : decode cX5_allDone 94 = .ok (.aload_n 0, 1) := by decide +kernel
theorem dX5_allDone_95 : decode cX5_allDone 95 = .ok (.getfield 44, 3) := by decide +kernel
theorem dX5_allDone_98 : decode cX5_allDone 98 = .ok (.iload 7, 2) := by decide +kernel
theorem dX5_allDone_100 : decode cX5_allDone 100 = .ok (.if_icmp .le 7, 3) := by decide +kernel
theorem dX5_allDone_103 : decode cX5_allDone 103 = .ok (.iconst 0, 1) := by decide +kernel
theorem dX5_allDone_104 : decode cX5_allDone 104 = .ok (.goto 7, 3) := by decide +kernel
theorem dX5_allDone_107 : decode cX5_allDone 107 = .ok (.iload 4, 2) := by decide +kernel
theorem dX5_allDone_109 : decode cX5_allDone 109 = .ok (.iconst 1, 1) := by decide +kernel
theorem dX5_allDone_110 : decode cX5_allDone 110 = .ok (.iadd, 1) := by decide +kernel
theorem dX5_allDone_111 : decode cX5_allDone 111 = .ok (.istore 4, 2) := by decide +kernel
theorem dX5_allDone_113 : decode cX5_allDone 113 = .ok (.iinc 5 1, 3) := by decide +kernel
theorem dX5_allDone_116 : decode cX5_allDone 116 = .ok (.goto (-87), 3) := by decide +kernel
theorem dX5_allDone_119 : decode cX5_allDone 119 = .ok (.aload_n 0, 1) := by decide +kernel
theorem dX5_allDone_120 : decode cX5_allDone 120 = .ok (.getfield 41, 3) := by decide +kernel
theorem dX5_allDone_123 : decode cX5_allDone 123 = .ok (.ifCond .ne 7, 3) := by decide +kernel
theorem dX5_allDone_126 : decode cX5_allDone 126 = .ok (.iconst 1, 1) := by decide +kernel
theorem dX5_allDone_127 : decode cX5_allDone 127 = .ok (.goto 4, 3) := by decide +kernel
theorem dX5_allDone_130 : decode cX5_allDone 130 = .ok (.iconst 0, 1) := by decide +kernel
theorem dX5_allDone_131 : decode cX5_allDone 131 = .ok (.ireturn, 1) := by decide +kernel
theorem dX5_goHour_0 : decode cX5_goHour 0 = .ok (.aload_n 0, 1) := by decide +kernel
theorem dX5_goHour_1 : decode cX5_goHour 1 = .ok (.iconst 0, 1) := by decide +kernel
theorem dX5_goHour_2 : decode cX5_goHour 2 = .ok (.putfield 50, 3) := by decide +kernel
theorem dX5_goHour_5 : decode cX5_goHour 5 = .ok (.iconst 0, 1) := by decide +kernel
theorem dX5_goHour_6 : decode cX5_goHour 6 = .ok (.istore_n 2, 1) := by decide +kernel
theorem dX5_goHour_7 : decode cX5_goHour 7 = .ok (.aload_n 0, 1) := by decide +kernel
theorem dX5_goHour_8 : decode cX5_goHour 8 = .ok (.getfield 41, 3) := by decide +kernel
theorem dX5_goHour_11 : decode cX5_goHour 11 = .ok (.ifCond .le 36, 3) := by decide +kernel
theorem dX5_goHour_14 : decode cX5_goHour 14 = .ok (.iload_n 2, 1) := by decide +kernel
theorem dX5_goHour_15 : decode cX5_goHour 15 = .ok (.aload_n 0, 1) := by decide +kernel
theorem dX5_goHour_16 : decode cX5_goHour 16 = .ok (.getfield 12, 3) := by decide +kernel
theorem dX5_goHour_19 : decode cX5_goHour 19 = .ok (.getfield 111, 3) := by decide +kernel
theorem dX5_goHour_22 : decode cX5_goHour 22 = .ok (.if_icmp .ge 25, 3) := by decide +kernel
theorem dX5_goHour_25 : decode cX5_goHour 25 = .ok (.aload_n 0, 1) := by decide +kernel
theorem dX5_goHour_26 : decode cX5_goHour 26 = .ok (.iload_n 1, 1) := by decide +kernel
theorem dX5_goHour_27 : decode cX5_goHour 27 = .ok (.aload_n 0, 1) := by decide +kernel
theorem dX5_goHour_28 : decode cX5_goHour 28 = .ok (.getfield 12, 3) := by decide +kernel
theorem dX5_goHour_31 : decode cX5_goHour 31 = .ok (.getfield 114, 3) := by decide +kernel
theorem dX5_goHour_34 : decode cX5_goHour 34 = .ok (.iload_n 2, 1) := by decide +kernel
theorem dX5_goHour_35 : decode cX5_goHour 35 = .ok (.invokestatic 116, 3) := by decide +kernel
theorem dX5_goHour_38 : decode cX5_goHour 38 = .ok (.invokevirtual 120, 3) := by decide +kernel
theorem dX5_goHour_41 : decode cX5_goHour 41 = .ok (.iinc 2 1, 3) := by decide +kernel
theorem dX5_goHour_44 : decode cX5_goHour 44 = .ok (.goto (-37), 3) := by decide +kernel
theorem dX5_goHour_47 : decode cX5_goHour 47 = .ok (.aload_n 0, 1) := by decide +kernel
theorem dX5_goHour_48 : decode cX5_goHour 48 = .ok (.getfield 53, 3) := by decide +kernel
theorem dX5_goHour_51 : decode cX5_goHour 51 = .ok (.iload_n 1, 1) := by decide +kernel
theorem dX5_goHour_52 : decode cX5_goHour 52 = .ok (.invokevirtual 123, 3) := by decide +kernel
theorem dX5_goHour_55 : decode cX5_goHour 55 = .ok (.ifCond .eq 13, 3) := by decide +kernel
theorem dX5_goHour_58 : decode cX5_goHour 58 = .ok (.aload_n 0, 1) := by decide +kernel
theorem dX5_goHour_59 : decode cX5_goHour 59 = .ok (.dup, 1) := by decide +kernel
theorem dX5_goHour_60 : decode cX5_goHour 60 = .ok (.getfield 37, 3) := by decide +kernel
theorem dX5_goHour_63 : decode cX5_goHour 63 = .ok (.iconst 1, 1) := by decide +kernel
theorem dX5_goHour_64 : decode cX5_goHour 64 = .ok (.iadd, 1) := by decide +kernel
theorem dX5_goHour_65 : decode cX5_goHour 65 = .ok (.putfield 37, 3) := by decide +kernel
theorem dX5_goHour_68 : decode cX5_goHour 68 = .ok (.return_, 1) := by decide +kernel
theorem dX5_moveIn_0 : decode cX5_moveIn 0 = .ok (.aload_n 0, 1) := by decide +kernel
theorem dX5_moveIn_1 : decode cX5_moveIn 1 = .ok (.getfield 53, 3) := by decide +kernel
theorem dX5_moveIn_4 : decode cX5_moveIn 4 = .ok (.iload_n 2, 1) := by decide +kernel
theorem dX5_moveIn_5 : decode cX5_moveIn 5 = .ok (.iconst 0, 1) := by decide +kernel
theorem dX5_moveIn_6 : decode cX5_moveIn 6 = .ok (.invokevirtual 61, 3) := by decide +kernel
theorem dX5_moveIn_9 : decode cX5_moveIn 9 = .ok (.iconst 2, 1) := by decide +kernel
theorem dX5_moveIn_10 : decode cX5_moveIn 10 = .ok (.if_icmp .ne 7, 3) := by decide +kernel
theorem dX5_moveIn_13 : decode cX5_moveIn 13 = .ok (.iconst 1, 1) := by decide +kernel
theorem dX5_moveIn_14 : decode cX5_moveIn 14 = .ok (.goto 4, 3) := by decide +kernel
theorem dX5_moveIn_17 : decode cX5_moveIn 17 = .ok (.iconst 0, 1) := by decide +kernel
theorem dX5_moveIn_18 : decode cX5_moveIn 18 = .ok (.istore_n 3, 1) := by decide +kernel
theorem dX5_moveIn_19 : decode cX5_moveIn 19 = .ok (.aload_n 0, 1) := by decide +kernel
theorem dX5_moveIn_20 : decode cX5_moveIn 20 = .ok (.iload_n 2, 1) := by decide +kernel
theorem dX5_moveIn_21 : decode cX5_moveIn 21 = .ok (.invokevirtual 126, 3) := by decide +kernel
theorem dX5_moveIn_24 : decode cX5_moveIn 24 = .ok (.ifCond .ne 27, 3) := by decide +kernel
theorem dX5_moveIn_27 : decode cX5_moveIn 27 = .ok (.iload_n 1, 1) := by decide +kernel
theorem dX5_moveIn_28 : decode cX5_moveIn 28 = .ok (.aload_n 0, 1) := by decide +kernel
theorem dX5_moveIn_29 : decode cX5_moveIn 29 = .ok (.getfield 53, 3) := by decide +kernel
theorem dX5_moveIn_32 : decode cX5_moveIn 32 = .ok (.iload_n 2, 1) := by decide +kernel
theorem dX5_moveIn_33 : decode cX5_moveIn 33 = .ok (.bipush 6, 2) := by decide +kernel
theorem dX5_moveIn_35 : decode cX5_moveIn 35 = .ok (.invokevirtual 61, 3) := by decide +kernel
theorem dX5_moveIn_38 : decode cX5_moveIn 38 = .ok (.if_icmp .le 13, 3) := by decide +kernel
theorem dX5_moveIn_41 : decode cX5_moveIn 41 = .ok (.iload_n 3, 1) := by decide +kernel
theorem dX5_moveIn_42 : decode cX5_moveIn 42 = .ok (.ifCond .eq 10, 3) := by decide +kernel
theorem dX5_moveIn_45 : decode cX5_moveIn 45 = .ok (.iload_n 1, 1) := by decide +kernel
theorem dX5_moveIn_46 : decode cX5_moveIn 46 = .ok (.iconst 2, 1) := by decide +kernel
theorem dX5_moveIn_47 : decode cX5_moveIn 47 = .ok (.irem, 1) := by decide +kernel
theorem dX5_moveIn_48 : decode cX5_moveIn 48 = .ok (.ifCond .eq 4, 3) := by decide +kernel
theorem dX5_moveIn_51 : decode cX5_moveIn 51 = .ok (.return_, 1) := by decide +kernel
theorem dX5_moveIn_52 : decode cX5_moveIn 52 = .ok (.aload_n 0, 1) := by decide +kernel
theorem dX5_moveIn_53 : decode cX5_moveIn 53 = .ok (.getfield 53, 3) := by decide +kernel
theorem dX5_moveIn_56 : decode cX5_moveIn 56 = .ok (.iload_n 2, 1) := by decide +kernel
theorem dX5_moveIn_57 : decode cX5_moveIn 57 = .ok (.aload_n 0, 1) := by decide +kernel
theorem dX5_moveIn_58 : decode cX5_moveIn 58 = .ok (.getfield 18, 3) := by decide +kernel
theorem dX5_moveIn_61 : decode cX5_moveIn 61 = .ok (.iload_n 2, 1) := by decide +kernel
theorem dX5_moveIn_62 : decode cX5_moveIn 62 = .ok (.invokestatic 116, 3) := by decide +kernel
theorem dX5_moveIn_65 : decode cX5_moveIn 65 = .ok (.invokevirtual 129, 3) := by decide +kernel
theorem dX5_moveIn_68 : decode cX5_moveIn 68 = .ok (.istore 4, 2) := by decide +kernel
theorem dX5_moveIn_70 : decode cX5_moveIn 70 = .ok (.aload_n 0, 1) := by decide +kernel
theorem dX5_moveIn_71 : decode cX5_moveIn 71 = .ok (.getfield 53, 3) := by decide +kernel
theorem dX5_moveIn_74 : decode cX5_moveIn 74 = .ok (.iload_n 2, 1) := by decide +kernel
theorem dX5_moveIn_75 : decode cX5_moveIn 75 = .ok (.iconst 1, 1) := by decide +kernel
theorem dX5_moveIn_76 : decode cX5_moveIn 76 = .ok (.invokevirtual 61, 3) := by decide +kernel
theorem dX5_moveIn_79 : decode cX5_moveIn 79 = .ok (.istore 5, 2) := by decide +kernel
theorem dX5_moveIn_81 : decode cX5_moveIn 81 = .ok (.aload_n 0, 1) := by decide +kernel
theorem dX5_moveIn_82 : decode cX5_moveIn 82 = .ok (.getfield 53, 3) := by decide +kernel
theorem dX5_moveIn_85 : decode cX5_moveIn 85 = .ok (.iload_n 2, 1) := by decide +kernel
theorem dX5_moveIn_86 : decode cX5_moveIn 86 = .ok (.iload 4, 2) := by decide +kernel
theorem dX5_moveIn_88 : decode cX5_moveIn 88 = .ok (.iload 5, 2) := by decide +kernel
theorem dX5_moveIn_90 : decode cX5_moveIn 90 = .ok (.aload_n 0, 1) := by decide +kernel
theorem dX5_moveIn_91 : decode cX5_moveIn 91 = .ok (.iload 4, 2) := by decide +kernel
theorem dX5_moveIn_93 : decode cX5_moveIn 93 = .ok (.iload 5, 2) := by decide +kernel
theorem dX5_moveIn_95 : decode cX5_moveIn 95 = .ok (.invokestatic 90, 3) := by decide +kernel
theorem dX5_moveIn_98 : decode cX5_moveIn 98 = .ok (.invokevirtual 132, 3) := by decide +kernel
theorem dX5_moveIn_101 : decode cX5_moveIn 101 = .ok (.invokevirtual 136, 3) := by decide +kernel
theorem dX5_moveIn_104 : decode cX5_moveIn 104 = .ok (.ifCond .eq 60, 3) := by decide +kernel
theorem dX5_moveIn_107 : decode cX5_moveIn 107 = .ok (.aload_n 0, 1) := by decide +kernel
theorem dX5_moveIn_108 : decode cX5_moveIn 108 = .ok (.iload_n 2, 1) := by decide +kernel
theorem dX5_moveIn_109 : decode cX5_moveIn 109 = .ok (.iload 4, 2) := by decide +kernel
theorem dX5_moveIn_111 : decode cX5_moveIn 111 = .ok (.iload 5, 2) := by decide +kernel
theorem dX5_moveIn_113 : decode cX5_moveIn 113 = .ok (.invokevirtual 140, 3) := by decide +kernel
theorem dX5_moveIn_116 : decode cX5_moveIn 116 = .ok (.ifCond .ne 48, 3) := by decide +kernel
theorem dX5_moveIn_119 : decode cX5_moveIn 119 = .ok (.aload_n 0, 1) := by decide +kernel
theorem dX5_moveIn_120 : decode cX5_moveIn 120 = .ok (.iload_n 2, 1) := by decide +kernel
theorem dX5_moveIn_121 : decode cX5_moveIn 121 = .ok (.iload 4, 2) := by decide +kernel
theorem dX5_moveIn_123 : decode cX5_moveIn 123 = .ok (.iload 5, 2) := by decide +kernel
theorem dX5_moveIn_125 : decode cX5_moveIn 125 = .ok (.invokevirtual 144, 3) := by decide +kernel
theorem dX5_moveIn_128 : decode cX5_moveIn 128 = .ok (.iload 4, 2) := by decide +kernel
theorem dX5_moveIn_130 : decode cX5_moveIn 130 = .ok (.aload_n 0, 1) := by decide +kernel
theorem dX5_moveIn_131 : decode cX5_moveIn 131 = .ok (.getfield 53, 3) := by decide +kernel
theorem dX5_moveIn_134 : decode cX5_moveIn 134 = .ok (.iload_n 2, 1) := by decide +kernel
theorem dX5_moveIn_135 : decode cX5_moveIn 135 = .ok (.iconst 5, 1) := by decide +kernel
theorem dX5_moveIn_136 : decode cX5_moveIn 136 = .ok (.invokevirtual 61, 3) := by decide +kernel
theorem dX5_moveIn_139 : decode cX5_moveIn 139 = .ok (.if_icmp .ne 55, 3) := by decide +kernel
theorem dX5_moveIn_142 : decode cX5_moveIn 142 = .ok (.aload_n 0, 1) := by decide +kernel
theorem dX5_moveIn_143 : decode cX5_moveIn 143 = .ok (.getfield 28, 3) := by decide +kernel
theorem dX5_moveIn_146 : decode cX5_moveIn 146 = .ok (.iload_n 2, 1) := by decide +kernel
theorem dX5_moveIn_147 : decode cX5_moveIn 147 = .ok (.iload_n 1, 1) := by decide +kernel
theorem dX5_moveIn_148 : decode cX5_moveIn 148 = .ok (.invokestatic 67, 3) := by decide +kernel
theorem dX5_moveIn_151 : decode cX5_moveIn 151 = .ok (.aload_n 0, 1) := by decide +kernel
theorem dX5_moveIn_152 : decode cX5_moveIn 152 = .ok (.dup, 1) := by decide +kernel
theorem dX5_moveIn_153 : decode cX5_moveIn 153 = .ok (.getfield 41, 3) := by decide +kernel
theorem dX5_moveIn_156 : decode cX5_moveIn 156 = .ok (.iconst 1, 1) := by decide +kernel
theorem dX5_moveIn_157 : decode cX5_moveIn 157 = .ok (.isub, 1) := by decide +kernel
theorem dX5_moveIn_158 : decode cX5_moveIn 158 = .ok (.putfield 41, 3) := by decide +kernel
theorem dX5_moveIn_161 : decode cX5_moveIn 161 = .ok (.goto 33, 3) := by decide +kernel
theorem dX5_moveIn_164 : decode cX5_moveIn 164 = .ok (.aload_n 0, 1) := by decide +kernel
theorem dX5_moveIn_165 : decode cX5_moveIn 165 = .ok (.getfield 25, 3) := by decide +kernel
theorem dX5_moveIn_168 : decode cX5_moveIn 168 = .ok (.iload_n 2, 1) := by decide +kernel
theorem dX5_moveIn_169 : decode cX5_moveIn 169 = .ok (.aload_n 0, 1) := by decide +kernel
theorem dX5_moveIn_170 : decode cX5_moveIn 170 = .ok (.getfield 25, 3) := by decide +kernel
theorem dX5_moveIn_173 : decode cX5_moveIn 173 = .ok (.iload_n 2, 1) := by decide +kernel
theorem dX5_moveIn_174 : decode cX5_moveIn 174 = .ok (.invokestatic 116, 3) := by decide +kernel
theorem dX5_moveIn_177 : decode cX5_moveIn 177 = .ok (.iconst 1, 1) := by decide +kernel
theorem dX5_moveIn_178 : decode cX5_moveIn 178 = .ok (.iadd, 1) := by decide +kernel
theorem dX5_moveIn_179 : decode cX5_moveIn 179 = .ok (.invokestatic 67, 3) := by decide +kernel
theorem dX5_moveIn_182 : decode cX5_moveIn 182 = .ok (.aload_n 0, 1) := by decide +kernel
theorem dX5_moveIn_183 : decode cX5_moveIn 183 = .ok (.dup, 1) := by decide +kernel
theorem dX5_moveIn_184 : decode cX5_moveIn 184 = .ok (.getfield 50, 3) := by decide +kernel
theorem dX5_moveIn_187 : decode cX5_moveIn 187 = .ok (.iconst 1, 1) := by decide +kernel
theorem dX5_moveIn_188 : decode cX5_moveIn 188 = .ok (.iload_n 2, 1) := by decide +kernel
theorem dX5_moveIn_189 : decode cX5_moveIn 189 = .ok (.ishl, 1) := by decide +kernel
theorem dX5_moveIn_190 : decode cX5_moveIn 190 = .ok (.ior, 1) := by decide +kernel
theorem dX5_moveIn_191 : decode cX5_moveIn 191 = .ok (.putfield 50, 3) := by decide +kernel
theorem dX5_moveIn_194 : decode cX5_moveIn 194 = .ok (.return_, 1) := by decide +kernel
theorem dX5_enter_0 : decode cX5_enter 0 = .ok (.aload_n 0, 1) := by decide +kernel
theorem dX5_enter_1 : decode cX5_enter 1 = .ok (.dup, 1) := by decide +kernel
theorem dX5_enter_2 : decode cX5_enter 2 = .ok (.getfield 44, 3) := by decide +kernel
theorem dX5_enter_5 : decode cX5_enter 5 = .ok (.iconst 1, 1) := by decide +kernel
theorem dX5_enter_6 : decode cX5_enter 6 = .ok (.iadd, 1) := by decide +kernel
theorem dX5_enter_7 : decode cX5_enter 7 = .ok (.putfield 44, 3) := by decide +kernel
theorem dX5_enter_10 : decode cX5_enter 10 = .ok (.aload_n 0, 1) := by decide +kernel
theorem dX5_enter_11 : decode cX5_enter 11 = .ok (.getfield 18, 3) := by decide +kernel
theorem dX5_enter_14 : decode cX5_enter 14 = .ok (.iload_n 1, 1) := by decide +kernel
theorem dX5_enter_15 : decode cX5_enter 15 = .ok (.iload_n 2, 1) := by decide +kernel
theorem dX5_enter_16 : decode cX5_enter 16 = .ok (.invokestatic 67, 3) := by decide +kernel
theorem dX5_enter_19 : decode cX5_enter 19 = .ok (.aload_n 0, 1) := by decide +kernel
theorem dX5_enter_20 : decode cX5_enter 20 = .ok (.getfield 22, 3) := by decide +kernel
theorem dX5_enter_23 : decode cX5_enter 23 = .ok (.iload_n 1, 1) := by decide +kernel
theorem dX5_enter_24 : decode cX5_enter 24 = .ok (.aload_n 0, 1) := by decide +kernel
theorem dX5_enter_25 : decode cX5_enter 25 = .ok (.getfield 22, 3) := by decide +kernel
theorem dX5_enter_28 : decode cX5_enter 28 = .ok (.iload_n 1, 1) := by decide +kernel
theorem dX5_enter_29 : decode cX5_enter 29 = .ok (.invokestatic 116, 3) := by decide +kernel
theorem dX5_enter_32 : decode cX5_enter 32 = .ok (.aload_n 0, 1) := by decide +kernel
theorem dX5_enter_33 : decode cX5_enter 33 = .ok (.getfield 53, 3) := by decide +kernel
theorem dX5_enter_36 : decode cX5_enter 36 = .ok (.iload_n 1, 1) := by decide +kernel
theorem dX5_enter_37 : decode cX5_enter 37 = .ok (.iload_n 2, 1) := by decide +kernel
theorem dX5_enter_38 : decode cX5_enter 38 = .ok (.iload_n 3, 1) := by decide +kernel
theorem dX5_enter_39 : decode cX5_enter 39 = .ok (.invokevirtual 148, 3) := by decide +kernel
theorem dX5_enter_42 : decode cX5_enter 42 = .ok (.iadd, 1) := by decide +kernel
theorem dX5_enter_43 : decode cX5_enter 43 = .ok (.invokestatic 67, 3) := by decide +kernel
theorem dX5_enter_46 : decode cX5_enter 46 = .ok (.aload_n 0, 1) := by decide +kernel
theorem dX5_enter_47 : decode cX5_enter 47 = .ok (.getfield 53, 3) := by decide +kernel
theorem dX5_enter_50 : decode cX5_enter 50 = .ok (.iload_n 1, 1) := by decide +kernel
theorem dX5_enter_51 : decode cX5_enter 51 = .ok (.iconst 0, 1) := by decide +kernel
theorem dX5_enter_52 : decode cX5_enter 52 = .ok (.invokevirtual 61, 3) := by decide +kernel
theorem dX5_enter_55 : decode cX5_enter 55 = .ok (.istore 4, 2) := by decide +kernel
theorem dX5_enter_57 : decode cX5_enter 57 = .ok (.iload 4, 2) := by decide +kernel
theorem dX5_enter_59 : decode cX5_enter 59 = .ok (.iconst 2, 1) := by decide +kernel
theorem dX5_enter_60 : decode cX5_enter 60 = .ok (.if_icmp .ne 4, 3) := by decide +kernel
theorem dX5_enter_63 : decode cX5_enter 63 = .ok (.return_, 1) := by decide +kernel
theorem dX5_enter_64 : decode cX5_enter 64 = .ok (.iload 4, 2) := by decide +kernel
theorem dX5_enter_66 : decode cX5_enter 66 = .ok (.iconst 1, 1) := by decide +kernel
theorem dX5_enter_67 : decode cX5_enter 67 = .ok (.if_icmp .ne 17, 3) := by decide +kernel
theorem dX5_enter_70 : decode cX5_enter 70 = .ok (.iconst 2, 1) := by decide +kernel
theorem dX5_enter_71 : decode cX5_enter 71 = .ok (.aload_n 0, 1) := by decide +kernel
theorem dX5_enter_72 : decode cX5_enter 72 = .ok (.getfield 53, 3) := by decide +kernel
theorem dX5_enter_75 : decode cX5_enter 75 = .ok (.iload_n 1, 1) := by decide +kernel
theorem dX5_enter_76 : decode cX5_enter 76 = .ok (.iconst 2, 1) := by decide +kernel
theorem dX5_enter_77 : decode cX5_enter 77 = .ok (.invokevirtual 61, 3) := by decide +kernel
theorem dX5_enter_80 : decode cX5_enter 80 = .ok (.imul, 1) := by decide +kernel
theorem dX5_enter_81 : decode cX5_enter 81 = .ok (.goto 12, 3) := by decide +kernel
theorem dX5_enter_84 : decode cX5_enter 84 = .ok (.aload_n 0, 1) := by decide +kernel
theorem dX5_enter_85 : decode cX5_enter 85 = .ok (.getfield 53, 3) := by decide +kernel
theorem dX5_enter_88 : decode cX5_enter 88 = .ok (.iload_n 1, 1) := by decide +kernel
theorem dX5_enter_89 : decode cX5_enter 89 = .ok (.iconst 2, 1) := by decide +kernel
theorem dX5_enter_90 : decode cX5_enter 90 = .ok (.invokevirtual 61, 3) := by decide +kernel
theorem dX5_enter_93 : decode cX5_enter 93 = .ok (.istore 5, 2) := by decide +kernel
theorem dX5_enter_95 : decode cX5_enter 95 = .ok (.aload_n 0, 1) := by decide +kernel
theorem dX5_enter_96 : decode cX5_enter 96 = .ok (.iload_n 2, 1) := by decide +kernel
theorem dX5_enter_97 : decode cX5_enter 97 = .ok (.iload_n 3, 1) := by decide +kernel
theorem dX5_enter_98 : decode cX5_enter 98 = .ok (.invokestatic 90, 3) := by decide +kernel
theorem dX5_enter_101 : decode cX5_enter 101 = .ok (.bipush 99, 2) := by decide +kernel
theorem dX5_enter_103 : decode cX5_enter 103 = .ok (.aload_n 0, 1) := by decide +kernel
theorem dX5_enter_104 : decode cX5_enter 104 = .ok (.iload_n 2, 1) := by decide +kernel
theorem dX5_enter_105 : decode cX5_enter 105 = .ok (.iload_n 3, 1) := by decide +kernel
theorem dX5_enter_106 : decode cX5_enter 106 = .ok (.invokestatic 90, 3) := by decide +kernel
theorem dX5_enter_109 : decode cX5_enter 109 = .ok (.invokevirtual 132, 3) := by decide +kernel
theorem dX5_enter_112 : decode cX5_enter 112 = .ok (.iload 5, 2) := by decide +kernel
theorem dX5_enter_114 : decode cX5_enter 114 = .ok (.iadd, 1) := by decide +kernel
theorem dX5_enter_115 : decode cX5_enter 115 = .ok (.invokestatic 152, 3) := by decide +kernel
theorem dX5_enter_118 : decode cX5_enter 118 = .ok (.invokevirtual 93, 3) := by decide +kernel
theorem dX5_enter_121 : decode cX5_enter 121 = .ok (.return_, 1) := by decide +kernel
theorem dX5_isTaken_0 : decode cX5_isTaken 0 = .ok (.iconst 0, 1) := by decide +kernel
theorem dX5_isTaken_1 : decode cX5_isTaken 1 = .ok (.istore 4, 2) := by decide +kernel
theorem dX5_isTaken_3 : decode cX5_isTaken 3 = .ok (.iload 4, 2) := by decide +kernel
theorem dX5_isTaken_5 : decode cX5_isTaken 5 = .ok (.aload_n 0, 1) := by decide +kernel
theorem dX5_isTaken_6 : decode cX5_isTaken 6 = .ok (.getfield 53, 3) := by decide +kernel
theorem dX5_isTaken_9 : decode cX5_isTaken 9 = .ok (.getfield 82, 3) := by decide +kernel
theorem dX5_isTaken_12 : decode cX5_isTaken 12 = .ok (.if_icmp .ge 76, 3) := by decide +kernel
theorem dX5_isTaken_15 : decode cX5_isTaken 15 = .ok (.iload 4, 2) := by decide +kernel
theorem dX5_isTaken_17 : decode cX5_isTaken 17 = .ok (.iload_n 1, 1) := by decide +kernel
theorem dX5_isTaken_18 : decode cX5_isTaken 18 = .ok (.if_icmp .eq 29, 3) := by decide +kernel
theorem dX5_isTaken_21 : decode cX5_isTaken 21 = .ok (.aload_n 0, 1) := by decide +kernel
theorem dX5_isTaken_22 : decode cX5_isTaken 22 = .ok (.iload 4, 2) := by decide +kernel
theorem dX5_isTaken_24 : decode cX5_isTaken 24 = .ok (.invokevirtual 126, 3) := by decide +kernel
theorem dX5_isTaken_27 : decode cX5_isTaken 27 = .ok (.ifCond .ne 20, 3) := by decide +kernel
theorem dX5_isTaken_30 : decode cX5_isTaken 30 = .ok (.aload_n 0, 1) := by decide +kernel
theorem dX5_isTaken_31 : decode cX5_isTaken 31 = .ok (.getfield 18, 3) := by decide +kernel
theorem dX5_isTaken_34 : decode cX5_isTaken 34 = .ok (.iload 4, 2) := by decide +kernel
theorem dX5_isTaken_36 : decode cX5_isTaken 36 = .ok (.invokestatic 116, 3) := by decide +kernel
theorem dX5_isTaken_39 : decode cX5_isTaken 39 = .ok (.iload_n 2, 1) := by decide +kernel
theorem dX5_isTaken_40 : decode cX5_isTaken 40 = .ok (.if_icmp .ne 7, 3) := by decide +kernel
theorem dX5_isTaken_43 : decode cX5_isTaken 43 = .ok (.iconst 1, 1) := by decide +kernel
theorem dX5_isTaken_44 : decode cX5_isTaken 44 = .ok (.goto 4, 3) := by decide +kernel
theorem dX5_isTaken_47 : decode cX5_isTaken 47 = .ok (.iconst 0, 1) := by decide +kernel
theorem dX5_isTaken_48 : decode cX5_isTaken 48 = .ok (.istore 5, 2) := by decide +kernel
theorem dX5_isTaken_50 : decode cX5_isTaken 50 = .ok (.iload 5, 2) := by decide +kernel
theorem dX5_isTaken_52 : decode cX5_isTaken 52 = .ok (.ifCond .eq 30, 3) := by decide +kernel
theorem dX5_isTaken_55 : decode cX5_isTaken 55 = .ok (.aload_n 0, 1) := by decide +kernel
theorem dX5_isTaken_56 : decode cX5_isTaken 56 = .ok (.getfield 53, 3) := by decide +kernel
theorem dX5_isTaken_59 : decode cX5_isTaken 59 = .ok (.iload_n 2, 1) := by decide +kernel
theorem dX5_isTaken_60 : decode cX5_isTaken 60 = .ok (.invokevirtual 155, 3) := by decide +kernel
theorem dX5_isTaken_63 : decode cX5_isTaken 63 = .ok (.ifCond .ne 17, 3) := by decide +kernel
theorem dX5_isTaken_66 : decode cX5_isTaken 66 = .ok (.aload_n 0, 1) := by decide +kernel
theorem dX5_isTaken_67 : decode cX5_isTaken 67 = .ok (.getfield 53, 3) := by decide +kernel
theorem dX5_isTaken_70 : decode cX5_isTaken 70 = .ok (.iload 4, 2) := by decide +kernel
theorem dX5_isTaken_72 : decode cX5_isTaken 72 = .ok (.iconst 1, 1) := by decide +kernel
theorem dX5_isTaken_73 : decode cX5_isTaken 73 = .ok (.invokevirtual 61, 3) := by decide +kernel
theorem dX5_isTaken_76 : decode cX5_isTaken 76 = .ok (.iload_n 3, 1) := by decide +kernel
theorem dX5_isTaken_77 : decode cX5_isTaken 77 = .ok (.if_icmp .ne 5, 3) := by decide +kernel
theorem dX5_isTaken_80 : decode cX5_isTaken 80 = .ok (.iconst 1, 1) := by decide +kernel
theorem dX5_isTaken_81 : decode cX5_isTaken 81 = .ok (.ireturn, 1) := by decide +kernel
theorem dX5_isTaken_82 : decode cX5_isTaken 82 = .ok (.iinc 4 1, 3) := by decide +kernel
theorem dX5_isTaken_85 : decode cX5_isTaken 85 = .ok (.goto (-82), 3) := by decide +kernel
theorem dX5_isTaken_88 : decode cX5_isTaken 88 = .ok (.iconst 0, 1) := by decide +kernel
theorem dX5_isTaken_89 : decode cX5_isTaken 89 = .ok (.ireturn, 1) := by decide +kernel
theorem dX5_isDone_0 : decode cX5_isDone 0 = .ok (.aload_n 0, 1) := by decide +kernel
theorem dX5_isDone_1 : decode cX5_isDone 1 = .ok (.getfield 28, 3) := by decide +kernel
theorem dX5_isDone_4 : decode cX5_isDone 4 = .ok (.iload_n 1, 1) := by decide +kernel
theorem dX5_isDone_5 : decode cX5_isDone 5 = .ok (.invokestatic 116, 3) := by decide +kernel
theorem dX5_isDone_8 : decode cX5_isDone 8 = .ok (.ifCond .le 7, 3) := by decide +kernel
theorem dX5_isDone_11 : decode cX5_isDone 11 = .ok (.iconst 1, 1) := by decide +kernel
theorem dX5_isDone_12 : decode cX5_isDone 12 = .ok (.goto 4, 3) := by decide +kernel
theorem dX5_isDone_15 : decode cX5_isDone 15 = .ok (.iconst 0, 1) := by decide +kernel
theorem dX5_isDone_16 : decode cX5_isDone 16 = .ok (.ireturn, 1) := by decide +kernel
theorem dX5_sumOfDone_0 : decode cX5_sumOfDone 0 = .ok (.iconst 0, 1) := by decide +kernel
theorem dX5_sumOfDone_1 : decode cX5_sumOfDone 1 = .ok (.istore_n 1, 1) := by decide +kernel
theorem dX5_sumOfDone_2 : decode cX5_sumOfDone 2 = .ok (.iconst 0, 1) := by decide +kernel
theorem dX5_sumOfDone_3 : decode cX5_sumOfDone 3 = .ok (.istore_n 2, 1) := by decide +kernel
theorem dX5_sumOfDone_4 : decode cX5_sumOfDone 4 = .ok (.iload_n 2, 1) := by decide +kernel
theorem dX5_sumOfDone_5 : decode cX5_sumOfDone 5 = .ok (.aload_n 0, 1) := by decide +kernel
theorem dX5_sumOfDone_6 : decode cX5_sumOfDone 6 = .ok (.getfield 53, 3) := by decide +kernel
theorem dX5_sumOfDone_9 : decode cX5_sumOfDone 9 = .ok (.getfield 82, 3) := by decide +kernel
theorem dX5_sumOfDone_12 : decode cX5_sumOfDone 12 = .ok (.if_icmp .ge 20, 3) := by decide +kernel
theorem dX5_sumOfDone_15 : decode cX5_sumOfDone 15 = .ok (.iload_n 1, 1) := by decide +kernel
theorem dX5_sumOfDone_16 : decode cX5_sumOfDone 16 = .ok (.aload_n 0, 1) := by decide +kernel
theorem dX5_sumOfDone_17 : decode cX5_sumOfDone 17 = .ok (.getfield 28, 3) := by decide +kernel
theorem dX5_sumOfDone_20 : decode cX5_sumOfDone 20 = .ok (.iload_n 2, 1) := by decide +kernel
theorem dX5_sumOfDone_21 : decode cX5_sumOfDone 21 = .ok (.invokestatic 116, 3) := by decide +kernel
theorem dX5_sumOfDone_24 : decode cX5_sumOfDone 24 = .ok (.iadd, 1) := by decide +kernel
theorem dX5_sumOfDone_25 : decode cX5_sumOfDone 25 = .ok (.istore_n 1, 1) := by decide +kernel
theorem dX5_sumOfDone_26 : decode cX5_sumOfDone 26 = .ok (.iinc 2 1, 3) := by decide +kernel
theorem dX5_sumOfDone_29 : decode cX5_sumOfDone 29 = .ok (.goto (-25), 3) := by decide +kernel
theorem dX5_sumOfDone_32 : decode cX5_sumOfDone 32 = .ok (.iload_n 1, 1) := by decide +kernel
theorem dX5_sumOfDone_33 : decode cX5_sumOfDone 33 = .ok (.ireturn, 1) := by decide +kernel
theorem dX5_depthOf_0 : decode cX5_depthOf 0 = .ok (.iconst 0, 1) := by decide +kernel
theorem dX5_depthOf_1 : decode cX5_depthOf 1 = .ok (.aload_n 0, 1) := by decide +kernel
theorem dX5_depthOf_2 : decode cX5_depthOf 2 = .ok (.getfield 31, 3) := by decide +kernel
theorem dX5_depthOf_5 : decode cX5_depthOf 5 = .ok (.iload_n 1, 1) := by decide +kernel
theorem dX5_depthOf_6 : decode cX5_depthOf 6 = .ok (.invokestatic 116, 3) := by decide +kernel
theorem dX5_depthOf_9 : decode cX5_depthOf 9 = .ok (.aload_n 0, 1) := by decide +kernel
theorem dX5_depthOf_10 : decode cX5_depthOf 10 = .ok (.getfield 37, 3) := by decide +kernel
theorem dX5_depthOf_13 : decode cX5_depthOf 13 = .ok (.aload_n 0, 1) := by decide +kernel
theorem dX5_depthOf_14 : decode cX5_depthOf 14 = .ok (.getfield 34, 3) := by decide +kernel
theorem dX5_depthOf_17 : decode cX5_depthOf 17 = .ok (.iload_n 1, 1) := by decide +kernel
theorem dX5_depthOf_18 : decode cX5_depthOf 18 = .ok (.invokestatic 116, 3) := by decide +kernel
theorem dX5_depthOf_21 : decode cX5_depthOf 21 = .ok (.isub, 1) := by decide +kernel
theorem dX5_depthOf_22 : decode cX5_depthOf 22 = .ok (.isub, 1) := by decide +kernel
theorem dX5_depthOf_23 : decode cX5_depthOf 23 = .ok (.invokestatic 85, 3) := by decide +kernel
theorem dX5_depthOf_26 : decode cX5_depthOf 26 = .ok (.ireturn, 1) := by decide +kernel
theorem dX5_setDepth_0 : decode cX5_setDepth 0 = .ok (.aload_n 0, 1) := by decide +kernel
theorem dX5_setDepth_1 : decode cX5_setDepth 1 = .ok (.getfield 31, 3) := by decide +kernel
theorem dX5_setDepth_4 : decode cX5_setDepth 4 = .ok (.iload_n 1, 1) := by decide +kernel
theorem dX5_setDepth_5 : decode cX5_setDepth 5 = .ok (.iload_n 2, 1) := by decide +kernel
theorem dX5_setDepth_6 : decode cX5_setDepth 6 = .ok (.invokestatic 67, 3) := by decide +kernel
theorem dX5_setDepth_9 : decode cX5_setDepth 9 = .ok (.aload_n 0, 1) := by decide +kernel
theorem dX5_setDepth_10 : decode cX5_setDepth 10 = .ok (.getfield 34, 3) := by decide +kernel
theorem dX5_setDepth_13 : decode cX5_setDepth 13 = .ok (.iload_n 1, 1) := by decide +kernel
theorem dX5_setDepth_14 : decode cX5_setDepth 14 = .ok (.aload_n 0, 1) := by decide +kernel
theorem dX5_setDepth_15 : decode cX5_setDepth 15 = .ok (.getfield 37, 3) := by decide +kernel
theorem dX5_setDepth_18 : decode cX5_setDepth 18 = .ok (.invokestatic 67, 3) := by decide +kernel
theorem dX5_setDepth_21 : decode cX5_setDepth 21 = .ok (.return_, 1) := by decide +kernel
theorem dX6_init_0 : decode cX6_init 0 = .ok (.aload_n 0, 1) := by decide +kernel
theorem dX6_init_1 : decode cX6_init 1 = .ok (.invokespecial 3, 3) := by decide +kernel
theorem dX6_init_4 : decode cX6_init 4 = .ok (.aload_n 0, 1) := by decide +kernel
theorem dX6_init_5 : decode cX6_init 5 = .ok (.sipush 160, 3) := by decide +kernel
theorem dX6_init_8 : decode cX6_init 8 = .ok (.newarray .int, 2) := by decide +kernel
theorem dX6_init_10 : decode cX6_init 10 = .ok (.putfield 11, 3) := by decide +kernel
theorem dX6_init_13 : decode cX6_init 13 = .ok (.aload_n 0, 1) := by decide +kernel
theorem dX6_init_14 : decode cX6_init 14 = .ok (.iconst 4, 1) := by decide +kernel
theorem dX6_init_15 : decode cX6_init 15 = .ok (.newarray .int, 2) := by decide +kernel
theorem dX6_init_17 : decode cX6_init 17 = .ok (.putfield 15, 3) := by decide +kernel
theorem dX6_init_20 : decode cX6_init 20 = .ok (.aload_n 0, 1) := by decide +kernel
theorem dX6_init_21 : decode cX6_init 21 = .ok (.iconst 4, 1) := by decide +kernel
theorem dX6_init_22 : decode cX6_init 22 = .ok (.newarray .int, 2) := by decide +kernel
theorem dX6_init_24 : decode cX6_init 24 = .ok (.dup, 1) := by decide +kernel
theorem dX6_init_25 : decode cX6_init 25 = .ok (.iconst 0, 1) := by decide +kernel
theorem dX6_init_26 : decode cX6_init 26 = .ok (.bipush (-4), 2) := by decide +kernel
theorem dX6_init_28 : decode cX6_init 28 = .ok (.iastore, 1) := by decide +kernel
theorem dX6_init_29 : decode cX6_init 29 = .ok (.dup, 1) := by decide +kernel
theorem dX6_init_30 : decode cX6_init 30 = .ok (.iconst 1, 1) := by decide +kernel
theorem dX6_init_31 : decode cX6_init 31 = .ok (.bipush (-4), 2) := by decide +kernel
theorem dX6_init_33 : decode cX6_init 33 = .ok (.iastore, 1) := by decide +kernel
theorem dX6_init_34 : decode cX6_init 34 = .ok (.dup, 1) := by decide +kernel
theorem dX6_init_35 : decode cX6_init 35 = .ok (.iconst 2, 1) := by decide +kernel
theorem dX6_init_36 : decode cX6_init 36 = .ok (.bipush (-4), 2) := by decide +kernel
theorem dX6_init_38 : decode cX6_init 38 = .ok (.iastore, 1) := by decide +kernel
theorem dX6_init_39 : decode cX6_init 39 = .ok (.dup, 1) := by decide +kernel
theorem dX6_init_40 : decode cX6_init 40 = .ok (.iconst 3, 1) := by decide +kernel
theorem dX6_init_41 : decode cX6_init 41 = .ok (.bipush (-4), 2) := by decide +kernel
theorem dX6_init_43 : decode cX6_init 43 = .ok (.iastore, 1) := by decide +kernel
theorem dX6_init_44 : decode cX6_init 44 = .ok (.putfield 18, 3) := by decide +kernel
theorem dX6_init_47 : decode cX6_init 47 = .ok (.aload_n 0, 1) := by decide +kernel
theorem dX6_init_48 : decode cX6_init 48 = .ok (.iconst 0, 1) := by decide +kernel
theorem dX6_init_49 : decode cX6_init 49 = .ok (.putfield 21, 3) := by decide +kernel
theorem dX6_init_52 : decode cX6_init 52 = .ok (.return_, 1) := by decide +kernel
theorem dX6_isSheet_0 : decode cX6_isSheet 0 = .ok (.iload_n 0, 1) := by decide +kernel
theorem dX6_isSheet_1 : decode cX6_isSheet 1 = .ok (.ifCond .lt 12, 3) := by decide +kernel
theorem dX6_isSheet_4 : decode cX6_isSheet 4 = .ok (.iload_n 0, 1) := by decide +kernel
theorem dX6_isSheet_5 : decode cX6_isSheet 5 = .ok (.iconst 4, 1) := by decide +kernel
theorem dX6_isSheet_6 : decode cX6_isSheet 6 = .ok (.if_icmp .ge 7, 3) := by decide +kernel
theorem dX6_isSheet_9 : decode cX6_isSheet 9 = .ok (.iconst 1, 1) := by decide +kernel
theorem dX6_isSheet_10 : decode cX6_isSheet 10 = .ok (.goto 4, 3) := by decide +kernel
theorem dX6_isSheet_13 : decode cX6_isSheet 13 = .ok (.iconst 0, 1) := by decide +kernel
theorem dX6_isSheet_14 : decode cX6_isSheet 14 = .ok (.ireturn, 1) := by decide +kernel
theorem dX6_isLane_0 : decode cX6_isLane 0 = .ok (.iload_n 0, 1) := by decide +kernel
theorem dX6_isLane_1 : decode cX6_isLane 1 = .ok (.ifCond .lt 12, 3) := by decide +kernel
theorem dX6_isLane_4 : decode cX6_isLane 4 = .ok (.iload_n 0, 1) := by decide +kernel
theorem dX6_isLane_5 : decode cX6_isLane 5 = .ok (.iconst 2, 1) := by decide +kernel
theorem dX6_isLane_6 : decode cX6_isLane 6 = .ok (.if_icmp .gt 7, 3) := by decide +kernel
theorem dX6_isLane_9 : decode cX6_isLane 9 = .ok (.iconst 1, 1) := by decide +kernel
theorem dX6_isLane_10 : decode cX6_isLane 10 = .ok (.goto 4, 3) := by decide +kernel
theorem dX6_isLane_13 : decode cX6_isLane 13 = .ok (.iconst 0, 1) := by decide +kernel
theorem dX6_isLane_14 : decode cX6_isLane 14 = .ok (.ireturn, 1) := by decide +kernel
theorem dX6_cellsOf_0 : decode cX6_cellsOf 0 = .ok (.iload_n 1, 1) := by decide +kernel
theorem dX6_cellsOf_1 : decode cX6_cellsOf 1 = .ok (.ifCond .lt 21, 3) := by decide +kernel
theorem dX6_cellsOf_4 : decode cX6_cellsOf 4 = .ok (.iload_n 1, 1) := by decide +kernel
theorem dX6_cellsOf_5 : decode cX6_cellsOf 5 = .ok (.aload_n 0, 1) := by decide +kernel
theorem dX6_cellsOf_6 : decode cX6_cellsOf 6 = .ok (.getfield 18, 3) := by decide +kernel
theorem dX6_cellsOf_9 : decode cX6_cellsOf 9 = .ok (.arraylength, 1) := by decide +kernel
theorem dX6_cellsOf_10 : decode cX6_cellsOf 10 = .ok (.if_icmp .ge 12, 3) := by decide +kernel
theorem dX6_cellsOf_13 : decode cX6_cellsOf 13 = .ok (.aload_n 0, 1) := by decide +kernel
theorem dX6_cellsOf_14 : decode cX6_cellsOf 14 = .ok (.getfield 18, 3) := by decide +kernel
theorem dX6_cellsOf_17 : decode cX6_cellsOf 17 = .ok (.iload_n 1, 1) := by decide +kernel
theorem dX6_cellsOf_18 : decode cX6_cellsOf 18 = .ok (.iaload, 1) := by decide +kernel
theorem dX6_cellsOf_19 : decode cX6_cellsOf 19 = .ok (.goto 5, 3) := by decide +kernel
theorem dX6_cellsOf_22 : decode cX6_cellsOf 22 = .ok (.bipush (-4), 2) := by decide +kernel
theorem dX6_cellsOf_24 : decode cX6_cellsOf 24 = .ok (.ireturn, 1) := by decide +kernel
theorem dX6_make_0 : decode cX6_make 0 = .ok (.aload_n 0, 1) := by decide +kernel
theorem dX6_make_1 : decode cX6_make 1 = .ok (.getfield 15, 3) := by decide +kernel
theorem dX6_make_4 : decode cX6_make 4 = .ok (.iload_n 1, 1) := by decide +kernel
theorem dX6_make_5 : decode cX6_make 5 = .ok (.iload_n 2, 1) := by decide +kernel
theorem dX6_make_6 : decode cX6_make 6 = .ok (.invokestatic 25, 3) := by decide +kernel
theorem dX6_make_9 : decode cX6_make 9 = .ok (.aload_n 0, 1) := by decide +kernel
theorem dX6_make_10 : decode cX6_make 10 = .ok (.getfield 18, 3) := by decide +kernel
theorem dX6_make_13 : decode cX6_make 13 = .ok (.iload_n 1, 1) := by decide +kernel
theorem dX6_make_14 : decode cX6_make 14 = .ok (.iload_n 3, 1) := by decide +kernel
theorem dX6_make_15 : decode cX6_make 15 = .ok (.invokestatic 25, 3) := by decide +kernel
theorem dX6_make_18 : decode cX6_make 18 = .ok (.iconst 0, 1) := by decide +kernel
theorem dX6_make_19 : decode cX6_make 19 = .ok (.istore 4, 2) := by decide +kernel
theorem dX6_make_21 : decode cX6_make 21 = .ok (.iload 4, 2) := by decide +kernel
theorem dX6_make_23 : decode cX6_make 23 = .ok (.iload_n 3, 1) := by decide +kernel
theorem dX6_make_24 : decode cX6_make 24 = .ok (.if_icmp .ge 24, 3) := by decide +kernel
theorem dX6_make_27 : decode cX6_make 27 = .ok (.aload_n 0, 1) := by decide +kernel
theorem dX6_make_28 : decode cX6_make 28 = .ok (.getfield 11, 3) := by decide +kernel
theorem dX6_make_31 : decode cX6_make 31 = .ok (.iload_n 1, 1) := by decide +kernel
theorem dX6_make_32 : decode cX6_make 32 = .ok (.bipush 40, 2) := by decide +kernel
theorem dX6_make_34 : decode cX6_make 34 = .ok (.imul, 1) := by decide +kernel
theorem dX6_make_35 : decode cX6_make 35 = .ok (.iload 4, 2) := by decide +kernel
theorem dX6_make_37 : decode cX6_make 37 = .ok (.iadd, 1) := by decide +kernel
theorem dX6_make_38 : decode cX6_make 38 = .ok (.iconst 0, 1) := by decide +kernel
theorem dX6_make_39 : decode cX6_make 39 = .ok (.invokestatic 25, 3) := by decide +kernel
theorem dX6_make_42 : decode cX6_make 42 = .ok (.iinc 4 1, 3) := by decide +kernel
theorem dX6_make_45 : decode cX6_make 45 = .ok (.goto (-24), 3) := by decide +kernel
theorem dX6_make_48 : decode cX6_make 48 = .ok (.return_, 1) := by decide +kernel
theorem dX6_faultOf_0 : decode cX6_faultOf 0 = .ok (.aload_n 0, 1) := by decide +kernel
theorem dX6_faultOf_1 : decode cX6_faultOf 1 = .ok (.iload_n 1, 1) := by decide +kernel
theorem dX6_faultOf_2 : decode cX6_faultOf 2 = .ok (.invokevirtual 29, 3) := by decide +kernel
theorem dX6_faultOf_5 : decode cX6_faultOf 5 = .ok (.ifCond .ge 5, 3) := by decide +kernel
theorem dX6_faultOf_8 : decode cX6_faultOf 8 = .ok (.iconst 1, 1) := by decide +kernel
theorem dX6_faultOf_9 : decode cX6_faultOf 9 = .ok (.ireturn, 1) := by decide +kernel
theorem dX6_faultOf_10 : decode cX6_faultOf 10 = .ok (.iload_n 2, 1) := by decide +kernel
theorem dX6_faultOf_11 : decode cX6_faultOf 11 = .ok (.ifCond .lt 12, 3) := by decide +kernel
theorem dX6_faultOf_14 : decode cX6_faultOf 14 = .ok (.iload_n 2, 1) := by decide +kernel
theorem dX6_faultOf_15 : decode cX6_faultOf 15 = .ok (.aload_n 0, 1) := by decide +kernel
theorem dX6_faultOf_16 : decode cX6_faultOf 16 = .ok (.iload_n 1, 1) := by decide +kernel
theorem dX6_faultOf_17 : decode cX6_faultOf 17 = .ok (.invokevirtual 29, 3) := by decide +kernel
theorem dX6_faultOf_20 : decode cX6_faultOf 20 = .ok (.if_icmp .lt 7, 3) := by decide +kernel
theorem dX6_faultOf_23 : decode cX6_faultOf 23 = .ok (.iconst 2, 1) := by decide +kernel
theorem dX6_faultOf_24 : decode cX6_faultOf 24 = .ok (.goto 4, 3) := by decide +kernel
theorem dX6_faultOf_27 : decode cX6_faultOf 27 = .ok (.iconst 0, 1) := by decide +kernel
theorem dX6_faultOf_28 : decode cX6_faultOf 28 = .ok (.ireturn, 1) := by decide +kernel
theorem dX6_cell_0 : decode cX6_cell 0 = .ok (.aload_n 0, 1) := by decide +kernel
theorem dX6_cell_1 : decode cX6_cell 1 = .ok (.getfield 11, 3) := by decide +kernel
theorem dX6_cell_4 : decode cX6_cell 4 = .ok (.iload_n 1, 1) := by decide +kernel
theorem dX6_cell_5 : decode cX6_cell 5 = .ok (.bipush 40, 2) := by decide +kernel
theorem dX6_cell_7 : decode cX6_cell 7 = .ok (.imul, 1) := by decide +kernel
theorem dX6_cell_8 : decode cX6_cell 8 = .ok (.iload_n 2, 1) := by decide +kernel
theorem dX6_cell_9 : decode cX6_cell 9 = .ok (.iadd, 1) := by decide +kernel
theorem dX6_cell_10 : decode cX6_cell 10 = .ok (.invokestatic 33, 3) := by decide +kernel
theorem dX6_cell_13 : decode cX6_cell 13 = .ok (.ireturn, 1) := by decide +kernel
theorem dX6_set_0 : decode cX6_set 0 = .ok (.aload_n 0, 1) := by decide +kernel
theorem dX6_set_1 : decode cX6_set 1 = .ok (.getfield 15, 3) := by decide +kernel
theorem dX6_set_4 : decode cX6_set 4 = .ok (.iload_n 1, 1) := by decide +kernel
theorem dX6_set_5 : decode cX6_set 5 = .ok (.invokestatic 33, 3) := by decide +kernel
theorem dX6_set_8 : decode cX6_set 8 = .ok (.istore 4, 2) := by decide +kernel
theorem dX6_set_10 : decode cX6_set 10 = .ok (.iload 4, 2) := by decide +kernel
theorem dX6_set_12 : decode cX6_set 12 = .ok (.ifCond .ne 8, 3) := by decide +kernel
theorem dX6_set_15 : decode cX6_set 15 = .ok (.iload_n 3, 1) := by decide +kernel
theorem dX6_set_16 : decode cX6_set 16 = .ok (.i2b, 1) := by decide +kernel
theorem dX6_set_17 : decode cX6_set 17 = .ok (.goto 15, 3) := by decide +kernel
theorem dX6_set_20 : decode cX6_set 20 = .ok (.iload 4, 2) := by decide +kernel
theorem dX6_set_22 : decode cX6_set 22 = .ok (.iconst 1, 1) := by decide +kernel
theorem dX6_set_23 : decode cX6_set 23 = .ok (.if_icmp .ne 8, 3) := by decide +kernel
theorem dX6_set_26 : decode cX6_set 26 = .ok (.iload_n 3, 1) := by decide +kernel
theorem dX6_set_27 : decode cX6_set 27 = .ok (.i2s, 1) := by decide +kernel
theorem dX6_set_28 : decode cX6_set 28 = .ok (.goto 4, 3) := by decide +kernel
theorem dX6_set_31 : decode cX6_set 31 = .ok (.iload_n 3, 1) := by decide +kernel
theorem dX6_set_32 : decode cX6_set 32 = .ok (.istore 5, 2) := by decide +kernel
theorem dX6_set_34 : decode cX6_set 34 = .ok (.aload_n 0, 1) := by decide +kernel
theorem dX6_set_35 : decode cX6_set 35 = .ok (.getfield 11, 3) := by decide +kernel
theorem dX6_set_38 : decode cX6_set 38 = .ok (.iload_n 1, 1) := by decide +kernel
theorem dX6_set_39 : decode cX6_set 39 = .ok (.bipush 40, 2) := by decide +kernel
theorem dX6_set_41 : decode cX6_set 41 = .ok (.imul, 1) := by decide +kernel
theorem dX6_set_42 : decode cX6_set 42 = .ok (.iload_n 2, 1) := by decide +kernel
theorem dX6_set_43 : decode cX6_set 43 = .ok (.iadd, 1) := by decide +kernel
theorem dX6_set_44 : decode cX6_set 44 = .ok (.iload 5, 2) := by decide +kernel
theorem dX6_set_46 : decode cX6_set 46 = .ok (.invokestatic 25, 3) := by decide +kernel
theorem dX6_set_49 : decode cX6_set 49 = .ok (.return_, 1) := by decide +kernel
theorem dX6_wholePairs_0 : decode cX6_wholePairs 0 = .ok (.aload_n 0, 1) := by decide +kernel
theorem dX6_wholePairs_1 : decode cX6_wholePairs 1 = .ok (.iload_n 1, 1) := by decide +kernel
theorem dX6_wholePairs_2 : decode cX6_wholePairs 2 = .ok (.invokevirtual 29, 3) := by decide +kernel
theorem dX6_wholePairs_5 : decode cX6_wholePairs 5 = .ok (.ifCond .lt 28, 3) := by decide +kernel
theorem dX6_wholePairs_8 : decode cX6_wholePairs 8 = .ok (.aload_n 0, 1) := by decide +kernel
theorem dX6_wholePairs_9 : decode cX6_wholePairs 9 = .ok (.getfield 15, 3) := by decide +kernel
theorem dX6_wholePairs_12 : decode cX6_wholePairs 12 = .ok (.iload_n 1, 1) := by decide +kernel
theorem dX6_wholePairs_13 : decode cX6_wholePairs 13 = .ok (.invokestatic 33, 3) := by decide +kernel
theorem dX6_wholePairs_16 : decode cX6_wholePairs 16 = .ok (.iload_n 2, 1) := by decide +kernel
theorem dX6_wholePairs_17 : decode cX6_wholePairs 17 = .ok (.if_icmp .ne 16, 3) := by decide +kernel
theorem dX6_wholePairs_20 : decode cX6_wholePairs 20 = .ok (.iload_n 3, 1) := by decide +kernel
theorem dX6_wholePairs_21 : decode cX6_wholePairs 21 = .ok (.ifCond .lt 12, 3) := by decide +kernel
theorem dX6_wholePairs_24 : decode cX6_wholePairs 24 = .ok (.iload_n 3, 1) := by decide +kernel
theorem dX6_wholePairs_25 : decode cX6_wholePairs 25 = .ok (.aload_n 0, 1) := by decide +kernel
theorem dX6_wholePairs_26 : decode cX6_wholePairs 26 = .ok (.iload_n 1, 1) := by decide +kernel
theorem dX6_wholePairs_27 : decode cX6_wholePairs 27 = .ok (.invokevirtual 29, 3) := by decide +kernel
theorem dX6_wholePairs_30 : decode cX6_wholePairs 30 = .ok (.if_icmp .lt 5, 3) := by decide +kernel
theorem dX6_wholePairs_33 : decode cX6_wholePairs 33 = .ok (.iconst 0, 1) := by decide +kernel
theorem dX6_wholePairs_34 : decode cX6_wholePairs 34 = .ok (.ireturn, 1) := by decide +kernel
theorem dX6_wholePairs_35 : decode cX6_wholePairs 35 = .ok (.iload 4, 2) := by decide +kernel
theorem dX6_wholePairs_37 : decode cX6_wholePairs 37 = .ok (.aload_n 0, 1) := by decide +kernel
theorem dX6_wholePairs_38 : decode cX6_wholePairs 38 = .ok (.iload_n 1, 1) := by decide +kernel
theorem dX6_wholePairs_39 : decode cX6_wholePairs 39 = .ok (.invokevirtual 29, 3) := by decide +kernel
theorem dX6_wholePairs_42 : decode cX6_wholePairs 42 = .ok (.iload_n 3, 1) := by decide +kernel
theorem dX6_wholePairs_43 : decode cX6_wholePairs 43 = .ok (.isub, 1) := by decide +kernel
theorem dX6_wholePairs_44 : decode cX6_wholePairs 44 = .ok (.iconst 2, 1) := by decide +kernel
theorem dX6_wholePairs_45 : decode cX6_wholePairs 45 = .ok (.idiv, 1) := by decide +kernel
theorem dX6_wholePairs_46 : decode cX6_wholePairs 46 = .ok (.invokestatic 37, 3) := by decide +kernel
theorem dX6_wholePairs_49 : decode cX6_wholePairs 49 = .ok (.ireturn, 1) := by decide +kernel
theorem dX6_faultOfPairs_0 : decode cX6_faultOfPairs 0 = .ok (.aload_n 0, 1) := by decide +kernel
theorem dX6_faultOfPairs_1 : decode cX6_faultOfPairs 1 = .ok (.iload_n 1, 1) := by decide +kernel
theorem dX6_faultOfPairs_2 : decode cX6_faultOfPairs 2 = .ok (.invokevirtual 29, 3) := by decide +kernel
theorem dX6_faultOfPairs_5 : decode cX6_faultOfPairs 5 = .ok (.ifCond .ge 5, 3) := by decide +kernel
theorem dX6_faultOfPairs_8 : decode cX6_faultOfPairs 8 = .ok (.iconst 1, 1) := by decide +kernel
theorem dX6_faultOfPairs_9 : decode cX6_faultOfPairs 9 = .ok (.ireturn, 1) := by decide +kernel
theorem dX6_faultOfPairs_10 : decode cX6_faultOfPairs 10 = .ok (.aload_n 0, 1) := by decide +kernel
theorem dX6_faultOfPairs_11 : decode cX6_faultOfPairs 11 = .ok (.getfield 15, 3) := by decide +kernel
theorem dX6_faultOfPairs_14 : decode cX6_faultOfPairs 14 = .ok (.iload_n 1, 1) := by decide +kernel
theorem dX6_faultOfPairs_15 : decode cX6_faultOfPairs 15 = .ok (.invokestatic 33, 3) := by decide +kernel
theorem dX6_faultOfPairs_18 : decode cX6_faultOfPairs 18 = .ok (.iload_n 2, 1) := by decide +kernel
theorem dX6_faultOfPairs_19 : decode cX6_faultOfPairs 19 = .ok (.if_icmp .eq 5, 3) := by decide +kernel
theorem dX6_faultOfPairs_22 : decode cX6_faultOfPairs 22 = .ok (.iconst 3, 1) := by decide +kernel
theorem dX6_faultOfPairs_23 : decode cX6_faultOfPairs 23 = .ok (.ireturn, 1) := by decide +kernel
theorem dX6_faultOfPairs_24 : decode cX6_faultOfPairs 24 = .ok (.iload_n 3, 1) := by decide +kernel
theorem dX6_faultOfPairs_25 : decode cX6_faultOfPairs 25 = .ok (.iload 4, 2) := by decide +kernel
theorem dX6_faultOfPairs_27 : decode cX6_faultOfPairs 27 = .ok (.if_icmp .ge 7, 3) := by decide +kernel
theorem dX6_faultOfPairs_30 : decode cX6_faultOfPairs 30 = .ok (.iconst 2, 1) := by decide +kernel
theorem dX6_faultOfPairs_31 : decode cX6_faultOfPairs 31 = .ok (.goto 4, 3) := by decide +kernel
theorem dX6_faultOfPairs_34 : decode cX6_faultOfPairs 34 = .ok (.iconst 0, 1) := by decide +kernel
theorem dX6_faultOfPairs_35 : decode cX6_faultOfPairs 35 = .ok (.ireturn, 1) := by decide +kernel
theorem dX7_init_0 : decode cX7_init 0 = .ok (.aload_n 0, 1) := by decide +kernel
theorem dX7_init_1 : decode cX7_init 1 = .ok (.invokespecial 3, 3) := by decide +kernel
theorem dX7_init_4 : decode cX7_init 4 = .ok (.aload_n 0, 1) := by decide +kernel
theorem dX7_init_5 : decode cX7_init 5 = .ok (.bipush 63, 2) := by decide +kernel
theorem dX7_init_7 : decode cX7_init 7 = .ok (.newarray .int, 2) := by decide +kernel
theorem dX7_init_9 : decode cX7_init 9 = .ok (.putfield 9, 3) := by decide +kernel
theorem dX7_init_12 : decode cX7_init 12 = .ok (.aload_n 0, 1) := by decide +kernel
theorem dX7_init_13 : decode cX7_init 13 = .ok (.iconst 0, 1) := by decide +kernel
theorem dX7_init_14 : decode cX7_init 14 = .ok (.putfield 15, 3) := by decide +kernel
theorem dX7_init_17 : decode cX7_init 17 = .ok (.aload_n 0, 1) := by decide +kernel
theorem dX7_init_18 : decode cX7_init 18 = .ok (.iconst 1, 1) := by decide +kernel
theorem dX7_init_19 : decode cX7_init 19 = .ok (.putfield 19, 3) := by decide +kernel
theorem dX7_init_22 : decode cX7_init 22 = .ok (.aload_n 0, 1) := by decide +kernel
theorem dX7_init_23 : decode cX7_init 23 = .ok (.aload_n 1, 1) := by decide +kernel
theorem dX7_init_24 : decode cX7_init 24 = .ok (.putfield 23, 3) := by decide +kernel
theorem dX7_init_27 : decode cX7_init 27 = .ok (.return_, 1) := by decide +kernel
theorem dX7_find_0 : decode cX7_find 0 = .ok (.aload_n 0, 1) := by decide +kernel
theorem dX7_find_1 : decode cX7_find 1 = .ok (.iload_n 1, 1) := by decide +kernel
theorem dX7_find_2 : decode cX7_find 2 = .ok (.putfield 15, 3) := by decide +kernel
theorem dX7_find_5 : decode cX7_find 5 = .ok (.aload_n 0, 1) := by decide +kernel
theorem dX7_find_6 : decode cX7_find 6 = .ok (.iload_n 2, 1) := by decide +kernel
theorem dX7_find_7 : decode cX7_find 7 = .ok (.ifCond .ne 7, 3) := by decide +kernel
theorem dX7_find_10 : decode cX7_find 10 = .ok (.iconst 1, 1) := by decide +kernel
theorem dX7_find_11 : decode cX7_find 11 = .ok (.goto 4, 3) := by decide +kernel
theorem dX7_find_14 : decode cX7_find 14 = .ok (.iconst 0, 1) := by decide +kernel
theorem dX7_find_15 : decode cX7_find 15 = .ok (.putfield 19, 3) := by decide +kernel
theorem dX7_find_18 : decode cX7_find 18 = .ok (.aload_n 0, 1) := by decide +kernel
theorem dX7_find_19 : decode cX7_find 19 = .ok (.getfield 9, 3) := by decide +kernel
theorem dX7_find_22 : decode cX7_find 22 = .ok (.ldc 27, 2) := by decide +kernel
theorem dX7_find_24 : decode cX7_find 24 = .ok (.invokestatic 28, 3) := by decide +kernel
theorem dX7_find_27 : decode cX7_find 27 = .ok (.iconst 0, 1) := by decide +kernel
theorem dX7_find_28 : decode cX7_find 28 = .ok (.istore_n 3, 1) := by decide +kernel
theorem dX7_find_29 : decode cX7_find 29 = .ok (.iload_n 3, 1) := by decide +kernel
theorem dX7_find_30 : decode cX7_find 30 = .ok (.iconst 3, 1) := by decide +kernel
theorem dX7_find_31 : decode cX7_find 31 = .ok (.if_icmp .ge 33, 3) := by decide +kernel
theorem dX7_find_34 : decode cX7_find 34 = .ok (.aload_n 0, 1) := by decide +kernel
theorem dX7_find_35 : decode cX7_find 35 = .ok (.getfield 9, 3) := by decide +kernel
theorem dX7_find_38 : decode cX7_find 38 = .ok (.aload_n 0, 1) := by decide +kernel
theorem dX7_find_39 : decode cX7_find 39 = .ok (.getfield 23, 3) := by decide +kernel
theorem dX7_find_42 : decode cX7_find 42 = .ok (.aload_n 0, 1) := by decide +kernel
theorem dX7_find_43 : decode cX7_find 43 = .ok (.getfield 15, 3) := by decide +kernel
theorem dX7_find_46 : decode cX7_find 46 = .ok (.iconst 5, 1) := by decide +kernel
theorem dX7_find_47 : decode cX7_find 47 = .ok (.invokevirtual 32, 3) := by decide +kernel
theorem dX7_find_50 : decode cX7_find 50 = .ok (.iload_n 3, 1) := by decide +kernel
theorem dX7_find_51 : decode cX7_find 51 = .ok (.invokestatic 38, 3) := by decide +kernel
theorem dX7_find_54 : decode cX7_find 54 = .ok (.iconst 0, 1) := by decide +kernel
theorem dX7_find_55 : decode cX7_find 55 = .ok (.invokestatic 41, 3) := by decide +kernel
theorem dX7_find_58 : decode cX7_find 58 = .ok (.iinc 3 1, 3) := by decide +kernel
theorem dX7_find_61 : decode cX7_find 61 = .ok (.goto (-32), 3) := by decide +kernel
theorem dX7_find_64 : decode cX7_find 64 = .ok (.iconst 1, 1) := by decide +kernel
theorem dX7_find_65 : decode cX7_find 65 = .ok (.istore_n 3, 1) := by decide +kernel
theorem dX7_find_66 : decode cX7_find 66 = .ok (.iconst 0, 1) := by decide +kernel
theorem dX7_find_67 : decode cX7_find 67 = .ok (.istore 4, 2) := by decide +kernel
theorem dX7_find_69 : decode cX7_find 69 = .ok (.iload_n 3, 1) := by decide +kernel
theorem dX7_find_70 : decode cX7_find 70 = .ok (.ifCond .eq 117, 3) := by decide +kernel
theorem dX7_find_73 : decode cX7_find 73 = .ok (.iload 4, 2) := by decide +kernel
theorem dX7_find_75 : decode cX7_find 75 = .ok (.bipush 63, 2) := by decide +kernel
theorem dX7_find_77 : decode cX7_find 77 = .ok (.if_icmp .gt 110, 3) := by decide +kernel
theorem dX7_find_80 : decode cX7_find 80 = .ok (.iconst 0, 1) := by decide +kernel
theorem dX7_find_81 : decode cX7_find 81 = .ok (.istore_n 3, 1) := by decide +kernel
theorem dX7_find_82 : decode cX7_find 82 = .ok (.iconst 0, 1) := by decide +kernel
theorem dX7_find_83 : decode cX7_find 83 = .ok (.istore 5, 2) := by decide +kernel
theorem dX7_find_85 : decode cX7_find 85 = .ok (.iload 5, 2) := by decide +kernel
theorem dX7_find_87 : decode cX7_find 87 = .ok (.sipush 315, 3) := by decide +kernel
theorem dX7_find_90 : decode cX7_find 90 = .ok (.if_icmp .ge 91, 3) := by decide +kernel
theorem dX7_find_93 : decode cX7_find 93 = .ok (.iload 4, 2) := by decide +kernel
theorem dX7_find_95 : decode cX7_find 95 = .ok (.iconst 2, 1) := by decide +kernel
theorem dX7_find_96 : decode cX7_find 96 = .ok (.irem, 1) := by decide +kernel
theorem dX7_find_97 : decode cX7_find 97 = .ok (.ifCond .ne 10, 3) := by decide +kernel
theorem dX7_find_100 : decode cX7_find 100 = .ok (.iload 5, 2) := by decide +kernel
theorem dX7_find_102 : decode cX7_find 102 = .ok (.iconst 5, 1) := by decide +kernel
theorem dX7_find_103 : decode cX7_find 103 = .ok (.idiv, 1) := by decide +kernel
theorem dX7_find_104 : decode cX7_find 104 = .ok (.goto 10, 3) := by decide +kernel
theorem dX7_find_107 : decode cX7_find 107 = .ok (.bipush 62, 2) := by decide +kernel
theorem dX7_find_109 : decode cX7_find 109 = .ok (.iload 5, 2) := by decide +kernel
theorem dX7_find_111 : decode cX7_find 111 = .ok (.iconst 5, 1) := by decide +kernel
theorem dX7_find_112 : decode cX7_find 112 = .ok (.idiv, 1) := by decide +kernel
theorem dX7_find_113 : decode cX7_find 113 = .ok (.isub, 1) := by decide +kernel
theorem dX7_find_114 : decode cX7_find 114 = .ok (.istore 6, 2) := by decide +kernel
theorem dX7_find_116 : decode cX7_find 116 = .ok (.aload_n 0, 1) := by decide +kernel
theorem dX7_find_117 : decode cX7_find 117 = .ok (.iload 6, 2) := by decide +kernel
theorem dX7_find_119 : decode cX7_find 119 = .ok (.iload 5, 2) := by decide +kernel
theorem dX7_find_121 : decode cX7_find 121 = .ok (.iconst 5, 1) := by decide +kernel
theorem dX7_find_122 : decode cX7_find 122 = .ok (.irem, 1) := by decide +kernel
theorem dX7_find_123 : decode cX7_find 123 = .ok (.invokevirtual 45, 3) := by decide +kernel
theorem dX7_find_126 : decode cX7_find 126 = .ok (.istore 7, 2) := by decide +kernel
theorem dX7_find_128 : decode cX7_find 128 = .ok (.iload_n 3, 1) := by decide +kernel
theorem dX7_find_129 : decode cX7_find 129 = .ok (.ifCond .ne 17, 3) := by decide +kernel
theorem dX7_find_132 : decode cX7_find 132 = .ok (.iload 7, 2) := by decide +kernel
theorem dX7_find_134 : decode cX7_find 134 = .ok (.aload_n 0, 1) := by decide +kernel
theorem dX7_find_135 : decode cX7_find 135 = .ok (.getfield 9, 3) := by decide +kernel
theorem dX7_find_138 : decode cX7_find 138 = .ok (.iload 6, 2) := by decide +kernel
theorem dX7_find_140 : decode cX7_find 140 = .ok (.invokestatic 48, 3) := by decide +kernel
theorem dX7_find_143 : decode cX7_find 143 = .ok (.if_icmp .ge 7, 3) := by decide +kernel
theorem dX7_find_146 : decode cX7_find 146 = .ok (.iconst 1, 1) := by decide +kernel
theorem dX7_find_147 : decode cX7_find 147 = .ok (.goto 4, 3) := by decide +kernel
theorem dX7_find_150 : decode cX7_find 150 = .ok (.iconst 0, 1) := by decide +kernel
theorem dX7_find_151 : decode cX7_find 151 = .ok (.istore_n 3, 1) := by decide +kernel
theorem dX7_find_152 : decode cX7_find 152 = .ok (.aload_n 0, 1) := by decide +kernel
theorem dX7_find_153 : decode cX7_find 153 = .ok (.getfield 9, 3) := by decide +kernel
theorem dX7_find_156 : decode cX7_find 156 = .ok (.iload 6, 2) := by decide +kernel
theorem dX7_find_158 : decode cX7_find 158 = .ok (.iload 7, 2) := by decide +kernel
theorem dX7_find_160 : decode cX7_find 160 = .ok (.aload_n 0, 1) := by decide +kernel
theorem dX7_find_161 : decode cX7_find 161 = .ok (.getfield 9, 3) := by decide +kernel
theorem dX7_find_164 : decode cX7_find 164 = .ok (.iload 6, 2) := by decide +kernel
theorem dX7_find_166 : decode cX7_find 166 = .ok (.invokestatic 48, 3) := by decide +kernel
theorem dX7_find_169 : decode cX7_find 169 = .ok (.invokestatic 52, 3) := by decide +kernel
theorem dX7_find_172 : decode cX7_find 172 = .ok (.invokestatic 41, 3) := by decide +kernel
theorem dX7_find_175 : decode cX7_find 175 = .ok (.iinc 5 1, 3) := by decide +kernel
theorem dX7_find_178 : decode cX7_find 178 = .ok (.goto (-93), 3) := by decide +kernel
theorem dX7_find_181 : decode cX7_find 181 = .ok (.iinc 4 1, 3) := by decide +kernel
theorem dX7_find_184 : decode cX7_find 184 = .ok (.goto (-115), 3) := by decide +kernel
theorem dX7_find_187 : decode cX7_find 187 = .ok (.return_, 1) := by decide +kernel
theorem dX7_rankBy_0 : decode cX7_rankBy 0 = .ok (.aload_n 0, 1) := by decide +kernel
theorem dX7_rankBy_1 : decode cX7_rankBy 1 = .ok (.iload_n 1, 1) := by decide +kernel
theorem dX7_rankBy_2 : decode cX7_rankBy 2 = .ok (.iload_n 2, 1) := by decide +kernel
theorem dX7_rankBy_3 : decode cX7_rankBy 3 = .ok (.invokevirtual 57, 3) := by decide +kernel
theorem dX7_rankBy_6 : decode cX7_rankBy 6 = .ok (.istore_n 3, 1) := by decide +kernel
theorem dX7_rankBy_7 : decode cX7_rankBy 7 = .ok (.iload_n 3, 1) := by decide +kernel
theorem dX7_rankBy_8 : decode cX7_rankBy 8 = .ok (.ifCond .ge 8, 3) := by decide +kernel
theorem dX7_rankBy_11 : decode cX7_rankBy 11 = .ok (.ldc 27, 2) := by decide +kernel
theorem dX7_rankBy_13 : decode cX7_rankBy 13 = .ok (.goto 11, 3) := by decide +kernel
theorem dX7_rankBy_16 : decode cX7_rankBy 16 = .ok (.aload_n 0, 1) := by decide +kernel
theorem dX7_rankBy_17 : decode cX7_rankBy 17 = .ok (.getfield 9, 3) := by decide +kernel
theorem dX7_rankBy_20 : decode cX7_rankBy 20 = .ok (.iload_n 3, 1) := by decide +kernel
theorem dX7_rankBy_21 : decode cX7_rankBy 21 = .ok (.invokestatic 48, 3) := by decide +kernel
theorem dX7_rankBy_24 : decode cX7_rankBy 24 = .ok (.istore 4, 2) := by decide +kernel
theorem dX7_rankBy_26 : decode cX7_rankBy 26 = .ok (.iload 4, 2) := by decide +kernel
theorem dX7_rankBy_28 : decode cX7_rankBy 28 = .ok (.ldc 27, 2) := by decide +kernel
theorem dX7_rankBy_30 : decode cX7_rankBy 30 = .ok (.if_icmp .ne 8, 3) := by decide +kernel
theorem dX7_rankBy_33 : decode cX7_rankBy 33 = .ok (.ldc 27, 2) := by decide +kernel
theorem dX7_rankBy_35 : decode cX7_rankBy 35 = .ok (.goto 13, 3) := by decide +kernel
theorem dX7_rankBy_38 : decode cX7_rankBy 38 = .ok (.iload 4, 2) := by decide +kernel
theorem dX7_rankBy_40 : decode cX7_rankBy 40 = .ok (.aload_n 0, 1) := by decide +kernel
theorem dX7_rankBy_41 : decode cX7_rankBy 41 = .ok (.iload_n 1, 1) := by decide +kernel
theorem dX7_rankBy_42 : decode cX7_rankBy 42 = .ok (.iload_n 2, 1) := by decide +kernel
theorem dX7_rankBy_43 : decode cX7_rankBy 43 = .ok (.iload_n 3, 1) := by decide +kernel
theorem dX7_rankBy_44 : decode cX7_rankBy 44 = .ok (.invokevirtual 60, 3) := by decide +kernel
theorem dX7_rankBy_47 : decode cX7_rankBy 47 = .ok (.iadd, 1) := by decide +kernel
theorem dX7_rankBy_48 : decode cX7_rankBy 48 = .ok (.ireturn, 1) := by decide +kernel
theorem dX7_rankOf_0 : decode cX7_rankOf 0 = .ok (.iload_n 2, 1) := by decide +kernel
theorem dX7_rankOf_1 : decode cX7_rankOf 1 = .ok (.iconst 2, 1) := by decide +kernel
theorem dX7_rankOf_2 : decode cX7_rankOf 2 = .ok (.if_icmp .lt 7, 3) := by decide +kernel
theorem dX7_rankOf_5 : decode cX7_rankOf 5 = .ok (.iconst 1, 1) := by decide +kernel
theorem dX7_rankOf_6 : decode cX7_rankOf 6 = .ok (.goto 4, 3) := by decide +kernel
theorem dX7_rankOf_9 : decode cX7_rankOf 9 = .ok (.iconst 0, 1) := by decide +kernel
theorem dX7_rankOf_10 : decode cX7_rankOf 10 = .ok (.istore 4, 2) := by decide +kernel
theorem dX7_rankOf_12 : decode cX7_rankOf 12 = .ok (.iload 4, 2) := by decide +kernel
theorem dX7_rankOf_14 : decode cX7_rankOf 14 = .ok (.ifCond .eq 16, 3) := by decide +kernel
theorem dX7_rankOf_17 : decode cX7_rankOf 17 = .ok (.aload_n 0, 1) := by decide +kernel
theorem dX7_rankOf_18 : decode cX7_rankOf 18 = .ok (.getfield 23, 3) := by decide +kernel
theorem dX7_rankOf_21 : decode cX7_rankOf 21 = .ok (.iload_n 1, 1) := by decide +kernel
theorem dX7_rankOf_22 : decode cX7_rankOf 22 = .ok (.iconst 3, 1) := by decide +kernel
theorem dX7_rankOf_23 : decode cX7_rankOf 23 = .ok (.idiv, 1) := by decide +kernel
theorem dX7_rankOf_24 : decode cX7_rankOf 24 = .ok (.invokevirtual 64, 3) := by decide +kernel
theorem dX7_rankOf_27 : decode cX7_rankOf 27 = .ok (.goto 20, 3) := by decide +kernel
theorem dX7_rankOf_30 : decode cX7_rankOf 30 = .ok (.aload_n 0, 1) := by decide +kernel
theorem dX7_rankOf_31 : decode cX7_rankOf 31 = .ok (.getfield 23, 3) := by decide +kernel
theorem dX7_rankOf_34 : decode cX7_rankOf 34 = .ok (.aload_n 0, 1) := by decide +kernel
theorem dX7_rankOf_35 : decode cX7_rankOf 35 = .ok (.getfield 15, 3) := by decide +kernel
theorem dX7_rankOf_38 : decode cX7_rankOf 38 = .ok (.iload_n 3, 1) := by decide +kernel
theorem dX7_rankOf_39 : decode cX7_rankOf 39 = .ok (.iconst 3, 1) := by decide +kernel
theorem dX7_rankOf_40 : decode cX7_rankOf 40 = .ok (.idiv, 1) := by decide +kernel
theorem dX7_rankOf_41 : decode cX7_rankOf 41 = .ok (.iload_n 3, 1) := by decide +kernel
theorem dX7_rankOf_42 : decode cX7_rankOf 42 = .ok (.iconst 3, 1) := by decide +kernel
theorem dX7_rankOf_43 : decode cX7_rankOf 43 = .ok (.irem, 1) := by decide +kernel
theorem dX7_rankOf_44 : decode cX7_rankOf 44 = .ok (.invokevirtual 68, 3) := by decide +kernel
theorem dX7_rankOf_47 : decode cX7_rankOf 47 = .ok (.istore 5, 2) := by decide +kernel
theorem dX7_rankOf_49 : decode cX7_rankOf 49 = .ok (.iload 4, 2) := by decide +kernel
theorem dX7_rankOf_51 : decode cX7_rankOf 51 = .ok (.ifCond .ne 23, 3) := by decide +kernel
theorem dX7_rankOf_54 : decode cX7_rankOf 54 = .ok (.aload_n 0, 1) := by decide +kernel
theorem dX7_rankOf_55 : decode cX7_rankOf 55 = .ok (.getfield 23, 3) := by decide +kernel
theorem dX7_rankOf_58 : decode cX7_rankOf 58 = .ok (.aload_n 0, 1) := by decide +kernel
theorem dX7_rankOf_59 : decode cX7_rankOf 59 = .ok (.getfield 15, 3) := by decide +kernel
theorem dX7_rankOf_62 : decode cX7_rankOf 62 = .ok (.iconst 0, 1) := by decide +kernel
theorem dX7_rankOf_63 : decode cX7_rankOf 63 = .ok (.invokevirtual 32, 3) := by decide +kernel
theorem dX7_rankOf_66 : decode cX7_rankOf 66 = .ok (.iconst 2, 1) := by decide +kernel
theorem dX7_rankOf_67 : decode cX7_rankOf 67 = .ok (.if_icmp .ne 7, 3) := by decide +kernel
theorem dX7_rankOf_70 : decode cX7_rankOf 70 = .ok (.iconst 2, 1) := by decide +kernel
theorem dX7_rankOf_71 : decode cX7_rankOf 71 = .ok (.goto 4, 3) := by decide +kernel
theorem dX7_rankOf_74 : decode cX7_rankOf 74 = .ok (.iconst 1, 1) := by decide +kernel
theorem dX7_rankOf_75 : decode cX7_rankOf 75 = .ok (.istore 6, 2) := by decide +kernel
theorem dX7_rankOf_77 : decode cX7_rankOf 77 = .ok (.aload_n 0, 1) := by decide +kernel
theorem dX7_rankOf_78 : decode cX7_rankOf 78 = .ok (.getfield 19, 3) := by decide +kernel
theorem dX7_rankOf_81 : decode cX7_rankOf 81 = .ok (.ifCond .eq 21, 3) := by decide +kernel
theorem dX7_rankOf_84 : decode cX7_rankOf 84 = .ok (.iload 5, 2) := by decide +kernel
theorem dX7_rankOf_86 : decode cX7_rankOf 86 = .ok (.sipush 1000, 3) := by decide +kernel
theorem dX7_rankOf_89 : decode cX7_rankOf 89 = .ok (.imul, 1) := by decide +kernel
theorem dX7_rankOf_90 : decode cX7_rankOf 90 = .ok (.iload 6, 2) := by decide +kernel
theorem dX7_rankOf_92 : decode cX7_rankOf 92 = .ok (.iadd, 1) := by decide +kernel
theorem dX7_rankOf_93 : decode cX7_rankOf 93 = .ok (.sipush 1000, 3) := by decide +kernel
theorem dX7_rankOf_96 : decode cX7_rankOf 96 = .ok (.imul, 1) := by decide +kernel
theorem dX7_rankOf_97 : decode cX7_rankOf 97 = .ok (.iconst 1, 1) := by decide +kernel
theorem dX7_rankOf_98 : decode cX7_rankOf 98 = .ok (.iadd, 1) := by decide +kernel
theorem dX7_rankOf_99 : decode cX7_rankOf 99 = .ok (.goto 18, 3) := by decide +kernel
theorem dX7_rankOf_102 : decode cX7_rankOf 102 = .ok (.iload 6, 2) := by decide +kernel
theorem dX7_rankOf_104 : decode cX7_rankOf 104 = .ok (.sipush 1000, 3) := by decide +kernel
theorem dX7_rankOf_107 : decode cX7_rankOf 107 = .ok (.imul, 1) := by decide +kernel
theorem dX7_rankOf_108 : decode cX7_rankOf 108 = .ok (.iload 5, 2) := by decide +kernel
theorem dX7_rankOf_110 : decode cX7_rankOf 110 = .ok (.iadd, 1) := by decide +kernel
theorem dX7_rankOf_111 : decode cX7_rankOf 111 = .ok (.sipush 1000, 3) := by decide +kernel
theorem dX7_rankOf_114 : decode cX7_rankOf 114 = .ok (.imul, 1) := by decide +kernel
theorem dX7_rankOf_115 : decode cX7_rankOf 115 = .ok (.iconst 1, 1) := by decide +kernel
theorem dX7_rankOf_116 : decode cX7_rankOf 116 = .ok (.iadd, 1) := by decide +kernel
theorem dX7_rankOf_117 : decode cX7_rankOf 117 = .ok (.ireturn, 1) := by decide +kernel
theorem dX7_standBehind_0 : decode cX7_standBehind 0 = .ok (.iload_n 1, 1) := by decide +kernel
theorem dX7_standBehind_1 : decode cX7_standBehind 1 = .ok (.iconst 3, 1) := by decide +kernel
theorem dX7_standBehind_2 : decode cX7_standBehind 2 = .ok (.idiv, 1) := by decide +kernel
theorem dX7_standBehind_3 : decode cX7_standBehind 3 = .ok (.istore_n 3, 1) := by decide +kernel
theorem dX7_standBehind_4 : decode cX7_standBehind 4 = .ok (.iload_n 1, 1) := by decide +kernel
theorem dX7_standBehind_5 : decode cX7_standBehind 5 = .ok (.iconst 3, 1) := by decide +kernel
theorem dX7_standBehind_6 : decode cX7_standBehind 6 = .ok (.irem, 1) := by decide +kernel
theorem dX7_standBehind_7 : decode cX7_standBehind 7 = .ok (.istore 4, 2) := by decide +kernel
theorem dX7_standBehind_9 : decode cX7_standBehind 9 = .ok (.aload_n 0, 1) := by decide +kernel
theorem dX7_standBehind_10 : decode cX7_standBehind 10 = .ok (.getfield 23, 3) := by decide +kernel
theorem dX7_standBehind_13 : decode cX7_standBehind 13 = .ok (.iload_n 3, 1) := by decide +kernel
theorem dX7_standBehind_14 : decode cX7_standBehind 14 = .ok (.invokevirtual 71, 3) := by decide +kernel
theorem dX7_standBehind_17 : decode cX7_standBehind 17 = .ok (.ifCond .ne 6, 3) := by decide +kernel
theorem dX7_standBehind_20 : decode cX7_standBehind 20 = .ok (.bipush (-4), 2) := by decide +kernel
theorem dX7_standBehind_22 : decode cX7_standBehind 22 = .ok (.ireturn, 1) := by decide +kernel
theorem dX7_standBehind_23 : decode cX7_standBehind 23 = .ok (.iload_n 2, 1) := by decide +kernel
theorem dX7_standBehind_24 : decode cX7_standBehind 24 = .ok (.iconst 2, 1) := by decide +kernel
theorem dX7_standBehind_25 : decode cX7_standBehind 25 = .ok (.if_icmp .lt 65, 3) := by decide +kernel
theorem dX7_standBehind_28 : decode cX7_standBehind 28 = .ok (.iload_n 2, 1) := by decide +kernel
theorem dX7_standBehind_29 : decode cX7_standBehind 29 = .ok (.iconst 2, 1) := by decide +kernel
theorem dX7_standBehind_30 : decode cX7_standBehind 30 = .ok (.isub, 1) := by decide +kernel
theorem dX7_standBehind_31 : decode cX7_standBehind 31 = .ok (.iload 4, 2) := by decide +kernel
theorem dX7_standBehind_33 : decode cX7_standBehind 33 = .ok (.if_icmp .eq 36, 3) := by decide +kernel
theorem dX7_standBehind_36 : decode cX7_standBehind 36 = .ok (.aload_n 0, 1) := by decide +kernel
theorem dX7_standBehind_37 : decode cX7_standBehind 37 = .ok (.getfield 23, 3) := by decide +kernel
theorem dX7_standBehind_40 : decode cX7_standBehind 40 = .ok (.iload_n 3, 1) := by decide +kernel
theorem dX7_standBehind_41 : decode cX7_standBehind 41 = .ok (.invokevirtual 64, 3) := by decide +kernel
theorem dX7_standBehind_44 : decode cX7_standBehind 44 = .ok (.bipush (-4), 2) := by decide +kernel
theorem dX7_standBehind_46 : decode cX7_standBehind 46 = .ok (.if_icmp .eq 23, 3) := by decide +kernel
theorem dX7_standBehind_49 : decode cX7_standBehind 49 = .ok (.aload_n 0, 1) := by decide +kernel
theorem dX7_standBehind_50 : decode cX7_standBehind 50 = .ok (.getfield 23, 3) := by decide +kernel
theorem dX7_standBehind_53 : decode cX7_standBehind 53 = .ok (.aload_n 0, 1) := by decide +kernel
theorem dX7_standBehind_54 : decode cX7_standBehind 54 = .ok (.getfield 15, 3) := by decide +kernel
theorem dX7_standBehind_57 : decode cX7_standBehind 57 = .ok (.iconst 0, 1) := by decide +kernel
theorem dX7_standBehind_58 : decode cX7_standBehind 58 = .ok (.invokevirtual 32, 3) := by decide +kernel
theorem dX7_standBehind_61 : decode cX7_standBehind 61 = .ok (.iconst 3, 1) := by decide +kernel
theorem dX7_standBehind_62 : decode cX7_standBehind 62 = .ok (.if_icmp .eq 7, 3) := by decide +kernel
theorem dX7_standBehind_65 : decode cX7_standBehind 65 = .ok (.iconst 1, 1) := by decide +kernel
theorem dX7_standBehind_66 : decode cX7_standBehind 66 = .ok (.goto 4, 3) := by decide +kernel
theorem dX7_standBehind_69 : decode cX7_standBehind 69 = .ok (.iconst 0, 1) := by decide +kernel
theorem dX7_standBehind_70 : decode cX7_standBehind 70 = .ok (.istore 5, 2) := by decide +kernel
theorem dX7_standBehind_72 : decode cX7_standBehind 72 = .ok (.iload 5, 2) := by decide +kernel
theorem dX7_standBehind_74 : decode cX7_standBehind 74 = .ok (.ifCond .eq 13, 3) := by decide +kernel
theorem dX7_standBehind_77 : decode cX7_standBehind 77 = .ok (.iload_n 3, 1) := by decide +kernel
theorem dX7_standBehind_78 : decode cX7_standBehind 78 = .ok (.iload_n 2, 1) := by decide +kernel
theorem dX7_standBehind_79 : decode cX7_standBehind 79 = .ok (.iconst 2, 1) := by decide +kernel
theorem dX7_standBehind_80 : decode cX7_standBehind 80 = .ok (.isub, 1) := by decide +kernel
theorem dX7_standBehind_81 : decode cX7_standBehind 81 = .ok (.invokestatic 38, 3) := by decide +kernel
theorem dX7_standBehind_84 : decode cX7_standBehind 84 = .ok (.goto 5, 3) := by decide +kernel
theorem dX7_standBehind_87 : decode cX7_standBehind 87 = .ok (.bipush (-4), 2) := by decide +kernel
theorem dX7_standBehind_89 : decode cX7_standBehind 89 = .ok (.ireturn, 1) := by decide +kernel
theorem dX7_standBehind_90 : decode cX7_standBehind 90 = .ok (.iload_n 2, 1) := by decide +kernel
theorem dX7_standBehind_91 : decode cX7_standBehind 91 = .ok (.ifCond .ne 9, 3) := by decide +kernel
theorem dX7_standBehind_94 : decode cX7_standBehind 94 = .ok (.iload_n 3, 1) := by decide +kernel
theorem dX7_standBehind_95 : decode cX7_standBehind 95 = .ok (.iconst 1, 1) := by decide +kernel
theorem dX7_standBehind_96 : decode cX7_standBehind 96 = .ok (.iadd, 1) := by decide +kernel
theorem dX7_standBehind_97 : decode cX7_standBehind 97 = .ok (.goto 6, 3) := by decide +kernel
theorem dX7_standBehind_100 : decode cX7_standBehind 100 = .ok (.iload_n 3, 1) := by decide +kernel
theorem dX7_standBehind_101 : decode cX7_standBehind 101 = .ok (.iconst 1, 1) := by decide +kernel
theorem dX7_standBehind_102 : decode cX7_standBehind 102 = .ok (.isub, 1) := by decide +kernel
theorem dX7_standBehind_103 : decode cX7_standBehind 103 = .ok (.istore 5, 2) := by decide +kernel
theorem dX7_standBehind_105 : decode cX7_standBehind 105 = .ok (.aload_n 0, 1) := by decide +kernel
theorem dX7_standBehind_106 : decode cX7_standBehind 106 = .ok (.getfield 23, 3) := by decide +kernel
theorem dX7_standBehind_109 : decode cX7_standBehind 109 = .ok (.aload_n 0, 1) := by decide +kernel
theorem dX7_standBehind_110 : decode cX7_standBehind 110 = .ok (.getfield 15, 3) := by decide +kernel
theorem dX7_standBehind_113 : decode cX7_standBehind 113 = .ok (.iload 5, 2) := by decide +kernel
theorem dX7_standBehind_115 : decode cX7_standBehind 115 = .ok (.iload 4, 2) := by decide +kernel
theorem dX7_standBehind_117 : decode cX7_standBehind 117 = .ok (.aload_n 0, 1) := by decide +kernel
theorem dX7_standBehind_118 : decode cX7_standBehind 118 = .ok (.getfield 23, 3) := by decide +kernel
theorem dX7_standBehind_121 : decode cX7_standBehind 121 = .ok (.getfield 75, 3) := by decide +kernel
theorem dX7_standBehind_124 : decode cX7_standBehind 124 = .ok (.iload 5, 2) := by decide +kernel
theorem dX7_standBehind_126 : decode cX7_standBehind 126 = .ok (.iload 4, 2) := by decide +kernel
theorem dX7_standBehind_128 : decode cX7_standBehind 128 = .ok (.invokestatic 38, 3) := by decide +kernel
theorem dX7_standBehind_131 : decode cX7_standBehind 131 = .ok (.invokestatic 48, 3) := by decide +kernel
theorem dX7_standBehind_134 : decode cX7_standBehind 134 = .ok (.invokevirtual 78, 3) := by decide +kernel
theorem dX7_standBehind_137 : decode cX7_standBehind 137 = .ok (.ifCond .eq 13, 3) := by decide +kernel
theorem dX7_standBehind_140 : decode cX7_standBehind 140 = .ok (.iload 5, 2) := by decide +kernel
theorem dX7_standBehind_142 : decode cX7_standBehind 142 = .ok (.iload 4, 2) := by decide +kernel
theorem dX7_standBehind_144 : decode cX7_standBehind 144 = .ok (.invokestatic 38, 3) := by decide +kernel
theorem dX7_standBehind_147 : decode cX7_standBehind 147 = .ok (.goto 5, 3) := by decide +kernel
theorem dX7_standBehind_150 : decode cX7_standBehind 150 = .ok (.bipush (-4), 2) := by decide +kernel
theorem dX7_standBehind_152 : decode cX7_standBehind 152 = .ok (.ireturn, 1) := by decide +kernel
theorem dX7_begin_0 : decode cX7_begin 0 = .ok (.aload_n 0, 1) := by decide +kernel
theorem dX7_begin_1 : decode cX7_begin 1 = .ok (.getfield 23, 3) := by decide +kernel
theorem dX7_begin_4 : decode cX7_begin 4 = .ok (.aload_n 0, 1) := by decide +kernel
theorem dX7_begin_5 : decode cX7_begin 5 = .ok (.getfield 15, 3) := by decide +kernel
theorem dX7_begin_8 : decode cX7_begin 8 = .ok (.iconst 4, 1) := by decide +kernel
theorem dX7_begin_9 : decode cX7_begin 9 = .ok (.invokevirtual 32, 3) := by decide +kernel
theorem dX7_begin_12 : decode cX7_begin 12 = .ok (.aload_n 0, 1) := by decide +kernel
theorem dX7_begin_13 : decode cX7_begin 13 = .ok (.getfield 23, 3) := by decide +kernel
theorem dX7_begin_16 : decode cX7_begin 16 = .ok (.aload_n 0, 1) := by decide +kernel
theorem dX7_begin_17 : decode cX7_begin 17 = .ok (.getfield 15, 3) := by decide +kernel
theorem dX7_begin_20 : decode cX7_begin 20 = .ok (.iconst 1, 1) := by decide +kernel
theorem dX7_begin_21 : decode cX7_begin 21 = .ok (.invokevirtual 32, 3) := by decide +kernel
theorem dX7_begin_24 : decode cX7_begin 24 = .ok (.invokestatic 38, 3) := by decide +kernel
theorem dX7_begin_27 : decode cX7_begin 27 = .ok (.ireturn, 1) := by decide +kernel
theorem dX7_isFound_0 : decode cX7_isFound 0 = .ok (.aload_n 0, 1) := by decide +kernel
theorem dX7_isFound_1 : decode cX7_isFound 1 = .ok (.getfield 9, 3) := by decide +kernel
theorem dX7_isFound_4 : decode cX7_isFound 4 = .ok (.aload_n 0, 1) := by decide +kernel
theorem dX7_isFound_5 : decode cX7_isFound 5 = .ok (.invokevirtual 82, 3) := by decide +kernel
theorem dX7_isFound_8 : decode cX7_isFound 8 = .ok (.invokestatic 48, 3) := by decide +kernel
theorem dX7_isFound_11 : decode cX7_isFound 11 = .ok (.ldc 27, 2) := by decide +kernel
theorem dX7_isFound_13 : decode cX7_isFound 13 = .ok (.if_icmp .ge 7, 3) := by decide +kernel
theorem dX7_isFound_16 : decode cX7_isFound 16 = .ok (.iconst 1, 1) := by decide +kernel
theorem dX7_isFound_17 : decode cX7_isFound 17 = .ok (.goto 4, 3) := by decide +kernel
theorem dX7_isFound_20 : decode cX7_isFound 20 = .ok (.iconst 0, 1) := by decide +kernel
theorem dX7_isFound_21 : decode cX7_isFound 21 = .ok (.ireturn, 1) := by decide +kernel
theorem dX7_money_0 : decode cX7_money 0 = .ok (.aload_n 0, 1) := by decide +kernel
theorem dX7_money_1 : decode cX7_money 1 = .ok (.getfield 19, 3) := by decide +kernel
theorem dX7_money_4 : decode cX7_money 4 = .ok (.ifCond .eq 10, 3) := by decide +kernel
theorem dX7_money_7 : decode cX7_money 7 = .ok (.aload_n 0, 1) := by decide +kernel
theorem dX7_money_8 : decode cX7_money 8 = .ok (.invokevirtual 86, 3) := by decide +kernel
theorem dX7_money_11 : decode cX7_money 11 = .ok (.goto 7, 3) := by decide +kernel
theorem dX7_money_14 : decode cX7_money 14 = .ok (.aload_n 0, 1) := by decide +kernel
theorem dX7_money_15 : decode cX7_money 15 = .ok (.invokevirtual 89, 3) := by decide +kernel
theorem dX7_money_18 : decode cX7_money 18 = .ok (.ireturn, 1) := by decide +kernel
theorem dX7_hours_0 : decode cX7_hours 0 = .ok (.aload_n 0, 1) := by decide +kernel
theorem dX7_hours_1 : decode cX7_hours 1 = .ok (.getfield 19, 3) := by decide +kernel
theorem dX7_hours_4 : decode cX7_hours 4 = .ok (.ifCond .eq 10, 3) := by decide +kernel
theorem dX7_hours_7 : decode cX7_hours 7 = .ok (.aload_n 0, 1) := by decide +kernel
theorem dX7_hours_8 : decode cX7_hours 8 = .ok (.invokevirtual 89, 3) := by decide +kernel
theorem dX7_hours_11 : decode cX7_hours 11 = .ok (.goto 7, 3) := by decide +kernel
theorem dX7_hours_14 : decode cX7_hours 14 = .ok (.aload_n 0, 1) := by decide +kernel
theorem dX7_hours_15 : decode cX7_hours 15 = .ok (.invokevirtual 86, 3) := by decide +kernel
theorem dX7_hours_18 : decode cX7_hours 18 = .ok (.ireturn, 1) := by decide +kernel
theorem dX7_first_0 : decode cX7_first 0 = .ok (.aload_n 0, 1) := by decide +kernel
theorem dX7_first_1 : decode cX7_first 1 = .ok (.getfield 9, 3) := by decide +kernel
theorem dX7_first_4 : decode cX7_first 4 = .ok (.aload_n 0, 1) := by decide +kernel
theorem dX7_first_5 : decode cX7_first 5 = .ok (.invokevirtual 82, 3) := by decide +kernel
theorem dX7_first_8 : decode cX7_first 8 = .ok (.invokestatic 48, 3) := by decide +kernel
theorem dX7_first_11 : decode cX7_first 11 = .ok (.sipush 1000, 3) := by decide +kernel
theorem dX7_first_14 : decode cX7_first 14 = .ok (.idiv, 1) := by decide +kernel
theorem dX7_first_15 : decode cX7_first 15 = .ok (.sipush 1000, 3) := by decide +kernel
theorem dX7_first_18 : decode cX7_first 18 = .ok (.idiv, 1) := by decide +kernel
theorem dX7_first_19 : decode cX7_first 19 = .ok (.ireturn, 1) := by decide +kernel
theorem dX7_second_0 : decode cX7_second 0 = .ok (.aload_n 0, 1) := by decide +kernel
theorem dX7_second_1 : decode cX7_second 1 = .ok (.getfield 9, 3) := by decide +kernel
theorem dX7_second_4 : decode cX7_second 4 = .ok (.aload_n 0, 1) := by decide +kernel
theorem dX7_second_5 : decode cX7_second 5 = .ok (.invokevirtual 82, 3) := by decide +kernel
theorem dX7_second_8 : decode cX7_second 8 = .ok (.invokestatic 48, 3) := by decide +kernel
theorem dX7_second_11 : decode cX7_second 11 = .ok (.sipush 1000, 3) := by decide +kernel
theorem dX7_second_14 : decode cX7_second 14 = .ok (.idiv, 1) := by decide +kernel
theorem dX7_second_15 : decode cX7_second 15 = .ok (.sipush 1000, 3) := by decide +kernel
theorem dX7_second_18 : decode cX7_second 18 = .ok (.irem, 1) := by decide +kernel
theorem dX7_second_19 : decode cX7_second 19 = .ok (.ireturn, 1) := by decide +kernel
theorem dX7_acts_0 : decode cX7_acts 0 = .ok (.aload_n 0, 1) := by decide +kernel
theorem dX7_acts_1 : decode cX7_acts 1 = .ok (.getfield 9, 3) := by decide +kernel
theorem dX7_acts_4 : decode cX7_acts 4 = .ok (.aload_n 0, 1) := by decide +kernel
theorem dX7_acts_5 : decode cX7_acts 5 = .ok (.invokevirtual 82, 3) := by decide +kernel
theorem dX7_acts_8 : decode cX7_acts 8 = .ok (.invokestatic 48, 3) := by decide +kernel
theorem dX7_acts_11 : decode cX7_acts 11 = .ok (.sipush 1000, 3) := by decide +kernel
theorem dX7_acts_14 : decode cX7_acts 14 = .ok (.irem, 1) := by decide +kernel
theorem dX7_acts_15 : decode cX7_acts 15 = .ok (.ireturn, 1) := by decide +kernel
theorem dX7_actAt_0 : decode cX7_actAt 0 = .ok (.iload_n 1, 1) := by decide +kernel
theorem dX7_actAt_1 : decode cX7_actAt 1 = .ok (.aload_n 0, 1) := by decide +kernel
theorem dX7_actAt_2 : decode cX7_actAt 2 = .ok (.invokevirtual 92, 3) := by decide +kernel
theorem dX7_actAt_5 : decode cX7_actAt 5 = .ok (.if_icmp .lt 6, 3) := by decide +kernel
theorem dX7_actAt_8 : decode cX7_actAt 8 = .ok (.bipush (-4), 2) := by decide +kernel
theorem dX7_actAt_10 : decode cX7_actAt 10 = .ok (.ireturn, 1) := by decide +kernel
theorem dX7_actAt_11 : decode cX7_actAt 11 = .ok (.aload_n 0, 1) := by decide +kernel
theorem dX7_actAt_12 : decode cX7_actAt 12 = .ok (.invokevirtual 82, 3) := by decide +kernel
theorem dX7_actAt_15 : decode cX7_actAt 15 = .ok (.istore_n 2, 1) := by decide +kernel
theorem dX7_actAt_16 : decode cX7_actAt 16 = .ok (.iconst 0, 1) := by decide +kernel
theorem dX7_actAt_17 : decode cX7_actAt 17 = .ok (.istore_n 3, 1) := by decide +kernel
theorem dX7_actAt_18 : decode cX7_actAt 18 = .ok (.iload_n 3, 1) := by decide +kernel
theorem dX7_actAt_19 : decode cX7_actAt 19 = .ok (.iload_n 1, 1) := by decide +kernel
theorem dX7_actAt_20 : decode cX7_actAt 20 = .ok (.if_icmp .ge 20, 3) := by decide +kernel
theorem dX7_actAt_23 : decode cX7_actAt 23 = .ok (.aload_n 0, 1) := by decide +kernel
theorem dX7_actAt_24 : decode cX7_actAt 24 = .ok (.iload_n 2, 1) := by decide +kernel
theorem dX7_actAt_25 : decode cX7_actAt 25 = .ok (.aload_n 0, 1) := by decide +kernel
theorem dX7_actAt_26 : decode cX7_actAt 26 = .ok (.iload_n 2, 1) := by decide +kernel
theorem dX7_actAt_27 : decode cX7_actAt 27 = .ok (.invokevirtual 95, 3) := by decide +kernel
theorem dX7_actAt_30 : decode cX7_actAt 30 = .ok (.invokevirtual 57, 3) := by decide +kernel
theorem dX7_actAt_33 : decode cX7_actAt 33 = .ok (.istore_n 2, 1) := by decide +kernel
theorem dX7_actAt_34 : decode cX7_actAt 34 = .ok (.iinc 3 1, 3) := by decide +kernel
theorem dX7_actAt_37 : decode cX7_actAt 37 = .ok (.goto (-19), 3) := by decide +kernel
theorem dX7_actAt_40 : decode cX7_actAt 40 = .ok (.aload_n 0, 1) := by decide +kernel
theorem dX7_actAt_41 : decode cX7_actAt 41 = .ok (.iload_n 2, 1) := by decide +kernel
theorem dX7_actAt_42 : decode cX7_actAt 42 = .ok (.invokevirtual 95, 3) := by decide +kernel
theorem dX7_actAt_45 : decode cX7_actAt 45 = .ok (.ireturn, 1) := by decide +kernel
theorem dX7_bestAct_0 : decode cX7_bestAct 0 = .ok (.iconst 0, 1) := by decide +kernel
theorem dX7_bestAct_1 : decode cX7_bestAct 1 = .ok (.istore_n 2, 1) := by decide +kernel
theorem dX7_bestAct_2 : decode cX7_bestAct 2 = .ok (.iload_n 2, 1) := by decide +kernel
theorem dX7_bestAct_3 : decode cX7_bestAct 3 = .ok (.iconst 5, 1) := by decide +kernel
theorem dX7_bestAct_4 : decode cX7_bestAct 4 = .ok (.if_icmp .ge 28, 3) := by decide +kernel
theorem dX7_bestAct_7 : decode cX7_bestAct 7 = .ok (.aload_n 0, 1) := by decide +kernel
theorem dX7_bestAct_8 : decode cX7_bestAct 8 = .ok (.iload_n 1, 1) := by decide +kernel
theorem dX7_bestAct_9 : decode cX7_bestAct 9 = .ok (.iload_n 2, 1) := by decide +kernel
theorem dX7_bestAct_10 : decode cX7_bestAct 10 = .ok (.invokevirtual 45, 3) := by decide +kernel
theorem dX7_bestAct_13 : decode cX7_bestAct 13 = .ok (.aload_n 0, 1) := by decide +kernel
theorem dX7_bestAct_14 : decode cX7_bestAct 14 = .ok (.getfield 9, 3) := by decide +kernel
theorem dX7_bestAct_17 : decode cX7_bestAct 17 = .ok (.iload_n 1, 1) := by decide +kernel
theorem dX7_bestAct_18 : decode cX7_bestAct 18 = .ok (.invokestatic 48, 3) := by decide +kernel
theorem dX7_bestAct_21 : decode cX7_bestAct 21 = .ok (.if_icmp .ne 5, 3) := by decide +kernel
theorem dX7_bestAct_24 : decode cX7_bestAct 24 = .ok (.iload_n 2, 1) := by decide +kernel
theorem dX7_bestAct_25 : decode cX7_bestAct 25 = .ok (.ireturn, 1) := by decide +kernel
theorem dX7_bestAct_26 : decode cX7_bestAct 26 = .ok (.iinc 2 1, 3) := by decide +kernel
theorem dX7_bestAct_29 : decode cX7_bestAct 29 = .ok (.goto (-27), 3) := by decide +kernel
theorem dX7_bestAct_32 : decode cX7_bestAct 32 = .ok (.bipush (-4), 2) := by decide +kernel
theorem dX7_bestAct_34 : decode cX7_bestAct 34 = .ok (.ireturn, 1) := by decide +kernel
theorem dX7_reached_0 : decode cX7_reached 0 = .ok (.aload_n 0, 1) := by decide +kernel
theorem dX7_reached_1 : decode cX7_reached 1 = .ok (.iload_n 1, 1) := by decide +kernel
theorem dX7_reached_2 : decode cX7_reached 2 = .ok (.putfield 15, 3) := by decide +kernel
theorem dX7_reached_5 : decode cX7_reached 5 = .ok (.lconst 1, 1) := by decide +kernel
theorem dX7_reached_6 : decode cX7_reached 6 = .ok (.aload_n 0, 1) := by decide +kernel
theorem dX7_reached_7 : decode cX7_reached 7 = .ok (.invokevirtual 82, 3) := by decide +kernel
theorem dX7_reached_10 : decode cX7_reached 10 = .ok (.lshl, 1) := by decide +kernel
theorem dX7_reached_11 : decode cX7_reached 11 = .ok (.lstore_n 2, 1) := by decide +kernel
theorem dX7_reached_12 : decode cX7_reached 12 = .ok (.lconst 0, 1) := by decide +kernel
theorem dX7_reached_13 : decode cX7_reached 13 = .ok (.lstore 4, 2) := by decide +kernel
theorem dX7_reached_15 : decode cX7_reached 15 = .ok (.iconst 0, 1) := by decide +kernel
theorem dX7_reached_16 : decode cX7_reached 16 = .ok (.istore 6, 2) := by decide +kernel
theorem dX7_reached_18 : decode cX7_reached 18 = .ok (.lload_n 2, 1) := by decide +kernel
theorem dX7_reached_19 : decode cX7_reached 19 = .ok (.lload 4, 2) := by decide +kernel
theorem dX7_reached_21 : decode cX7_reached 21 = .ok (.lcmp, 1) := by decide +kernel
theorem dX7_reached_22 : decode cX7_reached 22 = .ok (.ifCond .eq 55, 3) := by decide +kernel
theorem dX7_reached_25 : decode cX7_reached 25 = .ok (.iload 6, 2) := by decide +kernel
theorem dX7_reached_27 : decode cX7_reached 27 = .ok (.bipush 63, 2) := by decide +kernel
theorem dX7_reached_29 : decode cX7_reached 29 = .ok (.if_icmp .gt 48, 3) := by decide +kernel
theorem dX7_reached_32 : decode cX7_reached 32 = .ok (.lload_n 2, 1) := by decide +kernel
theorem dX7_reached_33 : decode cX7_reached 33 = .ok (.lstore 4, 2) := by decide +kernel
theorem dX7_reached_35 : decode cX7_reached 35 = .ok (.iconst 0, 1) := by decide +kernel
theorem dX7_reached_36 : decode cX7_reached 36 = .ok (.istore 7, 2) := by decide +kernel
theorem dX7_reached_38 : decode cX7_reached 38 = .ok (.iload 7, 2) := by decide +kernel
theorem dX7_reached_40 : decode cX7_reached 40 = .ok (.bipush 63, 2) := by decide +kernel
theorem dX7_reached_42 : decode cX7_reached 42 = .ok (.if_icmp .ge 29, 3) := by decide +kernel
theorem dX7_reached_45 : decode cX7_reached 45 = .ok (.lload_n 2, 1) := by decide +kernel
theorem dX7_reached_46 : decode cX7_reached 46 = .ok (.iload 7, 2) := by decide +kernel
theorem dX7_reached_48 : decode cX7_reached 48 = .ok (.lshr, 1) := by decide +kernel
theorem dX7_reached_49 : decode cX7_reached 49 = .ok (.lconst 1, 1) := by decide +kernel
theorem dX7_reached_50 : decode cX7_reached 50 = .ok (.land, 1) := by decide +kernel
theorem dX7_reached_51 : decode cX7_reached 51 = .ok (.lconst 0, 1) := by decide +kernel
theorem dX7_reached_52 : decode cX7_reached 52 = .ok (.lcmp, 1) := by decide +kernel
theorem dX7_reached_53 : decode cX7_reached 53 = .ok (.ifCond .eq 12, 3) := by decide +kernel
theorem dX7_reached_56 : decode cX7_reached 56 = .ok (.lload_n 2, 1) := by decide +kernel
theorem dX7_reached_57 : decode cX7_reached 57 = .ok (.aload_n 0, 1) := by decide +kernel
theorem dX7_reached_58 : decode cX7_reached 58 = .ok (.iload 7, 2) := by decide +kernel
theorem dX7_reached_60 : decode cX7_reached 60 = .ok (.invokevirtual 98, 3) := by decide +kernel
theorem dX7_reached_63 : decode cX7_reached 63 = .ok (.lor, 1) := by decide +kernel
theorem dX7_reached_64 : decode cX7_reached 64 = .ok (.lstore_n 2, 1) := by decide +kernel
theorem dX7_reached_65 : decode cX7_reached 65 = .ok (.iinc 7 1, 3) := by decide +kernel
theorem dX7_reached_68 : decode cX7_reached 68 = .ok (.goto (-30), 3) := by decide +kernel
theorem dX7_reached_71 : decode cX7_reached 71 = .ok (.iinc 6 1, 3) := by decide +kernel
theorem dX7_reached_74 : decode cX7_reached 74 = .ok (.goto (-56), 3) := by decide +kernel
theorem dX7_reached_77 : decode cX7_reached 77 = .ok (.iconst 0, 1) := by decide +kernel
theorem dX7_reached_78 : decode cX7_reached 78 = .ok (.istore 6, 2) := by decide +kernel
theorem dX7_reached_80 : decode cX7_reached 80 = .ok (.iconst 0, 1) := by decide +kernel
theorem dX7_reached_81 : decode cX7_reached 81 = .ok (.istore 7, 2) := by decide +kernel
theorem dX7_reached_83 : decode cX7_reached 83 = .ok (.iload 7, 2) := by decide +kernel
theorem dX7_reached_85 : decode cX7_reached 85 = .ok (.bipush 63, 2) := by decide +kernel
theorem dX7_reached_87 : decode cX7_reached 87 = .ok (.if_icmp .ge 31, 3) := by decide +kernel
theorem dX7_reached_90 : decode cX7_reached 90 = .ok (.lload_n 2, 1) := by decide +kernel
theorem dX7_reached_91 : decode cX7_reached 91 = .ok (.iload 7, 2) := by decide +kernel
theorem dX7_reached_93 : decode cX7_reached 93 = .ok (.lshr, 1) := by decide +kernel
theorem dX7_reached_94 : decode cX7_reached 94 = .ok (.lconst 1, 1) := by decide +kernel
theorem dX7_reached_95 : decode cX7_reached 95 = .ok (.land, 1) := by decide +kernel
theorem dX7_reached_96 : decode cX7_reached 96 = .ok (.lconst 0, 1) := by decide +kernel
theorem dX7_reached_97 : decode cX7_reached 97 = .ok (.lcmp, 1) := by decide +kernel
theorem dX7_reached_98 : decode cX7_reached 98 = .ok (.ifCond .eq 14, 3) := by decide +kernel
theorem dX7_reached_101 : decode cX7_reached 101 = .ok (.iload 6, 2) := by decide +kernel
theorem dX7_reached_103 : decode cX7_reached 103 = .ok (.iconst 1, 1) := by decide +kernel
theorem dX7_reached_104 : decode cX7_reached 104 = .ok (.iload 7, 2) := by decide +kernel
theorem dX7_reached_106 : decode cX7_reached 106 = .ok (.iconst 3, 1) := by decide +kernel
theorem dX7_reached_107 : decode cX7_reached 107 = .ok (.idiv, 1) := by decide +kernel
theorem dX7_reached_108 : decode cX7_reached 108 = .ok (.ishl, 1) := by decide +kernel
theorem dX7_reached_109 : decode cX7_reached 109 = .ok (.ior, 1) := by decide +kernel
theorem dX7_reached_110 : decode cX7_reached 110 = .ok (.istore 6, 2) := by decide +kernel
theorem dX7_reached_112 : decode cX7_reached 112 = .ok (.iinc 7 1, 3) := by decide +kernel
theorem dX7_reached_115 : decode cX7_reached 115 = .ok (.goto (-32), 3) := by decide +kernel
theorem dX7_reached_118 : decode cX7_reached 118 = .ok (.iload 6, 2) := by decide +kernel
theorem dX7_reached_120 : decode cX7_reached 120 = .ok (.ireturn, 1) := by decide +kernel
theorem dX7_standsBehind_0 : decode cX7_standsBehind 0 = .ok (.lconst 0, 1) := by decide +kernel
theorem dX7_standsBehind_1 : decode cX7_standsBehind 1 = .ok (.lstore_n 2, 1) := by decide +kernel
theorem dX7_standsBehind_2 : decode cX7_standsBehind 2 = .ok (.iconst 0, 1) := by decide +kernel
theorem dX7_standsBehind_3 : decode cX7_standsBehind 3 = .ok (.istore 4, 2) := by decide +kernel
theorem dX7_standsBehind_5 : decode cX7_standsBehind 5 = .ok (.iload 4, 2) := by decide +kernel
theorem dX7_standsBehind_7 : decode cX7_standsBehind 7 = .ok (.iconst 5, 1) := by decide +kernel
theorem dX7_standsBehind_8 : decode cX7_standsBehind 8 = .ok (.if_icmp .ge 30, 3) := by decide +kernel
theorem dX7_standsBehind_11 : decode cX7_standsBehind 11 = .ok (.aload_n 0, 1) := by decide +kernel
theorem dX7_standsBehind_12 : decode cX7_standsBehind 12 = .ok (.iload_n 1, 1) := by decide +kernel
theorem dX7_standsBehind_13 : decode cX7_standsBehind 13 = .ok (.iload 4, 2) := by decide +kernel
theorem dX7_standsBehind_15 : decode cX7_standsBehind 15 = .ok (.invokevirtual 57, 3) := by decide +kernel
theorem dX7_standsBehind_18 : decode cX7_standsBehind 18 = .ok (.istore 5, 2) := by decide +kernel
theorem dX7_standsBehind_20 : decode cX7_standsBehind 20 = .ok (.iload 5, 2) := by decide +kernel
theorem dX7_standsBehind_22 : decode cX7_standsBehind 22 = .ok (.ifCond .lt 10, 3) := by decide +kernel
theorem dX7_standsBehind_25 : decode cX7_standsBehind 25 = .ok (.lload_n 2, 1) := by decide +kernel
theorem dX7_standsBehind_26 : decode cX7_standsBehind 26 = .ok (.lconst 1, 1) := by decide +kernel
theorem dX7_standsBehind_27 : decode cX7_standsBehind 27 = .ok (.iload 5, 2) := by decide +kernel
