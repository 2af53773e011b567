theorem dX7_standsBehind_29 : decode cX7_standsBehind 29 = .ok (.lshl, 1) := by decide +kernel
theorem dX7_standsBehind_30 : decode cX7_standsBehind 30 = .ok (.lor, 1) := by decide +kernel
theorem dX7_standsBehind_31 : decode cX7_standsBehind 31 = .ok (.lstore_n 2, 1) := by decide +kernel
theorem dX7_standsBehind_32 : decode cX7_standsBehind 32 = .ok (.iinc 4 1, 3) := by decide +kernel
theorem dX7_standsBehind_35 : decode cX7_standsBehind 35 = .ok (.goto (-30), 3) := by decide +kernel
theorem dX7_standsBehind_38 : decode cX7_standsBehind 38 = .ok (.lload_n 2, 1) := by decide +kernel
theorem dX7_standsBehind_39 : decode cX7_standsBehind 39 = .ok (.lreturn, 1) := by decide +kernel
theorem dX8_init_0 : decode cX8_init 0 = .ok (.aload_n 0, 1) := by decide +kernel
theorem dX8_init_1 : decode cX8_init 1 = .ok (.invokespecial 3, 3) := by decide +kernel
theorem dX8_init_4 : decode cX8_init 4 = .ok (.aload_n 0, 1) := by decide +kernel
theorem dX8_init_5 : decode cX8_init 5 = .ok (.new 9, 3) := by decide +kernel
theorem dX8_init_8 : decode cX8_init 8 = .ok (.dup, 1) := by decide +kernel
theorem dX8_init_9 : decode cX8_init 9 = .ok (.invokespecial 11, 3) := by decide +kernel
theorem dX8_init_12 : decode cX8_init 12 = .ok (.putfield 12, 3) := by decide +kernel
theorem dX8_init_15 : decode cX8_init 15 = .ok (.aload_n 0, 1) := by decide +kernel
theorem dX8_init_16 : decode cX8_init 16 = .ok (.new 9, 3) := by decide +kernel
theorem dX8_init_19 : decode cX8_init 19 = .ok (.dup, 1) := by decide +kernel
theorem dX8_init_20 : decode cX8_init 20 = .ok (.invokespecial 11, 3) := by decide +kernel
theorem dX8_init_23 : decode cX8_init 23 = .ok (.putfield 16, 3) := by decide +kernel
theorem dX8_init_26 : decode cX8_init 26 = .ok (.aload_n 0, 1) := by decide +kernel
theorem dX8_init_27 : decode cX8_init 27 = .ok (.new 9, 3) := by decide +kernel
theorem dX8_init_30 : decode cX8_init 30 = .ok (.dup, 1) := by decide +kernel
theorem dX8_init_31 : decode cX8_init 31 = .ok (.invokespecial 11, 3) := by decide +kernel
theorem dX8_init_34 : decode cX8_init 34 = .ok (.putfield 19, 3) := by decide +kernel
theorem dX8_init_37 : decode cX8_init 37 = .ok (.aload_n 0, 1) := by decide +kernel
theorem dX8_init_38 : decode cX8_init 38 = .ok (.new 22, 3) := by decide +kernel
theorem dX8_init_41 : decode cX8_init 41 = .ok (.dup, 1) := by decide +kernel
theorem dX8_init_42 : decode cX8_init 42 = .ok (.invokespecial 24, 3) := by decide +kernel
theorem dX8_init_45 : decode cX8_init 45 = .ok (.putfield 25, 3) := by decide +kernel
theorem dX8_init_48 : decode cX8_init 48 = .ok (.aload_n 0, 1) := by decide +kernel
theorem dX8_init_49 : decode cX8_init 49 = .ok (.new 29, 3) := by decide +kernel
theorem dX8_init_52 : decode cX8_init 52 = .ok (.dup, 1) := by decide +kernel
theorem dX8_init_53 : decode cX8_init 53 = .ok (.aload_n 0, 1) := by decide +kernel
theorem dX8_init_54 : decode cX8_init 54 = .ok (.getfield 12, 3) := by decide +kernel
theorem dX8_init_57 : decode cX8_init 57 = .ok (.invokespecial 31, 3) := by decide +kernel
theorem dX8_init_60 : decode cX8_init 60 = .ok (.putfield 34, 3) := by decide +kernel
theorem dX8_init_63 : decode cX8_init 63 = .ok (.aload_n 0, 1) := by decide +kernel
theorem dX8_init_64 : decode cX8_init 64 = .ok (.new 38, 3) := by decide +kernel
theorem dX8_init_67 : decode cX8_init 67 = .ok (.dup, 1) := by decide +kernel
theorem dX8_init_68 : decode cX8_init 68 = .ok (.invokespecial 40, 3) := by decide +kernel
theorem dX8_init_71 : decode cX8_init 71 = .ok (.putfield 41, 3) := by decide +kernel
theorem dX8_init_74 : decode cX8_init 74 = .ok (.aload_n 0, 1) := by decide +kernel
theorem dX8_init_75 : decode cX8_init 75 = .ok (.new 45, 3) := by decide +kernel
theorem dX8_init_78 : decode cX8_init 78 = .ok (.dup, 1) := by decide +kernel
theorem dX8_init_79 : decode cX8_init 79 = .ok (.aload_n 0, 1) := by decide +kernel
theorem dX8_init_80 : decode cX8_init 80 = .ok (.getfield 12, 3) := by decide +kernel
theorem dX8_init_83 : decode cX8_init 83 = .ok (.aload_n 0, 1) := by decide +kernel
theorem dX8_init_84 : decode cX8_init 84 = .ok (.getfield 34, 3) := by decide +kernel
theorem dX8_init_87 : decode cX8_init 87 = .ok (.invokespecial 47, 3) := by decide +kernel
theorem dX8_init_90 : decode cX8_init 90 = .ok (.putfield 50, 3) := by decide +kernel
theorem dX8_init_93 : decode cX8_init 93 = .ok (.aload_n 0, 1) := by decide +kernel
theorem dX8_init_94 : decode cX8_init 94 = .ok (.new 54, 3) := by decide +kernel
theorem dX8_init_97 : decode cX8_init 97 = .ok (.dup, 1) := by decide +kernel
theorem dX8_init_98 : decode cX8_init 98 = .ok (.aload_n 0, 1) := by decide +kernel
theorem dX8_init_99 : decode cX8_init 99 = .ok (.getfield 12, 3) := by decide +kernel
theorem dX8_init_102 : decode cX8_init 102 = .ok (.invokespecial 56, 3) := by decide +kernel
theorem dX8_init_105 : decode cX8_init 105 = .ok (.putfield 57, 3) := by decide +kernel
theorem dX8_init_108 : decode cX8_init 108 = .ok (.aload_n 0, 1) := by decide +kernel
theorem dX8_init_109 : decode cX8_init 109 = .ok (.new 61, 3) := by decide +kernel
theorem dX8_init_112 : decode cX8_init 112 = .ok (.dup, 1) := by decide +kernel
theorem dX8_init_113 : decode cX8_init 113 = .ok (.aload_n 0, 1) := by decide +kernel
theorem dX8_init_114 : decode cX8_init 114 = .ok (.getfield 12, 3) := by decide +kernel
theorem dX8_init_117 : decode cX8_init 117 = .ok (.invokespecial 63, 3) := by decide +kernel
theorem dX8_init_120 : decode cX8_init 120 = .ok (.putfield 64, 3) := by decide +kernel
theorem dX8_init_123 : decode cX8_init 123 = .ok (.aload_n 0, 1) := by decide +kernel
theorem dX8_init_124 : decode cX8_init 124 = .ok (.new 68, 3) := by decide +kernel
theorem dX8_init_127 : decode cX8_init 127 = .ok (.dup, 1) := by decide +kernel
theorem dX8_init_128 : decode cX8_init 128 = .ok (.invokespecial 70, 3) := by decide +kernel
theorem dX8_init_131 : decode cX8_init 131 = .ok (.putfield 71, 3) := by decide +kernel
theorem dX8_init_134 : decode cX8_init 134 = .ok (.aload_n 0, 1) := by decide +kernel
theorem dX8_init_135 : decode cX8_init 135 = .ok (.iconst 0, 1) := by decide +kernel
theorem dX8_init_136 : decode cX8_init 136 = .ok (.putfield 75, 3) := by decide +kernel
theorem dX8_init_139 : decode cX8_init 139 = .ok (.return_, 1) := by decide +kernel
theorem dX8_feed_0 : decode cX8_feed 0 = .ok (.aload_n 0, 1) := by decide +kernel
theorem dX8_feed_1 : decode cX8_feed 1 = .ok (.getfield 25, 3) := by decide +kernel
theorem dX8_feed_4 : decode cX8_feed 4 = .ok (.getfield 79, 3) := by decide +kernel
theorem dX8_feed_7 : decode cX8_feed 7 = .ok (.bipush 8, 2) := by decide +kernel
theorem dX8_feed_9 : decode cX8_feed 9 = .ok (.iadd, 1) := by decide +kernel
theorem dX8_feed_10 : decode cX8_feed 10 = .ok (.sipush 400, 3) := by decide +kernel
theorem dX8_feed_13 : decode cX8_feed 13 = .ok (.if_icmp .le 8, 3) := by decide +kernel
theorem dX8_feed_16 : decode cX8_feed 16 = .ok (.bipush (-3), 2) := by decide +kernel
theorem dX8_feed_18 : decode cX8_feed 18 = .ok (.goto 11, 3) := by decide +kernel
theorem dX8_feed_21 : decode cX8_feed 21 = .ok (.aload_n 0, 1) := by decide +kernel
theorem dX8_feed_22 : decode cX8_feed 22 = .ok (.getfield 25, 3) := by decide +kernel
theorem dX8_feed_25 : decode cX8_feed 25 = .ok (.lload_n 1, 1) := by decide +kernel
theorem dX8_feed_26 : decode cX8_feed 26 = .ok (.invokevirtual 82, 3) := by decide +kernel
theorem dX8_feed_29 : decode cX8_feed 29 = .ok (.ireturn, 1) := by decide +kernel
theorem dX8_end_0 : decode cX8_end 0 = .ok (.iload_n 1, 1) := by decide +kernel
theorem dX8_end_1 : decode cX8_end 1 = .ok (.ifCond .lt 14, 3) := by decide +kernel
theorem dX8_end_4 : decode cX8_end 4 = .ok (.iload_n 1, 1) := by decide +kernel
theorem dX8_end_5 : decode cX8_end 5 = .ok (.aload_n 0, 1) := by decide +kernel
theorem dX8_end_6 : decode cX8_end 6 = .ok (.getfield 25, 3) := by decide +kernel
theorem dX8_end_9 : decode cX8_end 9 = .ok (.getfield 79, 3) := by decide +kernel
theorem dX8_end_12 : decode cX8_end 12 = .ok (.if_icmp .le 5, 3) := by decide +kernel
theorem dX8_end_15 : decode cX8_end 15 = .ok (.iconst (-1), 1) := by decide +kernel
theorem dX8_end_16 : decode cX8_end 16 = .ok (.ireturn, 1) := by decide +kernel
theorem dX8_end_17 : decode cX8_end 17 = .ok (.aload_n 0, 1) := by decide +kernel
theorem dX8_end_18 : decode cX8_end 18 = .ok (.getfield 25, 3) := by decide +kernel
theorem dX8_end_21 : decode cX8_end 21 = .ok (.getfield 79, 3) := by decide +kernel
theorem dX8_end_24 : decode cX8_end 24 = .ok (.istore_n 2, 1) := by decide +kernel
theorem dX8_end_25 : decode cX8_end 25 = .ok (.aload_n 0, 1) := by decide +kernel
theorem dX8_end_26 : decode cX8_end 26 = .ok (.getfield 25, 3) := by decide +kernel
theorem dX8_end_29 : decode cX8_end 29 = .ok (.iload_n 1, 1) := by decide +kernel
theorem dX8_end_30 : decode cX8_end 30 = .ok (.putfield 79, 3) := by decide +kernel
theorem dX8_end_33 : decode cX8_end 33 = .ok (.iload_n 2, 1) := by decide +kernel
theorem dX8_end_34 : decode cX8_end 34 = .ok (.ireturn, 1) := by decide +kernel
theorem dX8_text_0 : decode cX8_text 0 = .ok (.aload_n 0, 1) := by decide +kernel
theorem dX8_text_1 : decode cX8_text 1 = .ok (.getfield 25, 3) := by decide +kernel
theorem dX8_text_4 : decode cX8_text 4 = .ok (.invokevirtual 86, 3) := by decide +kernel
theorem dX8_text_7 : decode cX8_text 7 = .ok (.istore_n 1, 1) := by decide +kernel
theorem dX8_text_8 : decode cX8_text 8 = .ok (.aload_n 0, 1) := by decide +kernel
theorem dX8_text_9 : decode cX8_text 9 = .ok (.getfield 25, 3) := by decide +kernel
theorem dX8_text_12 : decode cX8_text 12 = .ok (.iconst 0, 1) := by decide +kernel
theorem dX8_text_13 : decode cX8_text 13 = .ok (.putfield 79, 3) := by decide +kernel
theorem dX8_text_16 : decode cX8_text 16 = .ok (.iload_n 1, 1) := by decide +kernel
theorem dX8_text_17 : decode cX8_text 17 = .ok (.ifCond .ge 14, 3) := by decide +kernel
theorem dX8_text_20 : decode cX8_text 20 = .ok (.bipush (-10), 2) := by decide +kernel
theorem dX8_text_22 : decode cX8_text 22 = .ok (.aload_n 0, 1) := by decide +kernel
theorem dX8_text_23 : decode cX8_text 23 = .ok (.getfield 25, 3) := by decide +kernel
theorem dX8_text_26 : decode cX8_text 26 = .ok (.getfield 90, 3) := by decide +kernel
theorem dX8_text_29 : decode cX8_text 29 = .ok (.isub, 1) := by decide +kernel
theorem dX8_text_30 : decode cX8_text 30 = .ok (.ireturn, 1) := by decide +kernel
theorem dX8_text_31 : decode cX8_text 31 = .ok (.aload_n 0, 1) := by decide +kernel
theorem dX8_text_32 : decode cX8_text 32 = .ok (.getfield 12, 3) := by decide +kernel
theorem dX8_text_35 : decode cX8_text 35 = .ok (.aload_n 0, 1) := by decide +kernel
theorem dX8_text_36 : decode cX8_text 36 = .ok (.getfield 25, 3) := by decide +kernel
theorem dX8_text_39 : decode cX8_text 39 = .ok (.getfield 93, 3) := by decide +kernel
theorem dX8_text_42 : decode cX8_text 42 = .ok (.invokevirtual 96, 3) := by decide +kernel
theorem dX8_text_45 : decode cX8_text 45 = .ok (.aload_n 0, 1) := by decide +kernel
theorem dX8_text_46 : decode cX8_text 46 = .ok (.iconst 0, 1) := by decide +kernel
theorem dX8_text_47 : decode cX8_text 47 = .ok (.putfield 75, 3) := by decide +kernel
theorem dX8_text_50 : decode cX8_text 50 = .ok (.aload_n 0, 1) := by decide +kernel
theorem dX8_text_51 : decode cX8_text 51 = .ok (.getfield 50, 3) := by decide +kernel
theorem dX8_text_54 : decode cX8_text 54 = .ok (.invokevirtual 99, 3) := by decide +kernel
theorem dX8_text_57 : decode cX8_text 57 = .ok (.iload_n 1, 1) := by decide +kernel
theorem dX8_text_58 : decode cX8_text 58 = .ok (.ireturn, 1) := by decide +kernel
theorem dX8_fault_0 : decode cX8_fault 0 = .ok (.aload_n 0, 1) := by decide +kernel
theorem dX8_fault_1 : decode cX8_fault 1 = .ok (.getfield 25, 3) := by decide +kernel
theorem dX8_fault_4 : decode cX8_fault 4 = .ok (.getfield 102, 3) := by decide +kernel
theorem dX8_fault_7 : decode cX8_fault 7 = .ok (.ireturn, 1) := by decide +kernel
theorem dX8_yard_0 : decode cX8_yard 0 = .ok (.aload_n 0, 1) := by decide +kernel
theorem dX8_yard_1 : decode cX8_yard 1 = .ok (.getfield 12, 3) := by decide +kernel
theorem dX8_yard_4 : decode cX8_yard 4 = .ok (.iload_n 1, 1) := by decide +kernel
theorem dX8_yard_5 : decode cX8_yard 5 = .ok (.invokevirtual 105, 3) := by decide +kernel
theorem dX8_yard_8 : decode cX8_yard 8 = .ok (.ifCond .ne 5, 3) := by decide +kernel
theorem dX8_yard_11 : decode cX8_yard 11 = .ok (.iconst (-1), 1) := by decide +kernel
theorem dX8_yard_12 : decode cX8_yard 12 = .ok (.ireturn, 1) := by decide +kernel
theorem dX8_yard_13 : decode cX8_yard 13 = .ok (.iload_n 2, 1) := by decide +kernel
theorem dX8_yard_14 : decode cX8_yard 14 = .ok (.ifCond .ne 12, 3) := by decide +kernel
theorem dX8_yard_17 : decode cX8_yard 17 = .ok (.aload_n 0, 1) := by decide +kernel
theorem dX8_yard_18 : decode cX8_yard 18 = .ok (.getfield 12, 3) := by decide +kernel
theorem dX8_yard_21 : decode cX8_yard 21 = .ok (.iload_n 1, 1) := by decide +kernel
theorem dX8_yard_22 : decode cX8_yard 22 = .ok (.invokevirtual 109, 3) := by decide +kernel
theorem dX8_yard_25 : decode cX8_yard 25 = .ok (.ireturn, 1) := by decide +kernel
theorem dX8_yard_26 : decode cX8_yard 26 = .ok (.iload_n 2, 1) := by decide +kernel
theorem dX8_yard_27 : decode cX8_yard 27 = .ok (.iconst 1, 1) := by decide +kernel
theorem dX8_yard_28 : decode cX8_yard 28 = .ok (.if_icmp .ne 20, 3) := by decide +kernel
theorem dX8_yard_31 : decode cX8_yard 31 = .ok (.aload_n 0, 1) := by decide +kernel
theorem dX8_yard_32 : decode cX8_yard 32 = .ok (.getfield 12, 3) := by decide +kernel
theorem dX8_yard_35 : decode cX8_yard 35 = .ok (.iload_n 1, 1) := by decide +kernel
theorem dX8_yard_36 : decode cX8_yard 36 = .ok (.invokevirtual 113, 3) := by decide +kernel
theorem dX8_yard_39 : decode cX8_yard 39 = .ok (.ifCond .eq 7, 3) := by decide +kernel
theorem dX8_yard_42 : decode cX8_yard 42 = .ok (.iconst 1, 1) := by decide +kernel
theorem dX8_yard_43 : decode cX8_yard 43 = .ok (.goto 4, 3) := by decide +kernel
theorem dX8_yard_46 : decode cX8_yard 46 = .ok (.iconst 0, 1) := by decide +kernel
theorem dX8_yard_47 : decode cX8_yard 47 = .ok (.ireturn, 1) := by decide +kernel
theorem dX8_yard_48 : decode cX8_yard 48 = .ok (.iload_n 2, 1) := by decide +kernel
theorem dX8_yard_49 : decode cX8_yard 49 = .ok (.iconst 2, 1) := by decide +kernel
theorem dX8_yard_50 : decode cX8_yard 50 = .ok (.if_icmp .ne 12, 3) := by decide +kernel
theorem dX8_yard_53 : decode cX8_yard 53 = .ok (.aload_n 0, 1) := by decide +kernel
theorem dX8_yard_54 : decode cX8_yard 54 = .ok (.getfield 12, 3) := by decide +kernel
theorem dX8_yard_57 : decode cX8_yard 57 = .ok (.iload_n 1, 1) := by decide +kernel
theorem dX8_yard_58 : decode cX8_yard 58 = .ok (.invokevirtual 116, 3) := by decide +kernel
theorem dX8_yard_61 : decode cX8_yard 61 = .ok (.ireturn, 1) := by decide +kernel
theorem dX8_yard_62 : decode cX8_yard 62 = .ok (.iload_n 2, 1) := by decide +kernel
theorem dX8_yard_63 : decode cX8_yard 63 = .ok (.bipush 10, 2) := by decide +kernel
theorem dX8_yard_65 : decode cX8_yard 65 = .ok (.isub, 1) := by decide +kernel
theorem dX8_yard_66 : decode cX8_yard 66 = .ok (.invokestatic 119, 3) := by decide +kernel
theorem dX8_yard_69 : decode cX8_yard 69 = .ok (.ifCond .eq 42, 3) := by decide +kernel
theorem dX8_yard_72 : decode cX8_yard 72 = .ok (.aload_n 0, 1) := by decide +kernel
theorem dX8_yard_73 : decode cX8_yard 73 = .ok (.getfield 12, 3) := by decide +kernel
theorem dX8_yard_76 : decode cX8_yard 76 = .ok (.iload_n 1, 1) := by decide +kernel
theorem dX8_yard_77 : decode cX8_yard 77 = .ok (.iload_n 2, 1) := by decide +kernel
theorem dX8_yard_78 : decode cX8_yard 78 = .ok (.bipush 10, 2) := by decide +kernel
theorem dX8_yard_80 : decode cX8_yard 80 = .ok (.isub, 1) := by decide +kernel
theorem dX8_yard_81 : decode cX8_yard 81 = .ok (.invokevirtual 122, 3) := by decide +kernel
theorem dX8_yard_84 : decode cX8_yard 84 = .ok (.ifCond .eq 24, 3) := by decide +kernel
theorem dX8_yard_87 : decode cX8_yard 87 = .ok (.aload_n 0, 1) := by decide +kernel
theorem dX8_yard_88 : decode cX8_yard 88 = .ok (.getfield 12, 3) := by decide +kernel
theorem dX8_yard_91 : decode cX8_yard 91 = .ok (.getfield 126, 3) := by decide +kernel
theorem dX8_yard_94 : decode cX8_yard 94 = .ok (.iload_n 1, 1) := by decide +kernel
theorem dX8_yard_95 : decode cX8_yard 95 = .ok (.iload_n 2, 1) := by decide +kernel
theorem dX8_yard_96 : decode cX8_yard 96 = .ok (.bipush 10, 2) := by decide +kernel
theorem dX8_yard_98 : decode cX8_yard 98 = .ok (.isub, 1) := by decide +kernel
theorem dX8_yard_99 : decode cX8_yard 99 = .ok (.invokestatic 130, 3) := by decide +kernel
theorem dX8_yard_102 : decode cX8_yard 102 = .ok (.invokestatic 134, 3) := by decide +kernel
theorem dX8_yard_105 : decode cX8_yard 105 = .ok (.goto 5, 3) := by decide +kernel
theorem dX8_yard_108 : decode cX8_yard 108 = .ok (.bipush (-4), 2) := by decide +kernel
theorem dX8_yard_110 : decode cX8_yard 110 = .ok (.ireturn, 1) := by decide +kernel
theorem dX8_yard_111 : decode cX8_yard 111 = .ok (.iload_n 2, 1) := by decide +kernel
theorem dX8_yard_112 : decode cX8_yard 112 = .ok (.bipush 20, 2) := by decide +kernel
theorem dX8_yard_114 : decode cX8_yard 114 = .ok (.isub, 1) := by decide +kernel
theorem dX8_yard_115 : decode cX8_yard 115 = .ok (.invokestatic 119, 3) := by decide +kernel
theorem dX8_yard_118 : decode cX8_yard 118 = .ok (.ifCond .eq 24, 3) := by decide +kernel
theorem dX8_yard_121 : decode cX8_yard 121 = .ok (.aload_n 0, 1) := by decide +kernel
theorem dX8_yard_122 : decode cX8_yard 122 = .ok (.getfield 12, 3) := by decide +kernel
theorem dX8_yard_125 : decode cX8_yard 125 = .ok (.getfield 138, 3) := by decide +kernel
theorem dX8_yard_128 : decode cX8_yard 128 = .ok (.iload_n 1, 1) := by decide +kernel
theorem dX8_yard_129 : decode cX8_yard 129 = .ok (.iload_n 2, 1) := by decide +kernel
theorem dX8_yard_130 : decode cX8_yard 130 = .ok (.bipush 20, 2) := by decide +kernel
theorem dX8_yard_132 : decode cX8_yard 132 = .ok (.isub, 1) := by decide +kernel
theorem dX8_yard_133 : decode cX8_yard 133 = .ok (.invokestatic 130, 3) := by decide +kernel
theorem dX8_yard_136 : decode cX8_yard 136 = .ok (.invokestatic 134, 3) := by decide +kernel
theorem dX8_yard_139 : decode cX8_yard 139 = .ok (.goto 4, 3) := by decide +kernel
theorem dX8_yard_142 : decode cX8_yard 142 = .ok (.iconst (-1), 1) := by decide +kernel
theorem dX8_yard_143 : decode cX8_yard 143 = .ok (.ireturn, 1) := by decide +kernel
theorem dX8_cart_0 : decode cX8_cart 0 = .ok (.aload_n 0, 1) := by decide +kernel
theorem dX8_cart_1 : decode cX8_cart 1 = .ok (.getfield 12, 3) := by decide +kernel
theorem dX8_cart_4 : decode cX8_cart 4 = .ok (.iload_n 1, 1) := by decide +kernel
theorem dX8_cart_5 : decode cX8_cart 5 = .ok (.invokevirtual 141, 3) := by decide +kernel
theorem dX8_cart_8 : decode cX8_cart 8 = .ok (.ifCond .eq 25, 3) := by decide +kernel
theorem dX8_cart_11 : decode cX8_cart 11 = .ok (.iload_n 2, 1) := by decide +kernel
theorem dX8_cart_12 : decode cX8_cart 12 = .ok (.ifCond .lt 21, 3) := by decide +kernel
theorem dX8_cart_15 : decode cX8_cart 15 = .ok (.iload_n 2, 1) := by decide +kernel
theorem dX8_cart_16 : decode cX8_cart 16 = .ok (.bipush 6, 2) := by decide +kernel
theorem dX8_cart_18 : decode cX8_cart 18 = .ok (.if_icmp .gt 15, 3) := by decide +kernel
theorem dX8_cart_21 : decode cX8_cart 21 = .ok (.aload_n 0, 1) := by decide +kernel
theorem dX8_cart_22 : decode cX8_cart 22 = .ok (.getfield 12, 3) := by decide +kernel
theorem dX8_cart_25 : decode cX8_cart 25 = .ok (.iload_n 1, 1) := by decide +kernel
theorem dX8_cart_26 : decode cX8_cart 26 = .ok (.iload_n 2, 1) := by decide +kernel
theorem dX8_cart_27 : decode cX8_cart 27 = .ok (.invokevirtual 144, 3) := by decide +kernel
theorem dX8_cart_30 : decode cX8_cart 30 = .ok (.goto 4, 3) := by decide +kernel
theorem dX8_cart_33 : decode cX8_cart 33 = .ok (.iconst (-1), 1) := by decide +kernel
theorem dX8_cart_34 : decode cX8_cart 34 = .ok (.ireturn, 1) := by decide +kernel
theorem dX8_frost_0 : decode cX8_frost 0 = .ok (.iload_n 1, 1) := by decide +kernel
theorem dX8_frost_1 : decode cX8_frost 1 = .ok (.invokestatic 147, 3) := by decide +kernel
theorem dX8_frost_4 : decode cX8_frost 4 = .ok (.ifCond .ne 5, 3) := by decide +kernel
theorem dX8_frost_7 : decode cX8_frost 7 = .ok (.iconst (-1), 1) := by decide +kernel
theorem dX8_frost_8 : decode cX8_frost 8 = .ok (.ireturn, 1) := by decide +kernel
theorem dX8_frost_9 : decode cX8_frost 9 = .ok (.aload_n 0, 1) := by decide +kernel
theorem dX8_frost_10 : decode cX8_frost 10 = .ok (.getfield 12, 3) := by decide +kernel
theorem dX8_frost_13 : decode cX8_frost 13 = .ok (.iload_n 1, 1) := by decide +kernel
theorem dX8_frost_14 : decode cX8_frost 14 = .ok (.invokevirtual 150, 3) := by decide +kernel
theorem dX8_frost_17 : decode cX8_frost 17 = .ok (.ifCond .eq 7, 3) := by decide +kernel
theorem dX8_frost_20 : decode cX8_frost 20 = .ok (.iconst 1, 1) := by decide +kernel
theorem dX8_frost_21 : decode cX8_frost 21 = .ok (.goto 4, 3) := by decide +kernel
theorem dX8_frost_24 : decode cX8_frost 24 = .ok (.iconst 0, 1) := by decide +kernel
theorem dX8_frost_25 : decode cX8_frost 25 = .ok (.ireturn, 1) := by decide +kernel
theorem dX8_dig_0 : decode cX8_dig 0 = .ok (.aload_n 0, 1) := by decide +kernel
theorem dX8_dig_1 : decode cX8_dig 1 = .ok (.getfield 12, 3) := by decide +kernel
theorem dX8_dig_4 : decode cX8_dig 4 = .ok (.iload_n 1, 1) := by decide +kernel
theorem dX8_dig_5 : decode cX8_dig 5 = .ok (.invokevirtual 105, 3) := by decide +kernel
theorem dX8_dig_8 : decode cX8_dig 8 = .ok (.ifCond .eq 20, 3) := by decide +kernel
theorem dX8_dig_11 : decode cX8_dig 11 = .ok (.iload_n 2, 1) := by decide +kernel
theorem dX8_dig_12 : decode cX8_dig 12 = .ok (.invokestatic 119, 3) := by decide +kernel
theorem dX8_dig_15 : decode cX8_dig 15 = .ok (.ifCond .eq 13, 3) := by decide +kernel
theorem dX8_dig_18 : decode cX8_dig 18 = .ok (.iload_n 3, 1) := by decide +kernel
theorem dX8_dig_19 : decode cX8_dig 19 = .ok (.ifCond .lt 9, 3) := by decide +kernel
theorem dX8_dig_22 : decode cX8_dig 22 = .ok (.iload_n 3, 1) := by decide +kernel
theorem dX8_dig_23 : decode cX8_dig 23 = .ok (.bipush 99, 2) := by decide +kernel
theorem dX8_dig_25 : decode cX8_dig 25 = .ok (.if_icmp .le 5, 3) := by decide +kernel
theorem dX8_dig_28 : decode cX8_dig 28 = .ok (.iconst (-1), 1) := by decide +kernel
theorem dX8_dig_29 : decode cX8_dig 29 = .ok (.ireturn, 1) := by decide +kernel
theorem dX8_dig_30 : decode cX8_dig 30 = .ok (.aload_n 0, 1) := by decide +kernel
theorem dX8_dig_31 : decode cX8_dig 31 = .ok (.getfield 12, 3) := by decide +kernel
theorem dX8_dig_34 : decode cX8_dig 34 = .ok (.iload_n 1, 1) := by decide +kernel
theorem dX8_dig_35 : decode cX8_dig 35 = .ok (.iload_n 2, 1) := by decide +kernel
theorem dX8_dig_36 : decode cX8_dig 36 = .ok (.invokevirtual 122, 3) := by decide +kernel
theorem dX8_dig_39 : decode cX8_dig 39 = .ok (.ifCond .ne 6, 3) := by decide +kernel
theorem dX8_dig_42 : decode cX8_dig 42 = .ok (.bipush (-2), 2) := by decide +kernel
theorem dX8_dig_44 : decode cX8_dig 44 = .ok (.ireturn, 1) := by decide +kernel
theorem dX8_dig_45 : decode cX8_dig 45 = .ok (.aload_n 0, 1) := by decide +kernel
theorem dX8_dig_46 : decode cX8_dig 46 = .ok (.getfield 50, 3) := by decide +kernel
theorem dX8_dig_49 : decode cX8_dig 49 = .ok (.invokevirtual 99, 3) := by decide +kernel
theorem dX8_dig_52 : decode cX8_dig 52 = .ok (.aload_n 0, 1) := by decide +kernel
theorem dX8_dig_53 : decode cX8_dig 53 = .ok (.getfield 12, 3) := by decide +kernel
theorem dX8_dig_56 : decode cX8_dig 56 = .ok (.getfield 126, 3) := by decide +kernel
theorem dX8_dig_59 : decode cX8_dig 59 = .ok (.iload_n 1, 1) := by decide +kernel
theorem dX8_dig_60 : decode cX8_dig 60 = .ok (.iload_n 2, 1) := by decide +kernel
theorem dX8_dig_61 : decode cX8_dig 61 = .ok (.invokestatic 130, 3) := by decide +kernel
theorem dX8_dig_64 : decode cX8_dig 64 = .ok (.iload_n 3, 1) := by decide +kernel
theorem dX8_dig_65 : decode cX8_dig 65 = .ok (.invokestatic 153, 3) := by decide +kernel
theorem dX8_dig_68 : decode cX8_dig 68 = .ok (.ireturn, 1) := by decide +kernel
theorem dX8_fill_0 : decode cX8_fill 0 = .ok (.aload_n 0, 1) := by decide +kernel
theorem dX8_fill_1 : decode cX8_fill 1 = .ok (.getfield 12, 3) := by decide +kernel
theorem dX8_fill_4 : decode cX8_fill 4 = .ok (.iload_n 1, 1) := by decide +kernel
theorem dX8_fill_5 : decode cX8_fill 5 = .ok (.invokevirtual 105, 3) := by decide +kernel
theorem dX8_fill_8 : decode cX8_fill 8 = .ok (.ifCond .ne 5, 3) := by decide +kernel
theorem dX8_fill_11 : decode cX8_fill 11 = .ok (.iconst (-1), 1) := by decide +kernel
theorem dX8_fill_12 : decode cX8_fill 12 = .ok (.ireturn, 1) := by decide +kernel
theorem dX8_fill_13 : decode cX8_fill 13 = .ok (.aload_n 0, 1) := by decide +kernel
theorem dX8_fill_14 : decode cX8_fill 14 = .ok (.getfield 50, 3) := by decide +kernel
theorem dX8_fill_17 : decode cX8_fill 17 = .ok (.invokevirtual 99, 3) := by decide +kernel
theorem dX8_fill_20 : decode cX8_fill 20 = .ok (.iconst 0, 1) := by decide +kernel
theorem dX8_fill_21 : decode cX8_fill 21 = .ok (.istore_n 2, 1) := by decide +kernel
theorem dX8_fill_22 : decode cX8_fill 22 = .ok (.iconst 0, 1) := by decide +kernel
theorem dX8_fill_23 : decode cX8_fill 23 = .ok (.istore_n 3, 1) := by decide +kernel
theorem dX8_fill_24 : decode cX8_fill 24 = .ok (.iload_n 3, 1) := by decide +kernel
theorem dX8_fill_25 : decode cX8_fill 25 = .ok (.iconst 3, 1) := by decide +kernel
theorem dX8_fill_26 : decode cX8_fill 26 = .ok (.if_icmp .ge 30, 3) := by decide +kernel
theorem dX8_fill_29 : decode cX8_fill 29 = .ok (.iload_n 2, 1) := by decide +kernel
theorem dX8_fill_30 : decode cX8_fill 30 = .ok (.aload_n 0, 1) := by decide +kernel
theorem dX8_fill_31 : decode cX8_fill 31 = .ok (.getfield 12, 3) := by decide +kernel
theorem dX8_fill_34 : decode cX8_fill 34 = .ok (.getfield 126, 3) := by decide +kernel
theorem dX8_fill_37 : decode cX8_fill 37 = .ok (.iload_n 1, 1) := by decide +kernel
theorem dX8_fill_38 : decode cX8_fill 38 = .ok (.iload_n 3, 1) := by decide +kernel
theorem dX8_fill_39 : decode cX8_fill 39 = .ok (.invokestatic 130, 3) := by decide +kernel
theorem dX8_fill_42 : decode cX8_fill 42 = .ok (.iconst 0, 1) := by decide +kernel
theorem dX8_fill_43 : decode cX8_fill 43 = .ok (.invokestatic 153, 3) := by decide +kernel
theorem dX8_fill_46 : decode cX8_fill 46 = .ok (.invokestatic 157, 3) := by decide +kernel
theorem dX8_fill_49 : decode cX8_fill 49 = .ok (.istore_n 2, 1) := by decide +kernel
theorem dX8_fill_50 : decode cX8_fill 50 = .ok (.iinc 3 1, 3) := by decide +kernel
theorem dX8_fill_53 : decode cX8_fill 53 = .ok (.goto (-29), 3) := by decide +kernel
theorem dX8_fill_56 : decode cX8_fill 56 = .ok (.iload_n 2, 1) := by decide +kernel
theorem dX8_fill_57 : decode cX8_fill 57 = .ok (.ireturn, 1) := by decide +kernel
theorem dX8_shoe_0 : decode cX8_shoe 0 = .ok (.aload_n 0, 1) := by decide +kernel
theorem dX8_shoe_1 : decode cX8_shoe 1 = .ok (.getfield 12, 3) := by decide +kernel
theorem dX8_shoe_4 : decode cX8_shoe 4 = .ok (.iload_n 1, 1) := by decide +kernel
theorem dX8_shoe_5 : decode cX8_shoe 5 = .ok (.invokevirtual 141, 3) := by decide +kernel
theorem dX8_shoe_8 : decode cX8_shoe 8 = .ok (.ifCond .eq 10, 3) := by decide +kernel
theorem dX8_shoe_11 : decode cX8_shoe 11 = .ok (.iload_n 2, 1) := by decide +kernel
theorem dX8_shoe_12 : decode cX8_shoe 12 = .ok (.invokestatic 119, 3) := by decide +kernel
theorem dX8_shoe_15 : decode cX8_shoe 15 = .ok (.ifCond .ne 5, 3) := by decide +kernel
theorem dX8_shoe_18 : decode cX8_shoe 18 = .ok (.iconst (-1), 1) := by decide +kernel
theorem dX8_shoe_19 : decode cX8_shoe 19 = .ok (.ireturn, 1) := by decide +kernel
theorem dX8_shoe_20 : decode cX8_shoe 20 = .ok (.aload_n 0, 1) := by decide +kernel
theorem dX8_shoe_21 : decode cX8_shoe 21 = .ok (.getfield 12, 3) := by decide +kernel
theorem dX8_shoe_24 : decode cX8_shoe 24 = .ok (.iload_n 1, 1) := by decide +kernel
theorem dX8_shoe_25 : decode cX8_shoe 25 = .ok (.iconst 0, 1) := by decide +kernel
theorem dX8_shoe_26 : decode cX8_shoe 26 = .ok (.invokevirtual 144, 3) := by decide +kernel
theorem dX8_shoe_29 : decode cX8_shoe 29 = .ok (.iconst 3, 1) := by decide +kernel
theorem dX8_shoe_30 : decode cX8_shoe 30 = .ok (.if_icmp .ne 6, 3) := by decide +kernel
theorem dX8_shoe_33 : decode cX8_shoe 33 = .ok (.bipush (-2), 2) := by decide +kernel
theorem dX8_shoe_35 : decode cX8_shoe 35 = .ok (.ireturn, 1) := by decide +kernel
theorem dX8_shoe_36 : decode cX8_shoe 36 = .ok (.aload_n 0, 1) := by decide +kernel
theorem dX8_shoe_37 : decode cX8_shoe 37 = .ok (.getfield 50, 3) := by decide +kernel
theorem dX8_shoe_40 : decode cX8_shoe 40 = .ok (.invokevirtual 99, 3) := by decide +kernel
theorem dX8_shoe_43 : decode cX8_shoe 43 = .ok (.aload_n 0, 1) := by decide +kernel
theorem dX8_shoe_44 : decode cX8_shoe 44 = .ok (.getfield 12, 3) := by decide +kernel
theorem dX8_shoe_47 : decode cX8_shoe 47 = .ok (.iload_n 1, 1) := by decide +kernel
theorem dX8_shoe_48 : decode cX8_shoe 48 = .ok (.iconst 1, 1) := by decide +kernel
theorem dX8_shoe_49 : decode cX8_shoe 49 = .ok (.iload_n 2, 1) := by decide +kernel
theorem dX8_shoe_50 : decode cX8_shoe 50 = .ok (.invokevirtual 162, 3) := by decide +kernel
theorem dX8_shoe_53 : decode cX8_shoe 53 = .ok (.ireturn, 1) := by decide +kernel
theorem dX8_load_0 : decode cX8_load 0 = .ok (.aload_n 0, 1) := by decide +kernel
theorem dX8_load_1 : decode cX8_load 1 = .ok (.getfield 12, 3) := by decide +kernel
theorem dX8_load_4 : decode cX8_load 4 = .ok (.iload_n 1, 1) := by decide +kernel
theorem dX8_load_5 : decode cX8_load 5 = .ok (.invokevirtual 141, 3) := by decide +kernel
theorem dX8_load_8 : decode cX8_load 8 = .ok (.ifCond .eq 25, 3) := by decide +kernel
theorem dX8_load_11 : decode cX8_load 11 = .ok (.iload_n 2, 1) := by decide +kernel
theorem dX8_load_12 : decode cX8_load 12 = .ok (.getstatic 166, 3) := by decide +kernel
theorem dX8_load_15 : decode cX8_load 15 = .ok (.iconst 2, 1) := by decide +kernel
theorem dX8_load_16 : decode cX8_load 16 = .ok (.invokestatic 134, 3) := by decide +kernel
theorem dX8_load_19 : decode cX8_load 19 = .ok (.if_icmp .lt 14, 3) := by decide +kernel
theorem dX8_load_22 : decode cX8_load 22 = .ok (.iload_n 2, 1) := by decide +kernel
theorem dX8_load_23 : decode cX8_load 23 = .ok (.getstatic 169, 3) := by decide +kernel
theorem dX8_load_26 : decode cX8_load 26 = .ok (.iconst 2, 1) := by decide +kernel
theorem dX8_load_27 : decode cX8_load 27 = .ok (.invokestatic 134, 3) := by decide +kernel
theorem dX8_load_30 : decode cX8_load 30 = .ok (.if_icmp .le 5, 3) := by decide +kernel
theorem dX8_load_33 : decode cX8_load 33 = .ok (.iconst (-1), 1) := by decide +kernel
theorem dX8_load_34 : decode cX8_load 34 = .ok (.ireturn, 1) := by decide +kernel
theorem dX8_load_35 : decode cX8_load 35 = .ok (.aload_n 0, 1) := by decide +kernel
theorem dX8_load_36 : decode cX8_load 36 = .ok (.getfield 50, 3) := by decide +kernel
theorem dX8_load_39 : decode cX8_load 39 = .ok (.invokevirtual 99, 3) := by decide +kernel
theorem dX8_load_42 : decode cX8_load 42 = .ok (.aload_n 0, 1) := by decide +kernel
theorem dX8_load_43 : decode cX8_load 43 = .ok (.getfield 12, 3) := by decide +kernel
theorem dX8_load_46 : decode cX8_load 46 = .ok (.iload_n 1, 1) := by decide +kernel
theorem dX8_load_47 : decode cX8_load 47 = .ok (.iconst 2, 1) := by decide +kernel
theorem dX8_load_48 : decode cX8_load 48 = .ok (.iload_n 2, 1) := by decide +kernel
theorem dX8_load_49 : decode cX8_load 49 = .ok (.invokevirtual 162, 3) := by decide +kernel
theorem dX8_load_52 : decode cX8_load 52 = .ok (.ireturn, 1) := by decide +kernel
theorem dX8_freeze_0 : decode cX8_freeze 0 = .ok (.iload_n 1, 1) := by decide +kernel
theorem dX8_freeze_1 : decode cX8_freeze 1 = .ok (.invokestatic 147, 3) := by decide +kernel
theorem dX8_freeze_4 : decode cX8_freeze 4 = .ok (.ifCond .ne 5, 3) := by decide +kernel
theorem dX8_freeze_7 : decode cX8_freeze 7 = .ok (.iconst (-1), 1) := by decide +kernel
theorem dX8_freeze_8 : decode cX8_freeze 8 = .ok (.ireturn, 1) := by decide +kernel
theorem dX8_freeze_9 : decode cX8_freeze 9 = .ok (.aload_n 0, 1) := by decide +kernel
theorem dX8_freeze_10 : decode cX8_freeze 10 = .ok (.getfield 12, 3) := by decide +kernel
theorem dX8_freeze_13 : decode cX8_freeze 13 = .ok (.iload_n 1, 1) := by decide +kernel
theorem dX8_freeze_14 : decode cX8_freeze 14 = .ok (.invokevirtual 150, 3) := by decide +kernel
theorem dX8_freeze_17 : decode cX8_freeze 17 = .ok (.ifCond .eq 7, 3) := by decide +kernel
theorem dX8_freeze_20 : decode cX8_freeze 20 = .ok (.iconst 1, 1) := by decide +kernel
theorem dX8_freeze_21 : decode cX8_freeze 21 = .ok (.goto 4, 3) := by decide +kernel
theorem dX8_freeze_24 : decode cX8_freeze 24 = .ok (.iconst 0, 1) := by decide +kernel
theorem dX8_freeze_25 : decode cX8_freeze 25 = .ok (.istore_n 3, 1) := by decide +kernel
theorem dX8_freeze_26 : decode cX8_freeze 26 = .ok (.aload_n 0, 1) := by decide +kernel
theorem dX8_freeze_27 : decode cX8_freeze 27 = .ok (.getfield 12, 3) := by decide +kernel
theorem dX8_freeze_30 : decode cX8_freeze 30 = .ok (.iload_n 1, 1) := by decide +kernel
theorem dX8_freeze_31 : decode cX8_freeze 31 = .ok (.iload_n 2, 1) := by decide +kernel
theorem dX8_freeze_32 : decode cX8_freeze 32 = .ok (.invokevirtual 172, 3) := by decide +kernel
theorem dX8_freeze_35 : decode cX8_freeze 35 = .ok (.aload_n 0, 1) := by decide +kernel
theorem dX8_freeze_36 : decode cX8_freeze 36 = .ok (.getfield 50, 3) := by decide +kernel
theorem dX8_freeze_39 : decode cX8_freeze 39 = .ok (.invokevirtual 99, 3) := by decide +kernel
theorem dX8_freeze_42 : decode cX8_freeze 42 = .ok (.iload_n 3, 1) := by decide +kernel
theorem dX8_freeze_43 : decode cX8_freeze 43 = .ok (.ireturn, 1) := by decide +kernel
theorem dX8_where_0 : decode cX8_where 0 = .ok (.aload_n 0, 1) := by decide +kernel
theorem dX8_where_1 : decode cX8_where 1 = .ok (.getfield 12, 3) := by decide +kernel
theorem dX8_where_4 : decode cX8_where 4 = .ok (.iload_n 1, 1) := by decide +kernel
theorem dX8_where_5 : decode cX8_where 5 = .ok (.invokevirtual 141, 3) := by decide +kernel
theorem dX8_where_8 : decode cX8_where 8 = .ok (.ifCond .eq 10, 3) := by decide +kernel
theorem dX8_where_11 : decode cX8_where 11 = .ok (.iload_n 2, 1) := by decide +kernel
theorem dX8_where_12 : decode cX8_where 12 = .ok (.invokestatic 176, 3) := by decide +kernel
theorem dX8_where_15 : decode cX8_where 15 = .ok (.ifCond .ne 5, 3) := by decide +kernel
theorem dX8_where_18 : decode cX8_where 18 = .ok (.iconst (-1), 1) := by decide +kernel
theorem dX8_where_19 : decode cX8_where 19 = .ok (.ireturn, 1) := by decide +kernel
theorem dX8_where_20 : decode cX8_where 20 = .ok (.aload_n 0, 1) := by decide +kernel
theorem dX8_where_21 : decode cX8_where 21 = .ok (.iload_n 2, 1) := by decide +kernel
theorem dX8_where_22 : decode cX8_where 22 = .ok (.invokevirtual 179, 3) := by decide +kernel
theorem dX8_where_25 : decode cX8_where 25 = .ok (.aload_n 0, 1) := by decide +kernel
theorem dX8_where_26 : decode cX8_where 26 = .ok (.getfield 34, 3) := by decide +kernel
theorem dX8_where_29 : decode cX8_where 29 = .ok (.getfield 183, 3) := by decide +kernel
theorem dX8_where_32 : decode cX8_where 32 = .ok (.iload_n 1, 1) := by decide +kernel
theorem dX8_where_33 : decode cX8_where 33 = .ok (.invokestatic 134, 3) := by decide +kernel
theorem dX8_where_36 : decode cX8_where 36 = .ok (.ireturn, 1) := by decide +kernel
theorem dX8_depth_0 : decode cX8_depth 0 = .ok (.aload_n 0, 1) := by decide +kernel
theorem dX8_depth_1 : decode cX8_depth 1 = .ok (.getfield 12, 3) := by decide +kernel
theorem dX8_depth_4 : decode cX8_depth 4 = .ok (.iload_n 1, 1) := by decide +kernel
theorem dX8_depth_5 : decode cX8_depth 5 = .ok (.invokevirtual 105, 3) := by decide +kernel
theorem dX8_depth_8 : decode cX8_depth 8 = .ok (.ifCond .eq 17, 3) := by decide +kernel
theorem dX8_depth_11 : decode cX8_depth 11 = .ok (.iload_n 2, 1) := by decide +kernel
theorem dX8_depth_12 : decode cX8_depth 12 = .ok (.invokestatic 119, 3) := by decide +kernel
theorem dX8_depth_15 : decode cX8_depth 15 = .ok (.ifCond .eq 10, 3) := by decide +kernel
theorem dX8_depth_18 : decode cX8_depth 18 = .ok (.iload_n 3, 1) := by decide +kernel
theorem dX8_depth_19 : decode cX8_depth 19 = .ok (.invokestatic 176, 3) := by decide +kernel
theorem dX8_depth_22 : decode cX8_depth 22 = .ok (.ifCond .ne 5, 3) := by decide +kernel
theorem dX8_depth_25 : decode cX8_depth 25 = .ok (.iconst (-1), 1) := by decide +kernel
theorem dX8_depth_26 : decode cX8_depth 26 = .ok (.ireturn, 1) := by decide +kernel
theorem dX8_depth_27 : decode cX8_depth 27 = .ok (.aload_n 0, 1) := by decide +kernel
theorem dX8_depth_28 : decode cX8_depth 28 = .ok (.getfield 12, 3) := by decide +kernel
theorem dX8_depth_31 : decode cX8_depth 31 = .ok (.iload_n 1, 1) := by decide +kernel
theorem dX8_depth_32 : decode cX8_depth 32 = .ok (.iload_n 2, 1) := by decide +kernel
theorem dX8_depth_33 : decode cX8_depth 33 = .ok (.invokevirtual 122, 3) := by decide +kernel
theorem dX8_depth_36 : decode cX8_depth 36 = .ok (.ifCond .ne 6, 3) := by decide +kernel
theorem dX8_depth_39 : decode cX8_depth 39 = .ok (.bipush (-4), 2) := by decide +kernel
theorem dX8_depth_41 : decode cX8_depth 41 = .ok (.ireturn, 1) := by decide +kernel
theorem dX8_depth_42 : decode cX8_depth 42 = .ok (.aload_n 0, 1) := by decide +kernel
theorem dX8_depth_43 : decode cX8_depth 43 = .ok (.iload_n 3, 1) := by decide +kernel
theorem dX8_depth_44 : decode cX8_depth 44 = .ok (.invokevirtual 179, 3) := by decide +kernel
theorem dX8_depth_47 : decode cX8_depth 47 = .ok (.aload_n 0, 1) := by decide +kernel
theorem dX8_depth_48 : decode cX8_depth 48 = .ok (.getfield 34, 3) := by decide +kernel
theorem dX8_depth_51 : decode cX8_depth 51 = .ok (.iload_n 1, 1) := by decide +kernel
theorem dX8_depth_52 : decode cX8_depth 52 = .ok (.iload_n 2, 1) := by decide +kernel
theorem dX8_depth_53 : decode cX8_depth 53 = .ok (.invokestatic 130, 3) := by decide +kernel
theorem dX8_depth_56 : decode cX8_depth 56 = .ok (.invokevirtual 186, 3) := by decide +kernel
theorem dX8_depth_59 : decode cX8_depth 59 = .ok (.ireturn, 1) := by decide +kernel
theorem dX8_paid_0 : decode cX8_paid 0 = .ok (.aload_n 0, 1) := by decide +kernel
theorem dX8_paid_1 : decode cX8_paid 1 = .ok (.getfield 12, 3) := by decide +kernel
theorem dX8_paid_4 : decode cX8_paid 4 = .ok (.iload_n 1, 1) := by decide +kernel
theorem dX8_paid_5 : decode cX8_paid 5 = .ok (.invokevirtual 141, 3) := by decide +kernel
theorem dX8_paid_8 : decode cX8_paid 8 = .ok (.ifCond .eq 10, 3) := by decide +kernel
theorem dX8_paid_11 : decode cX8_paid 11 = .ok (.iload_n 2, 1) := by decide +kernel
theorem dX8_paid_12 : decode cX8_paid 12 = .ok (.invokestatic 176, 3) := by decide +kernel
theorem dX8_paid_15 : decode cX8_paid 15 = .ok (.ifCond .ne 5, 3) := by decide +kernel
theorem dX8_paid_18 : decode cX8_paid 18 = .ok (.iconst (-1), 1) := by decide +kernel
theorem dX8_paid_19 : decode cX8_paid 19 = .ok (.ireturn, 1) := by decide +kernel
theorem dX8_paid_20 : decode cX8_paid 20 = .ok (.aload_n 0, 1) := by decide +kernel
theorem dX8_paid_21 : decode cX8_paid 21 = .ok (.iload_n 2, 1) := by decide +kernel
theorem dX8_paid_22 : decode cX8_paid 22 = .ok (.invokevirtual 179, 3) := by decide +kernel
theorem dX8_paid_25 : decode cX8_paid 25 = .ok (.aload_n 0, 1) := by decide +kernel
theorem dX8_paid_26 : decode cX8_paid 26 = .ok (.getfield 34, 3) := by decide +kernel
theorem dX8_paid_29 : decode cX8_paid 29 = .ok (.getfield 189, 3) := by decide +kernel
theorem dX8_paid_32 : decode cX8_paid 32 = .ok (.iload_n 1, 1) := by decide +kernel
theorem dX8_paid_33 : decode cX8_paid 33 = .ok (.invokestatic 134, 3) := by decide +kernel
theorem dX8_paid_36 : decode cX8_paid 36 = .ok (.ireturn, 1) := by decide +kernel
theorem dX8_waited_0 : decode cX8_waited 0 = .ok (.aload_n 0, 1) := by decide +kernel
theorem dX8_waited_1 : decode cX8_waited 1 = .ok (.getfield 12, 3) := by decide +kernel
theorem dX8_waited_4 : decode cX8_waited 4 = .ok (.iload_n 1, 1) := by decide +kernel
theorem dX8_waited_5 : decode cX8_waited 5 = .ok (.invokevirtual 141, 3) := by decide +kernel
theorem dX8_waited_8 : decode cX8_waited 8 = .ok (.ifCond .eq 10, 3) := by decide +kernel
theorem dX8_waited_11 : decode cX8_waited 11 = .ok (.iload_n 2, 1) := by decide +kernel
theorem dX8_waited_12 : decode cX8_waited 12 = .ok (.invokestatic 176, 3) := by decide +kernel
theorem dX8_waited_15 : decode cX8_waited 15 = .ok (.ifCond .ne 5, 3) := by decide +kernel
theorem dX8_waited_18 : decode cX8_waited 18 = .ok (.iconst (-1), 1) := by decide +kernel
theorem dX8_waited_19 : decode cX8_waited 19 = .ok (.ireturn, 1) := by decide +kernel
theorem dX8_waited_20 : decode cX8_waited 20 = .ok (.aload_n 0, 1) := by decide +kernel
theorem dX8_waited_21 : decode cX8_waited 21 = .ok (.iload_n 2, 1) := by decide +kernel
theorem dX8_waited_22 : decode cX8_waited 22 = .ok (.invokevirtual 179, 3) := by decide +kernel
theorem dX8_waited_25 : decode cX8_waited 25 = .ok (.aload_n 0, 1) := by decide +kernel
theorem dX8_waited_26 : decode cX8_waited 26 = .ok (.getfield 34, 3) := by decide +kernel
theorem dX8_waited_29 : decode cX8_waited 29 = .ok (.getfield 192, 3) := by decide +kernel
theorem dX8_waited_32 : decode cX8_waited 32 = .ok (.iload_n 1, 1) := by decide +kernel
theorem dX8_waited_33 : decode cX8_waited 33 = .ok (.invokestatic 134, 3) := by decide +kernel
theorem dX8_waited_36 : decode cX8_waited 36 = .ok (.ireturn, 1) := by decide +kernel
theorem dX8_done_0 : decode cX8_done 0 = .ok (.aload_n 0, 1) := by decide +kernel
theorem dX8_done_1 : decode cX8_done 1 = .ok (.getfield 12, 3) := by decide +kernel
theorem dX8_done_4 : decode cX8_done 4 = .ok (.iload_n 1, 1) := by decide +kernel
theorem dX8_done_5 : decode cX8_done 5 = .ok (.invokevirtual 141, 3) := by decide +kernel
theorem dX8_done_8 : decode cX8_done 8 = .ok (.ifCond .ne 5, 3) := by decide +kernel
theorem dX8_done_11 : decode cX8_done 11 = .ok (.iconst (-1), 1) := by decide +kernel
theorem dX8_done_12 : decode cX8_done 12 = .ok (.ireturn, 1) := by decide +kernel
theorem dX8_done_13 : decode cX8_done 13 = .ok (.aload_n 0, 1) := by decide +kernel
theorem dX8_done_14 : decode cX8_done 14 = .ok (.bipush 60, 2) := by decide +kernel
theorem dX8_done_16 : decode cX8_done 16 = .ok (.invokevirtual 179, 3) := by decide +kernel
theorem dX8_done_19 : decode cX8_done 19 = .ok (.aload_n 0, 1) := by decide +kernel
theorem dX8_done_20 : decode cX8_done 20 = .ok (.getfield 34, 3) := by decide +kernel
theorem dX8_done_23 : decode cX8_done 23 = .ok (.iload_n 1, 1) := by decide +kernel
theorem dX8_done_24 : decode cX8_done 24 = .ok (.invokevirtual 195, 3) := by decide +kernel
theorem dX8_done_27 : decode cX8_done 27 = .ok (.ifCond .eq 17, 3) := by decide +kernel
theorem dX8_done_30 : decode cX8_done 30 = .ok (.aload_n 0, 1) := by decide +kernel
theorem dX8_done_31 : decode cX8_done 31 = .ok (.getfield 34, 3) := by decide +kernel
theorem dX8_done_34 : decode cX8_done 34 = .ok (.getfield 198, 3) := by decide +kernel
theorem dX8_done_37 : decode cX8_done 37 = .ok (.iload_n 1, 1) := by decide +kernel
theorem dX8_done_38 : decode cX8_done 38 = .ok (.invokestatic 134, 3) := by decide +kernel
theorem dX8_done_41 : decode cX8_done 41 = .ok (.goto 5, 3) := by decide +kernel
theorem dX8_done_44 : decode cX8_done 44 = .ok (.bipush (-4), 2) := by decide +kernel
theorem dX8_done_46 : decode cX8_done 46 = .ok (.ireturn, 1) := by decide +kernel
theorem dX8_jam_0 : decode cX8_jam 0 = .ok (.iload_n 1, 1) := by decide +kernel
theorem dX8_jam_1 : decode cX8_jam 1 = .ok (.invokestatic 147, 3) := by decide +kernel
theorem dX8_jam_4 : decode cX8_jam 4 = .ok (.ifCond .ne 5, 3) := by decide +kernel
theorem dX8_jam_7 : decode cX8_jam 7 = .ok (.iconst (-1), 1) := by decide +kernel
theorem dX8_jam_8 : decode cX8_jam 8 = .ok (.ireturn, 1) := by decide +kernel
theorem dX8_jam_9 : decode cX8_jam 9 = .ok (.aload_n 0, 1) := by decide +kernel
theorem dX8_jam_10 : decode cX8_jam 10 = .ok (.iload_n 1, 1) := by decide +kernel
theorem dX8_jam_11 : decode cX8_jam 11 = .ok (.invokevirtual 179, 3) := by decide +kernel
theorem dX8_jam_14 : decode cX8_jam 14 = .ok (.aload_n 0, 1) := by decide +kernel
theorem dX8_jam_15 : decode cX8_jam 15 = .ok (.getfield 34, 3) := by decide +kernel
theorem dX8_jam_18 : decode cX8_jam 18 = .ok (.getfield 201, 3) := by decide +kernel
theorem dX8_jam_21 : decode cX8_jam 21 = .ok (.ireturn, 1) := by decide +kernel
theorem dX8_deepest_0 : decode cX8_deepest 0 = .ok (.iload_n 1, 1) := by decide +kernel
theorem dX8_deepest_1 : decode cX8_deepest 1 = .ok (.invokestatic 176, 3) := by decide +kernel
theorem dX8_deepest_4 : decode cX8_deepest 4 = .ok (.ifCond .eq 12, 3) := by decide +kernel
theorem dX8_deepest_7 : decode cX8_deepest 7 = .ok (.iload_n 2, 1) := by decide +kernel
theorem dX8_deepest_8 : decode cX8_deepest 8 = .ok (.ifCond .lt 8, 3) := by decide +kernel
theorem dX8_deepest_11 : decode cX8_deepest 11 = .ok (.iload_n 2, 1) := by decide +kernel
theorem dX8_deepest_12 : decode cX8_deepest 12 = .ok (.iconst 1, 1) := by decide +kernel
theorem dX8_deepest_13 : decode cX8_deepest 13 = .ok (.if_icmp .le 5, 3) := by decide +kernel
theorem dX8_deepest_16 : decode cX8_deepest 16 = .ok (.iconst (-1), 1) := by decide +kernel
theorem dX8_deepest_17 : decode cX8_deepest 17 = .ok (.ireturn, 1) := by decide +kernel
theorem dX8_deepest_18 : decode cX8_deepest 18 = .ok (.aload_n 0, 1) := by decide +kernel
theorem dX8_deepest_19 : decode cX8_deepest 19 = .ok (.iload_n 1, 1) := by decide +kernel
theorem dX8_deepest_20 : decode cX8_deepest 20 = .ok (.invokevirtual 179, 3) := by decide +kernel
theorem dX8_deepest_23 : decode cX8_deepest 23 = .ok (.bipush (-4), 2) := by decide +kernel
theorem dX8_deepest_25 : decode cX8_deepest 25 = .ok (.istore_n 3, 1) := by decide +kernel
theorem dX8_deepest_26 : decode cX8_deepest 26 = .ok (.bipush (-4), 2) := by decide +kernel
theorem dX8_deepest_28 : decode cX8_deepest 28 = .ok (.istore 4, 2) := by decide +kernel
theorem dX8_deepest_30 : decode cX8_deepest 30 = .ok (.iconst 0, 1) := by decide +kernel
theorem dX8_deepest_31 : decode cX8_deepest 31 = .ok (.istore 5, 2) := by decide +kernel
theorem dX8_deepest_33 : decode cX8_deepest 33 = .ok (.iload 5, 2) := by decide +kernel
theorem dX8_deepest_35 : decode cX8_deepest 35 = .ok (.bipush 63, 2) := by decide +kernel
theorem dX8_deepest_37 : decode cX8_deepest 37 = .ok (.if_icmp .ge 54, 3) := by decide +kernel
theorem dX8_deepest_40 : decode cX8_deepest 40 = .ok (.aload_n 0, 1) := by decide +kernel
theorem dX8_deepest_41 : decode cX8_deepest 41 = .ok (.getfield 12, 3) := by decide +kernel
theorem dX8_deepest_44 : decode cX8_deepest 44 = .ok (.iload 5, 2) := by decide +kernel
theorem dX8_deepest_46 : decode cX8_deepest 46 = .ok (.iconst 3, 1) := by decide +kernel
theorem dX8_deepest_47 : decode cX8_deepest 47 = .ok (.idiv, 1) := by decide +kernel
theorem dX8_deepest_48 : decode cX8_deepest 48 = .ok (.iload 5, 2) := by decide +kernel
theorem dX8_deepest_50 : decode cX8_deepest 50 = .ok (.iconst 3, 1) := by decide +kernel
theorem dX8_deepest_51 : decode cX8_deepest 51 = .ok (.irem, 1) := by decide +kernel
theorem dX8_deepest_52 : decode cX8_deepest 52 = .ok (.invokevirtual 122, 3) := by decide +kernel
theorem dX8_deepest_55 : decode cX8_deepest 55 = .ok (.ifCond .eq 30, 3) := by decide +kernel
theorem dX8_deepest_58 : decode cX8_deepest 58 = .ok (.aload_n 0, 1) := by decide +kernel
theorem dX8_deepest_59 : decode cX8_deepest 59 = .ok (.getfield 34, 3) := by decide +kernel
theorem dX8_deepest_62 : decode cX8_deepest 62 = .ok (.iload 5, 2) := by decide +kernel
theorem dX8_deepest_64 : decode cX8_deepest 64 = .ok (.invokevirtual 186, 3) := by decide +kernel
theorem dX8_deepest_67 : decode cX8_deepest 67 = .ok (.iload_n 3, 1) := by decide +kernel
theorem dX8_deepest_68 : decode cX8_deepest 68 = .ok (.if_icmp .le 17, 3) := by decide +kernel
theorem dX8_deepest_71 : decode cX8_deepest 71 = .ok (.aload_n 0, 1) := by decide +kernel
theorem dX8_deepest_72 : decode cX8_deepest 72 = .ok (.getfield 34, 3) := by decide +kernel
theorem dX8_deepest_75 : decode cX8_deepest 75 = .ok (.iload 5, 2) := by decide +kernel
theorem dX8_deepest_77 : decode cX8_deepest 77 = .ok (.invokevirtual 186, 3) := by decide +kernel
theorem dX8_deepest_80 : decode cX8_deepest 80 = .ok (.istore_n 3, 1) := by decide +kernel
theorem dX8_deepest_81 : decode cX8_deepest 81 = .ok (.iload 5, 2) := by decide +kernel
theorem dX8_deepest_83 : decode cX8_deepest 83 = .ok (.istore 4, 2) := by decide +kernel
theorem dX8_deepest_85 : decode cX8_deepest 85 = .ok (.iinc 5 1, 3) := by decide +kernel
theorem dX8_deepest_88 : decode cX8_deepest 88 = .ok (.goto (-55), 3) := by decide +kernel
theorem dX8_deepest_91 : decode cX8_deepest 91 = .ok (.iload_n 2, 1) := by decide +kernel
theorem dX8_deepest_92 : decode cX8_deepest 92 = .ok (.ifCond .ne 7, 3) := by decide +kernel
theorem dX8_deepest_95 : decode cX8_deepest 95 = .ok (.iload_n 3, 1) := by decide +kernel
theorem dX8_deepest_96 : decode cX8_deepest 96 = .ok (.goto 5, 3) := by decide +kernel
theorem dX8_deepest_99 : decode cX8_deepest 99 = .ok (.iload 4, 2) := by decide +kernel
theorem dX8_deepest_101 : decode cX8_deepest 101 = .ok (.ireturn, 1) := by decide +kernel
theorem dX8_go_0 : decode cX8_go 0 = .ok (.iload_n 1, 1) := by decide +kernel
theorem dX8_go_1 : decode cX8_go 1 = .ok (.invokestatic 176, 3) := by decide +kernel
theorem dX8_go_4 : decode cX8_go 4 = .ok (.ifCond .ne 5, 3) := by decide +kernel
theorem dX8_go_7 : decode cX8_go 7 = .ok (.iconst (-1), 1) := by decide +kernel
theorem dX8_go_8 : decode cX8_go 8 = .ok (.ireturn, 1) := by decide +kernel
theorem dX8_go_9 : decode cX8_go 9 = .ok (.aload_n 0, 1) := by decide +kernel
theorem dX8_go_10 : decode cX8_go 10 = .ok (.iload_n 1, 1) := by decide +kernel
theorem dX8_go_11 : decode cX8_go 11 = .ok (.invokevirtual 179, 3) := by decide +kernel
theorem dX8_go_14 : decode cX8_go 14 = .ok (.iconst 0, 1) := by decide +kernel
theorem dX8_go_15 : decode cX8_go 15 = .ok (.istore_n 2, 1) := by decide +kernel
theorem dX8_go_16 : decode cX8_go 16 = .ok (.iload_n 2, 1) := by decide +kernel
theorem dX8_go_17 : decode cX8_go 17 = .ok (.bipush 63, 2) := by decide +kernel
theorem dX8_go_19 : decode cX8_go 19 = .ok (.if_icmp .ge 28, 3) := by decide +kernel
theorem dX8_go_22 : decode cX8_go 22 = .ok (.aload_n 0, 1) := by decide +kernel
theorem dX8_go_23 : decode cX8_go 23 = .ok (.getfield 12, 3) := by decide +kernel
theorem dX8_go_26 : decode cX8_go 26 = .ok (.getfield 126, 3) := by decide +kernel
theorem dX8_go_29 : decode cX8_go 29 = .ok (.iload_n 2, 1) := by decide +kernel
theorem dX8_go_30 : decode cX8_go 30 = .ok (.aload_n 0, 1) := by decide +kernel
theorem dX8_go_31 : decode cX8_go 31 = .ok (.getfield 34, 3) := by decide +kernel
theorem dX8_go_34 : decode cX8_go 34 = .ok (.iload_n 2, 1) := by decide +kernel
theorem dX8_go_35 : decode cX8_go 35 = .ok (.invokevirtual 186, 3) := by decide +kernel
theorem dX8_go_38 : decode cX8_go 38 = .ok (.invokestatic 204, 3) := by decide +kernel
theorem dX8_go_41 : decode cX8_go 41 = .ok (.iinc 2 1, 3) := by decide +kernel
theorem dX8_go_44 : decode cX8_go 44 = .ok (.goto (-28), 3) := by decide +kernel
theorem dX8_go_47 : decode cX8_go 47 = .ok (.iconst 0, 1) := by decide +kernel
theorem dX8_go_48 : decode cX8_go 48 = .ok (.istore_n 2, 1) := by decide +kernel
theorem dX8_go_49 : decode cX8_go 49 = .ok (.iconst 0, 1) := by decide +kernel
theorem dX8_go_50 : decode cX8_go 50 = .ok (.istore_n 3, 1) := by decide +kernel
theorem dX8_go_51 : decode cX8_go 51 = .ok (.iload_n 3, 1) := by decide +kernel
theorem dX8_go_52 : decode cX8_go 52 = .ok (.aload_n 0, 1) := by decide +kernel
theorem dX8_go_53 : decode cX8_go 53 = .ok (.getfield 12, 3) := by decide +kernel
theorem dX8_go_56 : decode cX8_go 56 = .ok (.getfield 208, 3) := by decide +kernel
theorem dX8_go_59 : decode cX8_go 59 = .ok (.if_icmp .ge 65, 3) := by decide +kernel
theorem dX8_go_62 : decode cX8_go 62 = .ok (.aload_n 0, 1) := by decide +kernel
theorem dX8_go_63 : decode cX8_go 63 = .ok (.getfield 34, 3) := by decide +kernel
theorem dX8_go_66 : decode cX8_go 66 = .ok (.iload_n 3, 1) := by decide +kernel
theorem dX8_go_67 : decode cX8_go 67 = .ok (.invokevirtual 195, 3) := by decide +kernel
theorem dX8_go_70 : decode cX8_go 70 = .ok (.ifCond .ne 48, 3) := by decide +kernel
theorem dX8_go_73 : decode cX8_go 73 = .ok (.aload_n 0, 1) := by decide +kernel
theorem dX8_go_74 : decode cX8_go 74 = .ok (.getfield 12, 3) := by decide +kernel
theorem dX8_go_77 : decode cX8_go 77 = .ok (.iload_n 3, 1) := by decide +kernel
theorem dX8_go_78 : decode cX8_go 78 = .ok (.iload_n 2, 1) := by decide +kernel
theorem dX8_go_79 : decode cX8_go 79 = .ok (.invokevirtual 211, 3) := by decide +kernel
theorem dX8_go_82 : decode cX8_go 82 = .ok (.aload_n 0, 1) := by decide +kernel
theorem dX8_go_83 : decode cX8_go 83 = .ok (.getfield 12, 3) := by decide +kernel
theorem dX8_go_86 : decode cX8_go 86 = .ok (.iload_n 2, 1) := by decide +kernel
theorem dX8_go_87 : decode cX8_go 87 = .ok (.iconst 4, 1) := by decide +kernel
theorem dX8_go_88 : decode cX8_go 88 = .ok (.aload_n 0, 1) := by decide +kernel
theorem dX8_go_89 : decode cX8_go 89 = .ok (.getfield 34, 3) := by decide +kernel
theorem dX8_go_92 : decode cX8_go 92 = .ok (.getfield 183, 3) := by decide +kernel
theorem dX8_go_95 : decode cX8_go 95 = .ok (.iload_n 3, 1) := by decide +kernel
theorem dX8_go_96 : decode cX8_go 96 = .ok (.invokestatic 134, 3) := by decide +kernel
theorem dX8_go_99 : decode cX8_go 99 = .ok (.invokevirtual 162, 3) := by decide +kernel
theorem dX8_go_102 : decode cX8_go 102 = .ok (.pop, 1) := by decide +kernel
theorem dX8_go_103 : decode cX8_go 103 = .ok (.aload_n 0, 1) := by decide +kernel
theorem dX8_go_104 : decode cX8_go 104 = .ok (.getfield 12, 3) := by decide +kernel
theorem dX8_go_107 : decode cX8_go 107 = .ok (.iload_n 2, 1) := by decide +kernel
theorem dX8_go_108 : decode cX8_go 108 = .ok (.bipush 6, 2) := by decide +kernel
theorem dX8_go_110 : decode cX8_go 110 = .ok (.iconst 0, 1) := by decide +kernel
theorem dX8_go_111 : decode cX8_go 111 = .ok (.invokevirtual 162, 3) := by decide +kernel
theorem dX8_go_114 : decode cX8_go 114 = .ok (.pop, 1) := by decide +kernel
theorem dX8_go_115 : decode cX8_go 115 = .ok (.iinc 2 1, 3) := by decide +kernel
theorem dX8_go_118 : decode cX8_go 118 = .ok (.iinc 3 1, 3) := by decide +kernel
theorem dX8_go_121 : decode cX8_go 121 = .ok (.goto (-70), 3) := by decide +kernel
theorem dX8_go_124 : decode cX8_go 124 = .ok (.aload_n 0, 1) := by decide +kernel
theorem dX8_go_125 : decode cX8_go 125 = .ok (.getfield 12, 3) := by decide +kernel
theorem dX8_go_128 : decode cX8_go 128 = .ok (.iload_n 2, 1) := by decide +kernel
theorem dX8_go_129 : decode cX8_go 129 = .ok (.putfield 208, 3) := by decide +kernel
theorem dX8_go_132 : decode cX8_go 132 = .ok (.aload_n 0, 1) := by decide +kernel
theorem dX8_go_133 : decode cX8_go 133 = .ok (.getfield 50, 3) := by decide +kernel
theorem dX8_go_136 : decode cX8_go 136 = .ok (.invokevirtual 99, 3) := by decide +kernel
theorem dX8_go_139 : decode cX8_go 139 = .ok (.iload_n 2, 1) := by decide +kernel
theorem dX8_go_140 : decode cX8_go 140 = .ok (.ireturn, 1) := by decide +kernel
theorem dX8_runUpTo_0 : decode cX8_runUpTo 0 = .ok (.aload_n 0, 1) := by decide +kernel
theorem dX8_runUpTo_1 : decode cX8_runUpTo 1 = .ok (.getfield 41, 3) := by decide +kernel
theorem dX8_runUpTo_4 : decode cX8_runUpTo 4 = .ok (.aload_n 0, 1) := by decide +kernel
theorem dX8_runUpTo_5 : decode cX8_runUpTo 5 = .ok (.getfield 12, 3) := by decide +kernel
theorem dX8_runUpTo_8 : decode cX8_runUpTo 8 = .ok (.getfield 208, 3) := by decide +kernel
theorem dX8_runUpTo_11 : decode cX8_runUpTo 11 = .ok (.invokevirtual 215, 3) := by decide +kernel
theorem dX8_runUpTo_14 : decode cX8_runUpTo 14 = .ok (.aload_n 0, 1) := by decide +kernel
theorem dX8_runUpTo_15 : decode cX8_runUpTo 15 = .ok (.getfield 34, 3) := by decide +kernel
theorem dX8_runUpTo_18 : decode cX8_runUpTo 18 = .ok (.aload_n 0, 1) := by decide +kernel
theorem dX8_runUpTo_19 : decode cX8_runUpTo 19 = .ok (.getfield 41, 3) := by decide +kernel
theorem dX8_runUpTo_22 : decode cX8_runUpTo 22 = .ok (.invokevirtual 218, 3) := by decide +kernel
theorem dX8_runUpTo_25 : decode cX8_runUpTo 25 = .ok (.aload_n 0, 1) := by decide +kernel
theorem dX8_runUpTo_26 : decode cX8_runUpTo 26 = .ok (.getfield 34, 3) := by decide +kernel
theorem dX8_runUpTo_29 : decode cX8_runUpTo 29 = .ok (.iload_n 1, 1) := by decide +kernel
theorem dX8_runUpTo_30 : decode cX8_runUpTo 30 = .ok (.invokevirtual 221, 3) := by decide +kernel
theorem dX8_runUpTo_33 : decode cX8_runUpTo 33 = .ok (.return_, 1) := by decide +kernel
theorem dX8_order_0 : decode cX8_order 0 = .ok (.iload_n 1, 1) := by decide +kernel
theorem dX8_order_1 : decode cX8_order 1 = .ok (.ifCond .eq 21, 3) := by decide +kernel
theorem dX8_order_4 : decode cX8_order 4 = .ok (.aload_n 0, 1) := by decide +kernel
theorem dX8_order_5 : decode cX8_order 5 = .ok (.getfield 12, 3) := by decide +kernel
theorem dX8_order_8 : decode cX8_order 8 = .ok (.iload_n 1, 1) := by decide +kernel
theorem dX8_order_9 : decode cX8_order 9 = .ok (.bipush 10, 2) := by decide +kernel
theorem dX8_order_11 : decode cX8_order 11 = .ok (.invokestatic 224, 3) := by decide +kernel
theorem dX8_order_14 : decode cX8_order 14 = .ok (.invokevirtual 141, 3) := by decide +kernel
theorem dX8_order_17 : decode cX8_order 17 = .ok (.ifCond .ne 5, 3) := by decide +kernel
theorem dX8_order_20 : decode cX8_order 20 = .ok (.iconst (-1), 1) := by decide +kernel
theorem dX8_order_21 : decode cX8_order 21 = .ok (.ireturn, 1) := by decide +kernel
theorem dX8_order_22 : decode cX8_order 22 = .ok (.aload_n 0, 1) := by decide +kernel
theorem dX8_order_23 : decode cX8_order 23 = .ok (.getfield 12, 3) := by decide +kernel
theorem dX8_order_26 : decode cX8_order 26 = .ok (.getfield 208, 3) := by decide +kernel
theorem dX8_order_29 : decode cX8_order 29 = .ok (.ifCond .ne 6, 3) := by decide +kernel
theorem dX8_order_32 : decode cX8_order 32 = .ok (.bipush (-2), 2) := by decide +kernel
theorem dX8_order_34 : decode cX8_order 34 = .ok (.ireturn, 1) := by decide +kernel
theorem dX8_order_35 : decode cX8_order 35 = .ok (.aload_n 0, 1) := by decide +kernel
theorem dX8_order_36 : decode cX8_order 36 = .ok (.getfield 50, 3) := by decide +kernel
theorem dX8_order_39 : decode cX8_order 39 = .ok (.invokevirtual 227, 3) := by decide +kernel
theorem dX8_order_42 : decode cX8_order 42 = .ok (.aload_n 0, 1) := by decide +kernel
theorem dX8_order_43 : decode cX8_order 43 = .ok (.getfield 50, 3) := by decide +kernel
theorem dX8_order_46 : decode cX8_order 46 = .ok (.getfield 230, 3) := by decide +kernel
theorem dX8_order_49 : decode cX8_order 49 = .ok (.bipush (-4), 2) := by decide +kernel
theorem dX8_order_51 : decode cX8_order 51 = .ok (.if_icmp .ne 6, 3) := by decide +kernel
theorem dX8_order_54 : decode cX8_order 54 = .ok (.bipush (-4), 2) := by decide +kernel
theorem dX8_order_56 : decode cX8_order 56 = .ok (.ireturn, 1) := by decide +kernel
theorem dX8_order_57 : decode cX8_order 57 = .ok (.iload_n 1, 1) := by decide +kernel
theorem dX8_order_58 : decode cX8_order 58 = .ok (.ifCond .ne 13, 3) := by decide +kernel
theorem dX8_order_61 : decode cX8_order 61 = .ok (.aload_n 0, 1) := by decide +kernel
theorem dX8_order_62 : decode cX8_order 62 = .ok (.getfield 50, 3) := by decide +kernel
theorem dX8_order_65 : decode cX8_order 65 = .ok (.getfield 230, 3) := by decide +kernel
theorem dX8_order_68 : decode cX8_order 68 = .ok (.goto 20, 3) := by decide +kernel
theorem dX8_order_71 : decode cX8_order 71 = .ok (.aload_n 0, 1) := by decide +kernel
theorem dX8_order_72 : decode cX8_order 72 = .ok (.getfield 50, 3) := by decide +kernel
theorem dX8_order_75 : decode cX8_order 75 = .ok (.getfield 233, 3) := by decide +kernel
theorem dX8_order_78 : decode cX8_order 78 = .ok (.getfield 236, 3) := by decide +kernel
theorem dX8_order_81 : decode cX8_order 81 = .ok (.iload_n 1, 1) := by decide +kernel
theorem dX8_order_82 : decode cX8_order 82 = .ok (.bipush 10, 2) := by decide +kernel
theorem dX8_order_84 : decode cX8_order 84 = .ok (.isub, 1) := by decide +kernel
theorem dX8_order_85 : decode cX8_order 85 = .ok (.invokestatic 134, 3) := by decide +kernel
theorem dX8_order_88 : decode cX8_order 88 = .ok (.ireturn, 1) := by decide +kernel
theorem dX8_mend_0 : decode cX8_mend 0 = .ok (.iload_n 1, 1) := by decide +kernel
theorem dX8_mend_1 : decode cX8_mend 1 = .ok (.ifCond .lt 8, 3) := by decide +kernel
theorem dX8_mend_4 : decode cX8_mend 4 = .ok (.iload_n 1, 1) := by decide +kernel
theorem dX8_mend_5 : decode cX8_mend 5 = .ok (.iconst 2, 1) := by decide +kernel
theorem dX8_mend_6 : decode cX8_mend 6 = .ok (.if_icmp .le 5, 3) := by decide +kernel
theorem dX8_mend_9 : decode cX8_mend 9 = .ok (.iconst (-1), 1) := by decide +kernel
theorem dX8_mend_10 : decode cX8_mend 10 = .ok (.ireturn, 1) := by decide +kernel
theorem dX8_mend_11 : decode cX8_mend 11 = .ok (.aload_n 0, 1) := by decide +kernel
theorem dX8_mend_12 : decode cX8_mend 12 = .ok (.getfield 50, 3) := by decide +kernel
theorem dX8_mend_15 : decode cX8_mend 15 = .ok (.invokevirtual 238, 3) := by decide +kernel
theorem dX8_mend_18 : decode cX8_mend 18 = .ok (.iload_n 1, 1) := by decide +kernel
theorem dX8_mend_19 : decode cX8_mend 19 = .ok (.ifCond .eq 15, 3) := by decide +kernel
theorem dX8_mend_22 : decode cX8_mend 22 = .ok (.aload_n 0, 1) := by decide +kernel
theorem dX8_mend_23 : decode cX8_mend 23 = .ok (.getfield 50, 3) := by decide +kernel
theorem dX8_mend_26 : decode cX8_mend 26 = .ok (.getfield 241, 3) := by decide +kernel
theorem dX8_mend_29 : decode cX8_mend 29 = .ok (.bipush (-4), 2) := by decide +kernel
theorem dX8_mend_31 : decode cX8_mend 31 = .ok (.if_icmp .ne 11, 3) := by decide +kernel
theorem dX8_mend_34 : decode cX8_mend 34 = .ok (.aload_n 0, 1) := by decide +kernel
theorem dX8_mend_35 : decode cX8_mend 35 = .ok (.getfield 50, 3) := by decide +kernel
theorem dX8_mend_38 : decode cX8_mend 38 = .ok (.getfield 241, 3) := by decide +kernel
theorem dX8_mend_41 : decode cX8_mend 41 = .ok (.ireturn, 1) := by decide +kernel
theorem dX8_mend_42 : decode cX8_mend 42 = .ok (.iload_n 1, 1) := by decide +kernel
theorem dX8_mend_43 : decode cX8_mend 43 = .ok (.aload_n 0, 1) := by decide +kernel
theorem dX8_mend_44 : decode cX8_mend 44 = .ok (.getfield 50, 3) := by decide +kernel
theorem dX8_mend_47 : decode cX8_mend 47 = .ok (.getfield 241, 3) := by decide +kernel
theorem dX8_mend_50 : decode cX8_mend 50 = .ok (.if_icmp .le 6, 3) := by decide +kernel
theorem dX8_mend_53 : decode cX8_mend 53 = .ok (.bipush (-4), 2) := by decide +kernel
theorem dX8_mend_55 : decode cX8_mend 55 = .ok (.ireturn, 1) := by decide +kernel
theorem dX8_mend_56 : decode cX8_mend 56 = .ok (.iload_n 1, 1) := by decide +kernel
theorem dX8_mend_57 : decode cX8_mend 57 = .ok (.iconst 1, 1) := by decide +kernel
theorem dX8_mend_58 : decode cX8_mend 58 = .ok (.if_icmp .ne 13, 3) := by decide +kernel
theorem dX8_mend_61 : decode cX8_mend 61 = .ok (.aload_n 0, 1) := by decide +kernel
theorem dX8_mend_62 : decode cX8_mend 62 = .ok (.getfield 50, 3) := by decide +kernel
theorem dX8_mend_65 : decode cX8_mend 65 = .ok (.getfield 244, 3) := by decide +kernel
theorem dX8_mend_68 : decode cX8_mend 68 = .ok (.goto 10, 3) := by decide +kernel
theorem dX8_mend_71 : decode cX8_mend 71 = .ok (.aload_n 0, 1) := by decide +kernel
theorem dX8_mend_72 : decode cX8_mend 72 = .ok (.getfield 50, 3) := by decide +kernel
theorem dX8_mend_75 : decode cX8_mend 75 = .ok (.getfield 247, 3) := by decide +kernel
theorem dX8_mend_78 : decode cX8_mend 78 = .ok (.ireturn, 1) := by decide +kernel
theorem dX8_way_0 : decode cX8_way 0 = .ok (.iload_n 3, 1) := by decide +kernel
theorem dX8_way_1 : decode cX8_way 1 = .ok (.ifCond .lt 8, 3) := by decide +kernel
theorem dX8_way_4 : decode cX8_way 4 = .ok (.iload_n 3, 1) := by decide +kernel
theorem dX8_way_5 : decode cX8_way 5 = .ok (.iconst 2, 1) := by decide +kernel
theorem dX8_way_6 : decode cX8_way 6 = .ok (.if_icmp .le 9, 3) := by decide +kernel
theorem dX8_way_9 : decode cX8_way 9 = .ok (.iload_n 3, 1) := by decide +kernel
theorem dX8_way_10 : decode cX8_way 10 = .ok (.bipush 10, 2) := by decide +kernel
theorem dX8_way_12 : decode cX8_way 12 = .ok (.if_icmp .lt 7, 3) := by decide +kernel
theorem dX8_way_15 : decode cX8_way 15 = .ok (.iconst 1, 1) := by decide +kernel
theorem dX8_way_16 : decode cX8_way 16 = .ok (.goto 4, 3) := by decide +kernel
theorem dX8_way_19 : decode cX8_way 19 = .ok (.iconst 0, 1) := by decide +kernel
theorem dX8_way_20 : decode cX8_way 20 = .ok (.istore 4, 2) := by decide +kernel
theorem dX8_way_22 : decode cX8_way 22 = .ok (.aload_n 0, 1) := by decide +kernel
theorem dX8_way_23 : decode cX8_way 23 = .ok (.getfield 12, 3) := by decide +kernel
theorem dX8_way_26 : decode cX8_way 26 = .ok (.iload_n 1, 1) := by decide +kernel
theorem dX8_way_27 : decode cX8_way 27 = .ok (.invokevirtual 141, 3) := by decide +kernel
theorem dX8_way_30 : decode cX8_way 30 = .ok (.ifCond .eq 17, 3) := by decide +kernel
theorem dX8_way_33 : decode cX8_way 33 = .ok (.iload_n 2, 1) := by decide +kernel
theorem dX8_way_34 : decode cX8_way 34 = .ok (.ifCond .lt 13, 3) := by decide +kernel
theorem dX8_way_37 : decode cX8_way 37 = .ok (.iload_n 2, 1) := by decide +kernel
theorem dX8_way_38 : decode cX8_way 38 = .ok (.iconst 1, 1) := by decide +kernel
theorem dX8_way_39 : decode cX8_way 39 = .ok (.if_icmp .gt 8, 3) := by decide +kernel
theorem dX8_way_42 : decode cX8_way 42 = .ok (.iload 4, 2) := by decide +kernel
theorem dX8_way_44 : decode cX8_way 44 = .ok (.ifCond .ne 5, 3) := by decide +kernel
theorem dX8_way_47 : decode cX8_way 47 = .ok (.iconst (-1), 1) := by decide +kernel
theorem dX8_way_48 : decode cX8_way 48 = .ok (.ireturn, 1) := by decide +kernel
theorem dX8_way_49 : decode cX8_way 49 = .ok (.aload_n 0, 1) := by decide +kernel
theorem dX8_way_50 : decode cX8_way 50 = .ok (.getfield 57, 3) := by decide +kernel
theorem dX8_way_53 : decode cX8_way 53 = .ok (.iload_n 1, 1) := by decide +kernel
theorem dX8_way_54 : decode cX8_way 54 = .ok (.iload_n 2, 1) := by decide +kernel
theorem dX8_way_55 : decode cX8_way 55 = .ok (.invokevirtual 250, 3) := by decide +kernel
theorem dX8_way_58 : decode cX8_way 58 = .ok (.aload_n 0, 1) := by decide +kernel
theorem dX8_way_59 : decode cX8_way 59 = .ok (.getfield 57, 3) := by decide +kernel
theorem dX8_way_62 : decode cX8_way 62 = .ok (.invokevirtual 253, 3) := by decide +kernel
theorem dX8_way_65 : decode cX8_way 65 = .ok (.ifCond .ne 6, 3) := by decide +kernel
theorem dX8_way_68 : decode cX8_way 68 = .ok (.bipush (-4), 2) := by decide +kernel
theorem dX8_way_70 : decode cX8_way 70 = .ok (.ireturn, 1) := by decide +kernel
theorem dX8_way_71 : decode cX8_way 71 = .ok (.iload_n 3, 1) := by decide +kernel
theorem dX8_way_72 : decode cX8_way 72 = .ok (.ifCond .ne 11, 3) := by decide +kernel
theorem dX8_way_75 : decode cX8_way 75 = .ok (.aload_n 0, 1) := by decide +kernel
theorem dX8_way_76 : decode cX8_way 76 = .ok (.getfield 57, 3) := by decide +kernel
theorem dX8_way_79 : decode cX8_way 79 = .ok (.invokevirtual 257, 3) := by decide +kernel
theorem dX8_way_82 : decode cX8_way 82 = .ok (.ireturn, 1) := by decide +kernel
theorem dX8_way_83 : decode cX8_way 83 = .ok (.iload_n 3, 1) := by decide +kernel
theorem dX8_way_84 : decode cX8_way 84 = .ok (.iconst 1, 1) := by decide +kernel
theorem dX8_way_85 : decode cX8_way 85 = .ok (.if_icmp .ne 11, 3) := by decide +kernel
theorem dX8_way_88 : decode cX8_way 88 = .ok (.aload_n 0, 1) := by decide +kernel
theorem dX8_way_89 : decode cX8_way 89 = .ok (.getfield 57, 3) := by decide +kernel
theorem dX8_way_92 : decode cX8_way 92 = .ok (.invokevirtual 260, 3) := by decide +kernel
theorem dX8_way_95 : decode cX8_way 95 = .ok (.ireturn, 1) := by decide +kernel
theorem dX8_way_96 : decode cX8_way 96 = .ok (.iload_n 3, 1) := by decide +kernel
theorem dX8_way_97 : decode cX8_way 97 = .ok (.iconst 2, 1) := by decide +kernel
theorem dX8_way_98 : decode cX8_way 98 = .ok (.if_icmp .ne 13, 3) := by decide +kernel
theorem dX8_way_101 : decode cX8_way 101 = .ok (.aload_n 0, 1) := by decide +kernel
theorem dX8_way_102 : decode cX8_way 102 = .ok (.getfield 57, 3) := by decide +kernel
theorem dX8_way_105 : decode cX8_way 105 = .ok (.invokevirtual 263, 3) := by decide +kernel
theorem dX8_way_108 : decode cX8_way 108 = .ok (.goto 14, 3) := by decide +kernel
theorem dX8_way_111 : decode cX8_way 111 = .ok (.aload_n 0, 1) := by decide +kernel
theorem dX8_way_112 : decode cX8_way 112 = .ok (.getfield 57, 3) := by decide +kernel
theorem dX8_way_115 : decode cX8_way 115 = .ok (.iload_n 3, 1) := by decide +kernel
theorem dX8_way_116 : decode cX8_way 116 = .ok (.bipush 10, 2) := by decide +kernel
theorem dX8_way_118 : decode cX8_way 118 = .ok (.isub, 1) := by decide +kernel
theorem dX8_way_119 : decode cX8_way 119 = .ok (.invokevirtual 266, 3) := by decide +kernel
theorem dX8_way_122 : decode cX8_way 122 = .ok (.ireturn, 1) := by decide +kernel
theorem dX8_can_0 : decode cX8_can 0 = .ok (.aload_n 0, 1) := by decide +kernel
theorem dX8_can_1 : decode cX8_can 1 = .ok (.getfield 12, 3) := by decide +kernel
theorem dX8_can_4 : decode cX8_can 4 = .ok (.iload_n 1, 1) := by decide +kernel
theorem dX8_can_5 : decode cX8_can 5 = .ok (.invokevirtual 141, 3) := by decide +kernel
theorem dX8_can_8 : decode cX8_can 8 = .ok (.ifCond .eq 14, 3) := by decide +kernel
theorem dX8_can_11 : decode cX8_can 11 = .ok (.aload_n 0, 1) := by decide +kernel
theorem dX8_can_12 : decode cX8_can 12 = .ok (.getfield 57, 3) := by decide +kernel
theorem dX8_can_15 : decode cX8_can 15 = .ok (.iload_n 1, 1) := by decide +kernel
theorem dX8_can_16 : decode cX8_can 16 = .ok (.invokevirtual 269, 3) := by decide +kernel
theorem dX8_can_19 : decode cX8_can 19 = .ok (.goto 4, 3) := by decide +kernel
theorem dX8_can_22 : decode cX8_can 22 = .ok (.iconst (-1), 1) := by decide +kernel
theorem dX8_can_23 : decode cX8_can 23 = .ok (.ireturn, 1) := by decide +kernel
theorem dX8_cost_0 : decode cX8_cost 0 = .ok (.iload_n 1, 1) := by decide +kernel
theorem dX8_cost_1 : decode cX8_cost 1 = .ok (.invokestatic 272, 3) := by decide +kernel
theorem dX8_cost_4 : decode cX8_cost 4 = .ok (.ifCond .eq 17, 3) := by decide +kernel
theorem dX8_cost_7 : decode cX8_cost 7 = .ok (.aload_n 0, 1) := by decide +kernel
theorem dX8_cost_8 : decode cX8_cost 8 = .ok (.getfield 12, 3) := by decide +kernel
theorem dX8_cost_11 : decode cX8_cost 11 = .ok (.getfield 275, 3) := by decide +kernel
theorem dX8_cost_14 : decode cX8_cost 14 = .ok (.iload_n 1, 1) := by decide +kernel
theorem dX8_cost_15 : decode cX8_cost 15 = .ok (.invokestatic 134, 3) := by decide +kernel
theorem dX8_cost_18 : decode cX8_cost 18 = .ok (.goto 4, 3) := by decide +kernel
theorem dX8_cost_21 : decode cX8_cost 21 = .ok (.iconst (-1), 1) := by decide +kernel
theorem dX8_cost_22 : decode cX8_cost 22 = .ok (.ireturn, 1) := by decide +kernel
theorem dX8_price_0 : decode cX8_price 0 = .ok (.iload_n 1, 1) := by decide +kernel
theorem dX8_price_1 : decode cX8_price 1 = .ok (.invokestatic 272, 3) := by decide +kernel
theorem dX8_price_4 : decode cX8_price 4 = .ok (.ifCond .eq 25, 3) := by decide +kernel
theorem dX8_price_7 : decode cX8_price 7 = .ok (.iload_n 2, 1) := by decide +kernel
theorem dX8_price_8 : decode cX8_price 8 = .ok (.invokestatic 278, 3) := by decide +kernel
theorem dX8_price_11 : decode cX8_price 11 = .ok (.ifCond .eq 18, 3) := by decide +kernel
theorem dX8_price_14 : decode cX8_price 14 = .ok (.aload_n 0, 1) := by decide +kernel
theorem dX8_price_15 : decode cX8_price 15 = .ok (.getfield 12, 3) := by decide +kernel
theorem dX8_price_18 : decode cX8_price 18 = .ok (.getfield 275, 3) := by decide +kernel
theorem dX8_price_21 : decode cX8_price 21 = .ok (.iload_n 1, 1) := by decide +kernel
theorem dX8_price_22 : decode cX8_price 22 = .ok (.iload_n 2, 1) := by decide +kernel
theorem dX8_price_23 : decode cX8_price 23 = .ok (.invokestatic 153, 3) := by decide +kernel
theorem dX8_price_26 : decode cX8_price 26 = .ok (.goto 4, 3) := by decide +kernel
theorem dX8_price_29 : decode cX8_price 29 = .ok (.iconst (-1), 1) := by decide +kernel
theorem dX8_price_30 : decode cX8_price 30 = .ok (.ireturn, 1) := by decide +kernel
theorem dX8_firm_0 : decode cX8_firm 0 = .ok (.iload_n 1, 1) := by decide +kernel
theorem dX8_firm_1 : decode cX8_firm 1 = .ok (.invokestatic 278, 3) := by decide +kernel
theorem dX8_firm_4 : decode cX8_firm 4 = .ok (.ifCond .eq 17, 3) := by decide +kernel
theorem dX8_firm_7 : decode cX8_firm 7 = .ok (.iload_n 2, 1) := by decide +kernel
theorem dX8_firm_8 : decode cX8_firm 8 = .ok (.invokestatic 278, 3) := by decide +kernel
theorem dX8_firm_11 : decode cX8_firm 11 = .ok (.ifCond .eq 10, 3) := by decide +kernel
theorem dX8_firm_14 : decode cX8_firm 14 = .ok (.iload_n 3, 1) := by decide +kernel
theorem dX8_firm_15 : decode cX8_firm 15 = .ok (.invokestatic 278, 3) := by decide +kernel
theorem dX8_firm_18 : decode cX8_firm 18 = .ok (.ifCond .ne 5, 3) := by decide +kernel
theorem dX8_firm_21 : decode cX8_firm 21 = .ok (.iconst (-1), 1) := by decide +kernel
theorem dX8_firm_22 : decode cX8_firm 22 = .ok (.ireturn, 1) := by decide +kernel
theorem dX8_firm_23 : decode cX8_firm 23 = .ok (.aload_n 0, 1) := by decide +kernel
theorem dX8_firm_24 : decode cX8_firm 24 = .ok (.getfield 12, 3) := by decide +kernel
theorem dX8_firm_27 : decode cX8_firm 27 = .ok (.iload_n 1, 1) := by decide +kernel
theorem dX8_firm_28 : decode cX8_firm 28 = .ok (.iload_n 2, 1) := by decide +kernel
theorem dX8_firm_29 : decode cX8_firm 29 = .ok (.iload_n 3, 1) := by decide +kernel
theorem dX8_firm_30 : decode cX8_firm 30 = .ok (.invokevirtual 281, 3) := by decide +kernel
theorem dX8_firm_33 : decode cX8_firm 33 = .ok (.ifCond .eq 7, 3) := by decide +kernel
theorem dX8_firm_36 : decode cX8_firm 36 = .ok (.iconst 1, 1) := by decide +kernel
theorem dX8_firm_37 : decode cX8_firm 37 = .ok (.goto 4, 3) := by decide +kernel
theorem dX8_firm_40 : decode cX8_firm 40 = .ok (.iconst 0, 1) := by decide +kernel
theorem dX8_firm_41 : decode cX8_firm 41 = .ok (.ireturn, 1) := by decide +kernel
theorem dX8_shares_0 : decode cX8_shares 0 = .ok (.iload_n 1, 1) := by decide +kernel
theorem dX8_shares_1 : decode cX8_shares 1 = .ok (.ifCond .lt 8, 3) := by decide +kernel
theorem dX8_shares_4 : decode cX8_shares 4 = .ok (.iload_n 1, 1) := by decide +kernel
theorem dX8_shares_5 : decode cX8_shares 5 = .ok (.iconst 1, 1) := by decide +kernel
theorem dX8_shares_6 : decode cX8_shares 6 = .ok (.if_icmp .le 5, 3) := by decide +kernel
theorem dX8_shares_9 : decode cX8_shares 9 = .ok (.iconst (-1), 1) := by decide +kernel
theorem dX8_shares_10 : decode cX8_shares 10 = .ok (.ireturn, 1) := by decide +kernel
theorem dX8_shares_11 : decode cX8_shares 11 = .ok (.aload_n 0, 1) := by decide +kernel
theorem dX8_shares_12 : decode cX8_shares 12 = .ok (.getfield 12, 3) := by decide +kernel
theorem dX8_shares_15 : decode cX8_shares 15 = .ok (.getfield 275, 3) := by decide +kernel
theorem dX8_shares_18 : decode cX8_shares 18 = .ok (.bipush 7, 2) := by decide +kernel
theorem dX8_shares_20 : decode cX8_shares 20 = .ok (.invokestatic 134, 3) := by decide +kernel
theorem dX8_shares_23 : decode cX8_shares 23 = .ok (.istore_n 2, 1) := by decide +kernel
theorem dX8_shares_24 : decode cX8_shares 24 = .ok (.iconst 0, 1) := by decide +kernel
theorem dX8_shares_25 : decode cX8_shares 25 = .ok (.istore_n 3, 1) := by decide +kernel
theorem dX8_shares_26 : decode cX8_shares 26 = .ok (.bipush (-4), 2) := by decide +kernel
theorem dX8_shares_28 : decode cX8_shares 28 = .ok (.istore 4, 2) := by decide +kernel
theorem dX8_shares_30 : decode cX8_shares 30 = .ok (.iconst 0, 1) := by decide +kernel
theorem dX8_shares_31 : decode cX8_shares 31 = .ok (.istore 5, 2) := by decide +kernel
theorem dX8_shares_33 : decode cX8_shares 33 = .ok (.iload 5, 2) := by decide +kernel
theorem dX8_shares_35 : decode cX8_shares 35 = .ok (.iload_n 2, 1) := by decide +kernel
theorem dX8_shares_36 : decode cX8_shares 36 = .ok (.if_icmp .gt 77, 3) := by decide +kernel
theorem dX8_shares_39 : decode cX8_shares 39 = .ok (.iconst 0, 1) := by decide +kernel
theorem dX8_shares_40 : decode cX8_shares 40 = .ok (.istore 6, 2) := by decide +kernel
theorem dX8_shares_42 : decode cX8_shares 42 = .ok (.iload 6, 2) := by decide +kernel
theorem dX8_shares_44 : decode cX8_shares 44 = .ok (.iload_n 2, 1) := by decide +kernel
theorem dX8_shares_45 : decode cX8_shares 45 = .ok (.iload 5, 2) := by decide +kernel
theorem dX8_shares_47 : decode cX8_shares 47 = .ok (.isub, 1) := by decide +kernel
theorem dX8_shares_48 : decode cX8_shares 48 = .ok (.if_icmp .gt 59, 3) := by decide +kernel
theorem dX8_shares_51 : decode cX8_shares 51 = .ok (.aload_n 0, 1) := by decide +kernel
theorem dX8_shares_52 : decode cX8_shares 52 = .ok (.getfield 12, 3) := by decide +kernel
theorem dX8_shares_55 : decode cX8_shares 55 = .ok (.iload 5, 2) := by decide +kernel
theorem dX8_shares_57 : decode cX8_shares 57 = .ok (.iload 6, 2) := by decide +kernel
theorem dX8_shares_59 : decode cX8_shares 59 = .ok (.iload_n 2, 1) := by decide +kernel
theorem dX8_shares_60 : decode cX8_shares 60 = .ok (.iload 5, 2) := by decide +kernel
theorem dX8_shares_62 : decode cX8_shares 62 = .ok (.isub, 1) := by decide +kernel
theorem dX8_shares_63 : decode cX8_shares 63 = .ok (.iload 6, 2) := by decide +kernel
theorem dX8_shares_65 : decode cX8_shares 65 = .ok (.isub, 1) := by decide +kernel
theorem dX8_shares_66 : decode cX8_shares 66 = .ok (.invokevirtual 281, 3) := by decide +kernel
theorem dX8_shares_69 : decode cX8_shares 69 = .ok (.ifCond .eq 32, 3) := by decide +kernel
theorem dX8_shares_72 : decode cX8_shares 72 = .ok (.iload_n 3, 1) := by decide +kernel
theorem dX8_shares_73 : decode cX8_shares 73 = .ok (.ifCond .ne 25, 3) := by decide +kernel
theorem dX8_shares_76 : decode cX8_shares 76 = .ok (.sipush 10000, 3) := by decide +kernel
theorem dX8_shares_79 : decode cX8_shares 79 = .ok (.iload 5, 2) := by decide +kernel
theorem dX8_shares_81 : decode cX8_shares 81 = .ok (.imul, 1) := by decide +kernel
theorem dX8_shares_82 : decode cX8_shares 82 = .ok (.bipush 100, 2) := by decide +kernel
theorem dX8_shares_84 : decode cX8_shares 84 = .ok (.iload 6, 2) := by decide +kernel
theorem dX8_shares_86 : decode cX8_shares 86 = .ok (.imul, 1) := by decide +kernel
theorem dX8_shares_87 : decode cX8_shares 87 = .ok (.iadd, 1) := by decide +kernel
theorem dX8_shares_88 : decode cX8_shares 88 = .ok (.iload_n 2, 1) := by decide +kernel
theorem dX8_shares_89 : decode cX8_shares 89 = .ok (.iadd, 1) := by decide +kernel
theorem dX8_shares_90 : decode cX8_shares 90 = .ok (.iload 5, 2) := by decide +kernel
theorem dX8_shares_92 : decode cX8_shares 92 = .ok (.isub, 1) := by decide +kernel
theorem dX8_shares_93 : decode cX8_shares 93 = .ok (.iload 6, 2) := by decide +kernel
theorem dX8_shares_95 : decode cX8_shares 95 = .ok (.isub, 1) := by decide +kernel
theorem dX8_shares_96 : decode cX8_shares 96 = .ok (.istore 4, 2) := by decide +kernel
theorem dX8_shares_98 : decode cX8_shares 98 = .ok (.iinc 3 1, 3) := by decide +kernel
theorem dX8_shares_101 : decode cX8_shares 101 = .ok (.iinc 6 1, 3) := by decide +kernel
theorem dX8_shares_104 : decode cX8_shares 104 = .ok (.goto (-62), 3) := by decide +kernel
theorem dX8_shares_107 : decode cX8_shares 107 = .ok (.iinc 5 1, 3) := by decide +kernel
theorem dX8_shares_110 : decode cX8_shares 110 = .ok (.goto (-77), 3) := by decide +kernel
theorem dX8_shares_113 : decode cX8_shares 113 = .ok (.iload_n 1, 1) := by decide +kernel
theorem dX8_shares_114 : decode cX8_shares 114 = .ok (.ifCond .ne 7, 3) := by decide +kernel
theorem dX8_shares_117 : decode cX8_shares 117 = .ok (.iload_n 3, 1) := by decide +kernel
theorem dX8_shares_118 : decode cX8_shares 118 = .ok (.goto 5, 3) := by decide +kernel
theorem dX8_shares_121 : decode cX8_shares 121 = .ok (.iload 4, 2) := by decide +kernel
theorem dX8_shares_123 : decode cX8_shares 123 = .ok (.ireturn, 1) := by decide +kernel
theorem dX8_track_0 : decode cX8_track 0 = .ok (.aload_n 0, 1) := by decide +kernel
theorem dX8_track_1 : decode cX8_track 1 = .ok (.getfield 12, 3) := by decide +kernel
theorem dX8_track_4 : decode cX8_track 4 = .ok (.iload_n 1, 1) := by decide +kernel
theorem dX8_track_5 : decode cX8_track 5 = .ok (.iload_n 2, 1) := by decide +kernel
theorem dX8_track_6 : decode cX8_track 6 = .ok (.aload_n 0, 1) := by decide +kernel
theorem dX8_track_7 : decode cX8_track 7 = .ok (.getfield 12, 3) := by decide +kernel
theorem dX8_track_10 : decode cX8_track 10 = .ok (.getfield 285, 3) := by decide +kernel
theorem dX8_track_13 : decode cX8_track 13 = .ok (.invokevirtual 288, 3) := by decide +kernel
theorem dX8_track_16 : decode cX8_track 16 = .ok (.istore_n 3, 1) := by decide +kernel
theorem dX8_track_17 : decode cX8_track 17 = .ok (.iload_n 3, 1) := by decide +kernel
theorem dX8_track_18 : decode cX8_track 18 = .ok (.ifCond .eq 7, 3) := by decide +kernel
theorem dX8_track_21 : decode cX8_track 21 = .ok (.iload_n 3, 1) := by decide +kernel
theorem dX8_track_22 : decode cX8_track 22 = .ok (.goto 12, 3) := by decide +kernel
theorem dX8_track_25 : decode cX8_track 25 = .ok (.aload_n 0, 1) := by decide +kernel
theorem dX8_track_26 : decode cX8_track 26 = .ok (.getfield 12, 3) := by decide +kernel
theorem dX8_track_29 : decode cX8_track 29 = .ok (.iload_n 1, 1) := by decide +kernel
theorem dX8_track_30 : decode cX8_track 30 = .ok (.iload_n 2, 1) := by decide +kernel
theorem dX8_track_31 : decode cX8_track 31 = .ok (.invokevirtual 291, 3) := by decide +kernel
theorem dX8_track_34 : decode cX8_track 34 = .ok (.ireturn, 1) := by decide +kernel
theorem dX8_forget_0 : decode cX8_forget 0 = .ok (.iload_n 1, 1) := by decide +kernel
theorem dX8_forget_1 : decode cX8_forget 1 = .ok (.ifCond .lt 14, 3) := by decide +kernel
theorem dX8_forget_4 : decode cX8_forget 4 = .ok (.iload_n 1, 1) := by decide +kernel
theorem dX8_forget_5 : decode cX8_forget 5 = .ok (.aload_n 0, 1) := by decide +kernel
theorem dX8_forget_6 : decode cX8_forget 6 = .ok (.getfield 12, 3) := by decide +kernel
theorem dX8_forget_9 : decode cX8_forget 9 = .ok (.getfield 285, 3) := by decide +kernel
theorem dX8_forget_12 : decode cX8_forget 12 = .ok (.if_icmp .le 5, 3) := by decide +kernel
theorem dX8_forget_15 : decode cX8_forget 15 = .ok (.iconst (-1), 1) := by decide +kernel
theorem dX8_forget_16 : decode cX8_forget 16 = .ok (.ireturn, 1) := by decide +kernel
theorem dX8_forget_17 : decode cX8_forget 17 = .ok (.aload_n 0, 1) := by decide +kernel
theorem dX8_forget_18 : decode cX8_forget 18 = .ok (.getfield 12, 3) := by decide +kernel
theorem dX8_forget_21 : decode cX8_forget 21 = .ok (.getfield 285, 3) := by decide +kernel
theorem dX8_forget_24 : decode cX8_forget 24 = .ok (.istore_n 2, 1) := by decide +kernel
theorem dX8_forget_25 : decode cX8_forget 25 = .ok (.aload_n 0, 1) := by decide +kernel
theorem dX8_forget_26 : decode cX8_forget 26 = .ok (.getfield 12, 3) := by decide +kernel
theorem dX8_forget_29 : decode cX8_forget 29 = .ok (.iload_n 1, 1) := by decide +kernel
theorem dX8_forget_30 : decode cX8_forget 30 = .ok (.putfield 285, 3) := by decide +kernel
theorem dX8_forget_33 : decode cX8_forget 33 = .ok (.iload_n 2, 1) := by decide +kernel
theorem dX8_forget_34 : decode cX8_forget 34 = .ok (.ireturn, 1) := by decide +kernel
theorem dX8_orders_0 : decode cX8_orders 0 = .ok (.iload_n 1, 1) := by decide +kernel
theorem dX8_orders_1 : decode cX8_orders 1 = .ok (.ifCond .eq 21, 3) := by decide +kernel
theorem dX8_orders_4 : decode cX8_orders 4 = .ok (.aload_n 0, 1) := by decide +kernel
theorem dX8_orders_5 : decode cX8_orders 5 = .ok (.getfield 12, 3) := by decide +kernel
theorem dX8_orders_8 : decode cX8_orders 8 = .ok (.iload_n 1, 1) := by decide +kernel
theorem dX8_orders_9 : decode cX8_orders 9 = .ok (.bipush 10, 2) := by decide +kernel
theorem dX8_orders_11 : decode cX8_orders 11 = .ok (.invokestatic 224, 3) := by decide +kernel
theorem dX8_orders_14 : decode cX8_orders 14 = .ok (.invokevirtual 141, 3) := by decide +kernel
theorem dX8_orders_17 : decode cX8_orders 17 = .ok (.ifCond .ne 5, 3) := by decide +kernel
theorem dX8_orders_20 : decode cX8_orders 20 = .ok (.iconst (-1), 1) := by decide +kernel
theorem dX8_orders_21 : decode cX8_orders 21 = .ok (.ireturn, 1) := by decide +kernel
theorem dX8_orders_22 : decode cX8_orders 22 = .ok (.aload_n 0, 1) := by decide +kernel
theorem dX8_orders_23 : decode cX8_orders 23 = .ok (.getfield 64, 3) := by decide +kernel
theorem dX8_orders_26 : decode cX8_orders 26 = .ok (.iconst 0, 1) := by decide +kernel
theorem dX8_orders_27 : decode cX8_orders 27 = .ok (.invokevirtual 294, 3) := by decide +kernel
theorem dX8_orders_30 : decode cX8_orders 30 = .ok (.iload_n 1, 1) := by decide +kernel
theorem dX8_orders_31 : decode cX8_orders 31 = .ok (.ifCond .ne 11, 3) := by decide +kernel
theorem dX8_orders_34 : decode cX8_orders 34 = .ok (.aload_n 0, 1) := by decide +kernel
theorem dX8_orders_35 : decode cX8_orders 35 = .ok (.getfield 64, 3) := by decide +kernel
theorem dX8_orders_38 : decode cX8_orders 38 = .ok (.getfield 296, 3) := by decide +kernel
theorem dX8_orders_41 : decode cX8_orders 41 = .ok (.ireturn, 1) := by decide +kernel
theorem dX8_orders_42 : decode cX8_orders 42 = .ok (.aload_n 0, 1) := by decide +kernel
theorem dX8_orders_43 : decode cX8_orders 43 = .ok (.getfield 64, 3) := by decide +kernel
theorem dX8_orders_46 : decode cX8_orders 46 = .ok (.getfield 296, 3) := by decide +kernel
theorem dX8_orders_49 : decode cX8_orders 49 = .ok (.ifCond .ne 8, 3) := by decide +kernel
theorem dX8_orders_52 : decode cX8_orders 52 = .ok (.bipush (-4), 2) := by decide +kernel
theorem dX8_orders_54 : decode cX8_orders 54 = .ok (.goto 17, 3) := by decide +kernel
theorem dX8_orders_57 : decode cX8_orders 57 = .ok (.aload_n 0, 1) := by decide +kernel
theorem dX8_orders_58 : decode cX8_orders 58 = .ok (.getfield 64, 3) := by decide +kernel
theorem dX8_orders_61 : decode cX8_orders 61 = .ok (.getfield 299, 3) := by decide +kernel
theorem dX8_orders_64 : decode cX8_orders 64 = .ok (.iload_n 1, 1) := by decide +kernel
theorem dX8_orders_65 : decode cX8_orders 65 = .ok (.bipush 10, 2) := by decide +kernel
theorem dX8_orders_67 : decode cX8_orders 67 = .ok (.isub, 1) := by decide +kernel
theorem dX8_orders_68 : decode cX8_orders 68 = .ok (.invokestatic 134, 3) := by decide +kernel
theorem dX8_orders_71 : decode cX8_orders 71 = .ok (.ireturn, 1) := by decide +kernel
theorem dX8_whose_0 : decode cX8_whose 0 = .ok (.aload_n 0, 1) := by decide +kernel
theorem dX8_whose_1 : decode cX8_whose 1 = .ok (.getfield 12, 3) := by decide +kernel
theorem dX8_whose_4 : decode cX8_whose 4 = .ok (.iload_n 1, 1) := by decide +kernel
theorem dX8_whose_5 : decode cX8_whose 5 = .ok (.invokevirtual 105, 3) := by decide +kernel
theorem dX8_whose_8 : decode cX8_whose 8 = .ok (.ifCond .ne 5, 3) := by decide +kernel
theorem dX8_whose_11 : decode cX8_whose 11 = .ok (.iconst (-1), 1) := by decide +kernel
theorem dX8_whose_12 : decode cX8_whose 12 = .ok (.ireturn, 1) := by decide +kernel
theorem dX8_whose_13 : decode cX8_whose 13 = .ok (.aload_n 0, 1) := by decide +kernel
theorem dX8_whose_14 : decode cX8_whose 14 = .ok (.getfield 64, 3) := by decide +kernel
theorem dX8_whose_17 : decode cX8_whose 17 = .ok (.iload_n 1, 1) := by decide +kernel
theorem dX8_whose_18 : decode cX8_whose 18 = .ok (.invokevirtual 294, 3) := by decide +kernel
theorem dX8_whose_21 : decode cX8_whose 21 = .ok (.aload_n 0, 1) := by decide +kernel
theorem dX8_whose_22 : decode cX8_whose 22 = .ok (.getfield 64, 3) := by decide +kernel
theorem dX8_whose_25 : decode cX8_whose 25 = .ok (.getfield 302, 3) := by decide +kernel
theorem dX8_whose_28 : decode cX8_whose 28 = .ok (.ireturn, 1) := by decide +kernel
theorem dX8_keep_0 : decode cX8_keep 0 = .ok (.iload_n 1, 1) := by decide +kernel
theorem dX8_keep_1 : decode cX8_keep 1 = .ok (.invokestatic 305, 3) := by decide +kernel
theorem dX8_keep_4 : decode cX8_keep 4 = .ok (.ifCond .ne 5, 3) := by decide +kernel
theorem dX8_keep_7 : decode cX8_keep 7 = .ok (.iconst (-1), 1) := by decide +kernel
theorem dX8_keep_8 : decode cX8_keep 8 = .ok (.ireturn, 1) := by decide +kernel
theorem dX8_keep_9 : decode cX8_keep 9 = .ok (.aload_n 0, 1) := by decide +kernel
theorem dX8_keep_10 : decode cX8_keep 10 = .ok (.getfield 75, 3) := by decide +kernel
theorem dX8_keep_13 : decode cX8_keep 13 = .ok (.iload_n 1, 1) := by decide +kernel
theorem dX8_keep_14 : decode cX8_keep 14 = .ok (.ishr, 1) := by decide +kernel
theorem dX8_keep_15 : decode cX8_keep 15 = .ok (.iconst 1, 1) := by decide +kernel
theorem dX8_keep_16 : decode cX8_keep 16 = .ok (.iand, 1) := by decide +kernel
theorem dX8_keep_17 : decode cX8_keep 17 = .ok (.istore_n 2, 1) := by decide +kernel
theorem dX8_keep_18 : decode cX8_keep 18 = .ok (.aload_n 0, 1) := by decide +kernel
theorem dX8_keep_19 : decode cX8_keep 19 = .ok (.iload_n 1, 1) := by decide +kernel
theorem dX8_keep_20 : decode cX8_keep 20 = .ok (.invokevirtual 308, 3) := by decide +kernel
theorem dX8_keep_23 : decode cX8_keep 23 = .ok (.aload_n 0, 1) := by decide +kernel
theorem dX8_keep_24 : decode cX8_keep 24 = .ok (.getfield 12, 3) := by decide +kernel
theorem dX8_keep_27 : decode cX8_keep 27 = .ok (.invokevirtual 96, 3) := by decide +kernel
theorem dX8_keep_30 : decode cX8_keep 30 = .ok (.aload_n 0, 1) := by decide +kernel
theorem dX8_keep_31 : decode cX8_keep 31 = .ok (.dup, 1) := by decide +kernel
theorem dX8_keep_32 : decode cX8_keep 32 = .ok (.getfield 75, 3) := by decide +kernel
theorem dX8_keep_35 : decode cX8_keep 35 = .ok (.iconst 1, 1) := by decide +kernel
theorem dX8_keep_36 : decode cX8_keep 36 = .ok (.iload_n 1, 1) := by decide +kernel
theorem dX8_keep_37 : decode cX8_keep 37 = .ok (.ishl, 1) := by decide +kernel
theorem dX8_keep_38 : decode cX8_keep 38 = .ok (.ior, 1) := by decide +kernel
theorem dX8_keep_39 : decode cX8_keep 39 = .ok (.putfield 75, 3) := by decide +kernel
theorem dX8_keep_42 : decode cX8_keep 42 = .ok (.iload_n 2, 1) := by decide +kernel
theorem dX8_keep_43 : decode cX8_keep 43 = .ok (.ireturn, 1) := by decide +kernel
theorem dX8_back_0 : decode cX8_back 0 = .ok (.iload_n 1, 1) := by decide +kernel
theorem dX8_back_1 : decode cX8_back 1 = .ok (.invokestatic 305, 3) := by decide +kernel
theorem dX8_back_4 : decode cX8_back 4 = .ok (.ifCond .ne 5, 3) := by decide +kernel
theorem dX8_back_7 : decode cX8_back 7 = .ok (.iconst (-1), 1) := by decide +kernel
theorem dX8_back_8 : decode cX8_back 8 = .ok (.ireturn, 1) := by decide +kernel
theorem dX8_back_9 : decode cX8_back 9 = .ok (.aload_n 0, 1) := by decide +kernel
theorem dX8_back_10 : decode cX8_back 10 = .ok (.getfield 75, 3) := by decide +kernel
theorem dX8_back_13 : decode cX8_back 13 = .ok (.iload_n 1, 1) := by decide +kernel
theorem dX8_back_14 : decode cX8_back 14 = .ok (.ishr, 1) := by decide +kernel
theorem dX8_back_15 : decode cX8_back 15 = .ok (.iconst 1, 1) := by decide +kernel
theorem dX8_back_16 : decode cX8_back 16 = .ok (.iand, 1) := by decide +kernel
theorem dX8_back_17 : decode cX8_back 17 = .ok (.ifCond .ne 6, 3) := by decide +kernel
theorem dX8_back_20 : decode cX8_back 20 = .ok (.bipush (-2), 2) := by decide +kernel
theorem dX8_back_22 : decode cX8_back 22 = .ok (.ireturn, 1) := by decide +kernel
theorem dX8_back_23 : decode cX8_back 23 = .ok (.aload_n 0, 1) := by decide +kernel
theorem dX8_back_24 : decode cX8_back 24 = .ok (.getfield 12, 3) := by decide +kernel
theorem dX8_back_27 : decode cX8_back 27 = .ok (.aload_n 0, 1) := by decide +kernel
theorem dX8_back_28 : decode cX8_back 28 = .ok (.iload_n 1, 1) := by decide +kernel
theorem dX8_back_29 : decode cX8_back 29 = .ok (.invokevirtual 308, 3) := by decide +kernel
theorem dX8_back_32 : decode cX8_back 32 = .ok (.invokevirtual 96, 3) := by decide +kernel
theorem dX8_back_35 : decode cX8_back 35 = .ok (.aload_n 0, 1) := by decide +kernel
theorem dX8_back_36 : decode cX8_back 36 = .ok (.getfield 50, 3) := by decide +kernel
theorem dX8_back_39 : decode cX8_back 39 = .ok (.invokevirtual 99, 3) := by decide +kernel
theorem dX8_back_42 : decode cX8_back 42 = .ok (.aload_n 0, 1) := by decide +kernel
theorem dX8_back_43 : decode cX8_back 43 = .ok (.getfield 12, 3) := by decide +kernel
theorem dX8_back_46 : decode cX8_back 46 = .ok (.getfield 208, 3) := by decide +kernel
theorem dX8_back_49 : decode cX8_back 49 = .ok (.ireturn, 1) := by decide +kernel
theorem dX8_sheet_0 : decode cX8_sheet 0 = .ok (.iload_n 1, 1) := by decide +kernel
theorem dX8_sheet_1 : decode cX8_sheet 1 = .ok (.invokestatic 312, 3) := by decide +kernel
theorem dX8_sheet_4 : decode cX8_sheet 4 = .ok (.ifCond .eq 16, 3) := by decide +kernel
theorem dX8_sheet_7 : decode cX8_sheet 7 = .ok (.iload_n 2, 1) := by decide +kernel
theorem dX8_sheet_8 : decode cX8_sheet 8 = .ok (.invokestatic 315, 3) := by decide +kernel
theorem dX8_sheet_11 : decode cX8_sheet 11 = .ok (.ifCond .eq 9, 3) := by decide +kernel
theorem dX8_sheet_14 : decode cX8_sheet 14 = .ok (.iload_n 3, 1) := by decide +kernel
theorem dX8_sheet_15 : decode cX8_sheet 15 = .ok (.bipush 40, 2) := by decide +kernel
theorem dX8_sheet_17 : decode cX8_sheet 17 = .ok (.if_icmp .le 5, 3) := by decide +kernel
theorem dX8_sheet_20 : decode cX8_sheet 20 = .ok (.iconst (-1), 1) := by decide +kernel
theorem dX8_sheet_21 : decode cX8_sheet 21 = .ok (.ireturn, 1) := by decide +kernel
theorem dX8_sheet_22 : decode cX8_sheet 22 = .ok (.iload_n 3, 1) := by decide +kernel
theorem dX8_sheet_23 : decode cX8_sheet 23 = .ok (.ifCond .ge 6, 3) := by decide +kernel
theorem dX8_sheet_26 : decode cX8_sheet 26 = .ok (.bipush (-14), 2) := by decide +kernel
theorem dX8_sheet_28 : decode cX8_sheet 28 = .ok (.ireturn, 1) := by decide +kernel
theorem dX8_sheet_29 : decode cX8_sheet 29 = .ok (.aload_n 0, 1) := by decide +kernel
theorem dX8_sheet_30 : decode cX8_sheet 30 = .ok (.getfield 71, 3) := by decide +kernel
theorem dX8_sheet_33 : decode cX8_sheet 33 = .ok (.iload_n 1, 1) := by decide +kernel
theorem dX8_sheet_34 : decode cX8_sheet 34 = .ok (.iload_n 2, 1) := by decide +kernel
theorem dX8_sheet_35 : decode cX8_sheet 35 = .ok (.iload_n 3, 1) := by decide +kernel
theorem dX8_sheet_36 : decode cX8_sheet 36 = .ok (.invokevirtual 318, 3) := by decide +kernel
theorem dX8_sheet_39 : decode cX8_sheet 39 = .ok (.iconst 1, 1) := by decide +kernel
theorem dX8_sheet_40 : decode cX8_sheet 40 = .ok (.ireturn, 1) := by decide +kernel
theorem dX8_lay_0 : decode cX8_lay 0 = .ok (.iload_n 1, 1) := by decide +kernel
theorem dX8_lay_1 : decode cX8_lay 1 = .ok (.invokestatic 312, 3) := by decide +kernel
theorem dX8_lay_4 : decode cX8_lay 4 = .ok (.ifCond .ne 5, 3) := by decide +kernel
theorem dX8_lay_7 : decode cX8_lay 7 = .ok (.iconst (-1), 1) := by decide +kernel
theorem dX8_lay_8 : decode cX8_lay 8 = .ok (.ireturn, 1) := by decide +kernel
theorem dX8_lay_9 : decode cX8_lay 9 = .ok (.aload_n 0, 1) := by decide +kernel
theorem dX8_lay_10 : decode cX8_lay 10 = .ok (.getfield 71, 3) := by decide +kernel
theorem dX8_lay_13 : decode cX8_lay 13 = .ok (.iload_n 1, 1) := by decide +kernel
theorem dX8_lay_14 : decode cX8_lay 14 = .ok (.iload_n 2, 1) := by decide +kernel
theorem dX8_lay_15 : decode cX8_lay 15 = .ok (.invokevirtual 322, 3) := by decide +kernel
theorem dX8_lay_18 : decode cX8_lay 18 = .ok (.istore 4, 2) := by decide +kernel
theorem dX8_lay_20 : decode cX8_lay 20 = .ok (.iload 4, 2) := by decide +kernel
theorem dX8_lay_22 : decode cX8_lay 22 = .ok (.ifCond .eq 9, 3) := by decide +kernel
theorem dX8_lay_25 : decode cX8_lay 25 = .ok (.bipush (-10), 2) := by decide +kernel
theorem dX8_lay_27 : decode cX8_lay 27 = .ok (.iload 4, 2) := by decide +kernel
theorem dX8_lay_29 : decode cX8_lay 29 = .ok (.isub, 1) := by decide +kernel
theorem dX8_lay_30 : decode cX8_lay 30 = .ok (.ireturn, 1) := by decide +kernel
theorem dX8_lay_31 : decode cX8_lay 31 = .ok (.aload_n 0, 1) := by decide +kernel
theorem dX8_lay_32 : decode cX8_lay 32 = .ok (.getfield 71, 3) := by decide +kernel
theorem dX8_lay_35 : decode cX8_lay 35 = .ok (.iload_n 1, 1) := by decide +kernel
theorem dX8_lay_36 : decode cX8_lay 36 = .ok (.iload_n 2, 1) := by decide +kernel
theorem dX8_lay_37 : decode cX8_lay 37 = .ok (.iload_n 3, 1) := by decide +kernel
theorem dX8_lay_38 : decode cX8_lay 38 = .ok (.invokevirtual 325, 3) := by decide +kernel
theorem dX8_lay_41 : decode cX8_lay 41 = .ok (.iconst 1, 1) := by decide +kernel
theorem dX8_lay_42 : decode cX8_lay 42 = .ok (.ireturn, 1) := by decide +kernel
theorem dX8_read_0 : decode cX8_read 0 = .ok (.iload_n 1, 1) := by decide +kernel
theorem dX8_read_1 : decode cX8_read 1 = .ok (.invokestatic 312, 3) := by decide +kernel
theorem dX8_read_4 : decode cX8_read 4 = .ok (.ifCond .eq 22, 3) := by decide +kernel
theorem dX8_read_7 : decode cX8_read 7 = .ok (.iload_n 2, 1) := by decide +kernel
theorem dX8_read_8 : decode cX8_read 8 = .ok (.invokestatic 315, 3) := by decide +kernel
theorem dX8_read_11 : decode cX8_read 11 = .ok (.ifCond .eq 15, 3) := by decide +kernel
theorem dX8_read_14 : decode cX8_read 14 = .ok (.iload 4, 2) := by decide +kernel
theorem dX8_read_16 : decode cX8_read 16 = .ok (.ifCond .lt 10, 3) := by decide +kernel
theorem dX8_read_19 : decode cX8_read 19 = .ok (.iload 4, 2) := by decide +kernel
theorem dX8_read_21 : decode cX8_read 21 = .ok (.bipush 8, 2) := by decide +kernel
theorem dX8_read_23 : decode cX8_read 23 = .ok (.if_icmp .le 5, 3) := by decide +kernel
theorem dX8_read_26 : decode cX8_read 26 = .ok (.iconst (-1), 1) := by decide +kernel
theorem dX8_read_27 : decode cX8_read 27 = .ok (.ireturn, 1) := by decide +kernel
theorem dX8_read_28 : decode cX8_read 28 = .ok (.iload 4, 2) := by decide +kernel
theorem dX8_read_30 : decode cX8_read 30 = .ok (.ifCond .ne 7, 3) := by decide +kernel
theorem dX8_read_33 : decode cX8_read 33 = .ok (.iconst 0, 1) := by decide +kernel
theorem dX8_read_34 : decode cX8_read 34 = .ok (.goto 15, 3) := by decide +kernel
theorem dX8_read_37 : decode cX8_read 37 = .ok (.aload_n 0, 1) := by decide +kernel
theorem dX8_read_38 : decode cX8_read 38 = .ok (.getfield 71, 3) := by decide +kernel
theorem dX8_read_41 : decode cX8_read 41 = .ok (.iload_n 1, 1) := by decide +kernel
theorem dX8_read_42 : decode cX8_read 42 = .ok (.iload_n 2, 1) := by decide +kernel
theorem dX8_read_43 : decode cX8_read 43 = .ok (.iload_n 3, 1) := by decide +kernel
theorem dX8_read_44 : decode cX8_read 44 = .ok (.iload 4, 2) := by decide +kernel
theorem dX8_read_46 : decode cX8_read 46 = .ok (.invokevirtual 328, 3) := by decide +kernel
theorem dX8_read_49 : decode cX8_read 49 = .ok (.istore 5, 2) := by decide +kernel
theorem dX8_read_51 : decode cX8_read 51 = .ok (.iconst 0, 1) := by decide +kernel
theorem dX8_read_52 : decode cX8_read 52 = .ok (.istore 6, 2) := by decide +kernel
theorem dX8_read_54 : decode cX8_read 54 = .ok (.iload 6, 2) := by decide +kernel
theorem dX8_read_56 : decode cX8_read 56 = .ok (.iload 5, 2) := by decide +kernel
theorem dX8_read_58 : decode cX8_read 58 = .ok (.if_icmp .ge 73, 3) := by decide +kernel
theorem dX8_read_61 : decode cX8_read 61 = .ok (.aload_n 0, 1) := by decide +kernel
theorem dX8_read_62 : decode cX8_read 62 = .ok (.getfield 71, 3) := by decide +kernel
theorem dX8_read_65 : decode cX8_read 65 = .ok (.iload_n 1, 1) := by decide +kernel
theorem dX8_read_66 : decode cX8_read 66 = .ok (.iload_n 3, 1) := by decide +kernel
theorem dX8_read_67 : decode cX8_read 67 = .ok (.iconst 2, 1) := by decide +kernel
theorem dX8_read_68 : decode cX8_read 68 = .ok (.iload 6, 2) := by decide +kernel
theorem dX8_read_70 : decode cX8_read 70 = .ok (.imul, 1) := by decide +kernel
theorem dX8_read_71 : decode cX8_read 71 = .ok (.iadd, 1) := by decide +kernel
theorem dX8_read_72 : decode cX8_read 72 = .ok (.invokevirtual 332, 3) := by decide +kernel
theorem dX8_read_75 : decode cX8_read 75 = .ok (.istore 7, 2) := by decide +kernel
theorem dX8_read_77 : decode cX8_read 77 = .ok (.aload_n 0, 1) := by decide +kernel
theorem dX8_read_78 : decode cX8_read 78 = .ok (.getfield 71, 3) := by decide +kernel
theorem dX8_read_81 : decode cX8_read 81 = .ok (.iload_n 1, 1) := by decide +kernel
theorem dX8_read_82 : decode cX8_read 82 = .ok (.iload_n 3, 1) := by decide +kernel
theorem dX8_read_83 : decode cX8_read 83 = .ok (.iconst 2, 1) := by decide +kernel
theorem dX8_read_84 : decode cX8_read 84 = .ok (.iload 6, 2) := by decide +kernel
theorem dX8_read_86 : decode cX8_read 86 = .ok (.imul, 1) := by decide +kernel
theorem dX8_read_87 : decode cX8_read 87 = .ok (.iadd, 1) := by decide +kernel
theorem dX8_read_88 : decode cX8_read 88 = .ok (.iconst 1, 1) := by decide +kernel
theorem dX8_read_89 : decode cX8_read 89 = .ok (.iadd, 1) := by decide +kernel
theorem dX8_read_90 : decode cX8_read 90 = .ok (.invokevirtual 332, 3) := by decide +kernel
theorem dX8_read_93 : decode cX8_read 93 = .ok (.istore 8, 2) := by decide +kernel
theorem dX8_read_95 : decode cX8_read 95 = .ok (.aload_n 0, 1) := by decide +kernel
theorem dX8_read_96 : decode cX8_read 96 = .ok (.getfield 12, 3) := by decide +kernel
theorem dX8_read_99 : decode cX8_read 99 = .ok (.iload 7, 2) := by decide +kernel
theorem dX8_read_101 : decode cX8_read 101 = .ok (.iload 8, 2) := by decide +kernel
theorem dX8_read_103 : decode cX8_read 103 = .ok (.aload_n 0, 1) := by decide +kernel
theorem dX8_read_104 : decode cX8_read 104 = .ok (.getfield 12, 3) := by decide +kernel
theorem dX8_read_107 : decode cX8_read 107 = .ok (.getfield 285, 3) := by decide +kernel
theorem dX8_read_110 : decode cX8_read 110 = .ok (.iload 6, 2) := by decide +kernel
theorem dX8_read_112 : decode cX8_read 112 = .ok (.iadd, 1) := by decide +kernel
theorem dX8_read_113 : decode cX8_read 113 = .ok (.invokevirtual 288, 3) := by decide +kernel
theorem dX8_read_116 : decode cX8_read 116 = .ok (.ifCond .eq 9, 3) := by decide +kernel
theorem dX8_read_119 : decode cX8_read 119 = .ok (.bipush (-20), 2) := by decide +kernel
theorem dX8_read_121 : decode cX8_read 121 = .ok (.iload 6, 2) := by decide +kernel
theorem dX8_read_123 : decode cX8_read 123 = .ok (.isub, 1) := by decide +kernel
theorem dX8_read_124 : decode cX8_read 124 = .ok (.ireturn, 1) := by decide +kernel
theorem dX8_read_125 : decode cX8_read 125 = .ok (.iinc 6 1, 3) := by decide +kernel
theorem dX8_read_128 : decode cX8_read 128 = .ok (.goto (-74), 3) := by decide +kernel
theorem dX8_read_131 : decode cX8_read 131 = .ok (.aload_n 0, 1) := by decide +kernel
theorem dX8_read_132 : decode cX8_read 132 = .ok (.getfield 71, 3) := by decide +kernel
theorem dX8_read_135 : decode cX8_read 135 = .ok (.iload 4, 2) := by decide +kernel
theorem dX8_read_137 : decode cX8_read 137 = .ok (.ifCond .ne 7, 3) := by decide +kernel
theorem dX8_read_140 : decode cX8_read 140 = .ok (.iconst 0, 1) := by decide +kernel
theorem dX8_read_141 : decode cX8_read 141 = .ok (.goto 16, 3) := by decide +kernel
theorem dX8_read_144 : decode cX8_read 144 = .ok (.aload_n 0, 1) := by decide +kernel
theorem dX8_read_145 : decode cX8_read 145 = .ok (.getfield 71, 3) := by decide +kernel
theorem dX8_read_148 : decode cX8_read 148 = .ok (.iload_n 1, 1) := by decide +kernel
theorem dX8_read_149 : decode cX8_read 149 = .ok (.iload_n 2, 1) := by decide +kernel
theorem dX8_read_150 : decode cX8_read 150 = .ok (.iload 5, 2) := by decide +kernel
theorem dX8_read_152 : decode cX8_read 152 = .ok (.iload 4, 2) := by decide +kernel
theorem dX8_read_154 : decode cX8_read 154 = .ok (.invokevirtual 335, 3) := by decide +kernel
theorem dX8_read_157 : decode cX8_read 157 = .ok (.putfield 338, 3) := by decide +kernel
theorem dX8_read_160 : decode cX8_read 160 = .ok (.iconst 0, 1) := by decide +kernel
theorem dX8_read_161 : decode cX8_read 161 = .ok (.istore 6, 2) := by decide +kernel
theorem dX8_read_163 : decode cX8_read 163 = .ok (.iload 6, 2) := by decide +kernel
theorem dX8_read_165 : decode cX8_read 165 = .ok (.iload 5, 2) := by decide +kernel
theorem dX8_read_167 : decode cX8_read 167 = .ok (.if_icmp .ge 47, 3) := by decide +kernel
theorem dX8_read_170 : decode cX8_read 170 = .ok (.aload_n 0, 1) := by decide +kernel
theorem dX8_read_171 : decode cX8_read 171 = .ok (.getfield 12, 3) := by decide +kernel
theorem dX8_read_174 : decode cX8_read 174 = .ok (.aload_n 0, 1) := by decide +kernel
theorem dX8_read_175 : decode cX8_read 175 = .ok (.getfield 71, 3) := by decide +kernel
theorem dX8_read_178 : decode cX8_read 178 = .ok (.iload_n 1, 1) := by decide +kernel
theorem dX8_read_179 : decode cX8_read 179 = .ok (.iload_n 3, 1) := by decide +kernel
theorem dX8_read_180 : decode cX8_read 180 = .ok (.iconst 2, 1) := by decide +kernel
theorem dX8_read_181 : decode cX8_read 181 = .ok (.iload 6, 2) := by decide +kernel
theorem dX8_read_183 : decode cX8_read 183 = .ok (.imul, 1) := by decide +kernel
theorem dX8_read_184 : decode cX8_read 184 = .ok (.iadd, 1) := by decide +kernel
theorem dX8_read_185 : decode cX8_read 185 = .ok (.invokevirtual 332, 3) := by decide +kernel
theorem dX8_read_188 : decode cX8_read 188 = .ok (.aload_n 0, 1) := by decide +kernel
theorem dX8_read_189 : decode cX8_read 189 = .ok (.getfield 71, 3) := by decide +kernel
theorem dX8_read_192 : decode cX8_read 192 = .ok (.iload_n 1, 1) := by decide +kernel
theorem dX8_read_193 : decode cX8_read 193 = .ok (.iload_n 3, 1) := by decide +kernel
theorem dX8_read_194 : decode cX8_read 194 = .ok (.iconst 2, 1) := by decide +kernel
theorem dX8_read_195 : decode cX8_read 195 = .ok (.iload 6, 2) := by decide +kernel
theorem dX8_read_197 : decode cX8_read 197 = .ok (.imul, 1) := by decide +kernel
theorem dX8_read_198 : decode cX8_read 198 = .ok (.iadd, 1) := by decide +kernel
theorem dX8_read_199 : decode cX8_read 199 = .ok (.iconst 1, 1) := by decide +kernel
theorem dX8_read_200 : decode cX8_read 200 = .ok (.iadd, 1) := by decide +kernel
theorem dX8_read_201 : decode cX8_read 201 = .ok (.invokevirtual 332, 3) := by decide +kernel
theorem dX8_read_204 : decode cX8_read 204 = .ok (.invokevirtual 291, 3) := by decide +kernel
theorem dX8_read_207 : decode cX8_read 207 = .ok (.pop, 1) := by decide +kernel
theorem dX8_read_208 : decode cX8_read 208 = .ok (.iinc 6 1, 3) := by decide +kernel
theorem dX8_read_211 : decode cX8_read 211 = .ok (.goto (-48), 3) := by decide +kernel
theorem dX8_read_214 : decode cX8_read 214 = .ok (.iload 5, 2) := by decide +kernel
theorem dX8_read_216 : decode cX8_read 216 = .ok (.ireturn, 1) := by decide +kernel
theorem dX8_torn_0 : decode cX8_torn 0 = .ok (.aload_n 0, 1) := by decide +kernel
theorem dX8_torn_1 : decode cX8_torn 1 = .ok (.getfield 71, 3) := by decide +kernel
theorem dX8_torn_4 : decode cX8_torn 4 = .ok (.getfield 338, 3) := by decide +kernel
theorem dX8_torn_7 : decode cX8_torn 7 = .ok (.ireturn, 1) := by decide +kernel
theorem dX8_count_0 : decode cX8_count 0 = .ok (.iload_n 1, 1) := by decide +kernel
theorem dX8_count_1 : decode cX8_count 1 = .ok (.tableswitch 88 0 5 #[39, 47, 55, 63, 71, 79], 39) := by decide +kernel
theorem dX8_count_40 : decode cX8_count 40 = .ok (.aload_n 0, 1) := by decide +kernel
theorem dX8_count_41 : decode cX8_count 41 = .ok (.getfield 12, 3) := by decide +kernel
theorem dX8_count_44 : decode cX8_count 44 = .ok (.getfield 341, 3) := by decide +kernel
theorem dX8_count_47 : decode cX8_count 47 = .ok (.ireturn, 1) := by decide +kernel
theorem dX8_count_48 : decode cX8_count 48 = .ok (.aload_n 0, 1) := by decide +kernel
theorem dX8_count_49 : decode cX8_count 49 = .ok (.getfield 12, 3) := by decide +kernel
theorem dX8_count_52 : decode cX8_count 52 = .ok (.getfield 208, 3) := by decide +kernel
theorem dX8_count_55 : decode cX8_count 55 = .ok (.ireturn, 1) := by decide +kernel
theorem dX8_count_56 : decode cX8_count 56 = .ok (.aload_n 0, 1) := by decide +kernel
theorem dX8_count_57 : decode cX8_count 57 = .ok (.getfield 12, 3) := by decide +kernel
theorem dX8_count_60 : decode cX8_count 60 = .ok (.getfield 285, 3) := by decide +kernel
theorem dX8_count_63 : decode cX8_count 63 = .ok (.ireturn, 1) := by decide +kernel
theorem dX8_count_64 : decode cX8_count 64 = .ok (.aload_n 0, 1) := by decide +kernel
theorem dX8_count_65 : decode cX8_count 65 = .ok (.getfield 75, 3) := by decide +kernel
theorem dX8_count_68 : decode cX8_count 68 = .ok (.invokestatic 344, 3) := by decide +kernel
theorem dX8_count_71 : decode cX8_count 71 = .ok (.ireturn, 1) := by decide +kernel
theorem dX8_count_72 : decode cX8_count 72 = .ok (.aload_n 0, 1) := by decide +kernel
theorem dX8_count_73 : decode cX8_count 73 = .ok (.getfield 25, 3) := by decide +kernel
theorem dX8_count_76 : decode cX8_count 76 = .ok (.getfield 79, 3) := by decide +kernel
theorem dX8_count_79 : decode cX8_count 79 = .ok (.ireturn, 1) := by decide +kernel
theorem dX8_count_80 : decode cX8_count 80 = .ok (.aload_n 0, 1) := by decide +kernel
theorem dX8_count_81 : decode cX8_count 81 = .ok (.getfield 71, 3) := by decide +kernel
theorem dX8_count_84 : decode cX8_count 84 = .ok (.iconst 0, 1) := by decide +kernel
theorem dX8_count_85 : decode cX8_count 85 = .ok (.invokevirtual 349, 3) := by decide +kernel
theorem dX8_count_88 : decode cX8_count 88 = .ok (.ireturn, 1) := by decide +kernel
theorem dX8_count_89 : decode cX8_count 89 = .ok (.iconst (-1), 1) := by decide +kernel
theorem dX8_count_90 : decode cX8_count 90 = .ok (.ireturn, 1) := by decide +kernel
theorem dX8_image_0 : decode cX8_image 0 = .ok (.iload_n 1, 1) := by decide +kernel
theorem dX8_image_1 : decode cX8_image 1 = .ok (.ifCond .ne 10, 3) := by decide +kernel
theorem dX8_image_4 : decode cX8_image 4 = .ok (.aload_n 0, 1) := by decide +kernel
theorem dX8_image_5 : decode cX8_image 5 = .ok (.getfield 16, 3) := by decide +kernel
theorem dX8_image_8 : decode cX8_image 8 = .ok (.goto 7, 3) := by decide +kernel
theorem dX8_image_11 : decode cX8_image 11 = .ok (.aload_n 0, 1) := by decide +kernel
theorem dX8_image_12 : decode cX8_image 12 = .ok (.getfield 19, 3) := by decide +kernel
theorem dX8_image_15 : decode cX8_image 15 = .ok (.areturn, 1) := by decide +kernel
theorem dX8_isImage_0 : decode cX8_isImage 0 = .ok (.iload_n 0, 1) := by decide +kernel
theorem dX8_isImage_1 : decode cX8_isImage 1 = .ok (.ifCond .eq 8, 3) := by decide +kernel
theorem dX8_isImage_4 : decode cX8_isImage 4 = .ok (.iload_n 0, 1) := by decide +kernel
theorem dX8_isImage_5 : decode cX8_isImage 5 = .ok (.iconst 1, 1) := by decide +kernel
theorem dX8_isImage_6 : decode cX8_isImage 6 = .ok (.if_icmp .ne 7, 3) := by decide +kernel
theorem dX8_isImage_9 : decode cX8_isImage 9 = .ok (.iconst 1, 1) := by decide +kernel
theorem dX8_isImage_10 : decode cX8_isImage 10 = .ok (.goto 4, 3) := by decide +kernel
theorem dX8_isImage_13 : decode cX8_isImage 13 = .ok (.iconst 0, 1) := by decide +kernel
theorem dX8_isImage_14 : decode cX8_isImage 14 = .ok (.ireturn, 1) := by decide +kernel
theorem dX8_isWidth_0 : decode cX8_isWidth 0 = .ok (.iload_n 0, 1) := by decide +kernel
theorem dX8_isWidth_1 : decode cX8_isWidth 1 = .ok (.ifCond .lt 12, 3) := by decide +kernel
theorem dX8_isWidth_4 : decode cX8_isWidth 4 = .ok (.iload_n 0, 1) := by decide +kernel
theorem dX8_isWidth_5 : decode cX8_isWidth 5 = .ok (.iconst 3, 1) := by decide +kernel
theorem dX8_isWidth_6 : decode cX8_isWidth 6 = .ok (.if_icmp .ge 7, 3) := by decide +kernel
theorem dX8_isWidth_9 : decode cX8_isWidth 9 = .ok (.iconst 1, 1) := by decide +kernel
theorem dX8_isWidth_10 : decode cX8_isWidth 10 = .ok (.goto 4, 3) := by decide +kernel
theorem dX8_isWidth_13 : decode cX8_isWidth 13 = .ok (.iconst 0, 1) := by decide +kernel
theorem dX8_isWidth_14 : decode cX8_isWidth 14 = .ok (.ireturn, 1) := by decide +kernel
theorem dX8_isHour_0 : decode cX8_isHour 0 = .ok (.iload_n 0, 1) := by decide +kernel
theorem dX8_isHour_1 : decode cX8_isHour 1 = .ok (.iconst 1, 1) := by decide +kernel
theorem dX8_isHour_2 : decode cX8_isHour 2 = .ok (.if_icmp .lt 13, 3) := by decide +kernel
theorem dX8_isHour_5 : decode cX8_isHour 5 = .ok (.iload_n 0, 1) := by decide +kernel
theorem dX8_isHour_6 : decode cX8_isHour 6 = .ok (.bipush 60, 2) := by decide +kernel
theorem dX8_isHour_8 : decode cX8_isHour 8 = .ok (.if_icmp .gt 7, 3) := by decide +kernel
theorem dX8_isHour_11 : decode cX8_isHour 11 = .ok (.iconst 1, 1) := by decide +kernel
theorem dX8_isHour_12 : decode cX8_isHour 12 = .ok (.goto 4, 3) := by decide +kernel
theorem dX8_isHour_15 : decode cX8_isHour 15 = .ok (.iconst 0, 1) := by decide +kernel
theorem dX8_isHour_16 : decode cX8_isHour 16 = .ok (.ireturn, 1) := by decide +kernel
theorem dX8_isBehind_0 : decode cX8_isBehind 0 = .ok (.iload_n 0, 1) := by decide +kernel
theorem dX8_isBehind_1 : decode cX8_isBehind 1 = .ok (.ifCond .lt 13, 3) := by decide +kernel
theorem dX8_isBehind_4 : decode cX8_isBehind 4 = .ok (.iload_n 0, 1) := by decide +kernel
theorem dX8_isBehind_5 : decode cX8_isBehind 5 = .ok (.bipush 60, 2) := by decide +kernel
theorem dX8_isBehind_7 : decode cX8_isBehind 7 = .ok (.if_icmp .gt 7, 3) := by decide +kernel
theorem dX8_isBehind_10 : decode cX8_isBehind 10 = .ok (.iconst 1, 1) := by decide +kernel
theorem dX8_isBehind_11 : decode cX8_isBehind 11 = .ok (.goto 4, 3) := by decide +kernel
theorem dX8_isBehind_14 : decode cX8_isBehind 14 = .ok (.iconst 0, 1) := by decide +kernel
theorem dX8_isBehind_15 : decode cX8_isBehind 15 = .ok (.ireturn, 1) := by decide +kernel
theorem dX8_isPeoples_0 : decode cX8_isPeoples 0 = .ok (.iload_n 0, 1) := by decide +kernel
theorem dX8_isPeoples_1 : decode cX8_isPeoples 1 = .ok (.iconst 1, 1) := by decide +kernel
theorem dX8_isPeoples_2 : decode cX8_isPeoples 2 = .ok (.if_icmp .lt 13, 3) := by decide +kernel
theorem dX8_isPeoples_5 : decode cX8_isPeoples 5 = .ok (.iload_n 0, 1) := by decide +kernel
theorem dX8_isPeoples_6 : decode cX8_isPeoples 6 = .ok (.bipush 7, 2) := by decide +kernel
theorem dX8_isPeoples_8 : decode cX8_isPeoples 8 = .ok (.if_icmp .gt 7, 3) := by decide +kernel
theorem dX8_isPeoples_11 : decode cX8_isPeoples 11 = .ok (.iconst 1, 1) := by decide +kernel
theorem dX8_isPeoples_12 : decode cX8_isPeoples 12 = .ok (.goto 4, 3) := by decide +kernel
theorem dX8_isPeoples_15 : decode cX8_isPeoples 15 = .ok (.iconst 0, 1) := by decide +kernel
theorem dX8_isPeoples_16 : decode cX8_isPeoples 16 = .ok (.ireturn, 1) := by decide +kernel
theorem dX8_isShare_0 : decode cX8_isShare 0 = .ok (.iload_n 0, 1) := by decide +kernel
theorem dX8_isShare_1 : decode cX8_isShare 1 = .ok (.ifCond .lt 13, 3) := by decide +kernel
theorem dX8_isShare_4 : decode cX8_isShare 4 = .ok (.iload_n 0, 1) := by decide +kernel
theorem dX8_isShare_5 : decode cX8_isShare 5 = .ok (.bipush 60, 2) := by decide +kernel
theorem dX8_isShare_7 : decode cX8_isShare 7 = .ok (.if_icmp .gt 7, 3) := by decide +kernel
theorem dX8_isShare_10 : decode cX8_isShare 10 = .ok (.iconst 1, 1) := by decide +kernel
theorem dX8_isShare_11 : decode cX8_isShare 11 = .ok (.goto 4, 3) := by decide +kernel
theorem dX8_isShare_14 : decode cX8_isShare 14 = .ok (.iconst 0, 1) := by decide +kernel
theorem dX8_isShare_15 : decode cX8_isShare 15 = .ok (.ireturn, 1) := by decide +kernel
theorem dX8_less_0 : decode cX8_less 0 = .ok (.iload_n 0, 1) := by decide +kernel
theorem dX8_less_1 : decode cX8_less 1 = .ok (.iload_n 1, 1) := by decide +kernel
theorem dX8_less_2 : decode cX8_less 2 = .ok (.if_icmp .ge 7, 3) := by decide +kernel
theorem dX8_less_5 : decode cX8_less 5 = .ok (.iconst (-1), 1) := by decide +kernel
theorem dX8_less_6 : decode cX8_less 6 = .ok (.goto 6, 3) := by decide +kernel
theorem dX8_less_9 : decode cX8_less 9 = .ok (.iload_n 0, 1) := by decide +kernel
theorem dX8_less_10 : decode cX8_less 10 = .ok (.iload_n 1, 1) := by decide +kernel
theorem dX8_less_11 : decode cX8_less 11 = .ok (.isub, 1) := by decide +kernel
theorem dX8_less_12 : decode cX8_less 12 = .ok (.ireturn, 1) := by decide +kernel
theorem dX8_rut_0 : decode cX8_rut 0 = .ok (.iload_n 0, 1) := by decide +kernel
theorem dX8_rut_1 : decode cX8_rut 1 = .ok (.iconst 3, 1) := by decide +kernel
theorem dX8_rut_2 : decode cX8_rut 2 = .ok (.imul, 1) := by decide +kernel
theorem dX8_rut_3 : decode cX8_rut 3 = .ok (.iload_n 1, 1) := by decide +kernel
theorem dX8_rut_4 : decode cX8_rut 4 = .ok (.iadd, 1) := by decide +kernel
theorem dX8_rut_5 : decode cX8_rut 5 = .ok (.ireturn, 1) := by decide +kernel
theorem dX8_at_0 : decode cX8_at 0 = .ok (.iload_n 1, 1) := by decide +kernel
theorem dX8_at_1 : decode cX8_at 1 = .ok (.ifCond .lt 15, 3) := by decide +kernel
theorem dX8_at_4 : decode cX8_at 4 = .ok (.iload_n 1, 1) := by decide +kernel
theorem dX8_at_5 : decode cX8_at 5 = .ok (.aload_n 0, 1) := by decide +kernel
theorem dX8_at_6 : decode cX8_at 6 = .ok (.arraylength, 1) := by decide +kernel
theorem dX8_at_7 : decode cX8_at 7 = .ok (.if_icmp .ge 9, 3) := by decide +kernel
theorem dX8_at_10 : decode cX8_at 10 = .ok (.aload_n 0, 1) := by decide +kernel
theorem dX8_at_11 : decode cX8_at 11 = .ok (.iload_n 1, 1) := by decide +kernel
theorem dX8_at_12 : decode cX8_at 12 = .ok (.iaload, 1) := by decide +kernel
theorem dX8_at_13 : decode cX8_at 13 = .ok (.goto 4, 3) := by decide +kernel
theorem dX8_at_16 : decode cX8_at 16 = .ok (.iconst 0, 1) := by decide +kernel
theorem dX8_at_17 : decode cX8_at 17 = .ok (.ireturn, 1) := by decide +kernel
theorem dX8_put_0 : decode cX8_put 0 = .ok (.iload_n 1, 1) := by decide +kernel
theorem dX8_put_1 : decode cX8_put 1 = .ok (.ifCond .lt 13, 3) := by decide +kernel
theorem dX8_put_4 : decode cX8_put 4 = .ok (.iload_n 1, 1) := by decide +kernel
theorem dX8_put_5 : decode cX8_put 5 = .ok (.aload_n 0, 1) := by decide +kernel
theorem dX8_put_6 : decode cX8_put 6 = .ok (.arraylength, 1) := by decide +kernel
theorem dX8_put_7 : decode cX8_put 7 = .ok (.if_icmp .ge 7, 3) := by decide +kernel
theorem dX8_put_10 : decode cX8_put 10 = .ok (.aload_n 0, 1) := by decide +kernel
theorem dX8_put_11 : decode cX8_put 11 = .ok (.iload_n 1, 1) := by decide +kernel
theorem dX8_put_12 : decode cX8_put 12 = .ok (.iload_n 2, 1) := by decide +kernel
theorem dX8_put_13 : decode cX8_put 13 = .ok (.iastore, 1) := by decide +kernel
theorem dX8_put_14 : decode cX8_put 14 = .ok (.return_, 1) := by decide +kernel
theorem dX8_swap_0 : decode cX8_swap 0 = .ok (.aload_n 0, 1) := by decide +kernel
theorem dX8_swap_1 : decode cX8_swap 1 = .ok (.iload_n 1, 1) := by decide +kernel
theorem dX8_swap_2 : decode cX8_swap 2 = .ok (.invokestatic 134, 3) := by decide +kernel
theorem dX8_swap_5 : decode cX8_swap 5 = .ok (.istore_n 3, 1) := by decide +kernel
theorem dX8_swap_6 : decode cX8_swap 6 = .ok (.aload_n 0, 1) := by decide +kernel
theorem dX8_swap_7 : decode cX8_swap 7 = .ok (.iload_n 1, 1) := by decide +kernel
theorem dX8_swap_8 : decode cX8_swap 8 = .ok (.iload_n 2, 1) := by decide +kernel
theorem dX8_swap_9 : decode cX8_swap 9 = .ok (.invokestatic 204, 3) := by decide +kernel
theorem dX8_swap_12 : decode cX8_swap 12 = .ok (.iload_n 3, 1) := by decide +kernel
theorem dX8_swap_13 : decode cX8_swap 13 = .ok (.ireturn, 1) := by decide +kernel
theorem dX8_copy_0 : decode cX8_copy 0 = .ok (.iconst 0, 1) := by decide +kernel
theorem dX8_copy_1 : decode cX8_copy 1 = .ok (.istore_n 2, 1) := by decide +kernel
theorem dX8_copy_2 : decode cX8_copy 2 = .ok (.iload_n 2, 1) := by decide +kernel
theorem dX8_copy_3 : decode cX8_copy 3 = .ok (.aload_n 1, 1) := by decide +kernel
theorem dX8_copy_4 : decode cX8_copy 4 = .ok (.arraylength, 1) := by decide +kernel
theorem dX8_copy_5 : decode cX8_copy 5 = .ok (.if_icmp .ge 21, 3) := by decide +kernel
theorem dX8_copy_8 : decode cX8_copy 8 = .ok (.iload_n 2, 1) := by decide +kernel
theorem dX8_copy_9 : decode cX8_copy 9 = .ok (.aload_n 0, 1) := by decide +kernel
theorem dX8_copy_10 : decode cX8_copy 10 = .ok (.arraylength, 1) := by decide +kernel
theorem dX8_copy_11 : decode cX8_copy 11 = .ok (.if_icmp .ge 15, 3) := by decide +kernel
theorem dX8_copy_14 : decode cX8_copy 14 = .ok (.aload_n 1, 1) := by decide +kernel
theorem dX8_copy_15 : decode cX8_copy 15 = .ok (.iload_n 2, 1) := by decide +kernel
theorem dX8_copy_16 : decode cX8_copy 16 = .ok (.aload_n 0, 1) := by decide +kernel
theorem dX8_copy_17 : decode cX8_copy 17 = .ok (.iload_n 2, 1) := by decide +kernel
theorem dX8_copy_18 : decode cX8_copy 18 = .ok (.iaload, 1) := by decide +kernel
theorem dX8_copy_19 : decode cX8_copy 19 = .ok (.iastore, 1) := by decide +kernel
theorem dX8_copy_20 : decode cX8_copy 20 = .ok (.iinc 2 1, 3) := by decide +kernel
theorem dX8_copy_23 : decode cX8_copy 23 = .ok (.goto (-21), 3) := by decide +kernel
theorem dX8_copy_26 : decode cX8_copy 26 = .ok (.return_, 1) := by decide +kernel
theorem dX8_wipe_0 : decode cX8_wipe 0 = .ok (.iconst 0, 1) := by decide +kernel
theorem dX8_wipe_1 : decode cX8_wipe 1 = .ok (.istore_n 2, 1) := by decide +kernel
theorem dX8_wipe_2 : decode cX8_wipe 2 = .ok (.iload_n 2, 1) := by decide +kernel
theorem dX8_wipe_3 : decode cX8_wipe 3 = .ok (.aload_n 0, 1) := by decide +kernel
theorem dX8_wipe_4 : decode cX8_wipe 4 = .ok (.arraylength, 1) := by decide +kernel
theorem dX8_wipe_5 : decode cX8_wipe 5 = .ok (.if_icmp .ge 13, 3) := by decide +kernel
theorem dX8_wipe_8 : decode cX8_wipe 8 = .ok (.aload_n 0, 1) := by decide +kernel
theorem dX8_wipe_9 : decode cX8_wipe 9 = .ok (.iload_n 2, 1) := by decide +kernel
theorem dX8_wipe_10 : decode cX8_wipe 10 = .ok (.iload_n 1, 1) := by decide +kernel
theorem dX8_wipe_11 : decode cX8_wipe 11 = .ok (.iastore, 1) := by decide +kernel
theorem dX8_wipe_12 : decode cX8_wipe 12 = .ok (.iinc 2 1, 3) := by decide +kernel
theorem dX8_wipe_15 : decode cX8_wipe 15 = .ok (.goto (-13), 3) := by decide +kernel
theorem dX8_wipe_18 : decode cX8_wipe 18 = .ok (.return_, 1) := by decide +kernel
theorem dX9_init_0 : decode cX9_init 0 = .ok (.aload_n 0, 1) := by decide +kernel
theorem dX9_init_1 : decode cX9_init 1 = .ok (.invokespecial 1, 3) := by decide +kernel
theorem dX9_init_4 : decode cX9_init 4 = .ok (.aload_n 0, 1) := by decide +kernel
theorem dX9_init_5 : decode cX9_init 5 = .ok (.sipush 555, 3) := by decide +kernel
theorem dX9_init_8 : decode cX9_init 8 = .ok (.newarray .int, 2) := by decide +kernel
theorem dX9_init_10 : decode cX9_init 10 = .ok (.putfield 7, 3) := by decide +kernel
theorem dX9_init_13 : decode cX9_init 13 = .ok (.aload_n 0, 1) := by decide +kernel
theorem dX9_init_14 : decode cX9_init 14 = .ok (.iconst 2, 1) := by decide +kernel
theorem dX9_init_15 : decode cX9_init 15 = .ok (.newarray .boolean, 2) := by decide +kernel
theorem dX9_init_17 : decode cX9_init 17 = .ok (.putfield 13, 3) := by decide +kernel
theorem dX9_init_20 : decode cX9_init 20 = .ok (.aload_n 0, 1) := by decide +kernel
theorem dX9_init_21 : decode cX9_init 21 = .ok (.bipush 21, 2) := by decide +kernel
theorem dX9_init_23 : decode cX9_init 23 = .ok (.newarray .boolean, 2) := by decide +kernel
theorem dX9_init_25 : decode cX9_init 25 = .ok (.putfield 17, 3) := by decide +kernel
theorem dX9_init_28 : decode cX9_init 28 = .ok (.aload_n 0, 1) := by decide +kernel
theorem dX9_init_29 : decode cX9_init 29 = .ok (.bipush 21, 2) := by decide +kernel
theorem dX9_init_31 : decode cX9_init 31 = .ok (.newarray .int, 2) := by decide +kernel
theorem dX9_init_33 : decode cX9_init 33 = .ok (.putfield 20, 3) := by decide +kernel
theorem dX9_init_36 : decode cX9_init 36 = .ok (.aload_n 0, 1) := by decide +kernel
theorem dX9_init_37 : decode cX9_init 37 = .ok (.bipush 21, 2) := by decide +kernel
theorem dX9_init_39 : decode cX9_init 39 = .ok (.newarray .int, 2) := by decide +kernel
theorem dX9_init_41 : decode cX9_init 41 = .ok (.putfield 23, 3) := by decide +kernel
theorem dX9_init_44 : decode cX9_init 44 = .ok (.aload_n 0, 1) := by decide +kernel
theorem dX9_init_45 : decode cX9_init 45 = .ok (.bipush 63, 2) := by decide +kernel
theorem dX9_init_47 : decode cX9_init 47 = .ok (.newarray .int, 2) := by decide +kernel
theorem dX9_init_49 : decode cX9_init 49 = .ok (.putfield 26, 3) := by decide +kernel
theorem dX9_init_52 : decode cX9_init 52 = .ok (.aload_n 0, 1) := by decide +kernel
theorem dX9_init_53 : decode cX9_init 53 = .ok (.sipush 185, 3) := by decide +kernel
theorem dX9_init_56 : decode cX9_init 56 = .ok (.newarray .int, 2) := by decide +kernel
theorem dX9_init_58 : decode cX9_init 58 = .ok (.putfield 29, 3) := by decide +kernel
theorem dX9_init_61 : decode cX9_init 61 = .ok (.aload_n 0, 1) := by decide +kernel
theorem dX9_init_62 : decode cX9_init 62 = .ok (.bipush 21, 2) := by decide +kernel
theorem dX9_init_64 : decode cX9_init 64 = .ok (.newarray .boolean, 2) := by decide +kernel
theorem dX9_init_66 : decode cX9_init 66 = .ok (.putfield 32, 3) := by decide +kernel
theorem dX9_init_69 : decode cX9_init 69 = .ok (.aload_n 0, 1) := by decide +kernel
theorem dX9_init_70 : decode cX9_init 70 = .ok (.bipush 21, 2) := by decide +kernel
theorem dX9_init_72 : decode cX9_init 72 = .ok (.newarray .int, 2) := by decide +kernel
theorem dX9_init_74 : decode cX9_init 74 = .ok (.putfield 35, 3) := by decide +kernel
theorem dX9_init_77 : decode cX9_init 77 = .ok (.aload_n 0, 1) := by decide +kernel
theorem dX9_init_78 : decode cX9_init 78 = .ok (.bipush 21, 2) := by decide +kernel
theorem dX9_init_80 : decode cX9_init 80 = .ok (.newarray .int, 2) := by decide +kernel
theorem dX9_init_82 : decode cX9_init 82 = .ok (.putfield 38, 3) := by decide +kernel
theorem dX9_init_85 : decode cX9_init 85 = .ok (.aload_n 0, 1) := by decide +kernel
theorem dX9_init_86 : decode cX9_init 86 = .ok (.bipush 63, 2) := by decide +kernel
theorem dX9_init_88 : decode cX9_init 88 = .ok (.newarray .int, 2) := by decide +kernel
theorem dX9_init_90 : decode cX9_init 90 = .ok (.putfield 41, 3) := by decide +kernel
theorem dX9_init_93 : decode cX9_init 93 = .ok (.aload_n 0, 1) := by decide +kernel
theorem dX9_init_94 : decode cX9_init 94 = .ok (.bipush 63, 2) := by decide +kernel
theorem dX9_init_96 : decode cX9_init 96 = .ok (.newarray .boolean, 2) := by decide +kernel
theorem dX9_init_98 : decode cX9_init 98 = .ok (.putfield 44, 3) := by decide +kernel
theorem dX9_init_101 : decode cX9_init 101 = .ok (.aload_n 0, 1) := by decide +kernel
theorem dX9_init_102 : decode cX9_init 102 = .ok (.sipush 400, 3) := by decide +kernel
theorem dX9_init_105 : decode cX9_init 105 = .ok (.newarray .int, 2) := by decide +kernel
theorem dX9_init_107 : decode cX9_init 107 = .ok (.putfield 47, 3) := by decide +kernel
theorem dX9_init_110 : decode cX9_init 110 = .ok (.aload_n 0, 1) := by decide +kernel
theorem dX9_init_111 : decode cX9_init 111 = .ok (.iconst 5, 1) := by decide +kernel
theorem dX9_init_112 : decode cX9_init 112 = .ok (.newarray .int, 2) := by decide +kernel
theorem dX9_init_114 : decode cX9_init 114 = .ok (.putfield 50, 3) := by decide +kernel
theorem dX9_init_117 : decode cX9_init 117 = .ok (.aload_n 0, 1) := by decide +kernel
theorem dX9_init_118 : decode cX9_init 118 = .ok (.iconst 5, 1) := by decide +kernel
theorem dX9_init_119 : decode cX9_init 119 = .ok (.newarray .int, 2) := by decide +kernel
theorem dX9_init_121 : decode cX9_init 121 = .ok (.putfield 53, 3) := by decide +kernel
theorem dX9_init_124 : decode cX9_init 124 = .ok (.aload_n 0, 1) := by decide +kernel
theorem dX9_init_125 : decode cX9_init 125 = .ok (.iconst 5, 1) := by decide +kernel
theorem dX9_init_126 : decode cX9_init 126 = .ok (.newarray .int, 2) := by decide +kernel
theorem dX9_init_128 : decode cX9_init 128 = .ok (.putfield 56, 3) := by decide +kernel
theorem dX9_init_131 : decode cX9_init 131 = .ok (.aload_n 0, 1) := by decide +kernel
theorem dX9_init_132 : decode cX9_init 132 = .ok (.iconst 5, 1) := by decide +kernel
theorem dX9_init_133 : decode cX9_init 133 = .ok (.newarray .int, 2) := by decide +kernel
theorem dX9_init_135 : decode cX9_init 135 = .ok (.putfield 59, 3) := by decide +kernel
theorem dX9_init_138 : decode cX9_init 138 = .ok (.aload_n 0, 1) := by decide +kernel
theorem dX9_init_139 : decode cX9_init 139 = .ok (.bipush 63, 2) := by decide +kernel
theorem dX9_init_141 : decode cX9_init 141 = .ok (.newarray .int, 2) := by decide +kernel
theorem dX9_init_143 : decode cX9_init 143 = .ok (.putfield 62, 3) := by decide +kernel
theorem dX9_init_146 : decode cX9_init 146 = .ok (.aload_n 0, 1) := by decide +kernel
theorem dX9_init_147 : decode cX9_init 147 = .ok (.iconst 5, 1) := by decide +kernel
theorem dX9_init_148 : decode cX9_init 148 = .ok (.newarray .int, 2) := by decide +kernel
theorem dX9_init_150 : decode cX9_init 150 = .ok (.putfield 65, 3) := by decide +kernel
theorem dX9_init_153 : decode cX9_init 153 = .ok (.aload_n 0, 1) := by decide +kernel
theorem dX9_init_154 : decode cX9_init 154 = .ok (.iconst 5, 1) := by decide +kernel
theorem dX9_init_155 : decode cX9_init 155 = .ok (.newarray .int, 2) := by decide +kernel
theorem dX9_init_157 : decode cX9_init 157 = .ok (.putfield 68, 3) := by decide +kernel
theorem dX9_init_160 : decode cX9_init 160 = .ok (.aload_n 0, 1) := by decide +kernel
theorem dX9_init_161 : decode cX9_init 161 = .ok (.bipush 63, 2) := by decide +kernel
theorem dX9_init_163 : decode cX9_init 163 = .ok (.newarray .int, 2) := by decide +kernel
theorem dX9_init_165 : decode cX9_init 165 = .ok (.putfield 71, 3) := by decide +kernel
theorem dX9_init_168 : decode cX9_init 168 = .ok (.aload_n 0, 1) := by decide +kernel
theorem dX9_init_169 : decode cX9_init 169 = .ok (.bipush 63, 2) := by decide +kernel
theorem dX9_init_171 : decode cX9_init 171 = .ok (.newarray .int, 2) := by decide +kernel
theorem dX9_init_173 : decode cX9_init 173 = .ok (.putfield 74, 3) := by decide +kernel
theorem dX9_init_176 : decode cX9_init 176 = .ok (.aload_n 0, 1) := by decide +kernel
theorem dX9_init_177 : decode cX9_init 177 = .ok (.bipush 63, 2) := by decide +kernel
theorem dX9_init_179 : decode cX9_init 179 = .ok (.newarray .boolean, 2) := by decide +kernel
theorem dX9_init_181 : decode cX9_init 181 = .ok (.putfield 77, 3) := by decide +kernel
theorem dX9_init_184 : decode cX9_init 184 = .ok (.aload_n 0, 1) := by decide +kernel
theorem dX9_init_185 : decode cX9_init 185 = .ok (.iconst 4, 1) := by decide +kernel
theorem dX9_init_186 : decode cX9_init 186 = .ok (.newarray .int, 2) := by decide +kernel
theorem dX9_init_188 : decode cX9_init 188 = .ok (.putfield 80, 3) := by decide +kernel
theorem dX9_init_191 : decode cX9_init 191 = .ok (.aload_n 0, 1) := by decide +kernel
theorem dX9_init_192 : decode cX9_init 192 = .ok (.iconst 4, 1) := by decide +kernel
theorem dX9_init_193 : decode cX9_init 193 = .ok (.newarray .int, 2) := by decide +kernel
theorem dX9_init_195 : decode cX9_init 195 = .ok (.putfield 83, 3) := by decide +kernel
theorem dX9_init_198 : decode cX9_init 198 = .ok (.aload_n 0, 1) := by decide +kernel
theorem dX9_init_199 : decode cX9_init 199 = .ok (.sipush 160, 3) := by decide +kernel
theorem dX9_init_202 : decode cX9_init 202 = .ok (.newarray .int, 2) := by decide +kernel
theorem dX9_init_204 : decode cX9_init 204 = .ok (.putfield 86, 3) := by decide +kernel
theorem dX9_init_207 : decode cX9_init 207 = .ok (.iconst 0, 1) := by decide +kernel
theorem dX9_init_208 : decode cX9_init 208 = .ok (.istore_n 1, 1) := by decide +kernel
theorem dX9_init_209 : decode cX9_init 209 = .ok (.iload_n 1, 1) := by decide +kernel
theorem dX9_init_210 : decode cX9_init 210 = .ok (.iconst 4, 1) := by decide +kernel
theorem dX9_init_211 : decode cX9_init 211 = .ok (.if_icmp .ge 17, 3) := by decide +kernel
theorem dX9_init_214 : decode cX9_init 214 = .ok (.aload_n 0, 1) := by decide +kernel
theorem dX9_init_215 : decode cX9_init 215 = .ok (.getfield 80, 3) := by decide +kernel
theorem dX9_init_218 : decode cX9_init 218 = .ok (.iload_n 1, 1) := by decide +kernel
theorem dX9_init_219 : decode cX9_init 219 = .ok (.bipush (-4), 2) := by decide +kernel
theorem dX9_init_221 : decode cX9_init 221 = .ok (.iastore, 1) := by decide +kernel
theorem dX9_init_222 : decode cX9_init 222 = .ok (.iinc 1 1, 3) := by decide +kernel
theorem dX9_init_225 : decode cX9_init 225 = .ok (.goto (-16), 3) := by decide +kernel
theorem dX9_init_228 : decode cX9_init 228 = .ok (.aload_n 0, 1) := by decide +kernel
theorem dX9_init_229 : decode cX9_init 229 = .ok (.invokevirtual 89, 3) := by decide +kernel
theorem dX9_init_232 : decode cX9_init 232 = .ok (.aload_n 0, 1) := by decide +kernel
theorem dX9_init_233 : decode cX9_init 233 = .ok (.invokevirtual 92, 3) := by decide +kernel
theorem dX9_init_236 : decode cX9_init 236 = .ok (.return_, 1) := by decide +kernel
theorem dX9_in_0 : decode cX9_in 0 = .ok (.lload_n 0, 1) := by decide +kernel
theorem dX9_in_1 : decode cX9_in 1 = .ok (.lload_n 2, 1) := by decide +kernel
theorem dX9_in_2 : decode cX9_in 2 = .ok (.lcmp, 1) := by decide +kernel
theorem dX9_in_3 : decode cX9_in 3 = .ok (.ifCond .lt 14, 3) := by decide +kernel
theorem dX9_in_6 : decode cX9_in 6 = .ok (.lload_n 0, 1) := by decide +kernel
theorem dX9_in_7 : decode cX9_in 7 = .ok (.lload 4, 2) := by decide +kernel
theorem dX9_in_9 : decode cX9_in 9 = .ok (.lcmp, 1) := by decide +kernel
theorem dX9_in_10 : decode cX9_in 10 = .ok (.ifCond .gt 7, 3) := by decide +kernel
theorem dX9_in_13 : decode cX9_in 13 = .ok (.iconst 1, 1) := by decide +kernel
theorem dX9_in_14 : decode cX9_in 14 = .ok (.goto 4, 3) := by decide +kernel
theorem dX9_in_17 : decode cX9_in 17 = .ok (.iconst 0, 1) := by decide +kernel
theorem dX9_in_18 : decode cX9_in 18 = .ok (.ireturn, 1) := by decide +kernel
theorem dX9_flag_0 : decode cX9_flag 0 = .ok (.iload_n 0, 1) := by decide +kernel
theorem dX9_flag_1 : decode cX9_flag 1 = .ok (.ifCond .eq 7, 3) := by decide +kernel
theorem dX9_flag_4 : decode cX9_flag 4 = .ok (.iconst 1, 1) := by decide +kernel
theorem dX9_flag_5 : decode cX9_flag 5 = .ok (.goto 4, 3) := by decide +kernel
theorem dX9_flag_8 : decode cX9_flag 8 = .ok (.iconst 0, 1) := by decide +kernel
theorem dX9_flag_9 : decode cX9_flag 9 = .ok (.ireturn, 1) := by decide +kernel
theorem dX9_firstDraft_0 : decode cX9_firstDraft 0 = .ok (.iconst 0, 1) := by decide +kernel
theorem dX9_firstDraft_1 : decode cX9_firstDraft 1 = .ok (.istore_n 1, 1) := by decide +kernel
theorem dX9_firstDraft_2 : decode cX9_firstDraft 2 = .ok (.iload_n 1, 1) := by decide +kernel
theorem dX9_firstDraft_3 : decode cX9_firstDraft 3 = .ok (.sipush 185, 3) := by decide +kernel
theorem dX9_firstDraft_6 : decode cX9_firstDraft 6 = .ok (.if_icmp .ge 16, 3) := by decide +kernel
theorem dX9_firstDraft_9 : decode cX9_firstDraft 9 = .ok (.aload_n 0, 1) := by decide +kernel
theorem dX9_firstDraft_10 : decode cX9_firstDraft 10 = .ok (.getfield 29, 3) := by decide +kernel
theorem dX9_firstDraft_13 : decode cX9_firstDraft 13 = .ok (.iload_n 1, 1) := by decide +kernel
theorem dX9_firstDraft_14 : decode cX9_firstDraft 14 = .ok (.iconst 0, 1) := by decide +kernel
theorem dX9_firstDraft_15 : decode cX9_firstDraft 15 = .ok (.iastore, 1) := by decide +kernel
theorem dX9_firstDraft_16 : decode cX9_firstDraft 16 = .ok (.iinc 1 1, 3) := by decide +kernel
theorem dX9_firstDraft_19 : decode cX9_firstDraft 19 = .ok (.goto (-17), 3) := by decide +kernel
theorem dX9_firstDraft_22 : decode cX9_firstDraft 22 = .ok (.iconst 0, 1) := by decide +kernel
theorem dX9_firstDraft_23 : decode cX9_firstDraft 23 = .ok (.istore_n 1, 1) := by decide +kernel
theorem dX9_firstDraft_24 : decode cX9_firstDraft 24 = .ok (.iload_n 1, 1) := by decide +kernel
theorem dX9_firstDraft_25 : decode cX9_firstDraft 25 = .ok (.bipush 21, 2) := by decide +kernel
theorem dX9_firstDraft_27 : decode cX9_firstDraft 27 = .ok (.if_icmp .ge 67, 3) := by decide +kernel
theorem dX9_firstDraft_30 : decode cX9_firstDraft 30 = .ok (.aload_n 0, 1) := by decide +kernel
theorem dX9_firstDraft_31 : decode cX9_firstDraft 31 = .ok (.getfield 32, 3) := by decide +kernel
theorem dX9_firstDraft_34 : decode cX9_firstDraft 34 = .ok (.iload_n 1, 1) := by decide +kernel
theorem dX9_firstDraft_35 : decode cX9_firstDraft 35 = .ok (.iconst 0, 1) := by decide +kernel
theorem dX9_firstDraft_36 : decode cX9_firstDraft 36 = .ok (.bastore, 1) := by decide +kernel
theorem dX9_firstDraft_37 : decode cX9_firstDraft 37 = .ok (.aload_n 0, 1) := by decide +kernel
theorem dX9_firstDraft_38 : decode cX9_firstDraft 38 = .ok (.getfield 35, 3) := by decide +kernel
theorem dX9_firstDraft_41 : decode cX9_firstDraft 41 = .ok (.iload_n 1, 1) := by decide +kernel
theorem dX9_firstDraft_42 : decode cX9_firstDraft 42 = .ok (.bipush (-4), 2) := by decide +kernel
theorem dX9_firstDraft_44 : decode cX9_firstDraft 44 = .ok (.iastore, 1) := by decide +kernel
theorem dX9_firstDraft_45 : decode cX9_firstDraft 45 = .ok (.aload_n 0, 1) := by decide +kernel
theorem dX9_firstDraft_46 : decode cX9_firstDraft 46 = .ok (.getfield 38, 3) := by decide +kernel
theorem dX9_firstDraft_49 : decode cX9_firstDraft 49 = .ok (.iload_n 1, 1) := by decide +kernel
theorem dX9_firstDraft_50 : decode cX9_firstDraft 50 = .ok (.bipush (-4), 2) := by decide +kernel
theorem dX9_firstDraft_52 : decode cX9_firstDraft 52 = .ok (.iastore, 1) := by decide +kernel
theorem dX9_firstDraft_53 : decode cX9_firstDraft 53 = .ok (.iconst 0, 1) := by decide +kernel
theorem dX9_firstDraft_54 : decode cX9_firstDraft 54 = .ok (.istore_n 2, 1) := by decide +kernel
theorem dX9_firstDraft_55 : decode cX9_firstDraft 55 = .ok (.iload_n 2, 1) := by decide +kernel
theorem dX9_firstDraft_56 : decode cX9_firstDraft 56 = .ok (.iconst 3, 1) := by decide +kernel
theorem dX9_firstDraft_57 : decode cX9_firstDraft 57 = .ok (.if_icmp .ge 31, 3) := by decide +kernel
theorem dX9_firstDraft_60 : decode cX9_firstDraft 60 = .ok (.aload_n 0, 1) := by decide +kernel
theorem dX9_firstDraft_61 : decode cX9_firstDraft 61 = .ok (.getfield 41, 3) := by decide +kernel
theorem dX9_firstDraft_64 : decode cX9_firstDraft 64 = .ok (.iconst 3, 1) := by decide +kernel
theorem dX9_firstDraft_65 : decode cX9_firstDraft 65 = .ok (.iload_n 1, 1) := by decide +kernel
theorem dX9_firstDraft_66 : decode cX9_firstDraft 66 = .ok (.imul, 1) := by decide +kernel
theorem dX9_firstDraft_67 : decode cX9_firstDraft 67 = .ok (.iload_n 2, 1) := by decide +kernel
theorem dX9_firstDraft_68 : decode cX9_firstDraft 68 = .ok (.iadd, 1) := by decide +kernel
theorem dX9_firstDraft_69 : decode cX9_firstDraft 69 = .ok (.iconst 0, 1) := by decide +kernel
theorem dX9_firstDraft_70 : decode cX9_firstDraft 70 = .ok (.iastore, 1) := by decide +kernel
theorem dX9_firstDraft_71 : decode cX9_firstDraft 71 = .ok (.aload_n 0, 1) := by decide +kernel
theorem dX9_firstDraft_72 : decode cX9_firstDraft 72 = .ok (.getfield 44, 3) := by decide +kernel
theorem dX9_firstDraft_75 : decode cX9_firstDraft 75 = .ok (.iconst 3, 1) := by decide +kernel
theorem dX9_firstDraft_76 : decode cX9_firstDraft 76 = .ok (.iload_n 1, 1) := by decide +kernel
theorem dX9_firstDraft_77 : decode cX9_firstDraft 77 = .ok (.imul, 1) := by decide +kernel
theorem dX9_firstDraft_78 : decode cX9_firstDraft 78 = .ok (.iload_n 2, 1) := by decide +kernel
theorem dX9_firstDraft_79 : decode cX9_firstDraft 79 = .ok (.iadd, 1) := by decide +kernel
theorem dX9_firstDraft_80 : decode cX9_firstDraft 80 = .ok (.iconst 0, 1) := by decide +kernel
theorem dX9_firstDraft_81 : decode cX9_firstDraft 81 = .ok (.bastore, 1) := by decide +kernel
theorem dX9_firstDraft_82 : decode cX9_firstDraft 82 = .ok (.iinc 2 1, 3) := by decide +kernel
theorem dX9_firstDraft_85 : decode cX9_firstDraft 85 = .ok (.goto (-30), 3) := by decide +kernel
theorem dX9_firstDraft_88 : decode cX9_firstDraft 88 = .ok (.iinc 1 1, 3) := by decide +kernel
theorem dX9_firstDraft_91 : decode cX9_firstDraft 91 = .ok (.goto (-67), 3) := by decide +kernel
theorem dX9_firstDraft_94 : decode cX9_firstDraft 94 = .ok (.aload_n 0, 1) := by decide +kernel
theorem dX9_firstDraft_95 : decode cX9_firstDraft 95 = .ok (.bipush 10, 2) := by decide +kernel
theorem dX9_firstDraft_97 : decode cX9_firstDraft 97 = .ok (.putfield 95, 3) := by decide +kernel
theorem dX9_firstDraft_100 : decode cX9_firstDraft 100 = .ok (.aload_n 0, 1) := by decide +kernel
theorem dX9_firstDraft_101 : decode cX9_firstDraft 101 = .ok (.iconst 0, 1) := by decide +kernel
theorem dX9_firstDraft_102 : decode cX9_firstDraft 102 = .ok (.putfield 99, 3) := by decide +kernel
theorem dX9_firstDraft_105 : decode cX9_firstDraft 105 = .ok (.aload_n 0, 1) := by decide +kernel
theorem dX9_firstDraft_106 : decode cX9_firstDraft 106 = .ok (.iconst 0, 1) := by decide +kernel
theorem dX9_firstDraft_107 : decode cX9_firstDraft 107 = .ok (.putfield 103, 3) := by decide +kernel
theorem dX9_firstDraft_110 : decode cX9_firstDraft 110 = .ok (.aload_n 0, 1) := by decide +kernel
theorem dX9_firstDraft_111 : decode cX9_firstDraft 111 = .ok (.bipush (-4), 2) := by decide +kernel
theorem dX9_firstDraft_113 : decode cX9_firstDraft 113 = .ok (.putfield 106, 3) := by decide +kernel
theorem dX9_firstDraft_116 : decode cX9_firstDraft 116 = .ok (.return_, 1) := by decide +kernel
theorem dX9_keepDraft_0 : decode cX9_keepDraft 0 = .ok (.iconst 0, 1) := by decide +kernel
theorem dX9_keepDraft_1 : decode cX9_keepDraft 1 = .ok (.istore_n 1, 1) := by decide +kernel
theorem dX9_keepDraft_2 : decode cX9_keepDraft 2 = .ok (.iload_n 1, 1) := by decide +kernel
theorem dX9_keepDraft_3 : decode cX9_keepDraft 3 = .ok (.sipush 185, 3) := by decide +kernel
theorem dX9_keepDraft_6 : decode cX9_keepDraft 6 = .ok (.if_icmp .ge 21, 3) := by decide +kernel
theorem dX9_keepDraft_9 : decode cX9_keepDraft 9 = .ok (.aload_n 0, 1) := by decide +kernel
theorem dX9_keepDraft_10 : decode cX9_keepDraft 10 = .ok (.getfield 7, 3) := by decide +kernel
theorem dX9_keepDraft_13 : decode cX9_keepDraft 13 = .ok (.iload_n 1, 1) := by decide +kernel
theorem dX9_keepDraft_14 : decode cX9_keepDraft 14 = .ok (.aload_n 0, 1) := by decide +kernel
theorem dX9_keepDraft_15 : decode cX9_keepDraft 15 = .ok (.getfield 29, 3) := by decide +kernel
theorem dX9_keepDraft_18 : decode cX9_keepDraft 18 = .ok (.iload_n 1, 1) := by decide +kernel
theorem dX9_keepDraft_19 : decode cX9_keepDraft 19 = .ok (.iaload, 1) := by decide +kernel
theorem dX9_keepDraft_20 : decode cX9_keepDraft 20 = .ok (.iastore, 1) := by decide +kernel
theorem dX9_keepDraft_21 : decode cX9_keepDraft 21 = .ok (.iinc 1 1, 3) := by decide +kernel
theorem dX9_keepDraft_24 : decode cX9_keepDraft 24 = .ok (.goto (-22), 3) := by decide +kernel
theorem dX9_keepDraft_27 : decode cX9_keepDraft 27 = .ok (.aload_n 0, 1) := by decide +kernel
theorem dX9_keepDraft_28 : decode cX9_keepDraft 28 = .ok (.aload_n 0, 1) := by decide +kernel
theorem dX9_keepDraft_29 : decode cX9_keepDraft 29 = .ok (.getfield 95, 3) := by decide +kernel
theorem dX9_keepDraft_32 : decode cX9_keepDraft 32 = .ok (.putfield 109, 3) := by decide +kernel
theorem dX9_keepDraft_35 : decode cX9_keepDraft 35 = .ok (.iconst 0, 1) := by decide +kernel
theorem dX9_keepDraft_36 : decode cX9_keepDraft 36 = .ok (.istore_n 1, 1) := by decide +kernel
theorem dX9_keepDraft_37 : decode cX9_keepDraft 37 = .ok (.iload_n 1, 1) := by decide +kernel
theorem dX9_keepDraft_38 : decode cX9_keepDraft 38 = .ok (.bipush 21, 2) := by decide +kernel
theorem dX9_keepDraft_40 : decode cX9_keepDraft 40 = .ok (.if_icmp .ge 78, 3) := by decide +kernel
theorem dX9_keepDraft_43 : decode cX9_keepDraft 43 = .ok (.aload_n 0, 1) := by decide +kernel
theorem dX9_keepDraft_44 : decode cX9_keepDraft 44 = .ok (.getfield 17, 3) := by decide +kernel
theorem dX9_keepDraft_47 : decode cX9_keepDraft 47 = .ok (.iload_n 1, 1) := by decide +kernel
theorem dX9_keepDraft_48 : decode cX9_keepDraft 48 = .ok (.aload_n 0, 1) := by decide +kernel
theorem dX9_keepDraft_49 : decode cX9_keepDraft 49 = .ok (.getfield 32, 3) := by decide +kernel
theorem dX9_keepDraft_52 : decode cX9_keepDraft 52 = .ok (.iload_n 1, 1) := by decide +kernel
theorem dX9_keepDraft_53 : decode cX9_keepDraft 53 = .ok (.baload, 1) := by decide +kernel
theorem dX9_keepDraft_54 : decode cX9_keepDraft 54 = .ok (.bastore, 1) := by decide +kernel
theorem dX9_keepDraft_55 : decode cX9_keepDraft 55 = .ok (.aload_n 0, 1) := by decide +kernel
theorem dX9_keepDraft_56 : decode cX9_keepDraft 56 = .ok (.getfield 20, 3) := by decide +kernel
theorem dX9_keepDraft_59 : decode cX9_keepDraft 59 = .ok (.iload_n 1, 1) := by decide +kernel
theorem dX9_keepDraft_60 : decode cX9_keepDraft 60 = .ok (.aload_n 0, 1) := by decide +kernel
theorem dX9_keepDraft_61 : decode cX9_keepDraft 61 = .ok (.getfield 35, 3) := by decide +kernel
theorem dX9_keepDraft_64 : decode cX9_keepDraft 64 = .ok (.iload_n 1, 1) := by decide +kernel
theorem dX9_keepDraft_65 : decode cX9_keepDraft 65 = .ok (.iaload, 1) := by decide +kernel
theorem dX9_keepDraft_66 : decode cX9_keepDraft 66 = .ok (.iastore, 1) := by decide +kernel
theorem dX9_keepDraft_67 : decode cX9_keepDraft 67 = .ok (.aload_n 0, 1) := by decide +kernel
theorem dX9_keepDraft_68 : decode cX9_keepDraft 68 = .ok (.getfield 23, 3) := by decide +kernel
theorem dX9_keepDraft_71 : decode cX9_keepDraft 71 = .ok (.iload_n 1, 1) := by decide +kernel
theorem dX9_keepDraft_72 : decode cX9_keepDraft 72 = .ok (.aload_n 0, 1) := by decide +kernel
theorem dX9_keepDraft_73 : decode cX9_keepDraft 73 = .ok (.getfield 38, 3) := by decide +kernel
theorem dX9_keepDraft_76 : decode cX9_keepDraft 76 = .ok (.iload_n 1, 1) := by decide +kernel
theorem dX9_keepDraft_77 : decode cX9_keepDraft 77 = .ok (.iaload, 1) := by decide +kernel
theorem dX9_keepDraft_78 : decode cX9_keepDraft 78 = .ok (.iastore, 1) := by decide +kernel
theorem dX9_keepDraft_79 : decode cX9_keepDraft 79 = .ok (.iconst 0, 1) := by decide +kernel
theorem dX9_keepDraft_80 : decode cX9_keepDraft 80 = .ok (.istore_n 2, 1) := by decide +kernel
theorem dX9_keepDraft_81 : decode cX9_keepDraft 81 = .ok (.iload_n 2, 1) := by decide +kernel
theorem dX9_keepDraft_82 : decode cX9_keepDraft 82 = .ok (.iconst 3, 1) := by decide +kernel
theorem dX9_keepDraft_83 : decode cX9_keepDraft 83 = .ok (.if_icmp .ge 29, 3) := by decide +kernel
theorem dX9_keepDraft_86 : decode cX9_keepDraft 86 = .ok (.aload_n 0, 1) := by decide +kernel
theorem dX9_keepDraft_87 : decode cX9_keepDraft 87 = .ok (.getfield 26, 3) := by decide +kernel
theorem dX9_keepDraft_90 : decode cX9_keepDraft 90 = .ok (.iconst 3, 1) := by decide +kernel
theorem dX9_keepDraft_91 : decode cX9_keepDraft 91 = .ok (.iload_n 1, 1) := by decide +kernel
theorem dX9_keepDraft_92 : decode cX9_keepDraft 92 = .ok (.imul, 1) := by decide +kernel
theorem dX9_keepDraft_93 : decode cX9_keepDraft 93 = .ok (.iload_n 2, 1) := by decide +kernel
theorem dX9_keepDraft_94 : decode cX9_keepDraft 94 = .ok (.iadd, 1) := by decide +kernel
theorem dX9_keepDraft_95 : decode cX9_keepDraft 95 = .ok (.aload_n 0, 1) := by decide +kernel
theorem dX9_keepDraft_96 : decode cX9_keepDraft 96 = .ok (.getfield 41, 3) := by decide +kernel
theorem dX9_keepDraft_99 : decode cX9_keepDraft 99 = .ok (.iconst 3, 1) := by decide +kernel
theorem dX9_keepDraft_100 : decode cX9_keepDraft 100 = .ok (.iload_n 1, 1) := by decide +kernel
theorem dX9_keepDraft_101 : decode cX9_keepDraft 101 = .ok (.imul, 1) := by decide +kernel
theorem dX9_keepDraft_102 : decode cX9_keepDraft 102 = .ok (.iload_n 2, 1) := by decide +kernel
theorem dX9_keepDraft_103 : decode cX9_keepDraft 103 = .ok (.iadd, 1) := by decide +kernel
theorem dX9_keepDraft_104 : decode cX9_keepDraft 104 = .ok (.iaload, 1) := by decide +kernel
theorem dX9_keepDraft_105 : decode cX9_keepDraft 105 = .ok (.iastore, 1) := by decide +kernel
theorem dX9_keepDraft_106 : decode cX9_keepDraft 106 = .ok (.iinc 2 1, 3) := by decide +kernel
theorem dX9_keepDraft_109 : decode cX9_keepDraft 109 = .ok (.goto (-28), 3) := by decide +kernel
theorem dX9_keepDraft_112 : decode cX9_keepDraft 112 = .ok (.iinc 1 1, 3) := by decide +kernel
theorem dX9_keepDraft_115 : decode cX9_keepDraft 115 = .ok (.goto (-78), 3) := by decide +kernel
theorem dX9_keepDraft_118 : decode cX9_keepDraft 118 = .ok (.aload_n 0, 1) := by decide +kernel
theorem dX9_keepDraft_119 : decode cX9_keepDraft 119 = .ok (.getfield 13, 3) := by decide +kernel
theorem dX9_keepDraft_122 : decode cX9_keepDraft 122 = .ok (.iconst 0, 1) := by decide +kernel
theorem dX9_keepDraft_123 : decode cX9_keepDraft 123 = .ok (.iconst 0, 1) := by decide +kernel
theorem dX9_keepDraft_124 : decode cX9_keepDraft 124 = .ok (.bastore, 1) := by decide +kernel
theorem dX9_keepDraft_125 : decode cX9_keepDraft 125 = .ok (.aload_n 0, 1) := by decide +kernel
theorem dX9_keepDraft_126 : decode cX9_keepDraft 126 = .ok (.getfield 13, 3) := by decide +kernel
theorem dX9_keepDraft_129 : decode cX9_keepDraft 129 = .ok (.iconst 1, 1) := by decide +kernel
theorem dX9_keepDraft_130 : decode cX9_keepDraft 130 = .ok (.iconst 0, 1) := by decide +kernel
theorem dX9_keepDraft_131 : decode cX9_keepDraft 131 = .ok (.bastore, 1) := by decide +kernel
theorem dX9_keepDraft_132 : decode cX9_keepDraft 132 = .ok (.return_, 1) := by decide +kernel
theorem dX9_feed_0 : decode cX9_feed 0 = .ok (.aload_n 0, 1) := by decide +kernel
theorem dX9_feed_1 : decode cX9_feed 1 = .ok (.getfield 112, 3) := by decide +kernel
theorem dX9_feed_4 : decode cX9_feed 4 = .ok (.bipush 8, 2) := by decide +kernel
theorem dX9_feed_6 : decode cX9_feed 6 = .ok (.iadd, 1) := by decide +kernel
theorem dX9_feed_7 : decode cX9_feed 7 = .ok (.sipush 400, 3) := by decide +kernel
theorem dX9_feed_10 : decode cX9_feed 10 = .ok (.if_icmp .le 6, 3) := by decide +kernel
theorem dX9_feed_13 : decode cX9_feed 13 = .ok (.bipush (-3), 2) := by decide +kernel
theorem dX9_feed_15 : decode cX9_feed 15 = .ok (.ireturn, 1) := by decide +kernel
theorem dX9_feed_16 : decode cX9_feed 16 = .ok (.bipush 56, 2) := by decide +kernel
theorem dX9_feed_18 : decode cX9_feed 18 = .ok (.istore_n 3, 1) := by decide +kernel
theorem dX9_feed_19 : decode cX9_feed 19 = .ok (.iload_n 3, 1) := by decide +kernel
theorem dX9_feed_20 : decode cX9_feed 20 = .ok (.ifCond .lt 36, 3) := by decide +kernel
theorem dX9_feed_23 : decode cX9_feed 23 = .ok (.aload_n 0, 1) := by decide +kernel
theorem dX9_feed_24 : decode cX9_feed 24 = .ok (.getfield 47, 3) := by decide +kernel
theorem dX9_feed_27 : decode cX9_feed 27 = .ok (.aload_n 0, 1) := by decide +kernel
theorem dX9_feed_28 : decode cX9_feed 28 = .ok (.getfield 112, 3) := by decide +kernel
theorem dX9_feed_31 : decode cX9_feed 31 = .ok (.lload_n 1, 1) := by decide +kernel
theorem dX9_feed_32 : decode cX9_feed 32 = .ok (.iload_n 3, 1) := by decide +kernel
theorem dX9_feed_33 : decode cX9_feed 33 = .ok (.lshr, 1) := by decide +kernel
theorem dX9_feed_34 : decode cX9_feed 34 = .ok (.ldc2_w 115, 3) := by decide +kernel
theorem dX9_feed_37 : decode cX9_feed 37 = .ok (.land, 1) := by decide +kernel
theorem dX9_feed_38 : decode cX9_feed 38 = .ok (.l2i, 1) := by decide +kernel
theorem dX9_feed_39 : decode cX9_feed 39 = .ok (.iastore, 1) := by decide +kernel
theorem dX9_feed_40 : decode cX9_feed 40 = .ok (.aload_n 0, 1) := by decide +kernel
theorem dX9_feed_41 : decode cX9_feed 41 = .ok (.dup, 1) := by decide +kernel
theorem dX9_feed_42 : decode cX9_feed 42 = .ok (.getfield 112, 3) := by decide +kernel
theorem dX9_feed_45 : decode cX9_feed 45 = .ok (.iconst 1, 1) := by decide +kernel
theorem dX9_feed_46 : decode cX9_feed 46 = .ok (.iadd, 1) := by decide +kernel
theorem dX9_feed_47 : decode cX9_feed 47 = .ok (.putfield 112, 3) := by decide +kernel
theorem dX9_feed_50 : decode cX9_feed 50 = .ok (.iinc 3 (-8), 3) := by decide +kernel
theorem dX9_feed_53 : decode cX9_feed 53 = .ok (.goto (-34), 3) := by decide +kernel
theorem dX9_feed_56 : decode cX9_feed 56 = .ok (.aload_n 0, 1) := by decide +kernel
theorem dX9_feed_57 : decode cX9_feed 57 = .ok (.getfield 112, 3) := by decide +kernel
theorem dX9_feed_60 : decode cX9_feed 60 = .ok (.ireturn, 1) := by decide +kernel
theorem dX9_end_0 : decode cX9_end 0 = .ok (.iload_n 1, 1) := by decide +kernel
theorem dX9_end_1 : decode cX9_end 1 = .ok (.i2l, 1) := by decide +kernel
theorem dX9_end_2 : decode cX9_end 2 = .ok (.lconst 0, 1) := by decide +kernel
theorem dX9_end_3 : decode cX9_end 3 = .ok (.aload_n 0, 1) := by decide +kernel
theorem dX9_end_4 : decode cX9_end 4 = .ok (.getfield 112, 3) := by decide +kernel
theorem dX9_end_7 : decode cX9_end 7 = .ok (.i2l, 1) := by decide +kernel
theorem dX9_end_8 : decode cX9_end 8 = .ok (.invokestatic 117, 3) := by decide +kernel
theorem dX9_end_11 : decode cX9_end 11 = .ok (.ifCond .ne 5, 3) := by decide +kernel
theorem dX9_end_14 : decode cX9_end 14 = .ok (.iconst (-1), 1) := by decide +kernel
theorem dX9_end_15 : decode cX9_end 15 = .ok (.ireturn, 1) := by decide +kernel
theorem dX9_end_16 : decode cX9_end 16 = .ok (.aload_n 0, 1) := by decide +kernel
theorem dX9_end_17 : decode cX9_end 17 = .ok (.getfield 112, 3) := by decide +kernel
theorem dX9_end_20 : decode cX9_end 20 = .ok (.istore_n 2, 1) := by decide +kernel
theorem dX9_end_21 : decode cX9_end 21 = .ok (.aload_n 0, 1) := by decide +kernel
theorem dX9_end_22 : decode cX9_end 22 = .ok (.iload_n 1, 1) := by decide +kernel
theorem dX9_end_23 : decode cX9_end 23 = .ok (.putfield 112, 3) := by decide +kernel
theorem dX9_end_26 : decode cX9_end 26 = .ok (.iload_n 2, 1) := by decide +kernel
theorem dX9_end_27 : decode cX9_end 27 = .ok (.ireturn, 1) := by decide +kernel
theorem dX9_needs_0 : decode cX9_needs 0 = .ok (.iload_n 1, 1) := by decide +kernel
theorem dX9_needs_1 : decode cX9_needs 1 = .ok (.ifCond .ne 23, 3) := by decide +kernel
theorem dX9_needs_4 : decode cX9_needs 4 = .ok (.aload_n 0, 1) := by decide +kernel
theorem dX9_needs_5 : decode cX9_needs 5 = .ok (.getfield 121, 3) := by decide +kernel
theorem dX9_needs_8 : decode cX9_needs 8 = .ok (.ifCond .ne 16, 3) := by decide +kernel
theorem dX9_needs_11 : decode cX9_needs 11 = .ok (.aload_n 0, 1) := by decide +kernel
theorem dX9_needs_12 : decode cX9_needs 12 = .ok (.iload_n 2, 1) := by decide +kernel
theorem dX9_needs_13 : decode cX9_needs 13 = .ok (.putfield 121, 3) := by decide +kernel
theorem dX9_needs_16 : decode cX9_needs 16 = .ok (.aload_n 0, 1) := by decide +kernel
theorem dX9_needs_17 : decode cX9_needs 17 = .ok (.aload_n 0, 1) := by decide +kernel
theorem dX9_needs_18 : decode cX9_needs 18 = .ok (.getfield 124, 3) := by decide +kernel
theorem dX9_needs_21 : decode cX9_needs 21 = .ok (.putfield 127, 3) := by decide +kernel
theorem dX9_needs_24 : decode cX9_needs 24 = .ok (.return_, 1) := by decide +kernel
theorem dX9_look_0 : decode cX9_look 0 = .ok (.iload_n 1, 1) := by decide +kernel
theorem dX9_look_1 : decode cX9_look 1 = .ok (.aload_n 0, 1) := by decide +kernel
theorem dX9_look_2 : decode cX9_look 2 = .ok (.getfield 112, 3) := by decide +kernel
theorem dX9_look_5 : decode cX9_look 5 = .ok (.if_icmp .ge 12, 3) := by decide +kernel
theorem dX9_look_8 : decode cX9_look 8 = .ok (.aload_n 0, 1) := by decide +kernel
theorem dX9_look_9 : decode cX9_look 9 = .ok (.getfield 47, 3) := by decide +kernel
theorem dX9_look_12 : decode cX9_look 12 = .ok (.iload_n 1, 1) := by decide +kernel
theorem dX9_look_13 : decode cX9_look 13 = .ok (.iaload, 1) := by decide +kernel
theorem dX9_look_14 : decode cX9_look 14 = .ok (.goto 4, 3) := by decide +kernel
theorem dX9_look_17 : decode cX9_look 17 = .ok (.iconst (-1), 1) := by decide +kernel
theorem dX9_look_18 : decode cX9_look 18 = .ok (.ireturn, 1) := by decide +kernel
theorem dX9_is_0 : decode cX9_is 0 = .ok (.aload_n 0, 1) := by decide +kernel
theorem dX9_is_1 : decode cX9_is 1 = .ok (.getfield 130, 3) := by decide +kernel
theorem dX9_is_4 : decode cX9_is 4 = .ok (.aload_n 0, 1) := by decide +kernel
theorem dX9_is_5 : decode cX9_is 5 = .ok (.getfield 124, 3) := by decide +kernel
theorem dX9_is_8 : decode cX9_is 8 = .ok (.isub, 1) := by decide +kernel
theorem dX9_is_9 : decode cX9_is 9 = .ok (.iload_n 1, 1) := by decide +kernel
theorem dX9_is_10 : decode cX9_is 10 = .ok (.if_icmp .ne 48, 3) := by decide +kernel
theorem dX9_is_13 : decode cX9_is 13 = .ok (.aload_n 0, 1) := by decide +kernel
theorem dX9_is_14 : decode cX9_is 14 = .ok (.aload_n 0, 1) := by decide +kernel
theorem dX9_is_15 : decode cX9_is 15 = .ok (.getfield 124, 3) := by decide +kernel
theorem dX9_is_18 : decode cX9_is 18 = .ok (.invokevirtual 133, 3) := by decide +kernel
theorem dX9_is_21 : decode cX9_is 21 = .ok (.iload_n 2, 1) := by decide +kernel
theorem dX9_is_22 : decode cX9_is 22 = .ok (.if_icmp .ne 36, 3) := by decide +kernel
theorem dX9_is_25 : decode cX9_is 25 = .ok (.aload_n 0, 1) := by decide +kernel
theorem dX9_is_26 : decode cX9_is 26 = .ok (.aload_n 0, 1) := by decide +kernel
theorem dX9_is_27 : decode cX9_is 27 = .ok (.getfield 124, 3) := by decide +kernel
theorem dX9_is_30 : decode cX9_is 30 = .ok (.iconst 1, 1) := by decide +kernel
theorem dX9_is_31 : decode cX9_is 31 = .ok (.iadd, 1) := by decide +kernel
theorem dX9_is_32 : decode cX9_is 32 = .ok (.invokevirtual 133, 3) := by decide +kernel
theorem dX9_is_35 : decode cX9_is 35 = .ok (.iload_n 3, 1) := by decide +kernel
theorem dX9_is_36 : decode cX9_is 36 = .ok (.if_icmp .ne 22, 3) := by decide +kernel
theorem dX9_is_39 : decode cX9_is 39 = .ok (.aload_n 0, 1) := by decide +kernel
theorem dX9_is_40 : decode cX9_is 40 = .ok (.aload_n 0, 1) := by decide +kernel
theorem dX9_is_41 : decode cX9_is 41 = .ok (.getfield 124, 3) := by decide +kernel
theorem dX9_is_44 : decode cX9_is 44 = .ok (.iconst 2, 1) := by decide +kernel
theorem dX9_is_45 : decode cX9_is 45 = .ok (.iadd, 1) := by decide +kernel
theorem dX9_is_46 : decode cX9_is 46 = .ok (.invokevirtual 133, 3) := by decide +kernel
theorem dX9_is_49 : decode cX9_is 49 = .ok (.iload 4, 2) := by decide +kernel
theorem dX9_is_51 : decode cX9_is 51 = .ok (.if_icmp .ne 7, 3) := by decide +kernel
theorem dX9_is_54 : decode cX9_is 54 = .ok (.iconst 1, 1) := by decide +kernel
theorem dX9_is_55 : decode cX9_is 55 = .ok (.goto 4, 3) := by decide +kernel
theorem dX9_is_58 : decode cX9_is 58 = .ok (.iconst 0, 1) := by decide +kernel
theorem dX9_is_59 : decode cX9_is 59 = .ok (.ireturn, 1) := by decide +kernel
theorem dX9_ends_0 : decode cX9_ends 0 = .ok (.iload_n 1, 1) := by decide +kernel
theorem dX9_ends_1 : decode cX9_ends 1 = .ok (.ifCond .eq 17, 3) := by decide +kernel
theorem dX9_ends_4 : decode cX9_ends 4 = .ok (.aload_n 0, 1) := by decide +kernel
theorem dX9_ends_5 : decode cX9_ends 5 = .ok (.aload_n 0, 1) := by decide +kernel
theorem dX9_ends_6 : decode cX9_ends 6 = .ok (.getfield 124, 3) := by decide +kernel
theorem dX9_ends_9 : decode cX9_ends 9 = .ok (.iconst 3, 1) := by decide +kernel
theorem dX9_ends_10 : decode cX9_ends 10 = .ok (.iadd, 1) := by decide +kernel
theorem dX9_ends_11 : decode cX9_ends 11 = .ok (.invokevirtual 133, 3) := by decide +kernel
theorem dX9_ends_14 : decode cX9_ends 14 = .ok (.iload_n 1, 1) := by decide +kernel
theorem dX9_ends_15 : decode cX9_ends 15 = .ok (.if_icmp .ne 43, 3) := by decide +kernel
theorem dX9_ends_18 : decode cX9_ends 18 = .ok (.iload_n 2, 1) := by decide +kernel
theorem dX9_ends_19 : decode cX9_ends 19 = .ok (.ifCond .eq 17, 3) := by decide +kernel
theorem dX9_ends_22 : decode cX9_ends 22 = .ok (.aload_n 0, 1) := by decide +kernel
theorem dX9_ends_23 : decode cX9_ends 23 = .ok (.aload_n 0, 1) := by decide +kernel
theorem dX9_ends_24 : decode cX9_ends 24 = .ok (.getfield 124, 3) := by decide +kernel
theorem dX9_ends_27 : decode cX9_ends 27 = .ok (.iconst 4, 1) := by decide +kernel
theorem dX9_ends_28 : decode cX9_ends 28 = .ok (.iadd, 1) := by decide +kernel
theorem dX9_ends_29 : decode cX9_ends 29 = .ok (.invokevirtual 133, 3) := by decide +kernel
theorem dX9_ends_32 : decode cX9_ends 32 = .ok (.iload_n 2, 1) := by decide +kernel
theorem dX9_ends_33 : decode cX9_ends 33 = .ok (.if_icmp .ne 25, 3) := by decide +kernel
theorem dX9_ends_36 : decode cX9_ends 36 = .ok (.iload_n 3, 1) := by decide +kernel
theorem dX9_ends_37 : decode cX9_ends 37 = .ok (.ifCond .eq 17, 3) := by decide +kernel
theorem dX9_ends_40 : decode cX9_ends 40 = .ok (.aload_n 0, 1) := by decide +kernel
theorem dX9_ends_41 : decode cX9_ends 41 = .ok (.aload_n 0, 1) := by decide +kernel
theorem dX9_ends_42 : decode cX9_ends 42 = .ok (.getfield 124, 3) := by decide +kernel
theorem dX9_ends_45 : decode cX9_ends 45 = .ok (.iconst 5, 1) := by decide +kernel
theorem dX9_ends_46 : decode cX9_ends 46 = .ok (.iadd, 1) := by decide +kernel
theorem dX9_ends_47 : decode cX9_ends 47 = .ok (.invokevirtual 133, 3) := by decide +kernel
theorem dX9_ends_50 : decode cX9_ends 50 = .ok (.iload_n 3, 1) := by decide +kernel
theorem dX9_ends_51 : decode cX9_ends 51 = .ok (.if_icmp .ne 7, 3) := by decide +kernel
theorem dX9_ends_54 : decode cX9_ends 54 = .ok (.iconst 1, 1) := by decide +kernel
theorem dX9_ends_55 : decode cX9_ends 55 = .ok (.goto 4, 3) := by decide +kernel
theorem dX9_ends_58 : decode cX9_ends 58 = .ok (.iconst 0, 1) := by decide +kernel
theorem dX9_ends_59 : decode cX9_ends 59 = .ok (.ireturn, 1) := by decide +kernel
theorem dX9_roadLine_0 : decode cX9_roadLine 0 = .ok (.aload_n 0, 1) := by decide +kernel
theorem dX9_roadLine_1 : decode cX9_roadLine 1 = .ok (.iconst 5, 1) := by decide +kernel
theorem dX9_roadLine_2 : decode cX9_roadLine 2 = .ok (.bipush 121, 2) := by decide +kernel
theorem dX9_roadLine_4 : decode cX9_roadLine 4 = .ok (.bipush 97, 2) := by decide +kernel
theorem dX9_roadLine_6 : decode cX9_roadLine 6 = .ok (.bipush 114, 2) := by decide +kernel
theorem dX9_roadLine_8 : decode cX9_roadLine 8 = .ok (.invokevirtual 137, 3) := by decide +kernel
theorem dX9_roadLine_11 : decode cX9_roadLine 11 = .ok (.ifCond .eq 17, 3) := by decide +kernel
theorem dX9_roadLine_14 : decode cX9_roadLine 14 = .ok (.aload_n 0, 1) := by decide +kernel
theorem dX9_roadLine_15 : decode cX9_roadLine 15 = .ok (.bipush 100, 2) := by decide +kernel
theorem dX9_roadLine_17 : decode cX9_roadLine 17 = .ok (.bipush 115, 2) := by decide +kernel
theorem dX9_roadLine_19 : decode cX9_roadLine 19 = .ok (.iconst 0, 1) := by decide +kernel
theorem dX9_roadLine_20 : decode cX9_roadLine 20 = .ok (.invokevirtual 141, 3) := by decide +kernel
theorem dX9_roadLine_23 : decode cX9_roadLine 23 = .ok (.ifCond .eq 5, 3) := by decide +kernel
theorem dX9_roadLine_26 : decode cX9_roadLine 26 = .ok (.iconst 0, 1) := by decide +kernel
theorem dX9_roadLine_27 : decode cX9_roadLine 27 = .ok (.ireturn, 1) := by decide +kernel
theorem dX9_roadLine_28 : decode cX9_roadLine 28 = .ok (.aload_n 0, 1) := by decide +kernel
theorem dX9_roadLine_29 : decode cX9_roadLine 29 = .ok (.iconst 3, 1) := by decide +kernel
theorem dX9_roadLine_30 : decode cX9_roadLine 30 = .ok (.bipush 98, 2) := by decide +kernel
theorem dX9_roadLine_32 : decode cX9_roadLine 32 = .ok (.bipush 111, 2) := by decide +kernel
theorem dX9_roadLine_34 : decode cX9_roadLine 34 = .ok (.bipush 103, 2) := by decide +kernel
theorem dX9_roadLine_36 : decode cX9_roadLine 36 = .ok (.invokevirtual 137, 3) := by decide +kernel
theorem dX9_roadLine_39 : decode cX9_roadLine 39 = .ok (.ifCond .eq 5, 3) := by decide +kernel
theorem dX9_roadLine_42 : decode cX9_roadLine 42 = .ok (.iconst 1, 1) := by decide +kernel
theorem dX9_roadLine_43 : decode cX9_roadLine 43 = .ok (.ireturn, 1) := by decide +kernel
theorem dX9_roadLine_44 : decode cX9_roadLine 44 = .ok (.aload_n 0, 1) := by decide +kernel
theorem dX9_roadLine_45 : decode cX9_roadLine 45 = .ok (.iconst 4, 1) := by decide +kernel
theorem dX9_roadLine_46 : decode cX9_roadLine 46 = .ok (.bipush 104, 2) := by decide +kernel
theorem dX9_roadLine_48 : decode cX9_roadLine 48 = .ok (.bipush 105, 2) := by decide +kernel
theorem dX9_roadLine_50 : decode cX9_roadLine 50 = .ok (.bipush 108, 2) := by decide +kernel
theorem dX9_roadLine_52 : decode cX9_roadLine 52 = .ok (.invokevirtual 137, 3) := by decide +kernel
theorem dX9_roadLine_55 : decode cX9_roadLine 55 = .ok (.ifCond .eq 16, 3) := by decide +kernel
theorem dX9_roadLine_58 : decode cX9_roadLine 58 = .ok (.aload_n 0, 1) := by decide +kernel
theorem dX9_roadLine_59 : decode cX9_roadLine 59 = .ok (.bipush 108, 2) := by decide +kernel
theorem dX9_roadLine_61 : decode cX9_roadLine 61 = .ok (.iconst 0, 1) := by decide +kernel
theorem dX9_roadLine_62 : decode cX9_roadLine 62 = .ok (.iconst 0, 1) := by decide +kernel
theorem dX9_roadLine_63 : decode cX9_roadLine 63 = .ok (.invokevirtual 141, 3) := by decide +kernel
theorem dX9_roadLine_66 : decode cX9_roadLine 66 = .ok (.ifCond .eq 5, 3) := by decide +kernel
theorem dX9_roadLine_69 : decode cX9_roadLine 69 = .ok (.iconst 2, 1) := by decide +kernel
theorem dX9_roadLine_70 : decode cX9_roadLine 70 = .ok (.ireturn, 1) := by decide +kernel
theorem dX9_roadLine_71 : decode cX9_roadLine 71 = .ok (.aload_n 0, 1) := by decide +kernel
theorem dX9_roadLine_72 : decode cX9_roadLine 72 = .ok (.iconst 5, 1) := by decide +kernel
theorem dX9_roadLine_73 : decode cX9_roadLine 73 = .ok (.bipush 115, 2) := by decide +kernel
theorem dX9_roadLine_75 : decode cX9_roadLine 75 = .ok (.bipush 109, 2) := by decide +kernel
theorem dX9_roadLine_77 : decode cX9_roadLine 77 = .ok (.bipush 105, 2) := by decide +kernel
theorem dX9_roadLine_79 : decode cX9_roadLine 79 = .ok (.invokevirtual 137, 3) := by decide +kernel
theorem dX9_roadLine_82 : decode cX9_roadLine 82 = .ok (.ifCond .eq 19, 3) := by decide +kernel
theorem dX9_roadLine_85 : decode cX9_roadLine 85 = .ok (.aload_n 0, 1) := by decide +kernel
theorem dX9_roadLine_86 : decode cX9_roadLine 86 = .ok (.bipush 116, 2) := by decide +kernel
theorem dX9_roadLine_88 : decode cX9_roadLine 88 = .ok (.bipush 104, 2) := by decide +kernel
theorem dX9_roadLine_90 : decode cX9_roadLine 90 = .ok (.iconst 0, 1) := by decide +kernel
theorem dX9_roadLine_91 : decode cX9_roadLine 91 = .ok (.invokevirtual 141, 3) := by decide +kernel
theorem dX9_roadLine_94 : decode cX9_roadLine 94 = .ok (.ifCond .eq 7, 3) := by decide +kernel
theorem dX9_roadLine_97 : decode cX9_roadLine 97 = .ok (.iconst 3, 1) := by decide +kernel
theorem dX9_roadLine_98 : decode cX9_roadLine 98 = .ok (.goto 5, 3) := by decide +kernel
theorem dX9_roadLine_101 : decode cX9_roadLine 101 = .ok (.bipush (-4), 2) := by decide +kernel
theorem dX9_roadLine_103 : decode cX9_roadLine 103 = .ok (.ireturn, 1) := by decide +kernel
theorem dX9_lineNow_0 : decode cX9_lineNow 0 = .ok (.aload_n 0, 1) := by decide +kernel
theorem dX9_lineNow_1 : decode cX9_lineNow 1 = .ok (.iconst 4, 1) := by decide +kernel
theorem dX9_lineNow_2 : decode cX9_lineNow 2 = .ok (.bipush 116, 2) := by decide +kernel
theorem dX9_lineNow_4 : decode cX9_lineNow 4 = .ok (.bipush 111, 2) := by decide +kernel
theorem dX9_lineNow_6 : decode cX9_lineNow 6 = .ok (.bipush 108, 2) := by decide +kernel
theorem dX9_lineNow_8 : decode cX9_lineNow 8 = .ok (.invokevirtual 137, 3) := by decide +kernel
theorem dX9_lineNow_11 : decode cX9_lineNow 11 = .ok (.ifCond .eq 16, 3) := by decide +kernel
theorem dX9_lineNow_14 : decode cX9_lineNow 14 = .ok (.aload_n 0, 1) := by decide +kernel
theorem dX9_lineNow_15 : decode cX9_lineNow 15 = .ok (.bipush 108, 2) := by decide +kernel
theorem dX9_lineNow_17 : decode cX9_lineNow 17 = .ok (.iconst 0, 1) := by decide +kernel
theorem dX9_lineNow_18 : decode cX9_lineNow 18 = .ok (.iconst 0, 1) := by decide +kernel
theorem dX9_lineNow_19 : decode cX9_lineNow 19 = .ok (.invokevirtual 141, 3) := by decide +kernel
theorem dX9_lineNow_22 : decode cX9_lineNow 22 = .ok (.ifCond .eq 5, 3) := by decide +kernel
theorem dX9_lineNow_25 : decode cX9_lineNow 25 = .ok (.iconst 4, 1) := by decide +kernel
theorem dX9_lineNow_26 : decode cX9_lineNow 26 = .ok (.ireturn, 1) := by decide +kernel
theorem dX9_lineNow_27 : decode cX9_lineNow 27 = .ok (.aload_n 0, 1) := by decide +kernel
theorem dX9_lineNow_28 : decode cX9_lineNow 28 = .ok (.iconst 3, 1) := by decide +kernel
theorem dX9_lineNow_29 : decode cX9_lineNow 29 = .ok (.bipush 114, 2) := by decide +kernel
theorem dX9_lineNow_31 : decode cX9_lineNow 31 = .ok (.bipush 117, 2) := by decide +kernel
theorem dX9_lineNow_33 : decode cX9_lineNow 33 = .ok (.bipush 116, 2) := by decide +kernel
theorem dX9_lineNow_35 : decode cX9_lineNow 35 = .ok (.invokevirtual 137, 3) := by decide +kernel
theorem dX9_lineNow_38 : decode cX9_lineNow 38 = .ok (.ifCond .eq 5, 3) := by decide +kernel
theorem dX9_lineNow_41 : decode cX9_lineNow 41 = .ok (.iconst 5, 1) := by decide +kernel
theorem dX9_lineNow_42 : decode cX9_lineNow 42 = .ok (.ireturn, 1) := by decide +kernel
theorem dX9_lineNow_43 : decode cX9_lineNow 43 = .ok (.aload_n 0, 1) := by decide +kernel
theorem dX9_lineNow_44 : decode cX9_lineNow 44 = .ok (.iconst 5, 1) := by decide +kernel
theorem dX9_lineNow_45 : decode cX9_lineNow 45 = .ok (.bipush 102, 2) := by decide +kernel
theorem dX9_lineNow_47 : decode cX9_lineNow 47 = .ok (.bipush 114, 2) := by decide +kernel
theorem dX9_lineNow_49 : decode cX9_lineNow 49 = .ok (.bipush 111, 2) := by decide +kernel
theorem dX9_lineNow_51 : decode cX9_lineNow 51 = .ok (.invokevirtual 137, 3) := by decide +kernel
theorem dX9_lineNow_54 : decode cX9_lineNow 54 = .ok (.ifCond .eq 18, 3) := by decide +kernel
theorem dX9_lineNow_57 : decode cX9_lineNow 57 = .ok (.aload_n 0, 1) := by decide +kernel
theorem dX9_lineNow_58 : decode cX9_lineNow 58 = .ok (.bipush 115, 2) := by decide +kernel
theorem dX9_lineNow_60 : decode cX9_lineNow 60 = .ok (.bipush 116, 2) := by decide +kernel
theorem dX9_lineNow_62 : decode cX9_lineNow 62 = .ok (.iconst 0, 1) := by decide +kernel
theorem dX9_lineNow_63 : decode cX9_lineNow 63 = .ok (.invokevirtual 141, 3) := by decide +kernel
theorem dX9_lineNow_66 : decode cX9_lineNow 66 = .ok (.ifCond .eq 6, 3) := by decide +kernel
theorem dX9_lineNow_69 : decode cX9_lineNow 69 = .ok (.bipush 6, 2) := by decide +kernel
theorem dX9_lineNow_71 : decode cX9_lineNow 71 = .ok (.ireturn, 1) := by decide +kernel
theorem dX9_lineNow_72 : decode cX9_lineNow 72 = .ok (.aload_n 0, 1) := by decide +kernel
theorem dX9_lineNow_73 : decode cX9_lineNow 73 = .ok (.iconst 4, 1) := by decide +kernel
theorem dX9_lineNow_74 : decode cX9_lineNow 74 = .ok (.bipush 99, 2) := by decide +kernel
theorem dX9_lineNow_76 : decode cX9_lineNow 76 = .ok (.bipush 97, 2) := by decide +kernel
theorem dX9_lineNow_78 : decode cX9_lineNow 78 = .ok (.bipush 114, 2) := by decide +kernel
theorem dX9_lineNow_80 : decode cX9_lineNow 80 = .ok (.invokevirtual 137, 3) := by decide +kernel
theorem dX9_lineNow_83 : decode cX9_lineNow 83 = .ok (.ifCond .eq 17, 3) := by decide +kernel
theorem dX9_lineNow_86 : decode cX9_lineNow 86 = .ok (.aload_n 0, 1) := by decide +kernel
theorem dX9_lineNow_87 : decode cX9_lineNow 87 = .ok (.bipush 116, 2) := by decide +kernel
theorem dX9_lineNow_89 : decode cX9_lineNow 89 = .ok (.iconst 0, 1) := by decide +kernel
theorem dX9_lineNow_90 : decode cX9_lineNow 90 = .ok (.iconst 0, 1) := by decide +kernel
theorem dX9_lineNow_91 : decode cX9_lineNow 91 = .ok (.invokevirtual 141, 3) := by decide +kernel
theorem dX9_lineNow_94 : decode cX9_lineNow 94 = .ok (.ifCond .eq 6, 3) := by decide +kernel
theorem dX9_lineNow_97 : decode cX9_lineNow 97 = .ok (.bipush 7, 2) := by decide +kernel
theorem dX9_lineNow_99 : decode cX9_lineNow 99 = .ok (.ireturn, 1) := by decide +kernel
theorem dX9_lineNow_100 : decode cX9_lineNow 100 = .ok (.aload_n 0, 1) := by decide +kernel
theorem dX9_lineNow_101 : decode cX9_lineNow 101 = .ok (.iconst 4, 1) := by decide +kernel
theorem dX9_lineNow_102 : decode cX9_lineNow 102 = .ok (.bipush 99, 2) := by decide +kernel
theorem dX9_lineNow_104 : decode cX9_lineNow 104 = .ok (.bipush 111, 2) := by decide +kernel
theorem dX9_lineNow_106 : decode cX9_lineNow 106 = .ok (.bipush 115, 2) := by decide +kernel
theorem dX9_lineNow_108 : decode cX9_lineNow 108 = .ok (.invokevirtual 137, 3) := by decide +kernel
theorem dX9_lineNow_111 : decode cX9_lineNow 111 = .ok (.ifCond .eq 19, 3) := by decide +kernel
theorem dX9_lineNow_114 : decode cX9_lineNow 114 = .ok (.aload_n 0, 1) := by decide +kernel
theorem dX9_lineNow_115 : decode cX9_lineNow 115 = .ok (.bipush 116, 2) := by decide +kernel
theorem dX9_lineNow_117 : decode cX9_lineNow 117 = .ok (.iconst 0, 1) := by decide +kernel
theorem dX9_lineNow_118 : decode cX9_lineNow 118 = .ok (.iconst 0, 1) := by decide +kernel
theorem dX9_lineNow_119 : decode cX9_lineNow 119 = .ok (.invokevirtual 141, 3) := by decide +kernel
theorem dX9_lineNow_122 : decode cX9_lineNow 122 = .ok (.ifCond .eq 8, 3) := by decide +kernel
theorem dX9_lineNow_125 : decode cX9_lineNow 125 = .ok (.bipush 8, 2) := by decide +kernel
theorem dX9_lineNow_127 : decode cX9_lineNow 127 = .ok (.goto 7, 3) := by decide +kernel
theorem dX9_lineNow_130 : decode cX9_lineNow 130 = .ok (.aload_n 0, 1) := by decide +kernel
theorem dX9_lineNow_131 : decode cX9_lineNow 131 = .ok (.invokevirtual 145, 3) := by decide +kernel
theorem dX9_lineNow_134 : decode cX9_lineNow 134 = .ok (.ireturn, 1) := by decide +kernel
theorem dX9_kindNow_0 : decode cX9_kindNow 0 = .ok (.aload_n 0, 1) := by decide +kernel
theorem dX9_kindNow_1 : decode cX9_kindNow 1 = .ok (.iconst 5, 1) := by decide +kernel
theorem dX9_kindNow_2 : decode cX9_kindNow 2 = .ok (.bipush 112, 2) := by decide +kernel
theorem dX9_kindNow_4 : decode cX9_kindNow 4 = .ok (.bipush 108, 2) := by decide +kernel
theorem dX9_kindNow_6 : decode cX9_kindNow 6 = .ok (.bipush 97, 2) := by decide +kernel
theorem dX9_kindNow_8 : decode cX9_kindNow 8 = .ok (.invokevirtual 137, 3) := by decide +kernel
theorem dX9_kindNow_11 : decode cX9_kindNow 11 = .ok (.ifCond .eq 17, 3) := by decide +kernel
theorem dX9_kindNow_14 : decode cX9_kindNow 14 = .ok (.aload_n 0, 1) := by decide +kernel
theorem dX9_kindNow_15 : decode cX9_kindNow 15 = .ok (.bipush 105, 2) := by decide +kernel
theorem dX9_kindNow_17 : decode cX9_kindNow 17 = .ok (.bipush 110, 2) := by decide +kernel
theorem dX9_kindNow_19 : decode cX9_kindNow 19 = .ok (.iconst 0, 1) := by decide +kernel
theorem dX9_kindNow_20 : decode cX9_kindNow 20 = .ok (.invokevirtual 141, 3) := by decide +kernel
theorem dX9_kindNow_23 : decode cX9_kindNow 23 = .ok (.ifCond .eq 5, 3) := by decide +kernel
theorem dX9_kindNow_26 : decode cX9_kindNow 26 = .ok (.iconst 0, 1) := by decide +kernel
theorem dX9_kindNow_27 : decode cX9_kindNow 27 = .ok (.ireturn, 1) := by decide +kernel
theorem dX9_kindNow_28 : decode cX9_kindNow 28 = .ok (.aload_n 0, 1) := by decide +kernel
theorem dX9_kindNow_29 : decode cX9_kindNow 29 = .ok (.bipush 6, 2) := by decide +kernel
theorem dX9_kindNow_31 : decode cX9_kindNow 31 = .ok (.bipush 100, 2) := by decide +kernel
theorem dX9_kindNow_33 : decode cX9_kindNow 33 = .ok (.bipush 111, 2) := by decide +kernel
theorem dX9_kindNow_35 : decode cX9_kindNow 35 = .ok (.bipush 117, 2) := by decide +kernel
theorem dX9_kindNow_37 : decode cX9_kindNow 37 = .ok (.invokevirtual 137, 3) := by decide +kernel
theorem dX9_kindNow_40 : decode cX9_kindNow 40 = .ok (.ifCond .eq 18, 3) := by decide +kernel
theorem dX9_kindNow_43 : decode cX9_kindNow 43 = .ok (.aload_n 0, 1) := by decide +kernel
theorem dX9_kindNow_44 : decode cX9_kindNow 44 = .ok (.bipush 98, 2) := by decide +kernel
theorem dX9_kindNow_46 : decode cX9_kindNow 46 = .ok (.bipush 108, 2) := by decide +kernel
theorem dX9_kindNow_48 : decode cX9_kindNow 48 = .ok (.bipush 101, 2) := by decide +kernel
theorem dX9_kindNow_50 : decode cX9_kindNow 50 = .ok (.invokevirtual 141, 3) := by decide +kernel
theorem dX9_kindNow_53 : decode cX9_kindNow 53 = .ok (.ifCond .eq 5, 3) := by decide +kernel
theorem dX9_kindNow_56 : decode cX9_kindNow 56 = .ok (.iconst 1, 1) := by decide +kernel
theorem dX9_kindNow_57 : decode cX9_kindNow 57 = .ok (.ireturn, 1) := by decide +kernel
theorem dX9_kindNow_58 : decode cX9_kindNow 58 = .ok (.aload_n 0, 1) := by decide +kernel
theorem dX9_kindNow_59 : decode cX9_kindNow 59 = .ok (.bipush 6, 2) := by decide +kernel
theorem dX9_kindNow_61 : decode cX9_kindNow 61 = .ok (.bipush 115, 2) := by decide +kernel
theorem dX9_kindNow_63 : decode cX9_kindNow 63 = .ok (.bipush 108, 2) := by decide +kernel
theorem dX9_kindNow_65 : decode cX9_kindNow 65 = .ok (.bipush 101, 2) := by decide +kernel
theorem dX9_kindNow_67 : decode cX9_kindNow 67 = .ok (.invokevirtual 137, 3) := by decide +kernel
theorem dX9_kindNow_70 : decode cX9_kindNow 70 = .ok (.ifCond .eq 18, 3) := by decide +kernel
theorem dX9_kindNow_73 : decode cX9_kindNow 73 = .ok (.aload_n 0, 1) := by decide +kernel
theorem dX9_kindNow_74 : decode cX9_kindNow 74 = .ok (.bipush 100, 2) := by decide +kernel
theorem dX9_kindNow_76 : decode cX9_kindNow 76 = .ok (.bipush 103, 2) := by decide +kernel
theorem dX9_kindNow_78 : decode cX9_kindNow 78 = .ok (.bipush 101, 2) := by decide +kernel
theorem dX9_kindNow_80 : decode cX9_kindNow 80 = .ok (.invokevirtual 141, 3) := by decide +kernel
theorem dX9_kindNow_83 : decode cX9_kindNow 83 = .ok (.ifCond .eq 5, 3) := by decide +kernel
theorem dX9_kindNow_86 : decode cX9_kindNow 86 = .ok (.iconst 2, 1) := by decide +kernel
theorem dX9_kindNow_87 : decode cX9_kindNow 87 = .ok (.ireturn, 1) := by decide +kernel
theorem dX9_kindNow_88 : decode cX9_kindNow 88 = .ok (.aload_n 0, 1) := by decide +kernel
theorem dX9_kindNow_89 : decode cX9_kindNow 89 = .ok (.iconst 5, 1) := by decide +kernel
theorem dX9_kindNow_90 : decode cX9_kindNow 90 = .ok (.bipush 104, 2) := by decide +kernel
theorem dX9_kindNow_92 : decode cX9_kindNow 92 = .ok (.bipush 105, 2) := by decide +kernel
theorem dX9_kindNow_94 : decode cX9_kindNow 94 = .ok (.bipush 114, 2) := by decide +kernel
theorem dX9_kindNow_96 : decode cX9_kindNow 96 = .ok (.invokevirtual 137, 3) := by decide +kernel
theorem dX9_kindNow_99 : decode cX9_kindNow 99 = .ok (.ifCond .eq 17, 3) := by decide +kernel
theorem dX9_kindNow_102 : decode cX9_kindNow 102 = .ok (.aload_n 0, 1) := by decide +kernel
theorem dX9_kindNow_103 : decode cX9_kindNow 103 = .ok (.bipush 101, 2) := by decide +kernel
theorem dX9_kindNow_105 : decode cX9_kindNow 105 = .ok (.bipush 100, 2) := by decide +kernel
theorem dX9_kindNow_107 : decode cX9_kindNow 107 = .ok (.iconst 0, 1) := by decide +kernel
theorem dX9_kindNow_108 : decode cX9_kindNow 108 = .ok (.invokevirtual 141, 3) := by decide +kernel
theorem dX9_kindNow_111 : decode cX9_kindNow 111 = .ok (.ifCond .eq 5, 3) := by decide +kernel
theorem dX9_kindNow_114 : decode cX9_kindNow 114 = .ok (.iconst 3, 1) := by decide +kernel
theorem dX9_kindNow_115 : decode cX9_kindNow 115 = .ok (.ireturn, 1) := by decide +kernel
theorem dX9_kindNow_116 : decode cX9_kindNow 116 = .ok (.aload_n 0, 1) := by decide +kernel
theorem dX9_kindNow_117 : decode cX9_kindNow 117 = .ok (.bipush 8, 2) := by decide +kernel
theorem dX9_kindNow_119 : decode cX9_kindNow 119 = .ok (.bipush 115, 2) := by decide +kernel
theorem dX9_kindNow_121 : decode cX9_kindNow 121 = .ok (.bipush 109, 2) := by decide +kernel
theorem dX9_kindNow_123 : decode cX9_kindNow 123 = .ok (.bipush 117, 2) := by decide +kernel
theorem dX9_kindNow_125 : decode cX9_kindNow 125 = .ok (.invokevirtual 137, 3) := by decide +kernel
theorem dX9_kindNow_128 : decode cX9_kindNow 128 = .ok (.ifCond .eq 52, 3) := by decide +kernel
theorem dX9_kindNow_131 : decode cX9_kindNow 131 = .ok (.aload_n 0, 1) := by decide +kernel
theorem dX9_kindNow_132 : decode cX9_kindNow 132 = .ok (.bipush 103, 2) := by decide +kernel
theorem dX9_kindNow_134 : decode cX9_kindNow 134 = .ok (.bipush 103, 2) := by decide +kernel
theorem dX9_kindNow_136 : decode cX9_kindNow 136 = .ok (.bipush 108, 2) := by decide +kernel
theorem dX9_kindNow_138 : decode cX9_kindNow 138 = .ok (.invokevirtual 141, 3) := by decide +kernel
theorem dX9_kindNow_141 : decode cX9_kindNow 141 = .ok (.ifCond .eq 39, 3) := by decide +kernel
theorem dX9_kindNow_144 : decode cX9_kindNow 144 = .ok (.aload_n 0, 1) := by decide +kernel
theorem dX9_kindNow_145 : decode cX9_kindNow 145 = .ok (.aload_n 0, 1) := by decide +kernel
theorem dX9_kindNow_146 : decode cX9_kindNow 146 = .ok (.getfield 124, 3) := by decide +kernel
theorem dX9_kindNow_149 : decode cX9_kindNow 149 = .ok (.bipush 6, 2) := by decide +kernel
theorem dX9_kindNow_151 : decode cX9_kindNow 151 = .ok (.iadd, 1) := by decide +kernel
theorem dX9_kindNow_152 : decode cX9_kindNow 152 = .ok (.invokevirtual 133, 3) := by decide +kernel
theorem dX9_kindNow_155 : decode cX9_kindNow 155 = .ok (.bipush 101, 2) := by decide +kernel
theorem dX9_kindNow_157 : decode cX9_kindNow 157 = .ok (.if_icmp .ne 23, 3) := by decide +kernel
theorem dX9_kindNow_160 : decode cX9_kindNow 160 = .ok (.aload_n 0, 1) := by decide +kernel
theorem dX9_kindNow_161 : decode cX9_kindNow 161 = .ok (.aload_n 0, 1) := by decide +kernel
theorem dX9_kindNow_162 : decode cX9_kindNow 162 = .ok (.getfield 124, 3) := by decide +kernel
theorem dX9_kindNow_165 : decode cX9_kindNow 165 = .ok (.bipush 7, 2) := by decide +kernel
theorem dX9_kindNow_167 : decode cX9_kindNow 167 = .ok (.iadd, 1) := by decide +kernel
theorem dX9_kindNow_168 : decode cX9_kindNow 168 = .ok (.invokevirtual 133, 3) := by decide +kernel
theorem dX9_kindNow_171 : decode cX9_kindNow 171 = .ok (.bipush 114, 2) := by decide +kernel
theorem dX9_kindNow_173 : decode cX9_kindNow 173 = .ok (.if_icmp .ne 7, 3) := by decide +kernel
theorem dX9_kindNow_176 : decode cX9_kindNow 176 = .ok (.iconst 4, 1) := by decide +kernel
theorem dX9_kindNow_177 : decode cX9_kindNow 177 = .ok (.goto 5, 3) := by decide +kernel
theorem dX9_kindNow_180 : decode cX9_kindNow 180 = .ok (.bipush (-4), 2) := by decide +kernel
theorem dX9_kindNow_182 : decode cX9_kindNow 182 = .ok (.ireturn, 1) := by decide +kernel
theorem dX9_next_0 : decode cX9_next 0 = .ok (.aload_n 0, 1) := by decide +kernel
theorem dX9_next_1 : decode cX9_next 1 = .ok (.getfield 121, 3) := by decide +kernel
theorem dX9_next_4 : decode cX9_next 4 = .ok (.ifCond .le 4, 3) := by decide +kernel
theorem dX9_next_7 : decode cX9_next 7 = .ok (.return_, 1) := by decide +kernel
theorem dX9_next_8 : decode cX9_next 8 = .ok (.aload_n 0, 1) := by decide +kernel
theorem dX9_next_9 : decode cX9_next 9 = .ok (.aload_n 0, 1) := by decide +kernel
theorem dX9_next_10 : decode cX9_next 10 = .ok (.getfield 130, 3) := by decide +kernel
theorem dX9_next_13 : decode cX9_next 13 = .ok (.invokevirtual 133, 3) := by decide +kernel
theorem dX9_next_16 : decode cX9_next 16 = .ok (.bipush 32, 2) := by decide +kernel
theorem dX9_next_18 : decode cX9_next 18 = .ok (.if_icmp .ne 16, 3) := by decide +kernel
theorem dX9_next_21 : decode cX9_next 21 = .ok (.aload_n 0, 1) := by decide +kernel
theorem dX9_next_22 : decode cX9_next 22 = .ok (.dup, 1) := by decide +kernel
theorem dX9_next_23 : decode cX9_next 23 = .ok (.getfield 130, 3) := by decide +kernel
theorem dX9_next_26 : decode cX9_next 26 = .ok (.iconst 1, 1) := by decide +kernel
theorem dX9_next_27 : decode cX9_next 27 = .ok (.iadd, 1) := by decide +kernel
theorem dX9_next_28 : decode cX9_next 28 = .ok (.putfield 130, 3) := by decide +kernel
theorem dX9_next_31 : decode cX9_next 31 = .ok (.goto (-23), 3) := by decide +kernel
theorem dX9_next_34 : decode cX9_next 34 = .ok (.aload_n 0, 1) := by decide +kernel
theorem dX9_next_35 : decode cX9_next 35 = .ok (.aload_n 0, 1) := by decide +kernel
theorem dX9_next_36 : decode cX9_next 36 = .ok (.getfield 130, 3) := by decide +kernel
theorem dX9_next_39 : decode cX9_next 39 = .ok (.putfield 124, 3) := by decide +kernel
theorem dX9_next_42 : decode cX9_next 42 = .ok (.aload_n 0, 1) := by decide +kernel
theorem dX9_next_43 : decode cX9_next 43 = .ok (.aload_n 0, 1) := by decide +kernel
theorem dX9_next_44 : decode cX9_next 44 = .ok (.getfield 130, 3) := by decide +kernel
theorem dX9_next_47 : decode cX9_next 47 = .ok (.invokevirtual 133, 3) := by decide +kernel
theorem dX9_next_50 : decode cX9_next 50 = .ok (.istore_n 1, 1) := by decide +kernel
theorem dX9_next_51 : decode cX9_next 51 = .ok (.iload_n 1, 1) := by decide +kernel
theorem dX9_next_52 : decode cX9_next 52 = .ok (.ifCond .ge 11, 3) := by decide +kernel
theorem dX9_next_55 : decode cX9_next 55 = .ok (.aload_n 0, 1) := by decide +kernel
theorem dX9_next_56 : decode cX9_next 56 = .ok (.iconst 0, 1) := by decide +kernel
theorem dX9_next_57 : decode cX9_next 57 = .ok (.putfield 149, 3) := by decide +kernel
theorem dX9_next_60 : decode cX9_next 60 = .ok (.goto 214, 3) := by decide +kernel
theorem dX9_next_63 : decode cX9_next 63 = .ok (.iload_n 1, 1) := by decide +kernel
theorem dX9_next_64 : decode cX9_next 64 = .ok (.i2l, 1) := by decide +kernel
theorem dX9_next_65 : decode cX9_next 65 = .ok (.ldc2_w 152, 3) := by decide +kernel
theorem dX9_next_68 : decode cX9_next 68 = .ok (.ldc2_w 154, 3) := by decide +kernel
theorem dX9_next_71 : decode cX9_next 71 = .ok (.invokestatic 117, 3) := by decide +kernel
theorem dX9_next_74 : decode cX9_next 74 = .ok (.ifCond .eq 42, 3) := by decide +kernel
theorem dX9_next_77 : decode cX9_next 77 = .ok (.aload_n 0, 1) := by decide +kernel
theorem dX9_next_78 : decode cX9_next 78 = .ok (.iconst 1, 1) := by decide +kernel
theorem dX9_next_79 : decode cX9_next 79 = .ok (.putfield 149, 3) := by decide +kernel
theorem dX9_next_82 : decode cX9_next 82 = .ok (.aload_n 0, 1) := by decide +kernel
theorem dX9_next_83 : decode cX9_next 83 = .ok (.aload_n 0, 1) := by decide +kernel
theorem dX9_next_84 : decode cX9_next 84 = .ok (.getfield 130, 3) := by decide +kernel
theorem dX9_next_87 : decode cX9_next 87 = .ok (.invokevirtual 133, 3) := by decide +kernel
theorem dX9_next_90 : decode cX9_next 90 = .ok (.i2l, 1) := by decide +kernel
theorem dX9_next_91 : decode cX9_next 91 = .ok (.ldc2_w 152, 3) := by decide +kernel
theorem dX9_next_94 : decode cX9_next 94 = .ok (.ldc2_w 154, 3) := by decide +kernel
theorem dX9_next_97 : decode cX9_next 97 = .ok (.invokestatic 117, 3) := by decide +kernel
theorem dX9_next_100 : decode cX9_next 100 = .ok (.ifCond .eq 174, 3) := by decide +kernel
theorem dX9_next_103 : decode cX9_next 103 = .ok (.aload_n 0, 1) := by decide +kernel
theorem dX9_next_104 : decode cX9_next 104 = .ok (.dup, 1) := by decide +kernel
theorem dX9_next_105 : decode cX9_next 105 = .ok (.getfield 130, 3) := by decide +kernel
theorem dX9_next_108 : decode cX9_next 108 = .ok (.iconst 1, 1) := by decide +kernel
theorem dX9_next_109 : decode cX9_next 109 = .ok (.iadd, 1) := by decide +kernel
theorem dX9_next_110 : decode cX9_next 110 = .ok (.putfield 130, 3) := by decide +kernel
theorem dX9_next_113 : decode cX9_next 113 = .ok (.goto (-31), 3) := by decide +kernel
theorem dX9_next_116 : decode cX9_next 116 = .ok (.iload_n 1, 1) := by decide +kernel
theorem dX9_next_117 : decode cX9_next 117 = .ok (.i2l, 1) := by decide +kernel
theorem dX9_next_118 : decode cX9_next 118 = .ok (.ldc2_w 156, 3) := by decide +kernel
theorem dX9_next_121 : decode cX9_next 121 = .ok (.ldc2_w 158, 3) := by decide +kernel
theorem dX9_next_124 : decode cX9_next 124 = .ok (.invokestatic 117, 3) := by decide +kernel
theorem dX9_next_127 : decode cX9_next 127 = .ok (.ifCond .eq 116, 3) := by decide +kernel
theorem dX9_next_130 : decode cX9_next 130 = .ok (.aload_n 0, 1) := by decide +kernel
theorem dX9_next_131 : decode cX9_next 131 = .ok (.iconst 2, 1) := by decide +kernel
theorem dX9_next_132 : decode cX9_next 132 = .ok (.putfield 149, 3) := by decide +kernel
theorem dX9_next_135 : decode cX9_next 135 = .ok (.aload_n 0, 1) := by decide +kernel
theorem dX9_next_136 : decode cX9_next 136 = .ok (.iconst 0, 1) := by decide +kernel
theorem dX9_next_137 : decode cX9_next 137 = .ok (.putfield 160, 3) := by decide +kernel
theorem dX9_next_140 : decode cX9_next 140 = .ok (.aload_n 0, 1) := by decide +kernel
theorem dX9_next_141 : decode cX9_next 141 = .ok (.aload_n 0, 1) := by decide +kernel
theorem dX9_next_142 : decode cX9_next 142 = .ok (.getfield 130, 3) := by decide +kernel
theorem dX9_next_145 : decode cX9_next 145 = .ok (.invokevirtual 133, 3) := by decide +kernel
theorem dX9_next_148 : decode cX9_next 148 = .ok (.i2l, 1) := by decide +kernel
theorem dX9_next_149 : decode cX9_next 149 = .ok (.ldc2_w 156, 3) := by decide +kernel
theorem dX9_next_152 : decode cX9_next 152 = .ok (.ldc2_w 158, 3) := by decide +kernel
theorem dX9_next_155 : decode cX9_next 155 = .ok (.invokestatic 117, 3) := by decide +kernel
theorem dX9_next_158 : decode cX9_next 158 = .ok (.ifCond .eq 59, 3) := by decide +kernel
theorem dX9_next_161 : decode cX9_next 161 = .ok (.aload_n 0, 1) := by decide +kernel
theorem dX9_next_162 : decode cX9_next 162 = .ok (.aload_n 0, 1) := by decide +kernel
theorem dX9_next_163 : decode cX9_next 163 = .ok (.getfield 130, 3) := by decide +kernel
theorem dX9_next_166 : decode cX9_next 166 = .ok (.aload_n 0, 1) := by decide +kernel
theorem dX9_next_167 : decode cX9_next 167 = .ok (.getfield 124, 3) := by decide +kernel
theorem dX9_next_170 : decode cX9_next 170 = .ok (.isub, 1) := by decide +kernel
theorem dX9_next_171 : decode cX9_next 171 = .ok (.iconst 2, 1) := by decide +kernel
theorem dX9_next_172 : decode cX9_next 172 = .ok (.if_icmp .ge 25, 3) := by decide +kernel
theorem dX9_next_175 : decode cX9_next 175 = .ok (.bipush 10, 2) := by decide +kernel
theorem dX9_next_177 : decode cX9_next 177 = .ok (.aload_n 0, 1) := by decide +kernel
theorem dX9_next_178 : decode cX9_next 178 = .ok (.getfield 160, 3) := by decide +kernel
theorem dX9_next_181 : decode cX9_next 181 = .ok (.imul, 1) := by decide +kernel
theorem dX9_next_182 : decode cX9_next 182 = .ok (.aload_n 0, 1) := by decide +kernel
theorem dX9_next_183 : decode cX9_next 183 = .ok (.aload_n 0, 1) := by decide +kernel
theorem dX9_next_184 : decode cX9_next 184 = .ok (.getfield 130, 3) := by decide +kernel
theorem dX9_next_187 : decode cX9_next 187 = .ok (.invokevirtual 133, 3) := by decide +kernel
theorem dX9_next_190 : decode cX9_next 190 = .ok (.iadd, 1) := by decide +kernel
theorem dX9_next_191 : decode cX9_next 191 = .ok (.bipush 48, 2) := by decide +kernel
theorem dX9_next_193 : decode cX9_next 193 = .ok (.isub, 1) := by decide +kernel
theorem dX9_next_194 : decode cX9_next 194 = .ok (.goto 7, 3) := by decide +kernel
theorem dX9_next_197 : decode cX9_next 197 = .ok (.aload_n 0, 1) := by decide +kernel
theorem dX9_next_198 : decode cX9_next 198 = .ok (.getfield 160, 3) := by decide +kernel
theorem dX9_next_201 : decode cX9_next 201 = .ok (.putfield 160, 3) := by decide +kernel
theorem dX9_next_204 : decode cX9_next 204 = .ok (.aload_n 0, 1) := by decide +kernel
theorem dX9_next_205 : decode cX9_next 205 = .ok (.dup, 1) := by decide +kernel
theorem dX9_next_206 : decode cX9_next 206 = .ok (.getfield 130, 3) := by decide +kernel
theorem dX9_next_209 : decode cX9_next 209 = .ok (.iconst 1, 1) := by decide +kernel
theorem dX9_next_210 : decode cX9_next 210 = .ok (.iadd, 1) := by decide +kernel
theorem dX9_next_211 : decode cX9_next 211 = .ok (.putfield 130, 3) := by decide +kernel
theorem dX9_next_214 : decode cX9_next 214 = .ok (.goto (-74), 3) := by decide +kernel
theorem dX9_next_217 : decode cX9_next 217 = .ok (.aload_n 0, 1) := by decide +kernel
theorem dX9_next_218 : decode cX9_next 218 = .ok (.aload_n 0, 1) := by decide +kernel
theorem dX9_next_219 : decode cX9_next 219 = .ok (.getfield 130, 3) := by decide +kernel
theorem dX9_next_222 : decode cX9_next 222 = .ok (.aload_n 0, 1) := by decide +kernel
theorem dX9_next_223 : decode cX9_next 223 = .ok (.getfield 124, 3) := by decide +kernel
theorem dX9_next_226 : decode cX9_next 226 = .ok (.isub, 1) := by decide +kernel
theorem dX9_next_227 : decode cX9_next 227 = .ok (.iconst 2, 1) := by decide +kernel
theorem dX9_next_228 : decode cX9_next 228 = .ok (.if_icmp .gt 7, 3) := by decide +kernel
theorem dX9_next_231 : decode cX9_next 231 = .ok (.iconst 1, 1) := by decide +kernel
theorem dX9_next_232 : decode cX9_next 232 = .ok (.goto 4, 3) := by decide +kernel
theorem dX9_next_235 : decode cX9_next 235 = .ok (.iconst 0, 1) := by decide +kernel
theorem dX9_next_236 : decode cX9_next 236 = .ok (.iconst 1, 1) := by decide +kernel
theorem dX9_next_237 : decode cX9_next 237 = .ok (.invokevirtual 163, 3) := by decide +kernel
theorem dX9_next_240 : decode cX9_next 240 = .ok (.goto 34, 3) := by decide +kernel
theorem dX9_next_243 : decode cX9_next 243 = .ok (.aload_n 0, 1) := by decide +kernel
theorem dX9_next_244 : decode cX9_next 244 = .ok (.iconst 3, 1) := by decide +kernel
theorem dX9_next_245 : decode cX9_next 245 = .ok (.putfield 149, 3) := by decide +kernel
theorem dX9_next_248 : decode cX9_next 248 = .ok (.aload_n 0, 1) := by decide +kernel
theorem dX9_next_249 : decode cX9_next 249 = .ok (.iload_n 1, 1) := by decide +kernel
theorem dX9_next_250 : decode cX9_next 250 = .ok (.bipush 59, 2) := by decide +kernel
theorem dX9_next_252 : decode cX9_next 252 = .ok (.if_icmp .ne 7, 3) := by decide +kernel
theorem dX9_next_255 : decode cX9_next 255 = .ok (.iconst 1, 1) := by decide +kernel
theorem dX9_next_256 : decode cX9_next 256 = .ok (.goto 4, 3) := by decide +kernel
theorem dX9_next_259 : decode cX9_next 259 = .ok (.iconst 0, 1) := by decide +kernel
theorem dX9_next_260 : decode cX9_next 260 = .ok (.iconst 1, 1) := by decide +kernel
theorem dX9_next_261 : decode cX9_next 261 = .ok (.invokevirtual 163, 3) := by decide +kernel
theorem dX9_next_264 : decode cX9_next 264 = .ok (.aload_n 0, 1) := by decide +kernel
theorem dX9_next_265 : decode cX9_next 265 = .ok (.dup, 1) := by decide +kernel
theorem dX9_next_266 : decode cX9_next 266 = .ok (.getfield 130, 3) := by decide +kernel
theorem dX9_next_269 : decode cX9_next 269 = .ok (.iconst 1, 1) := by decide +kernel
theorem dX9_next_270 : decode cX9_next 270 = .ok (.iadd, 1) := by decide +kernel
theorem dX9_next_271 : decode cX9_next 271 = .ok (.putfield 130, 3) := by decide +kernel
theorem dX9_next_274 : decode cX9_next 274 = .ok (.return_, 1) := by decide +kernel
theorem dX9_looked_0 : decode cX9_looked 0 = .ok (.aload_n 0, 1) := by decide +kernel
theorem dX9_looked_1 : decode cX9_looked 1 = .ok (.getfield 121, 3) := by decide +kernel
theorem dX9_looked_4 : decode cX9_looked 4 = .ok (.ifCond .ne 21, 3) := by decide +kernel
theorem dX9_looked_7 : decode cX9_looked 7 = .ok (.aload_n 0, 1) := by decide +kernel
theorem dX9_looked_8 : decode cX9_looked 8 = .ok (.aload_n 0, 1) := by decide +kernel
theorem dX9_looked_9 : decode cX9_looked 9 = .ok (.getfield 149, 3) := by decide +kernel
theorem dX9_looked_12 : decode cX9_looked 12 = .ok (.iconst 2, 1) := by decide +kernel
theorem dX9_looked_13 : decode cX9_looked 13 = .ok (.if_icmp .ne 7, 3) := by decide +kernel
theorem dX9_looked_16 : decode cX9_looked 16 = .ok (.iconst 1, 1) := by decide +kernel
theorem dX9_looked_17 : decode cX9_looked 17 = .ok (.goto 4, 3) := by decide +kernel
theorem dX9_looked_20 : decode cX9_looked 20 = .ok (.iconst 0, 1) := by decide +kernel
theorem dX9_looked_21 : decode cX9_looked 21 = .ok (.iconst 2, 1) := by decide +kernel
theorem dX9_looked_22 : decode cX9_looked 22 = .ok (.invokevirtual 163, 3) := by decide +kernel
theorem dX9_looked_25 : decode cX9_looked 25 = .ok (.aload_n 0, 1) := by decide +kernel
theorem dX9_looked_26 : decode cX9_looked 26 = .ok (.getfield 121, 3) := by decide +kernel
theorem dX9_looked_29 : decode cX9_looked 29 = .ok (.ifCond .ne 20, 3) := by decide +kernel
theorem dX9_looked_32 : decode cX9_looked 32 = .ok (.aload_n 0, 1) := by decide +kernel
theorem dX9_looked_33 : decode cX9_looked 33 = .ok (.aload_n 0, 1) := by decide +kernel
theorem dX9_looked_34 : decode cX9_looked 34 = .ok (.getfield 160, 3) := by decide +kernel
theorem dX9_looked_37 : decode cX9_looked 37 = .ok (.i2l, 1) := by decide +kernel
theorem dX9_looked_38 : decode cX9_looked 38 = .ok (.iload_n 1, 1) := by decide +kernel
theorem dX9_looked_39 : decode cX9_looked 39 = .ok (.i2l, 1) := by decide +kernel
theorem dX9_looked_40 : decode cX9_looked 40 = .ok (.iload_n 2, 1) := by decide +kernel
theorem dX9_looked_41 : decode cX9_looked 41 = .ok (.i2l, 1) := by decide +kernel
theorem dX9_looked_42 : decode cX9_looked 42 = .ok (.invokestatic 117, 3) := by decide +kernel
theorem dX9_looked_45 : decode cX9_looked 45 = .ok (.iconst 3, 1) := by decide +kernel
theorem dX9_looked_46 : decode cX9_looked 46 = .ok (.invokevirtual 163, 3) := by decide +kernel
theorem dX9_looked_49 : decode cX9_looked 49 = .ok (.aload_n 0, 1) := by decide +kernel
theorem dX9_looked_50 : decode cX9_looked 50 = .ok (.getfield 121, 3) := by decide +kernel
theorem dX9_looked_53 : decode cX9_looked 53 = .ok (.ifCond .ne 10, 3) := by decide +kernel
theorem dX9_looked_56 : decode cX9_looked 56 = .ok (.aload_n 0, 1) := by decide +kernel
theorem dX9_looked_57 : decode cX9_looked 57 = .ok (.getfield 160, 3) := by decide +kernel
theorem dX9_looked_60 : decode cX9_looked 60 = .ok (.goto 4, 3) := by decide +kernel
theorem dX9_looked_63 : decode cX9_looked 63 = .ok (.iconst 0, 1) := by decide +kernel
theorem dX9_looked_64 : decode cX9_looked 64 = .ok (.ireturn, 1) := by decide +kernel
theorem dX9_readNumber_0 : decode cX9_readNumber 0 = .ok (.aload_n 0, 1) := by decide +kernel
theorem dX9_readNumber_1 : decode cX9_readNumber 1 = .ok (.iload_n 1, 1) := by decide +kernel
theorem dX9_readNumber_2 : decode cX9_readNumber 2 = .ok (.iload_n 2, 1) := by decide +kernel
theorem dX9_readNumber_3 : decode cX9_readNumber 3 = .ok (.invokevirtual 167, 3) := by decide +kernel
theorem dX9_readNumber_6 : decode cX9_readNumber 6 = .ok (.istore_n 3, 1) := by decide +kernel
theorem dX9_readNumber_7 : decode cX9_readNumber 7 = .ok (.aload_n 0, 1) := by decide +kernel
theorem dX9_readNumber_8 : decode cX9_readNumber 8 = .ok (.invokevirtual 171, 3) := by decide +kernel
theorem dX9_readNumber_11 : decode cX9_readNumber 11 = .ok (.iload_n 3, 1) := by decide +kernel
theorem dX9_readNumber_12 : decode cX9_readNumber 12 = .ok (.ireturn, 1) := by decide +kernel
theorem dX9_lookedYard_0 : decode cX9_lookedYard 0 = .ok (.aload_n 0, 1) := by decide +kernel
theorem dX9_lookedYard_1 : decode cX9_lookedYard 1 = .ok (.iconst 0, 1) := by decide +kernel
theorem dX9_lookedYard_2 : decode cX9_lookedYard 2 = .ok (.bipush 20, 2) := by decide +kernel
theorem dX9_lookedYard_4 : decode cX9_lookedYard 4 = .ok (.invokevirtual 167, 3) := by decide +kernel
theorem dX9_lookedYard_7 : decode cX9_lookedYard 7 = .ok (.istore_n 1, 1) := by decide +kernel
theorem dX9_lookedYard_8 : decode cX9_lookedYard 8 = .ok (.aload_n 0, 1) := by decide +kernel
theorem dX9_lookedYard_9 : decode cX9_lookedYard 9 = .ok (.iload_n 1, 1) := by decide +kernel
theorem dX9_lookedYard_10 : decode cX9_lookedYard 10 = .ok (.aload_n 0, 1) := by decide +kernel
theorem dX9_lookedYard_11 : decode cX9_lookedYard 11 = .ok (.getfield 106, 3) := by decide +kernel
theorem dX9_lookedYard_14 : decode cX9_lookedYard 14 = .ok (.if_icmp .le 7, 3) := by decide +kernel
theorem dX9_lookedYard_17 : decode cX9_lookedYard 17 = .ok (.iload_n 1, 1) := by decide +kernel
theorem dX9_lookedYard_18 : decode cX9_lookedYard 18 = .ok (.goto 7, 3) := by decide +kernel
theorem dX9_lookedYard_21 : decode cX9_lookedYard 21 = .ok (.aload_n 0, 1) := by decide +kernel
theorem dX9_lookedYard_22 : decode cX9_lookedYard 22 = .ok (.getfield 106, 3) := by decide +kernel
theorem dX9_lookedYard_25 : decode cX9_lookedYard 25 = .ok (.putfield 106, 3) := by decide +kernel
theorem dX9_lookedYard_28 : decode cX9_lookedYard 28 = .ok (.iload_n 1, 1) := by decide +kernel
theorem dX9_lookedYard_29 : decode cX9_lookedYard 29 = .ok (.ireturn, 1) := by decide +kernel
theorem dX9_readYard_0 : decode cX9_readYard 0 = .ok (.aload_n 0, 1) := by decide +kernel
theorem dX9_readYard_1 : decode cX9_readYard 1 = .ok (.invokevirtual 174, 3) := by decide +kernel
theorem dX9_readYard_4 : decode cX9_readYard 4 = .ok (.istore_n 1, 1) := by decide +kernel
theorem dX9_readYard_5 : decode cX9_readYard 5 = .ok (.aload_n 0, 1) := by decide +kernel
theorem dX9_readYard_6 : decode cX9_readYard 6 = .ok (.invokevirtual 171, 3) := by decide +kernel
theorem dX9_readYard_9 : decode cX9_readYard 9 = .ok (.iload_n 1, 1) := by decide +kernel
theorem dX9_readYard_10 : decode cX9_readYard 10 = .ok (.ireturn, 1) := by decide +kernel
theorem dX9_readCart_0 : decode cX9_readCart 0 = .ok (.iconst 1, 1) := by decide +kernel
theorem dX9_readCart_1 : decode cX9_readCart 1 = .ok (.bipush 7, 2) := by decide +kernel
theorem dX9_readCart_3 : decode cX9_readCart 3 = .ok (.aload_n 0, 1) := by decide +kernel
theorem dX9_readCart_4 : decode cX9_readCart 4 = .ok (.getfield 29, 3) := by decide +kernel
theorem dX9_readCart_7 : decode cX9_readCart 7 = .ok (.iconst 0, 1) := by decide +kernel
theorem dX9_readCart_8 : decode cX9_readCart 8 = .ok (.iaload, 1) := by decide +kernel
theorem dX9_readCart_9 : decode cX9_readCart 9 = .ok (.imul, 1) := by decide +kernel
theorem dX9_readCart_10 : decode cX9_readCart 10 = .ok (.iadd, 1) := by decide +kernel
theorem dX9_readCart_11 : decode cX9_readCart 11 = .ok (.istore_n 1, 1) := by decide +kernel
theorem dX9_readCart_12 : decode cX9_readCart 12 = .ok (.aload_n 0, 1) := by decide +kernel
theorem dX9_readCart_13 : decode cX9_readCart 13 = .ok (.getfield 121, 3) := by decide +kernel
theorem dX9_readCart_16 : decode cX9_readCart 16 = .ok (.ifCond .ne 18, 3) := by decide +kernel
theorem dX9_readCart_19 : decode cX9_readCart 19 = .ok (.aload_n 0, 1) := by decide +kernel
theorem dX9_readCart_20 : decode cX9_readCart 20 = .ok (.getfield 149, 3) := by decide +kernel
theorem dX9_readCart_23 : decode cX9_readCart 23 = .ok (.iconst 1, 1) := by decide +kernel
theorem dX9_readCart_24 : decode cX9_readCart 24 = .ok (.if_icmp .ne 10, 3) := by decide +kernel
theorem dX9_readCart_27 : decode cX9_readCart 27 = .ok (.aload_n 0, 1) := by decide +kernel
theorem dX9_readCart_28 : decode cX9_readCart 28 = .ok (.invokevirtual 177, 3) := by decide +kernel
theorem dX9_readCart_31 : decode cX9_readCart 31 = .ok (.goto 5, 3) := by decide +kernel
theorem dX9_readCart_34 : decode cX9_readCart 34 = .ok (.bipush (-4), 2) := by decide +kernel
theorem dX9_readCart_36 : decode cX9_readCart 36 = .ok (.istore_n 2, 1) := by decide +kernel
theorem dX9_readCart_37 : decode cX9_readCart 37 = .ok (.aload_n 0, 1) := by decide +kernel
theorem dX9_readCart_38 : decode cX9_readCart 38 = .ok (.iload_n 2, 1) := by decide +kernel
theorem dX9_readCart_39 : decode cX9_readCart 39 = .ok (.bipush (-4), 2) := by decide +kernel
theorem dX9_readCart_41 : decode cX9_readCart 41 = .ok (.if_icmp .eq 7, 3) := by decide +kernel
theorem dX9_readCart_44 : decode cX9_readCart 44 = .ok (.iconst 1, 1) := by decide +kernel
theorem dX9_readCart_45 : decode cX9_readCart 45 = .ok (.goto 4, 3) := by decide +kernel
theorem dX9_readCart_48 : decode cX9_readCart 48 = .ok (.iconst 0, 1) := by decide +kernel
theorem dX9_readCart_49 : decode cX9_readCart 49 = .ok (.iconst 2, 1) := by decide +kernel
theorem dX9_readCart_50 : decode cX9_readCart 50 = .ok (.invokevirtual 163, 3) := by decide +kernel
theorem dX9_readCart_53 : decode cX9_readCart 53 = .ok (.aload_n 0, 1) := by decide +kernel
theorem dX9_readCart_54 : decode cX9_readCart 54 = .ok (.invokevirtual 171, 3) := by decide +kernel
theorem dX9_readCart_57 : decode cX9_readCart 57 = .ok (.aload_n 0, 1) := by decide +kernel
theorem dX9_readCart_58 : decode cX9_readCart 58 = .ok (.getfield 29, 3) := by decide +kernel
theorem dX9_readCart_61 : decode cX9_readCart 61 = .ok (.iload_n 1, 1) := by decide +kernel
theorem dX9_readCart_62 : decode cX9_readCart 62 = .ok (.iconst 0, 1) := by decide +kernel
theorem dX9_readCart_63 : decode cX9_readCart 63 = .ok (.iadd, 1) := by decide +kernel
theorem dX9_readCart_64 : decode cX9_readCart 64 = .ok (.iload_n 2, 1) := by decide +kernel
theorem dX9_readCart_65 : decode cX9_readCart 65 = .ok (.iastore, 1) := by decide +kernel
theorem dX9_readCart_66 : decode cX9_readCart 66 = .ok (.aload_n 0, 1) := by decide +kernel
theorem dX9_readCart_67 : decode cX9_readCart 67 = .ok (.getfield 29, 3) := by decide +kernel
theorem dX9_readCart_70 : decode cX9_readCart 70 = .ok (.iload_n 1, 1) := by decide +kernel
theorem dX9_readCart_71 : decode cX9_readCart 71 = .ok (.iconst 1, 1) := by decide +kernel
theorem dX9_readCart_72 : decode cX9_readCart 72 = .ok (.iadd, 1) := by decide +kernel
theorem dX9_readCart_73 : decode cX9_readCart 73 = .ok (.aload_n 0, 1) := by decide +kernel
theorem dX9_readCart_74 : decode cX9_readCart 74 = .ok (.iconst 0, 1) := by decide +kernel
theorem dX9_readCart_75 : decode cX9_readCart 75 = .ok (.iconst 2, 1) := by decide +kernel
theorem dX9_readCart_76 : decode cX9_readCart 76 = .ok (.invokevirtual 180, 3) := by decide +kernel
theorem dX9_readCart_79 : decode cX9_readCart 79 = .ok (.iastore, 1) := by decide +kernel
theorem dX9_readCart_80 : decode cX9_readCart 80 = .ok (.aload_n 0, 1) := by decide +kernel
theorem dX9_readCart_81 : decode cX9_readCart 81 = .ok (.getfield 29, 3) := by decide +kernel
theorem dX9_readCart_84 : decode cX9_readCart 84 = .ok (.iload_n 1, 1) := by decide +kernel
theorem dX9_readCart_85 : decode cX9_readCart 85 = .ok (.iconst 2, 1) := by decide +kernel
theorem dX9_readCart_86 : decode cX9_readCart 86 = .ok (.iadd, 1) := by decide +kernel
theorem dX9_readCart_87 : decode cX9_readCart 87 = .ok (.aload_n 0, 1) := by decide +kernel
theorem dX9_readCart_88 : decode cX9_readCart 88 = .ok (.iconst 1, 1) := by decide +kernel
theorem dX9_readCart_89 : decode cX9_readCart 89 = .ok (.bipush 9, 2) := by decide +kernel
theorem dX9_readCart_91 : decode cX9_readCart 91 = .ok (.invokevirtual 180, 3) := by decide +kernel
theorem dX9_readCart_94 : decode cX9_readCart 94 = .ok (.iastore, 1) := by decide +kernel
theorem dX9_readCart_95 : decode cX9_readCart 95 = .ok (.aload_n 0, 1) := by decide +kernel
theorem dX9_readCart_96 : decode cX9_readCart 96 = .ok (.getfield 29, 3) := by decide +kernel
theorem dX9_readCart_99 : decode cX9_readCart 99 = .ok (.iload_n 1, 1) := by decide +kernel
theorem dX9_readCart_100 : decode cX9_readCart 100 = .ok (.iconst 3, 1) := by decide +kernel
theorem dX9_readCart_101 : decode cX9_readCart 101 = .ok (.iadd, 1) := by decide +kernel
theorem dX9_readCart_102 : decode cX9_readCart 102 = .ok (.aload_n 0, 1) := by decide +kernel
theorem dX9_readCart_103 : decode cX9_readCart 103 = .ok (.iconst 0, 1) := by decide +kernel
theorem dX9_readCart_104 : decode cX9_readCart 104 = .ok (.bipush 30, 2) := by decide +kernel
theorem dX9_readCart_106 : decode cX9_readCart 106 = .ok (.invokevirtual 180, 3) := by decide +kernel
theorem dX9_readCart_109 : decode cX9_readCart 109 = .ok (.iastore, 1) := by decide +kernel
theorem dX9_readCart_110 : decode cX9_readCart 110 = .ok (.aload_n 0, 1) := by decide +kernel
theorem dX9_readCart_111 : decode cX9_readCart 111 = .ok (.getfield 29, 3) := by decide +kernel
theorem dX9_readCart_114 : decode cX9_readCart 114 = .ok (.iload_n 1, 1) := by decide +kernel
theorem dX9_readCart_115 : decode cX9_readCart 115 = .ok (.iconst 4, 1) := by decide +kernel
theorem dX9_readCart_116 : decode cX9_readCart 116 = .ok (.iadd, 1) := by decide +kernel
theorem dX9_readCart_117 : decode cX9_readCart 117 = .ok (.aload_n 0, 1) := by decide +kernel
theorem dX9_readCart_118 : decode cX9_readCart 118 = .ok (.invokevirtual 183, 3) := by decide +kernel
theorem dX9_readCart_121 : decode cX9_readCart 121 = .ok (.iastore, 1) := by decide +kernel
theorem dX9_readCart_122 : decode cX9_readCart 122 = .ok (.aload_n 0, 1) := by decide +kernel
theorem dX9_readCart_123 : decode cX9_readCart 123 = .ok (.getfield 29, 3) := by decide +kernel
theorem dX9_readCart_126 : decode cX9_readCart 126 = .ok (.iload_n 1, 1) := by decide +kernel
theorem dX9_readCart_127 : decode cX9_readCart 127 = .ok (.iconst 5, 1) := by decide +kernel
theorem dX9_readCart_128 : decode cX9_readCart 128 = .ok (.iadd, 1) := by decide +kernel
theorem dX9_readCart_129 : decode cX9_readCart 129 = .ok (.aload_n 0, 1) := by decide +kernel
theorem dX9_readCart_130 : decode cX9_readCart 130 = .ok (.invokevirtual 174, 3) := by decide +kernel
theorem dX9_readCart_133 : decode cX9_readCart 133 = .ok (.iastore, 1) := by decide +kernel
theorem dX9_readCart_134 : decode cX9_readCart 134 = .ok (.aload_n 0, 1) := by decide +kernel
theorem dX9_readCart_135 : decode cX9_readCart 135 = .ok (.aload_n 0, 1) := by decide +kernel
theorem dX9_readCart_136 : decode cX9_readCart 136 = .ok (.getfield 29, 3) := by decide +kernel
theorem dX9_readCart_139 : decode cX9_readCart 139 = .ok (.iload_n 1, 1) := by decide +kernel
theorem dX9_readCart_140 : decode cX9_readCart 140 = .ok (.iconst 5, 1) := by decide +kernel
theorem dX9_readCart_141 : decode cX9_readCart 141 = .ok (.iadd, 1) := by decide +kernel
theorem dX9_readCart_142 : decode cX9_readCart 142 = .ok (.iaload, 1) := by decide +kernel
theorem dX9_readCart_143 : decode cX9_readCart 143 = .ok (.aload_n 0, 1) := by decide +kernel
theorem dX9_readCart_144 : decode cX9_readCart 144 = .ok (.getfield 29, 3) := by decide +kernel
theorem dX9_readCart_147 : decode cX9_readCart 147 = .ok (.iload_n 1, 1) := by decide +kernel
theorem dX9_readCart_148 : decode cX9_readCart 148 = .ok (.iconst 4, 1) := by decide +kernel
theorem dX9_readCart_149 : decode cX9_readCart 149 = .ok (.iadd, 1) := by decide +kernel
theorem dX9_readCart_150 : decode cX9_readCart 150 = .ok (.iaload, 1) := by decide +kernel
theorem dX9_readCart_151 : decode cX9_readCart 151 = .ok (.if_icmp .eq 7, 3) := by decide +kernel
theorem dX9_readCart_154 : decode cX9_readCart 154 = .ok (.iconst 1, 1) := by decide +kernel
theorem dX9_readCart_155 : decode cX9_readCart 155 = .ok (.goto 4, 3) := by decide +kernel
theorem dX9_readCart_158 : decode cX9_readCart 158 = .ok (.iconst 0, 1) := by decide +kernel
theorem dX9_readCart_159 : decode cX9_readCart 159 = .ok (.iconst 4, 1) := by decide +kernel
theorem dX9_readCart_160 : decode cX9_readCart 160 = .ok (.invokevirtual 163, 3) := by decide +kernel
theorem dX9_readCart_163 : decode cX9_readCart 163 = .ok (.aload_n 0, 1) := by decide +kernel
theorem dX9_readCart_164 : decode cX9_readCart 164 = .ok (.invokevirtual 171, 3) := by decide +kernel
theorem dX9_readCart_167 : decode cX9_readCart 167 = .ok (.aload_n 0, 1) := by decide +kernel
theorem dX9_readCart_168 : decode cX9_readCart 168 = .ok (.getfield 29, 3) := by decide +kernel
theorem dX9_readCart_171 : decode cX9_readCart 171 = .ok (.iload_n 1, 1) := by decide +kernel
theorem dX9_readCart_172 : decode cX9_readCart 172 = .ok (.bipush 6, 2) := by decide +kernel
theorem dX9_readCart_174 : decode cX9_readCart 174 = .ok (.iadd, 1) := by decide +kernel
theorem dX9_readCart_175 : decode cX9_readCart 175 = .ok (.aload_n 0, 1) := by decide +kernel
theorem dX9_readCart_176 : decode cX9_readCart 176 = .ok (.iconst 0, 1) := by decide +kernel
theorem dX9_readCart_177 : decode cX9_readCart 177 = .ok (.bipush 20, 2) := by decide +kernel
theorem dX9_readCart_179 : decode cX9_readCart 179 = .ok (.invokevirtual 180, 3) := by decide +kernel
theorem dX9_readCart_182 : decode cX9_readCart 182 = .ok (.iastore, 1) := by decide +kernel
theorem dX9_readCart_183 : decode cX9_readCart 183 = .ok (.aload_n 0, 1) := by decide +kernel
theorem dX9_readCart_184 : decode cX9_readCart 184 = .ok (.getfield 29, 3) := by decide +kernel
theorem dX9_readCart_187 : decode cX9_readCart 187 = .ok (.iconst 0, 1) := by decide +kernel
theorem dX9_readCart_188 : decode cX9_readCart 188 = .ok (.dup2, 1) := by decide +kernel
theorem dX9_readCart_189 : decode cX9_readCart 189 = .ok (.iaload, 1) := by decide +kernel
theorem dX9_readCart_190 : decode cX9_readCart 190 = .ok (.iconst 1, 1) := by decide +kernel
theorem dX9_readCart_191 : decode cX9_readCart 191 = .ok (.iadd, 1) := by decide +kernel
theorem dX9_readCart_192 : decode cX9_readCart 192 = .ok (.iastore, 1) := by decide +kernel
theorem dX9_readCart_193 : decode cX9_readCart 193 = .ok (.return_, 1) := by decide +kernel
theorem dX9_readPlace_0 : decode cX9_readPlace 0 = .ok (.aload_n 0, 1) := by decide +kernel
theorem dX9_readPlace_1 : decode cX9_readPlace 1 = .ok (.invokevirtual 183, 3) := by decide +kernel
theorem dX9_readPlace_4 : decode cX9_readPlace 4 = .ok (.istore_n 2, 1) := by decide +kernel
theorem dX9_readPlace_5 : decode cX9_readPlace 5 = .ok (.aload_n 0, 1) := by decide +kernel
theorem dX9_readPlace_6 : decode cX9_readPlace 6 = .ok (.iconst 0, 1) := by decide +kernel
theorem dX9_readPlace_7 : decode cX9_readPlace 7 = .ok (.iconst 2, 1) := by decide +kernel
theorem dX9_readPlace_8 : decode cX9_readPlace 8 = .ok (.invokevirtual 180, 3) := by decide +kernel
theorem dX9_readPlace_11 : decode cX9_readPlace 11 = .ok (.istore_n 3, 1) := by decide +kernel
theorem dX9_readPlace_12 : decode cX9_readPlace 12 = .ok (.iload_n 1, 1) := by decide +kernel
theorem dX9_readPlace_13 : decode cX9_readPlace 13 = .ok (.iconst 4, 1) := by decide +kernel
theorem dX9_readPlace_14 : decode cX9_readPlace 14 = .ok (.if_icmp .ne 23, 3) := by decide +kernel
theorem dX9_readPlace_17 : decode cX9_readPlace 17 = .ok (.aload_n 0, 1) := by decide +kernel
theorem dX9_readPlace_18 : decode cX9_readPlace 18 = .ok (.getfield 41, 3) := by decide +kernel
theorem dX9_readPlace_21 : decode cX9_readPlace 21 = .ok (.iconst 3, 1) := by decide +kernel
theorem dX9_readPlace_22 : decode cX9_readPlace 22 = .ok (.iload_n 2, 1) := by decide +kernel
theorem dX9_readPlace_23 : decode cX9_readPlace 23 = .ok (.imul, 1) := by decide +kernel
theorem dX9_readPlace_24 : decode cX9_readPlace 24 = .ok (.iload_n 3, 1) := by decide +kernel
theorem dX9_readPlace_25 : decode cX9_readPlace 25 = .ok (.iadd, 1) := by decide +kernel
theorem dX9_readPlace_26 : decode cX9_readPlace 26 = .ok (.aload_n 0, 1) := by decide +kernel
theorem dX9_readPlace_27 : decode cX9_readPlace 27 = .ok (.iconst 0, 1) := by decide +kernel
theorem dX9_readPlace_28 : decode cX9_readPlace 28 = .ok (.bipush 9, 2) := by decide +kernel
theorem dX9_readPlace_30 : decode cX9_readPlace 30 = .ok (.invokevirtual 180, 3) := by decide +kernel
theorem dX9_readPlace_33 : decode cX9_readPlace 33 = .ok (.iastore, 1) := by decide +kernel
theorem dX9_readPlace_34 : decode cX9_readPlace 34 = .ok (.goto 34, 3) := by decide +kernel
theorem dX9_readPlace_37 : decode cX9_readPlace 37 = .ok (.aload_n 0, 1) := by decide +kernel
theorem dX9_readPlace_38 : decode cX9_readPlace 38 = .ok (.getfield 29, 3) := by decide +kernel
theorem dX9_readPlace_41 : decode cX9_readPlace 41 = .ok (.bipush 36, 2) := by decide +kernel
theorem dX9_readPlace_43 : decode cX9_readPlace 43 = .ok (.iconst 3, 1) := by decide +kernel
theorem dX9_readPlace_44 : decode cX9_readPlace 44 = .ok (.iload_n 2, 1) := by decide +kernel
theorem dX9_readPlace_45 : decode cX9_readPlace 45 = .ok (.imul, 1) := by decide +kernel
theorem dX9_readPlace_46 : decode cX9_readPlace 46 = .ok (.iadd, 1) := by decide +kernel
theorem dX9_readPlace_47 : decode cX9_readPlace 47 = .ok (.iload_n 3, 1) := by decide +kernel
theorem dX9_readPlace_48 : decode cX9_readPlace 48 = .ok (.iadd, 1) := by decide +kernel
theorem dX9_readPlace_49 : decode cX9_readPlace 49 = .ok (.aload_n 0, 1) := by decide +kernel
theorem dX9_readPlace_50 : decode cX9_readPlace 50 = .ok (.iconst 0, 1) := by decide +kernel
theorem dX9_readPlace_51 : decode cX9_readPlace 51 = .ok (.bipush 99, 2) := by decide +kernel
theorem dX9_readPlace_53 : decode cX9_readPlace 53 = .ok (.invokevirtual 180, 3) := by decide +kernel
theorem dX9_readPlace_56 : decode cX9_readPlace 56 = .ok (.iastore, 1) := by decide +kernel
theorem dX9_readPlace_57 : decode cX9_readPlace 57 = .ok (.aload_n 0, 1) := by decide +kernel
theorem dX9_readPlace_58 : decode cX9_readPlace 58 = .ok (.getfield 44, 3) := by decide +kernel
theorem dX9_readPlace_61 : decode cX9_readPlace 61 = .ok (.iconst 3, 1) := by decide +kernel
theorem dX9_readPlace_62 : decode cX9_readPlace 62 = .ok (.iload_n 2, 1) := by decide +kernel
theorem dX9_readPlace_63 : decode cX9_readPlace 63 = .ok (.imul, 1) := by decide +kernel
theorem dX9_readPlace_64 : decode cX9_readPlace 64 = .ok (.iload_n 3, 1) := by decide +kernel
theorem dX9_readPlace_65 : decode cX9_readPlace 65 = .ok (.iadd, 1) := by decide +kernel
theorem dX9_readPlace_66 : decode cX9_readPlace 66 = .ok (.iconst 1, 1) := by decide +kernel
theorem dX9_readPlace_67 : decode cX9_readPlace 67 = .ok (.bastore, 1) := by decide +kernel
theorem dX9_readPlace_68 : decode cX9_readPlace 68 = .ok (.return_, 1) := by decide +kernel
theorem dX9_readOther_0 : decode cX9_readOther 0 = .ok (.iload_n 1, 1) := by decide +kernel
theorem dX9_readOther_1 : decode cX9_readOther 1 = .ok (.bipush 6, 2) := by decide +kernel
theorem dX9_readOther_3 : decode cX9_readOther 3 = .ok (.if_icmp .ne 50, 3) := by decide +kernel
theorem dX9_readOther_6 : decode cX9_readOther 6 = .ok (.aload_n 0, 1) := by decide +kernel
theorem dX9_readOther_7 : decode cX9_readOther 7 = .ok (.iconst 1, 1) := by decide +kernel
theorem dX9_readOther_8 : decode cX9_readOther 8 = .ok (.bipush 60, 2) := by decide +kernel
theorem dX9_readOther_10 : decode cX9_readOther 10 = .ok (.invokevirtual 167, 3) := by decide +kernel
theorem dX9_readOther_13 : decode cX9_readOther 13 = .ok (.istore_n 2, 1) := by decide +kernel
theorem dX9_readOther_14 : decode cX9_readOther 14 = .ok (.aload_n 0, 1) := by decide +kernel
theorem dX9_readOther_15 : decode cX9_readOther 15 = .ok (.aload_n 0, 1) := by decide +kernel
theorem dX9_readOther_16 : decode cX9_readOther 16 = .ok (.getfield 29, 3) := by decide +kernel
theorem dX9_readOther_19 : decode cX9_readOther 19 = .ok (.bipush 99, 2) := by decide +kernel
theorem dX9_readOther_21 : decode cX9_readOther 21 = .ok (.iload_n 2, 1) := by decide +kernel
theorem dX9_readOther_22 : decode cX9_readOther 22 = .ok (.iadd, 1) := by decide +kernel
theorem dX9_readOther_23 : decode cX9_readOther 23 = .ok (.iaload, 1) := by decide +kernel
theorem dX9_readOther_24 : decode cX9_readOther 24 = .ok (.ifCond .ne 7, 3) := by decide +kernel
theorem dX9_readOther_27 : decode cX9_readOther 27 = .ok (.iconst 1, 1) := by decide +kernel
theorem dX9_readOther_28 : decode cX9_readOther 28 = .ok (.goto 4, 3) := by decide +kernel
theorem dX9_readOther_31 : decode cX9_readOther 31 = .ok (.iconst 0, 1) := by decide +kernel
theorem dX9_readOther_32 : decode cX9_readOther 32 = .ok (.iconst 4, 1) := by decide +kernel
theorem dX9_readOther_33 : decode cX9_readOther 33 = .ok (.invokevirtual 163, 3) := by decide +kernel
theorem dX9_readOther_36 : decode cX9_readOther 36 = .ok (.aload_n 0, 1) := by decide +kernel
theorem dX9_readOther_37 : decode cX9_readOther 37 = .ok (.getfield 29, 3) := by decide +kernel
theorem dX9_readOther_40 : decode cX9_readOther 40 = .ok (.bipush 99, 2) := by decide +kernel
theorem dX9_readOther_42 : decode cX9_readOther 42 = .ok (.iload_n 2, 1) := by decide +kernel
theorem dX9_readOther_43 : decode cX9_readOther 43 = .ok (.iadd, 1) := by decide +kernel
theorem dX9_readOther_44 : decode cX9_readOther 44 = .ok (.iconst 1, 1) := by decide +kernel
theorem dX9_readOther_45 : decode cX9_readOther 45 = .ok (.iastore, 1) := by decide +kernel
theorem dX9_readOther_46 : decode cX9_readOther 46 = .ok (.aload_n 0, 1) := by decide +kernel
theorem dX9_readOther_47 : decode cX9_readOther 47 = .ok (.invokevirtual 171, 3) := by decide +kernel
theorem dX9_readOther_50 : decode cX9_readOther 50 = .ok (.goto 90, 3) := by decide +kernel
theorem dX9_readOther_53 : decode cX9_readOther 53 = .ok (.iload_n 1, 1) := by decide +kernel
theorem dX9_readOther_54 : decode cX9_readOther 54 = .ok (.bipush 8, 2) := by decide +kernel
theorem dX9_readOther_56 : decode cX9_readOther 56 = .ok (.if_icmp .ne 68, 3) := by decide +kernel
theorem dX9_readOther_59 : decode cX9_readOther 59 = .ok (.aload_n 0, 1) := by decide +kernel
theorem dX9_readOther_60 : decode cX9_readOther 60 = .ok (.iconst 1, 1) := by decide +kernel
theorem dX9_readOther_61 : decode cX9_readOther 61 = .ok (.bipush 7, 2) := by decide +kernel
theorem dX9_readOther_63 : decode cX9_readOther 63 = .ok (.invokevirtual 167, 3) := by decide +kernel
theorem dX9_readOther_66 : decode cX9_readOther 66 = .ok (.istore_n 2, 1) := by decide +kernel
theorem dX9_readOther_67 : decode cX9_readOther 67 = .ok (.aload_n 0, 1) := by decide +kernel
theorem dX9_readOther_68 : decode cX9_readOther 68 = .ok (.aload_n 0, 1) := by decide +kernel
theorem dX9_readOther_69 : decode cX9_readOther 69 = .ok (.getfield 103, 3) := by decide +kernel
theorem dX9_readOther_72 : decode cX9_readOther 72 = .ok (.iload_n 2, 1) := by decide +kernel
theorem dX9_readOther_73 : decode cX9_readOther 73 = .ok (.ishr, 1) := by decide +kernel
theorem dX9_readOther_74 : decode cX9_readOther 74 = .ok (.iconst 1, 1) := by decide +kernel
theorem dX9_readOther_75 : decode cX9_readOther 75 = .ok (.iand, 1) := by decide +kernel
theorem dX9_readOther_76 : decode cX9_readOther 76 = .ok (.ifCond .ne 7, 3) := by decide +kernel
theorem dX9_readOther_79 : decode cX9_readOther 79 = .ok (.iconst 1, 1) := by decide +kernel
theorem dX9_readOther_80 : decode cX9_readOther 80 = .ok (.goto 4, 3) := by decide +kernel
theorem dX9_readOther_83 : decode cX9_readOther 83 = .ok (.iconst 0, 1) := by decide +kernel
theorem dX9_readOther_84 : decode cX9_readOther 84 = .ok (.iconst 4, 1) := by decide +kernel
theorem dX9_readOther_85 : decode cX9_readOther 85 = .ok (.invokevirtual 163, 3) := by decide +kernel
theorem dX9_readOther_88 : decode cX9_readOther 88 = .ok (.aload_n 0, 1) := by decide +kernel
theorem dX9_readOther_89 : decode cX9_readOther 89 = .ok (.dup, 1) := by decide +kernel
theorem dX9_readOther_90 : decode cX9_readOther 90 = .ok (.getfield 103, 3) := by decide +kernel
theorem dX9_readOther_93 : decode cX9_readOther 93 = .ok (.iconst 1, 1) := by decide +kernel
theorem dX9_readOther_94 : decode cX9_readOther 94 = .ok (.iload_n 2, 1) := by decide +kernel
theorem dX9_readOther_95 : decode cX9_readOther 95 = .ok (.ishl, 1) := by decide +kernel
theorem dX9_readOther_96 : decode cX9_readOther 96 = .ok (.ior, 1) := by decide +kernel
theorem dX9_readOther_97 : decode cX9_readOther 97 = .ok (.putfield 103, 3) := by decide +kernel
theorem dX9_readOther_100 : decode cX9_readOther 100 = .ok (.aload_n 0, 1) := by decide +kernel
theorem dX9_readOther_101 : decode cX9_readOther 101 = .ok (.invokevirtual 171, 3) := by decide +kernel
theorem dX9_readOther_104 : decode cX9_readOther 104 = .ok (.aload_n 0, 1) := by decide +kernel
theorem dX9_readOther_105 : decode cX9_readOther 105 = .ok (.getfield 29, 3) := by decide +kernel
theorem dX9_readOther_108 : decode cX9_readOther 108 = .ok (.sipush 160, 3) := by decide +kernel
theorem dX9_readOther_111 : decode cX9_readOther 111 = .ok (.iload_n 2, 1) := by decide +kernel
theorem dX9_readOther_112 : decode cX9_readOther 112 = .ok (.iadd, 1) := by decide +kernel
theorem dX9_readOther_113 : decode cX9_readOther 113 = .ok (.aload_n 0, 1) := by decide +kernel
theorem dX9_readOther_114 : decode cX9_readOther 114 = .ok (.iconst 0, 1) := by decide +kernel
theorem dX9_readOther_115 : decode cX9_readOther 115 = .ok (.bipush 60, 2) := by decide +kernel
theorem dX9_readOther_117 : decode cX9_readOther 117 = .ok (.invokevirtual 180, 3) := by decide +kernel
theorem dX9_readOther_120 : decode cX9_readOther 120 = .ok (.iastore, 1) := by decide +kernel
theorem dX9_readOther_121 : decode cX9_readOther 121 = .ok (.goto 19, 3) := by decide +kernel
theorem dX9_readOther_124 : decode cX9_readOther 124 = .ok (.aload_n 0, 1) := by decide +kernel
theorem dX9_readOther_125 : decode cX9_readOther 125 = .ok (.iconst 1, 1) := by decide +kernel
theorem dX9_readOther_126 : decode cX9_readOther 126 = .ok (.putfield 99, 3) := by decide +kernel
theorem dX9_readOther_129 : decode cX9_readOther 129 = .ok (.aload_n 0, 1) := by decide +kernel
theorem dX9_readOther_130 : decode cX9_readOther 130 = .ok (.aload_n 0, 1) := by decide +kernel
theorem dX9_readOther_131 : decode cX9_readOther 131 = .ok (.iconst 2, 1) := by decide +kernel
theorem dX9_readOther_132 : decode cX9_readOther 132 = .ok (.bipush 20, 2) := by decide +kernel
theorem dX9_readOther_134 : decode cX9_readOther 134 = .ok (.invokevirtual 180, 3) := by decide +kernel
theorem dX9_readOther_137 : decode cX9_readOther 137 = .ok (.putfield 95, 3) := by decide +kernel
theorem dX9_readOther_140 : decode cX9_readOther 140 = .ok (.return_, 1) := by decide +kernel
theorem dX9_readLineOf_0 : decode cX9_readLineOf 0 = .ok (.iload_n 1, 1) := by decide +kernel
theorem dX9_readLineOf_1 : decode cX9_readLineOf 1 = .ok (.tableswitch 187 1 7 #[43, 81, 126, 172, 172, 187, 180], 43) := by decide +kernel
theorem dX9_readLineOf_44 : decode cX9_readLineOf 44 = .ok (.aload_n 0, 1) := by decide +kernel
theorem dX9_readLineOf_45 : decode cX9_readLineOf 45 = .ok (.invokevirtual 174, 3) := by decide +kernel
theorem dX9_readLineOf_48 : decode cX9_readLineOf 48 = .ok (.istore_n 2, 1) := by decide +kernel
theorem dX9_readLineOf_49 : decode cX9_readLineOf 49 = .ok (.aload_n 0, 1) := by decide +kernel
theorem dX9_readLineOf_50 : decode cX9_readLineOf 50 = .ok (.aload_n 0, 1) := by decide +kernel
theorem dX9_readLineOf_51 : decode cX9_readLineOf 51 = .ok (.getfield 32, 3) := by decide +kernel
theorem dX9_readLineOf_54 : decode cX9_readLineOf 54 = .ok (.iload_n 2, 1) := by decide +kernel
theorem dX9_readLineOf_55 : decode cX9_readLineOf 55 = .ok (.baload, 1) := by decide +kernel
theorem dX9_readLineOf_56 : decode cX9_readLineOf 56 = .ok (.ifCond .ne 7, 3) := by decide +kernel
theorem dX9_readLineOf_59 : decode cX9_readLineOf 59 = .ok (.iconst 1, 1) := by decide +kernel
theorem dX9_readLineOf_60 : decode cX9_readLineOf 60 = .ok (.goto 4, 3) := by decide +kernel
theorem dX9_readLineOf_63 : decode cX9_readLineOf 63 = .ok (.iconst 0, 1) := by decide +kernel
theorem dX9_readLineOf_64 : decode cX9_readLineOf 64 = .ok (.iconst 4, 1) := by decide +kernel
theorem dX9_readLineOf_65 : decode cX9_readLineOf 65 = .ok (.invokevirtual 163, 3) := by decide +kernel
theorem dX9_readLineOf_68 : decode cX9_readLineOf 68 = .ok (.aload_n 0, 1) := by decide +kernel
theorem dX9_readLineOf_69 : decode cX9_readLineOf 69 = .ok (.getfield 32, 3) := by decide +kernel
theorem dX9_readLineOf_72 : decode cX9_readLineOf 72 = .ok (.iload_n 2, 1) := by decide +kernel
theorem dX9_readLineOf_73 : decode cX9_readLineOf 73 = .ok (.iconst 1, 1) := by decide +kernel
theorem dX9_readLineOf_74 : decode cX9_readLineOf 74 = .ok (.bastore, 1) := by decide +kernel
theorem dX9_readLineOf_75 : decode cX9_readLineOf 75 = .ok (.aload_n 0, 1) := by decide +kernel
theorem dX9_readLineOf_76 : decode cX9_readLineOf 76 = .ok (.invokevirtual 171, 3) := by decide +kernel
theorem dX9_readLineOf_79 : decode cX9_readLineOf 79 = .ok (.goto 114, 3) := by decide +kernel
theorem dX9_readLineOf_82 : decode cX9_readLineOf 82 = .ok (.aload_n 0, 1) := by decide +kernel
theorem dX9_readLineOf_83 : decode cX9_readLineOf 83 = .ok (.invokevirtual 174, 3) := by decide +kernel
theorem dX9_readLineOf_86 : decode cX9_readLineOf 86 = .ok (.istore_n 2, 1) := by decide +kernel
theorem dX9_readLineOf_87 : decode cX9_readLineOf 87 = .ok (.aload_n 0, 1) := by decide +kernel
theorem dX9_readLineOf_88 : decode cX9_readLineOf 88 = .ok (.aload_n 0, 1) := by decide +kernel
theorem dX9_readLineOf_89 : decode cX9_readLineOf 89 = .ok (.getfield 35, 3) := by decide +kernel
theorem dX9_readLineOf_92 : decode cX9_readLineOf 92 = .ok (.iload_n 2, 1) := by decide +kernel
theorem dX9_readLineOf_93 : decode cX9_readLineOf 93 = .ok (.iaload, 1) := by decide +kernel
theorem dX9_readLineOf_94 : decode cX9_readLineOf 94 = .ok (.bipush (-4), 2) := by decide +kernel
theorem dX9_readLineOf_96 : decode cX9_readLineOf 96 = .ok (.if_icmp .ne 7, 3) := by decide +kernel
theorem dX9_readLineOf_99 : decode cX9_readLineOf 99 = .ok (.iconst 1, 1) := by decide +kernel
theorem dX9_readLineOf_100 : decode cX9_readLineOf 100 = .ok (.goto 4, 3) := by decide +kernel
theorem dX9_readLineOf_103 : decode cX9_readLineOf 103 = .ok (.iconst 0, 1) := by decide +kernel
theorem dX9_readLineOf_104 : decode cX9_readLineOf 104 = .ok (.iconst 4, 1) := by decide +kernel
theorem dX9_readLineOf_105 : decode cX9_readLineOf 105 = .ok (.invokevirtual 163, 3) := by decide +kernel
theorem dX9_readLineOf_108 : decode cX9_readLineOf 108 = .ok (.aload_n 0, 1) := by decide +kernel
theorem dX9_readLineOf_109 : decode cX9_readLineOf 109 = .ok (.invokevirtual 171, 3) := by decide +kernel
theorem dX9_readLineOf_112 : decode cX9_readLineOf 112 = .ok (.aload_n 0, 1) := by decide +kernel
theorem dX9_readLineOf_113 : decode cX9_readLineOf 113 = .ok (.getfield 35, 3) := by decide +kernel
theorem dX9_readLineOf_116 : decode cX9_readLineOf 116 = .ok (.iload_n 2, 1) := by decide +kernel
theorem dX9_readLineOf_117 : decode cX9_readLineOf 117 = .ok (.aload_n 0, 1) := by decide +kernel
theorem dX9_readLineOf_118 : decode cX9_readLineOf 118 = .ok (.iconst 0, 1) := by decide +kernel
theorem dX9_readLineOf_119 : decode cX9_readLineOf 119 = .ok (.iconst 2, 1) := by decide +kernel
theorem dX9_readLineOf_120 : decode cX9_readLineOf 120 = .ok (.invokevirtual 180, 3) := by decide +kernel
theorem dX9_readLineOf_123 : decode cX9_readLineOf 123 = .ok (.iastore, 1) := by decide +kernel
theorem dX9_readLineOf_124 : decode cX9_readLineOf 124 = .ok (.goto 69, 3) := by decide +kernel
theorem dX9_readLineOf_127 : decode cX9_readLineOf 127 = .ok (.aload_n 0, 1) := by decide +kernel
theorem dX9_readLineOf_128 : decode cX9_readLineOf 128 = .ok (.invokevirtual 174, 3) := by decide +kernel
theorem dX9_readLineOf_131 : decode cX9_readLineOf 131 = .ok (.istore_n 2, 1) := by decide +kernel
theorem dX9_readLineOf_132 : decode cX9_readLineOf 132 = .ok (.aload_n 0, 1) := by decide +kernel
theorem dX9_readLineOf_133 : decode cX9_readLineOf 133 = .ok (.aload_n 0, 1) := by decide +kernel
theorem dX9_readLineOf_134 : decode cX9_readLineOf 134 = .ok (.getfield 38, 3) := by decide +kernel
theorem dX9_readLineOf_137 : decode cX9_readLineOf 137 = .ok (.iload_n 2, 1) := by decide +kernel
theorem dX9_readLineOf_138 : decode cX9_readLineOf 138 = .ok (.iaload, 1) := by decide +kernel
theorem dX9_readLineOf_139 : decode cX9_readLineOf 139 = .ok (.bipush (-4), 2) := by decide +kernel
theorem dX9_readLineOf_141 : decode cX9_readLineOf 141 = .ok (.if_icmp .ne 7, 3) := by decide +kernel
theorem dX9_readLineOf_144 : decode cX9_readLineOf 144 = .ok (.iconst 1, 1) := by decide +kernel
theorem dX9_readLineOf_145 : decode cX9_readLineOf 145 = .ok (.goto 4, 3) := by decide +kernel
theorem dX9_readLineOf_148 : decode cX9_readLineOf 148 = .ok (.iconst 0, 1) := by decide +kernel
theorem dX9_readLineOf_149 : decode cX9_readLineOf 149 = .ok (.iconst 4, 1) := by decide +kernel
theorem dX9_readLineOf_150 : decode cX9_readLineOf 150 = .ok (.invokevirtual 163, 3) := by decide +kernel
theorem dX9_readLineOf_153 : decode cX9_readLineOf 153 = .ok (.aload_n 0, 1) := by decide +kernel
theorem dX9_readLineOf_154 : decode cX9_readLineOf 154 = .ok (.invokevirtual 171, 3) := by decide +kernel
theorem dX9_readLineOf_157 : decode cX9_readLineOf 157 = .ok (.aload_n 0, 1) := by decide +kernel
theorem dX9_readLineOf_158 : decode cX9_readLineOf 158 = .ok (.getfield 38, 3) := by decide +kernel
theorem dX9_readLineOf_161 : decode cX9_readLineOf 161 = .ok (.iload_n 2, 1) := by decide +kernel
theorem dX9_readLineOf_162 : decode cX9_readLineOf 162 = .ok (.aload_n 0, 1) := by decide +kernel
theorem dX9_readLineOf_163 : decode cX9_readLineOf 163 = .ok (.iconst 0, 1) := by decide +kernel
theorem dX9_readLineOf_164 : decode cX9_readLineOf 164 = .ok (.bipush 9, 2) := by decide +kernel
theorem dX9_readLineOf_166 : decode cX9_readLineOf 166 = .ok (.invokevirtual 180, 3) := by decide +kernel
theorem dX9_readLineOf_169 : decode cX9_readLineOf 169 = .ok (.iastore, 1) := by decide +kernel
theorem dX9_readLineOf_170 : decode cX9_readLineOf 170 = .ok (.goto 23, 3) := by decide +kernel
theorem dX9_readLineOf_173 : decode cX9_readLineOf 173 = .ok (.aload_n 0, 1) := by decide +kernel
theorem dX9_readLineOf_174 : decode cX9_readLineOf 174 = .ok (.iload_n 1, 1) := by decide +kernel
theorem dX9_readLineOf_175 : decode cX9_readLineOf 175 = .ok (.invokevirtual 186, 3) := by decide +kernel
theorem dX9_readLineOf_178 : decode cX9_readLineOf 178 = .ok (.goto 15, 3) := by decide +kernel
theorem dX9_readLineOf_181 : decode cX9_readLineOf 181 = .ok (.aload_n 0, 1) := by decide +kernel
theorem dX9_readLineOf_182 : decode cX9_readLineOf 182 = .ok (.invokevirtual 190, 3) := by decide +kernel
theorem dX9_readLineOf_185 : decode cX9_readLineOf 185 = .ok (.goto 8, 3) := by decide +kernel
theorem dX9_readLineOf_188 : decode cX9_readLineOf 188 = .ok (.aload_n 0, 1) := by decide +kernel
theorem dX9_readLineOf_189 : decode cX9_readLineOf 189 = .ok (.iload_n 1, 1) := by decide +kernel
theorem dX9_readLineOf_190 : decode cX9_readLineOf 190 = .ok (.invokevirtual 193, 3) := by decide +kernel
theorem dX9_readLineOf_193 : decode cX9_readLineOf 193 = .ok (.return_, 1) := by decide +kernel
theorem dX9_readLine_0 : decode cX9_readLine 0 = .ok (.aload_n 0, 1) := by decide +kernel
theorem dX9_readLine_1 : decode cX9_readLine 1 = .ok (.getfield 149, 3) := by decide +kernel
theorem dX9_readLine_4 : decode cX9_readLine 4 = .ok (.iconst 1, 1) := by decide +kernel
theorem dX9_readLine_5 : decode cX9_readLine 5 = .ok (.if_icmp .ne 10, 3) := by decide +kernel
theorem dX9_readLine_8 : decode cX9_readLine 8 = .ok (.aload_n 0, 1) := by decide +kernel
theorem dX9_readLine_9 : decode cX9_readLine 9 = .ok (.invokevirtual 196, 3) := by decide +kernel
theorem dX9_readLine_12 : decode cX9_readLine 12 = .ok (.goto 5, 3) := by decide +kernel
theorem dX9_readLine_15 : decode cX9_readLine 15 = .ok (.bipush (-4), 2) := by decide +kernel
theorem dX9_readLine_17 : decode cX9_readLine 17 = .ok (.istore_n 1, 1) := by decide +kernel
theorem dX9_readLine_18 : decode cX9_readLine 18 = .ok (.aload_n 0, 1) := by decide +kernel
theorem dX9_readLine_19 : decode cX9_readLine 19 = .ok (.iload_n 1, 1) := by decide +kernel
theorem dX9_readLine_20 : decode cX9_readLine 20 = .ok (.bipush (-4), 2) := by decide +kernel
theorem dX9_readLine_22 : decode cX9_readLine 22 = .ok (.if_icmp .eq 7, 3) := by decide +kernel
theorem dX9_readLine_25 : decode cX9_readLine 25 = .ok (.iconst 1, 1) := by decide +kernel
theorem dX9_readLine_26 : decode cX9_readLine 26 = .ok (.goto 4, 3) := by decide +kernel
theorem dX9_readLine_29 : decode cX9_readLine 29 = .ok (.iconst 0, 1) := by decide +kernel
theorem dX9_readLine_30 : decode cX9_readLine 30 = .ok (.iconst 2, 1) := by decide +kernel
theorem dX9_readLine_31 : decode cX9_readLine 31 = .ok (.invokevirtual 163, 3) := by decide +kernel
theorem dX9_readLine_34 : decode cX9_readLine 34 = .ok (.aload_n 0, 1) := by decide +kernel
theorem dX9_readLine_35 : decode cX9_readLine 35 = .ok (.iload_n 1, 1) := by decide +kernel
theorem dX9_readLine_36 : decode cX9_readLine 36 = .ok (.bipush 7, 2) := by decide +kernel
theorem dX9_readLine_38 : decode cX9_readLine 38 = .ok (.if_icmp .ne 13, 3) := by decide +kernel
theorem dX9_readLine_41 : decode cX9_readLine 41 = .ok (.aload_n 0, 1) := by decide +kernel
theorem dX9_readLine_42 : decode cX9_readLine 42 = .ok (.getfield 29, 3) := by decide +kernel
theorem dX9_readLine_45 : decode cX9_readLine 45 = .ok (.iconst 0, 1) := by decide +kernel
theorem dX9_readLine_46 : decode cX9_readLine 46 = .ok (.iaload, 1) := by decide +kernel
theorem dX9_readLine_47 : decode cX9_readLine 47 = .ok (.iconst 5, 1) := by decide +kernel
theorem dX9_readLine_48 : decode cX9_readLine 48 = .ok (.if_icmp .ge 7, 3) := by decide +kernel
theorem dX9_readLine_51 : decode cX9_readLine 51 = .ok (.iconst 1, 1) := by decide +kernel
theorem dX9_readLine_52 : decode cX9_readLine 52 = .ok (.goto 4, 3) := by decide +kernel
theorem dX9_readLine_55 : decode cX9_readLine 55 = .ok (.iconst 0, 1) := by decide +kernel
theorem dX9_readLine_56 : decode cX9_readLine 56 = .ok (.iconst 5, 1) := by decide +kernel
theorem dX9_readLine_57 : decode cX9_readLine 57 = .ok (.invokevirtual 163, 3) := by decide +kernel
theorem dX9_readLine_60 : decode cX9_readLine 60 = .ok (.aload_n 0, 1) := by decide +kernel
theorem dX9_readLine_61 : decode cX9_readLine 61 = .ok (.iload_n 1, 1) := by decide +kernel
theorem dX9_readLine_62 : decode cX9_readLine 62 = .ok (.ifCond .ne 10, 3) := by decide +kernel
theorem dX9_readLine_65 : decode cX9_readLine 65 = .ok (.aload_n 0, 1) := by decide +kernel
theorem dX9_readLine_66 : decode cX9_readLine 66 = .ok (.getfield 99, 3) := by decide +kernel
theorem dX9_readLine_69 : decode cX9_readLine 69 = .ok (.ifCond .ne 7, 3) := by decide +kernel
theorem dX9_readLine_72 : decode cX9_readLine 72 = .ok (.iconst 1, 1) := by decide +kernel
theorem dX9_readLine_73 : decode cX9_readLine 73 = .ok (.goto 4, 3) := by decide +kernel
theorem dX9_readLine_76 : decode cX9_readLine 76 = .ok (.iconst 0, 1) := by decide +kernel
theorem dX9_readLine_77 : decode cX9_readLine 77 = .ok (.iconst 4, 1) := by decide +kernel
theorem dX9_readLine_78 : decode cX9_readLine 78 = .ok (.invokevirtual 163, 3) := by decide +kernel
theorem dX9_readLine_81 : decode cX9_readLine 81 = .ok (.aload_n 0, 1) := by decide +kernel
theorem dX9_readLine_82 : decode cX9_readLine 82 = .ok (.invokevirtual 171, 3) := by decide +kernel
theorem dX9_readLine_85 : decode cX9_readLine 85 = .ok (.aload_n 0, 1) := by decide +kernel
theorem dX9_readLine_86 : decode cX9_readLine 86 = .ok (.getfield 121, 3) := by decide +kernel
theorem dX9_readLine_89 : decode cX9_readLine 89 = .ok (.ifCond .le 4, 3) := by decide +kernel
theorem dX9_readLine_92 : decode cX9_readLine 92 = .ok (.return_, 1) := by decide +kernel
theorem dX9_readLine_93 : decode cX9_readLine 93 = .ok (.aload_n 0, 1) := by decide +kernel
theorem dX9_readLine_94 : decode cX9_readLine 94 = .ok (.iload_n 1, 1) := by decide +kernel
theorem dX9_readLine_95 : decode cX9_readLine 95 = .ok (.invokevirtual 199, 3) := by decide +kernel
theorem dX9_readLine_98 : decode cX9_readLine 98 = .ok (.aload_n 0, 1) := by decide +kernel
theorem dX9_readLine_99 : decode cX9_readLine 99 = .ok (.getfield 121, 3) := by decide +kernel
theorem dX9_readLine_102 : decode cX9_readLine 102 = .ok (.ifCond .ne 21, 3) := by decide +kernel
theorem dX9_readLine_105 : decode cX9_readLine 105 = .ok (.aload_n 0, 1) := by decide +kernel
theorem dX9_readLine_106 : decode cX9_readLine 106 = .ok (.aload_n 0, 1) := by decide +kernel
theorem dX9_readLine_107 : decode cX9_readLine 107 = .ok (.getfield 149, 3) := by decide +kernel
theorem dX9_readLine_110 : decode cX9_readLine 110 = .ok (.iconst 3, 1) := by decide +kernel
theorem dX9_readLine_111 : decode cX9_readLine 111 = .ok (.if_icmp .ne 7, 3) := by decide +kernel
theorem dX9_readLine_114 : decode cX9_readLine 114 = .ok (.iconst 1, 1) := by decide +kernel
theorem dX9_readLine_115 : decode cX9_readLine 115 = .ok (.goto 4, 3) := by decide +kernel
theorem dX9_readLine_118 : decode cX9_readLine 118 = .ok (.iconst 0, 1) := by decide +kernel
theorem dX9_readLine_119 : decode cX9_readLine 119 = .ok (.iconst 2, 1) := by decide +kernel
theorem dX9_readLine_120 : decode cX9_readLine 120 = .ok (.invokevirtual 163, 3) := by decide +kernel
theorem dX9_readLine_123 : decode cX9_readLine 123 = .ok (.aload_n 0, 1) := by decide +kernel
theorem dX9_readLine_124 : decode cX9_readLine 124 = .ok (.invokevirtual 171, 3) := by decide +kernel
theorem dX9_readLine_127 : decode cX9_readLine 127 = .ok (.return_, 1) := by decide +kernel
theorem dX9_areRuts_0 : decode cX9_areRuts 0 = .ok (.iconst 1, 1) := by decide +kernel
theorem dX9_areRuts_1 : decode cX9_areRuts 1 = .ok (.istore_n 1, 1) := by decide +kernel
theorem dX9_areRuts_2 : decode cX9_areRuts 2 = .ok (.iconst 0, 1) := by decide +kernel
theorem dX9_areRuts_3 : decode cX9_areRuts 3 = .ok (.istore_n 2, 1) := by decide +kernel
theorem dX9_areRuts_4 : decode cX9_areRuts 4 = .ok (.iload_n 2, 1) := by decide +kernel
theorem dX9_areRuts_5 : decode cX9_areRuts 5 = .ok (.bipush 21, 2) := by decide +kernel
theorem dX9_areRuts_7 : decode cX9_areRuts 7 = .ok (.if_icmp .ge 66, 3) := by decide +kernel
theorem dX9_areRuts_10 : decode cX9_areRuts 10 = .ok (.iconst 0, 1) := by decide +kernel
theorem dX9_areRuts_11 : decode cX9_areRuts 11 = .ok (.istore_n 3, 1) := by decide +kernel
theorem dX9_areRuts_12 : decode cX9_areRuts 12 = .ok (.iload_n 3, 1) := by decide +kernel
theorem dX9_areRuts_13 : decode cX9_areRuts 13 = .ok (.iconst 3, 1) := by decide +kernel
theorem dX9_areRuts_14 : decode cX9_areRuts 14 = .ok (.if_icmp .ge 53, 3) := by decide +kernel
theorem dX9_areRuts_17 : decode cX9_areRuts 17 = .ok (.iload_n 1, 1) := by decide +kernel
theorem dX9_areRuts_18 : decode cX9_areRuts 18 = .ok (.ifCond .eq 41, 3) := by decide +kernel
theorem dX9_areRuts_21 : decode cX9_areRuts 21 = .ok (.aload_n 0, 1) := by decide +kernel
theorem dX9_areRuts_22 : decode cX9_areRuts 22 = .ok (.getfield 44, 3) := by decide +kernel
theorem dX9_areRuts_25 : decode cX9_areRuts 25 = .ok (.iconst 3, 1) := by decide +kernel
theorem dX9_areRuts_26 : decode cX9_areRuts 26 = .ok (.iload_n 2, 1) := by decide +kernel
theorem dX9_areRuts_27 : decode cX9_areRuts 27 = .ok (.imul, 1) := by decide +kernel
theorem dX9_areRuts_28 : decode cX9_areRuts 28 = .ok (.iload_n 3, 1) := by decide +kernel
theorem dX9_areRuts_29 : decode cX9_areRuts 29 = .ok (.iadd, 1) := by decide +kernel
theorem dX9_areRuts_30 : decode cX9_areRuts 30 = .ok (.baload, 1) := by decide +kernel
theorem dX9_areRuts_31 : decode cX9_areRuts 31 = .ok (.ifCond .eq 24, 3) := by decide +kernel
theorem dX9_areRuts_34 : decode cX9_areRuts 34 = .ok (.aload_n 0, 1) := by decide +kernel
theorem dX9_areRuts_35 : decode cX9_areRuts 35 = .ok (.getfield 35, 3) := by decide +kernel
theorem dX9_areRuts_38 : decode cX9_areRuts 38 = .ok (.iload_n 2, 1) := by decide +kernel
theorem dX9_areRuts_39 : decode cX9_areRuts 39 = .ok (.iaload, 1) := by decide +kernel
theorem dX9_areRuts_40 : decode cX9_areRuts 40 = .ok (.bipush (-4), 2) := by decide +kernel
theorem dX9_areRuts_42 : decode cX9_areRuts 42 = .ok (.if_icmp .eq 13, 3) := by decide +kernel
theorem dX9_areRuts_45 : decode cX9_areRuts 45 = .ok (.aload_n 0, 1) := by decide +kernel
theorem dX9_areRuts_46 : decode cX9_areRuts 46 = .ok (.getfield 35, 3) := by decide +kernel
theorem dX9_areRuts_49 : decode cX9_areRuts 49 = .ok (.iload_n 2, 1) := by decide +kernel
theorem dX9_areRuts_50 : decode cX9_areRuts 50 = .ok (.iaload, 1) := by decide +kernel
theorem dX9_areRuts_51 : decode cX9_areRuts 51 = .ok (.iload_n 3, 1) := by decide +kernel
theorem dX9_areRuts_52 : decode cX9_areRuts 52 = .ok (.if_icmp .ne 7, 3) := by decide +kernel
theorem dX9_areRuts_55 : decode cX9_areRuts 55 = .ok (.iconst 1, 1) := by decide +kernel
theorem dX9_areRuts_56 : decode cX9_areRuts 56 = .ok (.goto 4, 3) := by decide +kernel
theorem dX9_areRuts_59 : decode cX9_areRuts 59 = .ok (.iconst 0, 1) := by decide +kernel
theorem dX9_areRuts_60 : decode cX9_areRuts 60 = .ok (.istore_n 1, 1) := by decide +kernel
theorem dX9_areRuts_61 : decode cX9_areRuts 61 = .ok (.iinc 3 1, 3) := by decide +kernel
theorem dX9_areRuts_64 : decode cX9_areRuts 64 = .ok (.goto (-52), 3) := by decide +kernel
theorem dX9_areRuts_67 : decode cX9_areRuts 67 = .ok (.iinc 2 1, 3) := by decide +kernel
theorem dX9_areRuts_70 : decode cX9_areRuts 70 = .ok (.goto (-66), 3) := by decide +kernel
theorem dX9_areRuts_73 : decode cX9_areRuts 73 = .ok (.iload_n 1, 1) := by decide +kernel
theorem dX9_areRuts_74 : decode cX9_areRuts 74 = .ok (.ireturn, 1) := by decide +kernel
theorem dX9_text_0 : decode cX9_text 0 = .ok (.iconst 0, 1) := by decide +kernel
theorem dX9_text_1 : decode cX9_text 1 = .ok (.istore_n 1, 1) := by decide +kernel
theorem dX9_text_2 : decode cX9_text 2 = .ok (.aload_n 0, 1) := by decide +kernel
theorem dX9_text_3 : decode cX9_text 3 = .ok (.iconst 0, 1) := by decide +kernel
theorem dX9_text_4 : decode cX9_text 4 = .ok (.putfield 121, 3) := by decide +kernel
theorem dX9_text_7 : decode cX9_text 7 = .ok (.aload_n 0, 1) := by decide +kernel
theorem dX9_text_8 : decode cX9_text 8 = .ok (.iconst 0, 1) := by decide +kernel
theorem dX9_text_9 : decode cX9_text 9 = .ok (.putfield 130, 3) := by decide +kernel
theorem dX9_text_12 : decode cX9_text 12 = .ok (.aload_n 0, 1) := by decide +kernel
theorem dX9_text_13 : decode cX9_text 13 = .ok (.invokevirtual 89, 3) := by decide +kernel
theorem dX9_text_16 : decode cX9_text 16 = .ok (.aload_n 0, 1) := by decide +kernel
theorem dX9_text_17 : decode cX9_text 17 = .ok (.invokevirtual 171, 3) := by decide +kernel
theorem dX9_text_20 : decode cX9_text 20 = .ok (.aload_n 0, 1) := by decide +kernel
theorem dX9_text_21 : decode cX9_text 21 = .ok (.getfield 121, 3) := by decide +kernel
theorem dX9_text_24 : decode cX9_text 24 = .ok (.ifCond .ne 20, 3) := by decide +kernel
theorem dX9_text_27 : decode cX9_text 27 = .ok (.aload_n 0, 1) := by decide +kernel
theorem dX9_text_28 : decode cX9_text 28 = .ok (.getfield 149, 3) := by decide +kernel
theorem dX9_text_31 : decode cX9_text 31 = .ok (.ifCond .eq 13, 3) := by decide +kernel
theorem dX9_text_34 : decode cX9_text 34 = .ok (.aload_n 0, 1) := by decide +kernel
theorem dX9_text_35 : decode cX9_text 35 = .ok (.invokevirtual 202, 3) := by decide +kernel
theorem dX9_text_38 : decode cX9_text 38 = .ok (.iinc 1 1, 3) := by decide +kernel
theorem dX9_text_41 : decode cX9_text 41 = .ok (.goto (-21), 3) := by decide +kernel
theorem dX9_text_44 : decode cX9_text 44 = .ok (.aload_n 0, 1) := by decide +kernel
theorem dX9_text_45 : decode cX9_text 45 = .ok (.getfield 121, 3) := by decide +kernel
theorem dX9_text_48 : decode cX9_text 48 = .ok (.ifCond .ne 35, 3) := by decide +kernel
theorem dX9_text_51 : decode cX9_text 51 = .ok (.aload_n 0, 1) := by decide +kernel
theorem dX9_text_52 : decode cX9_text 52 = .ok (.aload_n 0, 1) := by decide +kernel
theorem dX9_text_53 : decode cX9_text 53 = .ok (.getfield 106, 3) := by decide +kernel
theorem dX9_text_56 : decode cX9_text 56 = .ok (.aload_n 0, 1) := by decide +kernel
theorem dX9_text_57 : decode cX9_text 57 = .ok (.getfield 95, 3) := by decide +kernel
theorem dX9_text_60 : decode cX9_text 60 = .ok (.if_icmp .gt 7, 3) := by decide +kernel
theorem dX9_text_63 : decode cX9_text 63 = .ok (.iconst 1, 1) := by decide +kernel
theorem dX9_text_64 : decode cX9_text 64 = .ok (.goto 4, 3) := by decide +kernel
theorem dX9_text_67 : decode cX9_text 67 = .ok (.iconst 0, 1) := by decide +kernel
theorem dX9_text_68 : decode cX9_text 68 = .ok (.bipush 6, 2) := by decide +kernel
theorem dX9_text_70 : decode cX9_text 70 = .ok (.invokevirtual 163, 3) := by decide +kernel
theorem dX9_text_73 : decode cX9_text 73 = .ok (.aload_n 0, 1) := by decide +kernel
theorem dX9_text_74 : decode cX9_text 74 = .ok (.aload_n 0, 1) := by decide +kernel
theorem dX9_text_75 : decode cX9_text 75 = .ok (.invokevirtual 205, 3) := by decide +kernel
theorem dX9_text_78 : decode cX9_text 78 = .ok (.bipush 7, 2) := by decide +kernel
theorem dX9_text_80 : decode cX9_text 80 = .ok (.invokevirtual 163, 3) := by decide +kernel
theorem dX9_text_83 : decode cX9_text 83 = .ok (.aload_n 0, 1) := by decide +kernel
theorem dX9_text_84 : decode cX9_text 84 = .ok (.iconst 0, 1) := by decide +kernel
theorem dX9_text_85 : decode cX9_text 85 = .ok (.putfield 112, 3) := by decide +kernel
theorem dX9_text_88 : decode cX9_text 88 = .ok (.aload_n 0, 1) := by decide +kernel
theorem dX9_text_89 : decode cX9_text 89 = .ok (.getfield 121, 3) := by decide +kernel
theorem dX9_text_92 : decode cX9_text 92 = .ok (.ifCond .le 11, 3) := by decide +kernel
theorem dX9_text_95 : decode cX9_text 95 = .ok (.bipush (-10), 2) := by decide +kernel
theorem dX9_text_97 : decode cX9_text 97 = .ok (.aload_n 0, 1) := by decide +kernel
theorem dX9_text_98 : decode cX9_text 98 = .ok (.getfield 127, 3) := by decide +kernel
theorem dX9_text_101 : decode cX9_text 101 = .ok (.isub, 1) := by decide +kernel
theorem dX9_text_102 : decode cX9_text 102 = .ok (.ireturn, 1) := by decide +kernel
theorem dX9_text_103 : decode cX9_text 103 = .ok (.aload_n 0, 1) := by decide +kernel
theorem dX9_text_104 : decode cX9_text 104 = .ok (.invokevirtual 92, 3) := by decide +kernel
theorem dX9_text_107 : decode cX9_text 107 = .ok (.iload_n 1, 1) := by decide +kernel
theorem dX9_text_108 : decode cX9_text 108 = .ok (.ireturn, 1) := by decide +kernel
theorem dX9_fault_0 : decode cX9_fault 0 = .ok (.aload_n 0, 1) := by decide +kernel
theorem dX9_fault_1 : decode cX9_fault 1 = .ok (.getfield 121, 3) := by decide +kernel
theorem dX9_fault_4 : decode cX9_fault 4 = .ok (.ireturn, 1) := by decide +kernel
theorem dX9_isYard_0 : decode cX9_isYard 0 = .ok (.iload_n 1, 1) := by decide +kernel
theorem dX9_isYard_1 : decode cX9_isYard 1 = .ok (.i2l, 1) := by decide +kernel
theorem dX9_isYard_2 : decode cX9_isYard 2 = .ok (.lconst 0, 1) := by decide +kernel
theorem dX9_isYard_3 : decode cX9_isYard 3 = .ok (.aload_n 0, 1) := by decide +kernel
theorem dX9_isYard_4 : decode cX9_isYard 4 = .ok (.getfield 109, 3) := by decide +kernel
theorem dX9_isYard_7 : decode cX9_isYard 7 = .ok (.i2l, 1) := by decide +kernel
theorem dX9_isYard_8 : decode cX9_isYard 8 = .ok (.invokestatic 117, 3) := by decide +kernel
theorem dX9_isYard_11 : decode cX9_isYard 11 = .ok (.ireturn, 1) := by decide +kernel
theorem dX9_isWidth_0 : decode cX9_isWidth 0 = .ok (.iload_n 0, 1) := by decide +kernel
theorem dX9_isWidth_1 : decode cX9_isWidth 1 = .ok (.i2l, 1) := by decide +kernel
theorem dX9_isWidth_2 : decode cX9_isWidth 2 = .ok (.lconst 0, 1) := by decide +kernel
theorem dX9_isWidth_3 : decode cX9_isWidth 3 = .ok (.ldc2_w 209, 3) := by decide +kernel
theorem dX9_isWidth_6 : decode cX9_isWidth 6 = .ok (.invokestatic 117, 3) := by decide +kernel
theorem dX9_isWidth_9 : decode cX9_isWidth 9 = .ok (.ireturn, 1) := by decide +kernel
theorem dX9_isCart_0 : decode cX9_isCart 0 = .ok (.iload_n 1, 1) := by decide +kernel
theorem dX9_isCart_1 : decode cX9_isCart 1 = .ok (.i2l, 1) := by decide +kernel
theorem dX9_isCart_2 : decode cX9_isCart 2 = .ok (.lconst 0, 1) := by decide +kernel
theorem dX9_isCart_3 : decode cX9_isCart 3 = .ok (.aload_n 0, 1) := by decide +kernel
theorem dX9_isCart_4 : decode cX9_isCart 4 = .ok (.getfield 7, 3) := by decide +kernel
theorem dX9_isCart_7 : decode cX9_isCart 7 = .ok (.iconst 0, 1) := by decide +kernel
theorem dX9_isCart_8 : decode cX9_isCart 8 = .ok (.iaload, 1) := by decide +kernel
theorem dX9_isCart_9 : decode cX9_isCart 9 = .ok (.iconst 1, 1) := by decide +kernel
theorem dX9_isCart_10 : decode cX9_isCart 10 = .ok (.isub, 1) := by decide +kernel
theorem dX9_isCart_11 : decode cX9_isCart 11 = .ok (.i2l, 1) := by decide +kernel
theorem dX9_isCart_12 : decode cX9_isCart 12 = .ok (.invokestatic 117, 3) := by decide +kernel
theorem dX9_isCart_15 : decode cX9_isCart 15 = .ok (.ireturn, 1) := by decide +kernel
theorem dX9_hasRut_0 : decode cX9_hasRut 0 = .ok (.aload_n 0, 1) := by decide +kernel
theorem dX9_hasRut_1 : decode cX9_hasRut 1 = .ok (.getfield 20, 3) := by decide +kernel
theorem dX9_hasRut_4 : decode cX9_hasRut 4 = .ok (.iload_n 1, 1) := by decide +kernel
theorem dX9_hasRut_5 : decode cX9_hasRut 5 = .ok (.iaload, 1) := by decide +kernel
theorem dX9_hasRut_6 : decode cX9_hasRut 6 = .ok (.bipush (-4), 2) := by decide +kernel
theorem dX9_hasRut_8 : decode cX9_hasRut 8 = .ok (.if_icmp .eq 13, 3) := by decide +kernel
theorem dX9_hasRut_11 : decode cX9_hasRut 11 = .ok (.aload_n 0, 1) := by decide +kernel
theorem dX9_hasRut_12 : decode cX9_hasRut 12 = .ok (.getfield 20, 3) := by decide +kernel
theorem dX9_hasRut_15 : decode cX9_hasRut 15 = .ok (.iload_n 1, 1) := by decide +kernel
theorem dX9_hasRut_16 : decode cX9_hasRut 16 = .ok (.iaload, 1) := by decide +kernel
theorem dX9_hasRut_17 : decode cX9_hasRut 17 = .ok (.iload_n 2, 1) := by decide +kernel
theorem dX9_hasRut_18 : decode cX9_hasRut 18 = .ok (.if_icmp .ne 7, 3) := by decide +kernel
theorem dX9_hasRut_21 : decode cX9_hasRut 21 = .ok (.iconst 1, 1) := by decide +kernel
theorem dX9_hasRut_22 : decode cX9_hasRut 22 = .ok (.goto 4, 3) := by decide +kernel
theorem dX9_hasRut_25 : decode cX9_hasRut 25 = .ok (.iconst 0, 1) := by decide +kernel
theorem dX9_hasRut_26 : decode cX9_hasRut 26 = .ok (.ireturn, 1) := by decide +kernel
theorem dX9_of_0 : decode cX9_of 0 = .ok (.aload_n 0, 1) := by decide +kernel
theorem dX9_of_1 : decode cX9_of 1 = .ok (.getfield 7, 3) := by decide +kernel
theorem dX9_of_4 : decode cX9_of 4 = .ok (.iconst 1, 1) := by decide +kernel
theorem dX9_of_5 : decode cX9_of 5 = .ok (.bipush 7, 2) := by decide +kernel
theorem dX9_of_7 : decode cX9_of 7 = .ok (.iload_n 1, 1) := by decide +kernel
theorem dX9_of_8 : decode cX9_of 8 = .ok (.imul, 1) := by decide +kernel
theorem dX9_of_9 : decode cX9_of 9 = .ok (.iadd, 1) := by decide +kernel
theorem dX9_of_10 : decode cX9_of 10 = .ok (.iload_n 2, 1) := by decide +kernel
theorem dX9_of_11 : decode cX9_of 11 = .ok (.iadd, 1) := by decide +kernel
theorem dX9_of_12 : decode cX9_of 12 = .ok (.iaload, 1) := by decide +kernel
theorem dX9_of_13 : decode cX9_of 13 = .ok (.ireturn, 1) := by decide +kernel
theorem dX9_yard_0 : decode cX9_yard 0 = .ok (.aload_n 0, 1) := by decide +kernel
theorem dX9_yard_1 : decode cX9_yard 1 = .ok (.iload_n 1, 1) := by decide +kernel
theorem dX9_yard_2 : decode cX9_yard 2 = .ok (.invokevirtual 211, 3) := by decide +kernel
theorem dX9_yard_5 : decode cX9_yard 5 = .ok (.ifCond .ne 5, 3) := by decide +kernel
theorem dX9_yard_8 : decode cX9_yard 8 = .ok (.iconst (-1), 1) := by decide +kernel
theorem dX9_yard_9 : decode cX9_yard 9 = .ok (.ireturn, 1) := by decide +kernel
theorem dX9_yard_10 : decode cX9_yard 10 = .ok (.iload_n 2, 1) := by decide +kernel
theorem dX9_yard_11 : decode cX9_yard 11 = .ok (.tableswitch 195 0 22 #[105, 130, 140, 195, 195, 195, 195, 195, 195, 195, 147, 147, 147, 195, 195, 195, 195, 195, 195, 195, 181, 181, 181], 105) := by decide +kernel
theorem dX9_yard_116 : decode cX9_yard 116 = .ok (.aload_n 0, 1) := by decide +kernel
theorem dX9_yard_117 : decode cX9_yard 117 = .ok (.getfield 20, 3) := by decide +kernel
theorem dX9_yard_120 : decode cX9_yard 120 = .ok (.iload_n 1, 1) := by decide +kernel
theorem dX9_yard_121 : decode cX9_yard 121 = .ok (.iaload, 1) := by decide +kernel
theorem dX9_yard_122 : decode cX9_yard 122 = .ok (.bipush (-4), 2) := by decide +kernel
theorem dX9_yard_124 : decode cX9_yard 124 = .ok (.if_icmp .ne 8, 3) := by decide +kernel
theorem dX9_yard_127 : decode cX9_yard 127 = .ok (.bipush 7, 2) := by decide +kernel
theorem dX9_yard_129 : decode cX9_yard 129 = .ok (.goto 11, 3) := by decide +kernel
theorem dX9_yard_132 : decode cX9_yard 132 = .ok (.iconst 1, 1) := by decide +kernel
theorem dX9_yard_133 : decode cX9_yard 133 = .ok (.aload_n 0, 1) := by decide +kernel
theorem dX9_yard_134 : decode cX9_yard 134 = .ok (.getfield 20, 3) := by decide +kernel
theorem dX9_yard_137 : decode cX9_yard 137 = .ok (.iload_n 1, 1) := by decide +kernel
theorem dX9_yard_138 : decode cX9_yard 138 = .ok (.iaload, 1) := by decide +kernel
theorem dX9_yard_139 : decode cX9_yard 139 = .ok (.ishl, 1) := by decide +kernel
theorem dX9_yard_140 : decode cX9_yard 140 = .ok (.ireturn, 1) := by decide +kernel
theorem dX9_yard_141 : decode cX9_yard 141 = .ok (.aload_n 0, 1) := by decide +kernel
theorem dX9_yard_142 : decode cX9_yard 142 = .ok (.getfield 17, 3) := by decide +kernel
theorem dX9_yard_145 : decode cX9_yard 145 = .ok (.iload_n 1, 1) := by decide +kernel
theorem dX9_yard_146 : decode cX9_yard 146 = .ok (.baload, 1) := by decide +kernel
theorem dX9_yard_147 : decode cX9_yard 147 = .ok (.invokestatic 215, 3) := by decide +kernel
theorem dX9_yard_150 : decode cX9_yard 150 = .ok (.ireturn, 1) := by decide +kernel
theorem dX9_yard_151 : decode cX9_yard 151 = .ok (.aload_n 0, 1) := by decide +kernel
theorem dX9_yard_152 : decode cX9_yard 152 = .ok (.getfield 23, 3) := by decide +kernel
theorem dX9_yard_155 : decode cX9_yard 155 = .ok (.iload_n 1, 1) := by decide +kernel
theorem dX9_yard_156 : decode cX9_yard 156 = .ok (.iaload, 1) := by decide +kernel
theorem dX9_yard_157 : decode cX9_yard 157 = .ok (.ireturn, 1) := by decide +kernel
theorem dX9_yard_158 : decode cX9_yard 158 = .ok (.aload_n 0, 1) := by decide +kernel
theorem dX9_yard_159 : decode cX9_yard 159 = .ok (.iload_n 1, 1) := by decide +kernel
theorem dX9_yard_160 : decode cX9_yard 160 = .ok (.iload_n 2, 1) := by decide +kernel
theorem dX9_yard_161 : decode cX9_yard 161 = .ok (.bipush 10, 2) := by decide +kernel
theorem dX9_yard_163 : decode cX9_yard 163 = .ok (.isub, 1) := by decide +kernel
theorem dX9_yard_164 : decode cX9_yard 164 = .ok (.invokevirtual 219, 3) := by decide +kernel
theorem dX9_yard_167 : decode cX9_yard 167 = .ok (.ifCond .eq 22, 3) := by decide +kernel
theorem dX9_yard_170 : decode cX9_yard 170 = .ok (.aload_n 0, 1) := by decide +kernel
theorem dX9_yard_171 : decode cX9_yard 171 = .ok (.getfield 7, 3) := by decide +kernel
theorem dX9_yard_174 : decode cX9_yard 174 = .ok (.bipush 36, 2) := by decide +kernel
theorem dX9_yard_176 : decode cX9_yard 176 = .ok (.iconst 3, 1) := by decide +kernel
theorem dX9_yard_177 : decode cX9_yard 177 = .ok (.iload_n 1, 1) := by decide +kernel
theorem dX9_yard_178 : decode cX9_yard 178 = .ok (.imul, 1) := by decide +kernel
theorem dX9_yard_179 : decode cX9_yard 179 = .ok (.iadd, 1) := by decide +kernel
theorem dX9_yard_180 : decode cX9_yard 180 = .ok (.iload_n 2, 1) := by decide +kernel
theorem dX9_yard_181 : decode cX9_yard 181 = .ok (.iadd, 1) := by decide +kernel
theorem dX9_yard_182 : decode cX9_yard 182 = .ok (.bipush 10, 2) := by decide +kernel
theorem dX9_yard_184 : decode cX9_yard 184 = .ok (.isub, 1) := by decide +kernel
theorem dX9_yard_185 : decode cX9_yard 185 = .ok (.iaload, 1) := by decide +kernel
theorem dX9_yard_186 : decode cX9_yard 186 = .ok (.goto 5, 3) := by decide +kernel
theorem dX9_yard_189 : decode cX9_yard 189 = .ok (.bipush (-4), 2) := by decide +kernel
theorem dX9_yard_191 : decode cX9_yard 191 = .ok (.ireturn, 1) := by decide +kernel
theorem dX9_yard_192 : decode cX9_yard 192 = .ok (.aload_n 0, 1) := by decide +kernel
theorem dX9_yard_193 : decode cX9_yard 193 = .ok (.getfield 26, 3) := by decide +kernel
theorem dX9_yard_196 : decode cX9_yard 196 = .ok (.iconst 3, 1) := by decide +kernel
theorem dX9_yard_197 : decode cX9_yard 197 = .ok (.iload_n 1, 1) := by decide +kernel
theorem dX9_yard_198 : decode cX9_yard 198 = .ok (.imul, 1) := by decide +kernel
theorem dX9_yard_199 : decode cX9_yard 199 = .ok (.iload_n 2, 1) := by decide +kernel
theorem dX9_yard_200 : decode cX9_yard 200 = .ok (.iadd, 1) := by decide +kernel
theorem dX9_yard_201 : decode cX9_yard 201 = .ok (.bipush 20, 2) := by decide +kernel
theorem dX9_yard_203 : decode cX9_yard 203 = .ok (.isub, 1) := by decide +kernel
theorem dX9_yard_204 : decode cX9_yard 204 = .ok (.iaload, 1) := by decide +kernel
theorem dX9_yard_205 : decode cX9_yard 205 = .ok (.ireturn, 1) := by decide +kernel
theorem dX9_yard_206 : decode cX9_yard 206 = .ok (.iconst (-1), 1) := by decide +kernel
theorem dX9_yard_207 : decode cX9_yard 207 = .ok (.ireturn, 1) := by decide +kernel
theorem dX9_cart_0 : decode cX9_cart 0 = .ok (.aload_n 0, 1) := by decide +kernel
theorem dX9_cart_1 : decode cX9_cart 1 = .ok (.iload_n 1, 1) := by decide +kernel
theorem dX9_cart_2 : decode cX9_cart 2 = .ok (.invokevirtual 223, 3) := by decide +kernel
theorem dX9_cart_5 : decode cX9_cart 5 = .ok (.ifCond .eq 24, 3) := by decide +kernel
theorem dX9_cart_8 : decode cX9_cart 8 = .ok (.iload_n 2, 1) := by decide +kernel
theorem dX9_cart_9 : decode cX9_cart 9 = .ok (.i2l, 1) := by decide +kernel
theorem dX9_cart_10 : decode cX9_cart 10 = .ok (.lconst 0, 1) := by decide +kernel
theorem dX9_cart_11 : decode cX9_cart 11 = .ok (.ldc2_w 226, 3) := by decide +kernel
theorem dX9_cart_14 : decode cX9_cart 14 = .ok (.invokestatic 117, 3) := by decide +kernel
theorem dX9_cart_17 : decode cX9_cart 17 = .ok (.ifCond .eq 12, 3) := by decide +kernel
theorem dX9_cart_20 : decode cX9_cart 20 = .ok (.aload_n 0, 1) := by decide +kernel
theorem dX9_cart_21 : decode cX9_cart 21 = .ok (.iload_n 1, 1) := by decide +kernel
theorem dX9_cart_22 : decode cX9_cart 22 = .ok (.iload_n 2, 1) := by decide +kernel
theorem dX9_cart_23 : decode cX9_cart 23 = .ok (.invokevirtual 228, 3) := by decide +kernel
theorem dX9_cart_26 : decode cX9_cart 26 = .ok (.goto 4, 3) := by decide +kernel
theorem dX9_cart_29 : decode cX9_cart 29 = .ok (.iconst (-1), 1) := by decide +kernel
theorem dX9_cart_30 : decode cX9_cart 30 = .ok (.ireturn, 1) := by decide +kernel
theorem dX9_isHour_0 : decode cX9_isHour 0 = .ok (.iload_n 0, 1) := by decide +kernel
theorem dX9_isHour_1 : decode cX9_isHour 1 = .ok (.i2l, 1) := by decide +kernel
theorem dX9_isHour_2 : decode cX9_isHour 2 = .ok (.lconst 1, 1) := by decide +kernel
theorem dX9_isHour_3 : decode cX9_isHour 3 = .ok (.ldc2_w 231, 3) := by decide +kernel
theorem dX9_isHour_6 : decode cX9_isHour 6 = .ok (.invokestatic 117, 3) := by decide +kernel
theorem dX9_isHour_9 : decode cX9_isHour 9 = .ok (.ireturn, 1) := by decide +kernel
theorem dX9_frost_0 : decode cX9_frost 0 = .ok (.iload_n 1, 1) := by decide +kernel
theorem dX9_frost_1 : decode cX9_frost 1 = .ok (.invokestatic 233, 3) := by decide +kernel
theorem dX9_frost_4 : decode cX9_frost 4 = .ok (.ifCond .eq 15, 3) := by decide +kernel
theorem dX9_frost_7 : decode cX9_frost 7 = .ok (.aload_n 0, 1) := by decide +kernel
theorem dX9_frost_8 : decode cX9_frost 8 = .ok (.getfield 7, 3) := by decide +kernel
theorem dX9_frost_11 : decode cX9_frost 11 = .ok (.bipush 99, 2) := by decide +kernel
theorem dX9_frost_13 : decode cX9_frost 13 = .ok (.iload_n 1, 1) := by decide +kernel
theorem dX9_frost_14 : decode cX9_frost 14 = .ok (.iadd, 1) := by decide +kernel
theorem dX9_frost_15 : decode cX9_frost 15 = .ok (.iaload, 1) := by decide +kernel
theorem dX9_frost_16 : decode cX9_frost 16 = .ok (.goto 4, 3) := by decide +kernel
theorem dX9_frost_19 : decode cX9_frost 19 = .ok (.iconst (-1), 1) := by decide +kernel
theorem dX9_frost_20 : decode cX9_frost 20 = .ok (.ireturn, 1) := by decide +kernel
theorem dX9_dig_0 : decode cX9_dig 0 = .ok (.aload_n 0, 1) := by decide +kernel
theorem dX9_dig_1 : decode cX9_dig 1 = .ok (.iload_n 1, 1) := by decide +kernel
theorem dX9_dig_2 : decode cX9_dig 2 = .ok (.invokevirtual 211, 3) := by decide +kernel
theorem dX9_dig_5 : decode cX9_dig 5 = .ok (.ifCond .eq 22, 3) := by decide +kernel
theorem dX9_dig_8 : decode cX9_dig 8 = .ok (.iload_n 2, 1) := by decide +kernel
theorem dX9_dig_9 : decode cX9_dig 9 = .ok (.invokestatic 236, 3) := by decide +kernel
theorem dX9_dig_12 : decode cX9_dig 12 = .ok (.ifCond .eq 15, 3) := by decide +kernel
theorem dX9_dig_15 : decode cX9_dig 15 = .ok (.iload_n 3, 1) := by decide +kernel
theorem dX9_dig_16 : decode cX9_dig 16 = .ok (.i2l, 1) := by decide +kernel
theorem dX9_dig_17 : decode cX9_dig 17 = .ok (.lconst 0, 1) := by decide +kernel
theorem dX9_dig_18 : decode cX9_dig 18 = .ok (.ldc2_w 239, 3) := by decide +kernel
theorem dX9_dig_21 : decode cX9_dig 21 = .ok (.invokestatic 117, 3) := by decide +kernel
theorem dX9_dig_24 : decode cX9_dig 24 = .ok (.ifCond .ne 5, 3) := by decide +kernel
theorem dX9_dig_27 : decode cX9_dig 27 = .ok (.iconst (-1), 1) := by decide +kernel
theorem dX9_dig_28 : decode cX9_dig 28 = .ok (.ireturn, 1) := by decide +kernel
theorem dX9_dig_29 : decode cX9_dig 29 = .ok (.aload_n 0, 1) := by decide +kernel
theorem dX9_dig_30 : decode cX9_dig 30 = .ok (.iload_n 1, 1) := by decide +kernel
theorem dX9_dig_31 : decode cX9_dig 31 = .ok (.iload_n 2, 1) := by decide +kernel
theorem dX9_dig_32 : decode cX9_dig 32 = .ok (.invokevirtual 219, 3) := by decide +kernel
theorem dX9_dig_35 : decode cX9_dig 35 = .ok (.ifCond .ne 6, 3) := by decide +kernel
theorem dX9_dig_38 : decode cX9_dig 38 = .ok (.bipush (-2), 2) := by decide +kernel
theorem dX9_dig_40 : decode cX9_dig 40 = .ok (.ireturn, 1) := by decide +kernel
theorem dX9_dig_41 : decode cX9_dig 41 = .ok (.aload_n 0, 1) := by decide +kernel
theorem dX9_dig_42 : decode cX9_dig 42 = .ok (.getfield 7, 3) := by decide +kernel
theorem dX9_dig_45 : decode cX9_dig 45 = .ok (.bipush 36, 2) := by decide +kernel
theorem dX9_dig_47 : decode cX9_dig 47 = .ok (.iconst 3, 1) := by decide +kernel
theorem dX9_dig_48 : decode cX9_dig 48 = .ok (.iload_n 1, 1) := by decide +kernel
theorem dX9_dig_49 : decode cX9_dig 49 = .ok (.imul, 1) := by decide +kernel
theorem dX9_dig_50 : decode cX9_dig 50 = .ok (.iadd, 1) := by decide +kernel
theorem dX9_dig_51 : decode cX9_dig 51 = .ok (.iload_n 2, 1) := by decide +kernel
theorem dX9_dig_52 : decode cX9_dig 52 = .ok (.iadd, 1) := by decide +kernel
theorem dX9_dig_53 : decode cX9_dig 53 = .ok (.iaload, 1) := by decide +kernel
theorem dX9_dig_54 : decode cX9_dig 54 = .ok (.istore 4, 2) := by decide +kernel
theorem dX9_dig_56 : decode cX9_dig 56 = .ok (.aload_n 0, 1) := by decide +kernel
theorem dX9_dig_57 : decode cX9_dig 57 = .ok (.getfield 7, 3) := by decide +kernel
theorem dX9_dig_60 : decode cX9_dig 60 = .ok (.bipush 36, 2) := by decide +kernel
theorem dX9_dig_62 : decode cX9_dig 62 = .ok (.iconst 3, 1) := by decide +kernel
theorem dX9_dig_63 : decode cX9_dig 63 = .ok (.iload_n 1, 1) := by decide +kernel
theorem dX9_dig_64 : decode cX9_dig 64 = .ok (.imul, 1) := by decide +kernel
theorem dX9_dig_65 : decode cX9_dig 65 = .ok (.iadd, 1) := by decide +kernel
theorem dX9_dig_66 : decode cX9_dig 66 = .ok (.iload_n 2, 1) := by decide +kernel
theorem dX9_dig_67 : decode cX9_dig 67 = .ok (.iadd, 1) := by decide +kernel
theorem dX9_dig_68 : decode cX9_dig 68 = .ok (.iload_n 3, 1) := by decide +kernel
theorem dX9_dig_69 : decode cX9_dig 69 = .ok (.iastore, 1) := by decide +kernel
theorem dX9_dig_70 : decode cX9_dig 70 = .ok (.iload 4, 2) := by decide +kernel
theorem dX9_dig_72 : decode cX9_dig 72 = .ok (.ireturn, 1) := by decide +kernel
theorem dX9_fills_0 : decode cX9_fills 0 = .ok (.iconst 0, 1) := by decide +kernel
theorem dX9_fills_1 : decode cX9_fills 1 = .ok (.istore_n 2, 1) := by decide +kernel
theorem dX9_fills_2 : decode cX9_fills 2 = .ok (.iconst 0, 1) := by decide +kernel
theorem dX9_fills_3 : decode cX9_fills 3 = .ok (.istore_n 3, 1) := by decide +kernel
theorem dX9_fills_4 : decode cX9_fills 4 = .ok (.iload_n 3, 1) := by decide +kernel
theorem dX9_fills_5 : decode cX9_fills 5 = .ok (.iconst 3, 1) := by decide +kernel
theorem dX9_fills_6 : decode cX9_fills 6 = .ok (.if_icmp .ge 58, 3) := by decide +kernel
theorem dX9_fills_9 : decode cX9_fills 9 = .ok (.aload_n 0, 1) := by decide +kernel
theorem dX9_fills_10 : decode cX9_fills 10 = .ok (.getfield 7, 3) := by decide +kernel
theorem dX9_fills_13 : decode cX9_fills 13 = .ok (.bipush 36, 2) := by decide +kernel
theorem dX9_fills_15 : decode cX9_fills 15 = .ok (.iconst 3, 1) := by decide +kernel
theorem dX9_fills_16 : decode cX9_fills 16 = .ok (.iload_n 1, 1) := by decide +kernel
theorem dX9_fills_17 : decode cX9_fills 17 = .ok (.imul, 1) := by decide +kernel
theorem dX9_fills_18 : decode cX9_fills 18 = .ok (.iadd, 1) := by decide +kernel
theorem dX9_fills_19 : decode cX9_fills 19 = .ok (.iload_n 3, 1) := by decide +kernel
theorem dX9_fills_20 : decode cX9_fills 20 = .ok (.iadd, 1) := by decide +kernel
theorem dX9_fills_21 : decode cX9_fills 21 = .ok (.iaload, 1) := by decide +kernel
theorem dX9_fills_22 : decode cX9_fills 22 = .ok (.iload_n 2, 1) := by decide +kernel
theorem dX9_fills_23 : decode cX9_fills 23 = .ok (.if_icmp .le 19, 3) := by decide +kernel
theorem dX9_fills_26 : decode cX9_fills 26 = .ok (.aload_n 0, 1) := by decide +kernel
theorem dX9_fills_27 : decode cX9_fills 27 = .ok (.getfield 7, 3) := by decide +kernel
theorem dX9_fills_30 : decode cX9_fills 30 = .ok (.bipush 36, 2) := by decide +kernel
theorem dX9_fills_32 : decode cX9_fills 32 = .ok (.iconst 3, 1) := by decide +kernel
theorem dX9_fills_33 : decode cX9_fills 33 = .ok (.iload_n 1, 1) := by decide +kernel
theorem dX9_fills_34 : decode cX9_fills 34 = .ok (.imul, 1) := by decide +kernel
theorem dX9_fills_35 : decode cX9_fills 35 = .ok (.iadd, 1) := by decide +kernel
theorem dX9_fills_36 : decode cX9_fills 36 = .ok (.iload_n 3, 1) := by decide +kernel
theorem dX9_fills_37 : decode cX9_fills 37 = .ok (.iadd, 1) := by decide +kernel
theorem dX9_fills_38 : decode cX9_fills 38 = .ok (.iaload, 1) := by decide +kernel
theorem dX9_fills_39 : decode cX9_fills 39 = .ok (.goto 4, 3) := by decide +kernel
theorem dX9_fills_42 : decode cX9_fills 42 = .ok (.iload_n 2, 1) := by decide +kernel
theorem dX9_fills_43 : decode cX9_fills 43 = .ok (.istore_n 2, 1) := by decide +kernel
theorem dX9_fills_44 : decode cX9_fills 44 = .ok (.aload_n 0, 1) := by decide +kernel
theorem dX9_fills_45 : decode cX9_fills 45 = .ok (.getfield 7, 3) := by decide +kernel
theorem dX9_fills_48 : decode cX9_fills 48 = .ok (.bipush 36, 2) := by decide +kernel
theorem dX9_fills_50 : decode cX9_fills 50 = .ok (.iconst 3, 1) := by decide +kernel
theorem dX9_fills_51 : decode cX9_fills 51 = .ok (.iload_n 1, 1) := by decide +kernel
theorem dX9_fills_52 : decode cX9_fills 52 = .ok (.imul, 1) := by decide +kernel
theorem dX9_fills_53 : decode cX9_fills 53 = .ok (.iadd, 1) := by decide +kernel
theorem dX9_fills_54 : decode cX9_fills 54 = .ok (.iload_n 3, 1) := by decide +kernel
theorem dX9_fills_55 : decode cX9_fills 55 = .ok (.iadd, 1) := by decide +kernel
theorem dX9_fills_56 : decode cX9_fills 56 = .ok (.iconst 0, 1) := by decide +kernel
theorem dX9_fills_57 : decode cX9_fills 57 = .ok (.iastore, 1) := by decide +kernel
theorem dX9_fills_58 : decode cX9_fills 58 = .ok (.iinc 3 1, 3) := by decide +kernel
theorem dX9_fills_61 : decode cX9_fills 61 = .ok (.goto (-57), 3) := by decide +kernel
theorem dX9_fills_64 : decode cX9_fills 64 = .ok (.iload_n 2, 1) := by decide +kernel
theorem dX9_fills_65 : decode cX9_fills 65 = .ok (.ireturn, 1) := by decide +kernel
theorem dX9_fill_0 : decode cX9_fill 0 = .ok (.aload_n 0, 1) := by decide +kernel
theorem dX9_fill_1 : decode cX9_fill 1 = .ok (.iload_n 1, 1) := by decide +kernel
theorem dX9_fill_2 : decode cX9_fill 2 = .ok (.invokevirtual 211, 3) := by decide +kernel
theorem dX9_fill_5 : decode cX9_fill 5 = .ok (.ifCond .eq 11, 3) := by decide +kernel
theorem dX9_fill_8 : decode cX9_fill 8 = .ok (.aload_n 0, 1) := by decide +kernel
theorem dX9_fill_9 : decode cX9_fill 9 = .ok (.iload_n 1, 1) := by decide +kernel
theorem dX9_fill_10 : decode cX9_fill 10 = .ok (.invokevirtual 241, 3) := by decide +kernel
theorem dX9_fill_13 : decode cX9_fill 13 = .ok (.goto 4, 3) := by decide +kernel
theorem dX9_fill_16 : decode cX9_fill 16 = .ok (.iconst (-1), 1) := by decide +kernel
theorem dX9_fill_17 : decode cX9_fill 17 = .ok (.ireturn, 1) := by decide +kernel
theorem dX9_shoe_0 : decode cX9_shoe 0 = .ok (.aload_n 0, 1) := by decide +kernel
theorem dX9_shoe_1 : decode cX9_shoe 1 = .ok (.iload_n 1, 1) := by decide +kernel
theorem dX9_shoe_2 : decode cX9_shoe 2 = .ok (.invokevirtual 223, 3) := by decide +kernel
theorem dX9_shoe_5 : decode cX9_shoe 5 = .ok (.ifCond .eq 10, 3) := by decide +kernel
theorem dX9_shoe_8 : decode cX9_shoe 8 = .ok (.iload_n 2, 1) := by decide +kernel
theorem dX9_shoe_9 : decode cX9_shoe 9 = .ok (.invokestatic 236, 3) := by decide +kernel
theorem dX9_shoe_12 : decode cX9_shoe 12 = .ok (.ifCond .ne 5, 3) := by decide +kernel
theorem dX9_shoe_15 : decode cX9_shoe 15 = .ok (.iconst (-1), 1) := by decide +kernel
theorem dX9_shoe_16 : decode cX9_shoe 16 = .ok (.ireturn, 1) := by decide +kernel
theorem dX9_shoe_17 : decode cX9_shoe 17 = .ok (.aload_n 0, 1) := by decide +kernel
theorem dX9_shoe_18 : decode cX9_shoe 18 = .ok (.iload_n 1, 1) := by decide +kernel
theorem dX9_shoe_19 : decode cX9_shoe 19 = .ok (.iconst 0, 1) := by decide +kernel
theorem dX9_shoe_20 : decode cX9_shoe 20 = .ok (.invokevirtual 228, 3) := by decide +kernel
theorem dX9_shoe_23 : decode cX9_shoe 23 = .ok (.iconst 3, 1) := by decide +kernel
theorem dX9_shoe_24 : decode cX9_shoe 24 = .ok (.if_icmp .ne 6, 3) := by decide +kernel
theorem dX9_shoe_27 : decode cX9_shoe 27 = .ok (.bipush (-2), 2) := by decide +kernel
theorem dX9_shoe_29 : decode cX9_shoe 29 = .ok (.ireturn, 1) := by decide +kernel
theorem dX9_shoe_30 : decode cX9_shoe 30 = .ok (.aload_n 0, 1) := by decide +kernel
theorem dX9_shoe_31 : decode cX9_shoe 31 = .ok (.iload_n 1, 1) := by decide +kernel
theorem dX9_shoe_32 : decode cX9_shoe 32 = .ok (.iconst 1, 1) := by decide +kernel
theorem dX9_shoe_33 : decode cX9_shoe 33 = .ok (.invokevirtual 228, 3) := by decide +kernel
theorem dX9_shoe_36 : decode cX9_shoe 36 = .ok (.istore_n 3, 1) := by decide +kernel
theorem dX9_shoe_37 : decode cX9_shoe 37 = .ok (.aload_n 0, 1) := by decide +kernel
theorem dX9_shoe_38 : decode cX9_shoe 38 = .ok (.getfield 7, 3) := by decide +kernel
theorem dX9_shoe_41 : decode cX9_shoe 41 = .ok (.iconst 1, 1) := by decide +kernel
theorem dX9_shoe_42 : decode cX9_shoe 42 = .ok (.bipush 7, 2) := by decide +kernel
theorem dX9_shoe_44 : decode cX9_shoe 44 = .ok (.iload_n 1, 1) := by decide +kernel
theorem dX9_shoe_45 : decode cX9_shoe 45 = .ok (.imul, 1) := by decide +kernel
theorem dX9_shoe_46 : decode cX9_shoe 46 = .ok (.iadd, 1) := by decide +kernel
theorem dX9_shoe_47 : decode cX9_shoe 47 = .ok (.iconst 1, 1) := by decide +kernel
theorem dX9_shoe_48 : decode cX9_shoe 48 = .ok (.iadd, 1) := by decide +kernel
theorem dX9_shoe_49 : decode cX9_shoe 49 = .ok (.iload_n 2, 1) := by decide +kernel
theorem dX9_shoe_50 : decode cX9_shoe 50 = .ok (.iastore, 1) := by decide +kernel
theorem dX9_shoe_51 : decode cX9_shoe 51 = .ok (.iload_n 3, 1) := by decide +kernel
theorem dX9_shoe_52 : decode cX9_shoe 52 = .ok (.ireturn, 1) := by decide +kernel
theorem dX9_load_0 : decode cX9_load 0 = .ok (.aload_n 0, 1) := by decide +kernel
theorem dX9_load_1 : decode cX9_load 1 = .ok (.iload_n 1, 1) := by decide +kernel
theorem dX9_load_2 : decode cX9_load 2 = .ok (.invokevirtual 223, 3) := by decide +kernel
theorem dX9_load_5 : decode cX9_load 5 = .ok (.ifCond .eq 15, 3) := by decide +kernel
theorem dX9_load_8 : decode cX9_load 8 = .ok (.iload_n 2, 1) := by decide +kernel
theorem dX9_load_9 : decode cX9_load 9 = .ok (.i2l, 1) := by decide +kernel
theorem dX9_load_10 : decode cX9_load 10 = .ok (.lconst 1, 1) := by decide +kernel
theorem dX9_load_11 : decode cX9_load 11 = .ok (.ldc2_w 244, 3) := by decide +kernel
theorem dX9_load_14 : decode cX9_load 14 = .ok (.invokestatic 117, 3) := by decide +kernel
theorem dX9_load_17 : decode cX9_load 17 = .ok (.ifCond .ne 5, 3) := by decide +kernel
theorem dX9_load_20 : decode cX9_load 20 = .ok (.iconst (-1), 1) := by decide +kernel
theorem dX9_load_21 : decode cX9_load 21 = .ok (.ireturn, 1) := by decide +kernel
theorem dX9_load_22 : decode cX9_load 22 = .ok (.aload_n 0, 1) := by decide +kernel
theorem dX9_load_23 : decode cX9_load 23 = .ok (.iload_n 1, 1) := by decide +kernel
theorem dX9_load_24 : decode cX9_load 24 = .ok (.iconst 2, 1) := by decide +kernel
theorem dX9_load_25 : decode cX9_load 25 = .ok (.invokevirtual 228, 3) := by decide +kernel
theorem dX9_load_28 : decode cX9_load 28 = .ok (.istore_n 3, 1) := by decide +kernel
theorem dX9_load_29 : decode cX9_load 29 = .ok (.aload_n 0, 1) := by decide +kernel
theorem dX9_load_30 : decode cX9_load 30 = .ok (.getfield 7, 3) := by decide +kernel
theorem dX9_load_33 : decode cX9_load 33 = .ok (.iconst 1, 1) := by decide +kernel
theorem dX9_load_34 : decode cX9_load 34 = .ok (.bipush 7, 2) := by decide +kernel
theorem dX9_load_36 : decode cX9_load 36 = .ok (.iload_n 1, 1) := by decide +kernel
theorem dX9_load_37 : decode cX9_load 37 = .ok (.imul, 1) := by decide +kernel
theorem dX9_load_38 : decode cX9_load 38 = .ok (.iadd, 1) := by decide +kernel
theorem dX9_load_39 : decode cX9_load 39 = .ok (.iconst 2, 1) := by decide +kernel
theorem dX9_load_40 : decode cX9_load 40 = .ok (.iadd, 1) := by decide +kernel
theorem dX9_load_41 : decode cX9_load 41 = .ok (.iload_n 2, 1) := by decide +kernel
theorem dX9_load_42 : decode cX9_load 42 = .ok (.iastore, 1) := by decide +kernel
theorem dX9_load_43 : decode cX9_load 43 = .ok (.iload_n 3, 1) := by decide +kernel
theorem dX9_load_44 : decode cX9_load 44 = .ok (.ireturn, 1) := by decide +kernel
theorem dX9_freeze_0 : decode cX9_freeze 0 = .ok (.iload_n 1, 1) := by decide +kernel
theorem dX9_freeze_1 : decode cX9_freeze 1 = .ok (.invokestatic 233, 3) := by decide +kernel
theorem dX9_freeze_4 : decode cX9_freeze 4 = .ok (.ifCond .ne 5, 3) := by decide +kernel
theorem dX9_freeze_7 : decode cX9_freeze 7 = .ok (.iconst (-1), 1) := by decide +kernel
theorem dX9_freeze_8 : decode cX9_freeze 8 = .ok (.ireturn, 1) := by decide +kernel
theorem dX9_freeze_9 : decode cX9_freeze 9 = .ok (.aload_n 0, 1) := by decide +kernel
theorem dX9_freeze_10 : decode cX9_freeze 10 = .ok (.getfield 7, 3) := by decide +kernel
theorem dX9_freeze_13 : decode cX9_freeze 13 = .ok (.bipush 99, 2) := by decide +kernel
theorem dX9_freeze_15 : decode cX9_freeze 15 = .ok (.iload_n 1, 1) := by decide +kernel
theorem dX9_freeze_16 : decode cX9_freeze 16 = .ok (.iadd, 1) := by decide +kernel
theorem dX9_freeze_17 : decode cX9_freeze 17 = .ok (.iaload, 1) := by decide +kernel
theorem dX9_freeze_18 : decode cX9_freeze 18 = .ok (.istore_n 3, 1) := by decide +kernel
theorem dX9_freeze_19 : decode cX9_freeze 19 = .ok (.aload_n 0, 1) := by decide +kernel
theorem dX9_freeze_20 : decode cX9_freeze 20 = .ok (.getfield 7, 3) := by decide +kernel
theorem dX9_freeze_23 : decode cX9_freeze 23 = .ok (.bipush 99, 2) := by decide +kernel
theorem dX9_freeze_25 : decode cX9_freeze 25 = .ok (.iload_n 1, 1) := by decide +kernel
theorem dX9_freeze_26 : decode cX9_freeze 26 = .ok (.iadd, 1) := by decide +kernel
theorem dX9_freeze_27 : decode cX9_freeze 27 = .ok (.iload_n 2, 1) := by decide +kernel
theorem dX9_freeze_28 : decode cX9_freeze 28 = .ok (.invokestatic 215, 3) := by decide +kernel
theorem dX9_freeze_31 : decode cX9_freeze 31 = .ok (.iastore, 1) := by decide +kernel
theorem dX9_freeze_32 : decode cX9_freeze 32 = .ok (.iload_n 3, 1) := by decide +kernel
theorem dX9_freeze_33 : decode cX9_freeze 33 = .ok (.ireturn, 1) := by decide +kernel
theorem dX9_startRun_0 : decode cX9_startRun 0 = .ok (.iconst 0, 1) := by decide +kernel
theorem dX9_startRun_1 : decode cX9_startRun 1 = .ok (.istore_n 1, 1) := by decide +kernel
theorem dX9_startRun_2 : decode cX9_startRun 2 = .ok (.iload_n 1, 1) := by decide +kernel
theorem dX9_startRun_3 : decode cX9_startRun 3 = .ok (.aload_n 0, 1) := by decide +kernel
theorem dX9_startRun_4 : decode cX9_startRun 4 = .ok (.getfield 7, 3) := by decide +kernel
theorem dX9_startRun_7 : decode cX9_startRun 7 = .ok (.iconst 0, 1) := by decide +kernel
theorem dX9_startRun_8 : decode cX9_startRun 8 = .ok (.iaload, 1) := by decide +kernel
theorem dX9_startRun_9 : decode cX9_startRun 9 = .ok (.if_icmp .ge 43, 3) := by decide +kernel
theorem dX9_startRun_12 : decode cX9_startRun 12 = .ok (.aload_n 0, 1) := by decide +kernel
theorem dX9_startRun_13 : decode cX9_startRun 13 = .ok (.getfield 50, 3) := by decide +kernel
theorem dX9_startRun_16 : decode cX9_startRun 16 = .ok (.iload_n 1, 1) := by decide +kernel
theorem dX9_startRun_17 : decode cX9_startRun 17 = .ok (.aload_n 0, 1) := by decide +kernel
theorem dX9_startRun_18 : decode cX9_startRun 18 = .ok (.iload_n 1, 1) := by decide +kernel
theorem dX9_startRun_19 : decode cX9_startRun 19 = .ok (.iconst 4, 1) := by decide +kernel
theorem dX9_startRun_20 : decode cX9_startRun 20 = .ok (.invokevirtual 228, 3) := by decide +kernel
theorem dX9_startRun_23 : decode cX9_startRun 23 = .ok (.iastore, 1) := by decide +kernel
theorem dX9_startRun_24 : decode cX9_startRun 24 = .ok (.aload_n 0, 1) := by decide +kernel
theorem dX9_startRun_25 : decode cX9_startRun 25 = .ok (.getfield 53, 3) := by decide +kernel
theorem dX9_startRun_28 : decode cX9_startRun 28 = .ok (.iload_n 1, 1) := by decide +kernel
theorem dX9_startRun_29 : decode cX9_startRun 29 = .ok (.iconst 0, 1) := by decide +kernel
theorem dX9_startRun_30 : decode cX9_startRun 30 = .ok (.iastore, 1) := by decide +kernel
theorem dX9_startRun_31 : decode cX9_startRun 31 = .ok (.aload_n 0, 1) := by decide +kernel
theorem dX9_startRun_32 : decode cX9_startRun 32 = .ok (.getfield 56, 3) := by decide +kernel
theorem dX9_startRun_35 : decode cX9_startRun 35 = .ok (.iload_n 1, 1) := by decide +kernel
theorem dX9_startRun_36 : decode cX9_startRun 36 = .ok (.iconst 0, 1) := by decide +kernel
theorem dX9_startRun_37 : decode cX9_startRun 37 = .ok (.iastore, 1) := by decide +kernel
theorem dX9_startRun_38 : decode cX9_startRun 38 = .ok (.aload_n 0, 1) := by decide +kernel
theorem dX9_startRun_39 : decode cX9_startRun 39 = .ok (.getfield 59, 3) := by decide +kernel
theorem dX9_startRun_42 : decode cX9_startRun 42 = .ok (.iload_n 1, 1) := by decide +kernel
theorem dX9_startRun_43 : decode cX9_startRun 43 = .ok (.bipush (-4), 2) := by decide +kernel
theorem dX9_startRun_45 : decode cX9_startRun 45 = .ok (.iastore, 1) := by decide +kernel
theorem dX9_startRun_46 : decode cX9_startRun 46 = .ok (.iinc 1 1, 3) := by decide +kernel
theorem dX9_startRun_49 : decode cX9_startRun 49 = .ok (.goto (-47), 3) := by decide +kernel
theorem dX9_startRun_52 : decode cX9_startRun 52 = .ok (.iconst 0, 1) := by decide +kernel
theorem dX9_startRun_53 : decode cX9_startRun 53 = .ok (.istore_n 1, 1) := by decide +kernel
theorem dX9_startRun_54 : decode cX9_startRun 54 = .ok (.iload_n 1, 1) := by decide +kernel
theorem dX9_startRun_55 : decode cX9_startRun 55 = .ok (.bipush 63, 2) := by decide +kernel
theorem dX9_startRun_57 : decode cX9_startRun 57 = .ok (.if_icmp .ge 24, 3) := by decide +kernel
theorem dX9_startRun_60 : decode cX9_startRun 60 = .ok (.aload_n 0, 1) := by decide +kernel
theorem dX9_startRun_61 : decode cX9_startRun 61 = .ok (.getfield 62, 3) := by decide +kernel
theorem dX9_startRun_64 : decode cX9_startRun 64 = .ok (.iload_n 1, 1) := by decide +kernel
theorem dX9_startRun_65 : decode cX9_startRun 65 = .ok (.aload_n 0, 1) := by decide +kernel
theorem dX9_startRun_66 : decode cX9_startRun 66 = .ok (.getfield 7, 3) := by decide +kernel
theorem dX9_startRun_69 : decode cX9_startRun 69 = .ok (.bipush 36, 2) := by decide +kernel
theorem dX9_startRun_71 : decode cX9_startRun 71 = .ok (.iload_n 1, 1) := by decide +kernel
theorem dX9_startRun_72 : decode cX9_startRun 72 = .ok (.iadd, 1) := by decide +kernel
theorem dX9_startRun_73 : decode cX9_startRun 73 = .ok (.iaload, 1) := by decide +kernel
theorem dX9_startRun_74 : decode cX9_startRun 74 = .ok (.iastore, 1) := by decide +kernel
theorem dX9_startRun_75 : decode cX9_startRun 75 = .ok (.iinc 1 1, 3) := by decide +kernel
theorem dX9_startRun_78 : decode cX9_startRun 78 = .ok (.goto (-24), 3) := by decide +kernel
theorem dX9_startRun_81 : decode cX9_startRun 81 = .ok (.return_, 1) := by decide +kernel
