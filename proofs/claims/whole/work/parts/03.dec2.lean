theorem dX9_byNumbers_0 : decode cX9_byNumbers 0 = .ok (.iconst 0, 1) := by decide +kernel
theorem dX9_byNumbers_1 : decode cX9_byNumbers 1 = .ok (.istore_n 1, 1) := by decide +kernel
theorem dX9_byNumbers_2 : decode cX9_byNumbers 2 = .ok (.iload_n 1, 1) := by decide +kernel
theorem dX9_byNumbers_3 : decode cX9_byNumbers 3 = .ok (.iconst 5, 1) := by decide +kernel
theorem dX9_byNumbers_4 : decode cX9_byNumbers 4 = .ok (.if_icmp .ge 16, 3) := by decide +kernel
theorem dX9_byNumbers_7 : decode cX9_byNumbers 7 = .ok (.aload_n 0, 1) := by decide +kernel
theorem dX9_byNumbers_8 : decode cX9_byNumbers 8 = .ok (.getfield 65, 3) := by decide +kernel
theorem dX9_byNumbers_11 : decode cX9_byNumbers 11 = .ok (.iload_n 1, 1) := by decide +kernel
theorem dX9_byNumbers_12 : decode cX9_byNumbers 12 = .ok (.iload_n 1, 1) := by decide +kernel
theorem dX9_byNumbers_13 : decode cX9_byNumbers 13 = .ok (.iastore, 1) := by decide +kernel
theorem dX9_byNumbers_14 : decode cX9_byNumbers 14 = .ok (.iinc 1 1, 3) := by decide +kernel
theorem dX9_byNumbers_17 : decode cX9_byNumbers 17 = .ok (.goto (-15), 3) := by decide +kernel
theorem dX9_byNumbers_20 : decode cX9_byNumbers 20 = .ok (.return_, 1) := by decide +kernel
theorem dX9_isFree_0 : decode cX9_isFree 0 = .ok (.iconst 1, 1) := by decide +kernel
theorem dX9_isFree_1 : decode cX9_isFree 1 = .ok (.istore_n 3, 1) := by decide +kernel
theorem dX9_isFree_2 : decode cX9_isFree 2 = .ok (.iconst 0, 1) := by decide +kernel
theorem dX9_isFree_3 : decode cX9_isFree 3 = .ok (.istore 4, 2) := by decide +kernel
theorem dX9_isFree_5 : decode cX9_isFree 5 = .ok (.iload 4, 2) := by decide +kernel
theorem dX9_isFree_7 : decode cX9_isFree 7 = .ok (.aload_n 0, 1) := by decide +kernel
theorem dX9_isFree_8 : decode cX9_isFree 8 = .ok (.getfield 7, 3) := by decide +kernel
theorem dX9_isFree_11 : decode cX9_isFree 11 = .ok (.iconst 0, 1) := by decide +kernel
theorem dX9_isFree_12 : decode cX9_isFree 12 = .ok (.iaload, 1) := by decide +kernel
theorem dX9_isFree_13 : decode cX9_isFree 13 = .ok (.if_icmp .ge 90, 3) := by decide +kernel
theorem dX9_isFree_16 : decode cX9_isFree 16 = .ok (.iload 4, 2) := by decide +kernel
theorem dX9_isFree_18 : decode cX9_isFree 18 = .ok (.iload_n 1, 1) := by decide +kernel
theorem dX9_isFree_19 : decode cX9_isFree 19 = .ok (.if_icmp .eq 35, 3) := by decide +kernel
theorem dX9_isFree_22 : decode cX9_isFree 22 = .ok (.aload_n 0, 1) := by decide +kernel
theorem dX9_isFree_23 : decode cX9_isFree 23 = .ok (.getfield 50, 3) := by decide +kernel
theorem dX9_isFree_26 : decode cX9_isFree 26 = .ok (.iload 4, 2) := by decide +kernel
theorem dX9_isFree_28 : decode cX9_isFree 28 = .ok (.iaload, 1) := by decide +kernel
theorem dX9_isFree_29 : decode cX9_isFree 29 = .ok (.iload_n 2, 1) := by decide +kernel
theorem dX9_isFree_30 : decode cX9_isFree 30 = .ok (.if_icmp .ne 24, 3) := by decide +kernel
theorem dX9_isFree_33 : decode cX9_isFree 33 = .ok (.aload_n 0, 1) := by decide +kernel
theorem dX9_isFree_34 : decode cX9_isFree 34 = .ok (.getfield 50, 3) := by decide +kernel
theorem dX9_isFree_37 : decode cX9_isFree 37 = .ok (.iload 4, 2) := by decide +kernel
theorem dX9_isFree_39 : decode cX9_isFree 39 = .ok (.iaload, 1) := by decide +kernel
theorem dX9_isFree_40 : decode cX9_isFree 40 = .ok (.aload_n 0, 1) := by decide +kernel
theorem dX9_isFree_41 : decode cX9_isFree 41 = .ok (.iload 4, 2) := by decide +kernel
theorem dX9_isFree_43 : decode cX9_isFree 43 = .ok (.iconst 5, 1) := by decide +kernel
theorem dX9_isFree_44 : decode cX9_isFree 44 = .ok (.invokevirtual 228, 3) := by decide +kernel
theorem dX9_isFree_47 : decode cX9_isFree 47 = .ok (.if_icmp .eq 7, 3) := by decide +kernel
theorem dX9_isFree_50 : decode cX9_isFree 50 = .ok (.iconst 1, 1) := by decide +kernel
theorem dX9_isFree_51 : decode cX9_isFree 51 = .ok (.goto 4, 3) := by decide +kernel
theorem dX9_isFree_54 : decode cX9_isFree 54 = .ok (.iconst 0, 1) := by decide +kernel
theorem dX9_isFree_55 : decode cX9_isFree 55 = .ok (.istore 5, 2) := by decide +kernel
theorem dX9_isFree_57 : decode cX9_isFree 57 = .ok (.iload_n 3, 1) := by decide +kernel
theorem dX9_isFree_58 : decode cX9_isFree 58 = .ok (.ifCond .eq 37, 3) := by decide +kernel
theorem dX9_isFree_61 : decode cX9_isFree 61 = .ok (.iload 5, 2) := by decide +kernel
theorem dX9_isFree_63 : decode cX9_isFree 63 = .ok (.ifCond .eq 28, 3) := by decide +kernel
theorem dX9_isFree_66 : decode cX9_isFree 66 = .ok (.aload_n 0, 1) := by decide +kernel
theorem dX9_isFree_67 : decode cX9_isFree 67 = .ok (.getfield 17, 3) := by decide +kernel
theorem dX9_isFree_70 : decode cX9_isFree 70 = .ok (.iload_n 2, 1) := by decide +kernel
theorem dX9_isFree_71 : decode cX9_isFree 71 = .ok (.baload, 1) := by decide +kernel
theorem dX9_isFree_72 : decode cX9_isFree 72 = .ok (.ifCond .ne 23, 3) := by decide +kernel
theorem dX9_isFree_75 : decode cX9_isFree 75 = .ok (.aload_n 0, 1) := by decide +kernel
theorem dX9_isFree_76 : decode cX9_isFree 76 = .ok (.iload 4, 2) := by decide +kernel
theorem dX9_isFree_78 : decode cX9_isFree 78 = .ok (.iconst 1, 1) := by decide +kernel
theorem dX9_isFree_79 : decode cX9_isFree 79 = .ok (.invokevirtual 228, 3) := by decide +kernel
theorem dX9_isFree_82 : decode cX9_isFree 82 = .ok (.aload_n 0, 1) := by decide +kernel
theorem dX9_isFree_83 : decode cX9_isFree 83 = .ok (.iload_n 1, 1) := by decide +kernel
theorem dX9_isFree_84 : decode cX9_isFree 84 = .ok (.iconst 1, 1) := by decide +kernel
theorem dX9_isFree_85 : decode cX9_isFree 85 = .ok (.invokevirtual 228, 3) := by decide +kernel
theorem dX9_isFree_88 : decode cX9_isFree 88 = .ok (.if_icmp .eq 7, 3) := by decide +kernel
theorem dX9_isFree_91 : decode cX9_isFree 91 = .ok (.iconst 1, 1) := by decide +kernel
theorem dX9_isFree_92 : decode cX9_isFree 92 = .ok (.goto 4, 3) := by decide +kernel
theorem dX9_isFree_95 : decode cX9_isFree 95 = .ok (.iconst 0, 1) := by decide +kernel
theorem dX9_isFree_96 : decode cX9_isFree 96 = .ok (.istore_n 3, 1) := by decide +kernel
theorem dX9_isFree_97 : decode cX9_isFree 97 = .ok (.iinc 4 1, 3) := by decide +kernel
theorem dX9_isFree_100 : decode cX9_isFree 100 = .ok (.goto (-95), 3) := by decide +kernel
theorem dX9_isFree_103 : decode cX9_isFree 103 = .ok (.iload_n 3, 1) := by decide +kernel
theorem dX9_isFree_104 : decode cX9_isFree 104 = .ok (.ireturn, 1) := by decide +kernel
theorem dX9_goesCart_0 : decode cX9_goesCart 0 = .ok (.aload_n 0, 1) := by decide +kernel
theorem dX9_goesCart_1 : decode cX9_goesCart 1 = .ok (.iload_n 1, 1) := by decide +kernel
theorem dX9_goesCart_2 : decode cX9_goesCart 2 = .ok (.iconst 0, 1) := by decide +kernel
theorem dX9_goesCart_3 : decode cX9_goesCart 3 = .ok (.invokevirtual 228, 3) := by decide +kernel
theorem dX9_goesCart_6 : decode cX9_goesCart 6 = .ok (.iconst 2, 1) := by decide +kernel
theorem dX9_goesCart_7 : decode cX9_goesCart 7 = .ok (.if_icmp .ne 7, 3) := by decide +kernel
theorem dX9_goesCart_10 : decode cX9_goesCart 10 = .ok (.iconst 1, 1) := by decide +kernel
theorem dX9_goesCart_11 : decode cX9_goesCart 11 = .ok (.goto 4, 3) := by decide +kernel
theorem dX9_goesCart_14 : decode cX9_goesCart 14 = .ok (.iconst 0, 1) := by decide +kernel
theorem dX9_goesCart_15 : decode cX9_goesCart 15 = .ok (.istore_n 3, 1) := by decide +kernel
theorem dX9_goesCart_16 : decode cX9_goesCart 16 = .ok (.aload_n 0, 1) := by decide +kernel
theorem dX9_goesCart_17 : decode cX9_goesCart 17 = .ok (.getfield 50, 3) := by decide +kernel
theorem dX9_goesCart_20 : decode cX9_goesCart 20 = .ok (.iload_n 1, 1) := by decide +kernel
theorem dX9_goesCart_21 : decode cX9_goesCart 21 = .ok (.iaload, 1) := by decide +kernel
theorem dX9_goesCart_22 : decode cX9_goesCart 22 = .ok (.aload_n 0, 1) := by decide +kernel
theorem dX9_goesCart_23 : decode cX9_goesCart 23 = .ok (.iload_n 1, 1) := by decide +kernel
theorem dX9_goesCart_24 : decode cX9_goesCart 24 = .ok (.iconst 5, 1) := by decide +kernel
theorem dX9_goesCart_25 : decode cX9_goesCart 25 = .ok (.invokevirtual 228, 3) := by decide +kernel
theorem dX9_goesCart_28 : decode cX9_goesCart 28 = .ok (.if_icmp .eq 25, 3) := by decide +kernel
theorem dX9_goesCart_31 : decode cX9_goesCart 31 = .ok (.iload_n 2, 1) := by decide +kernel
theorem dX9_goesCart_32 : decode cX9_goesCart 32 = .ok (.aload_n 0, 1) := by decide +kernel
theorem dX9_goesCart_33 : decode cX9_goesCart 33 = .ok (.iload_n 1, 1) := by decide +kernel
theorem dX9_goesCart_34 : decode cX9_goesCart 34 = .ok (.bipush 6, 2) := by decide +kernel
theorem dX9_goesCart_36 : decode cX9_goesCart 36 = .ok (.invokevirtual 228, 3) := by decide +kernel
theorem dX9_goesCart_39 : decode cX9_goesCart 39 = .ok (.if_icmp .le 14, 3) := by decide +kernel
theorem dX9_goesCart_42 : decode cX9_goesCart 42 = .ok (.iload_n 3, 1) := by decide +kernel
theorem dX9_goesCart_43 : decode cX9_goesCart 43 = .ok (.ifCond .eq 11, 3) := by decide +kernel
theorem dX9_goesCart_46 : decode cX9_goesCart 46 = .ok (.iload_n 2, 1) := by decide +kernel
theorem dX9_goesCart_47 : decode cX9_goesCart 47 = .ok (.iconst 2, 1) := by decide +kernel
theorem dX9_goesCart_48 : decode cX9_goesCart 48 = .ok (.irem, 1) := by decide +kernel
theorem dX9_goesCart_49 : decode cX9_goesCart 49 = .ok (.iconst 1, 1) := by decide +kernel
theorem dX9_goesCart_50 : decode cX9_goesCart 50 = .ok (.if_icmp .ne 4, 3) := by decide +kernel
theorem dX9_goesCart_53 : decode cX9_goesCart 53 = .ok (.return_, 1) := by decide +kernel
theorem dX9_goesCart_54 : decode cX9_goesCart 54 = .ok (.aload_n 0, 1) := by decide +kernel
theorem dX9_goesCart_55 : decode cX9_goesCart 55 = .ok (.getfield 50, 3) := by decide +kernel
theorem dX9_goesCart_58 : decode cX9_goesCart 58 = .ok (.iload_n 1, 1) := by decide +kernel
theorem dX9_goesCart_59 : decode cX9_goesCart 59 = .ok (.iaload, 1) := by decide +kernel
theorem dX9_goesCart_60 : decode cX9_goesCart 60 = .ok (.aload_n 0, 1) := by decide +kernel
theorem dX9_goesCart_61 : decode cX9_goesCart 61 = .ok (.iload_n 1, 1) := by decide +kernel
theorem dX9_goesCart_62 : decode cX9_goesCart 62 = .ok (.iconst 5, 1) := by decide +kernel
theorem dX9_goesCart_63 : decode cX9_goesCart 63 = .ok (.invokevirtual 228, 3) := by decide +kernel
theorem dX9_goesCart_66 : decode cX9_goesCart 66 = .ok (.aload_n 0, 1) := by decide +kernel
theorem dX9_goesCart_67 : decode cX9_goesCart 67 = .ok (.getfield 50, 3) := by decide +kernel
theorem dX9_goesCart_70 : decode cX9_goesCart 70 = .ok (.iload_n 1, 1) := by decide +kernel
theorem dX9_goesCart_71 : decode cX9_goesCart 71 = .ok (.iaload, 1) := by decide +kernel
theorem dX9_goesCart_72 : decode cX9_goesCart 72 = .ok (.if_icmp .le 7, 3) := by decide +kernel
theorem dX9_goesCart_75 : decode cX9_goesCart 75 = .ok (.iconst 1, 1) := by decide +kernel
theorem dX9_goesCart_76 : decode cX9_goesCart 76 = .ok (.goto 4, 3) := by decide +kernel
theorem dX9_goesCart_79 : decode cX9_goesCart 79 = .ok (.iconst (-1), 1) := by decide +kernel
theorem dX9_goesCart_80 : decode cX9_goesCart 80 = .ok (.iadd, 1) := by decide +kernel
theorem dX9_goesCart_81 : decode cX9_goesCart 81 = .ok (.istore 4, 2) := by decide +kernel
theorem dX9_goesCart_83 : decode cX9_goesCart 83 = .ok (.iconst 3, 1) := by decide +kernel
theorem dX9_goesCart_84 : decode cX9_goesCart 84 = .ok (.iload 4, 2) := by decide +kernel
theorem dX9_goesCart_86 : decode cX9_goesCart 86 = .ok (.imul, 1) := by decide +kernel
theorem dX9_goesCart_87 : decode cX9_goesCart 87 = .ok (.aload_n 0, 1) := by decide +kernel
theorem dX9_goesCart_88 : decode cX9_goesCart 88 = .ok (.iload_n 1, 1) := by decide +kernel
theorem dX9_goesCart_89 : decode cX9_goesCart 89 = .ok (.iconst 1, 1) := by decide +kernel
theorem dX9_goesCart_90 : decode cX9_goesCart 90 = .ok (.invokevirtual 228, 3) := by decide +kernel
theorem dX9_goesCart_93 : decode cX9_goesCart 93 = .ok (.iadd, 1) := by decide +kernel
theorem dX9_goesCart_94 : decode cX9_goesCart 94 = .ok (.istore 5, 2) := by decide +kernel
theorem dX9_goesCart_96 : decode cX9_goesCart 96 = .ok (.iload_n 3, 1) := by decide +kernel
theorem dX9_goesCart_97 : decode cX9_goesCart 97 = .ok (.ifCond .ne 34, 3) := by decide +kernel
theorem dX9_goesCart_100 : decode cX9_goesCart 100 = .ok (.aload_n 0, 1) := by decide +kernel
theorem dX9_goesCart_101 : decode cX9_goesCart 101 = .ok (.iload 4, 2) := by decide +kernel
theorem dX9_goesCart_103 : decode cX9_goesCart 103 = .ok (.aload_n 0, 1) := by decide +kernel
theorem dX9_goesCart_104 : decode cX9_goesCart 104 = .ok (.iload_n 1, 1) := by decide +kernel
theorem dX9_goesCart_105 : decode cX9_goesCart 105 = .ok (.iconst 1, 1) := by decide +kernel
theorem dX9_goesCart_106 : decode cX9_goesCart 106 = .ok (.invokevirtual 228, 3) := by decide +kernel
theorem dX9_goesCart_109 : decode cX9_goesCart 109 = .ok (.invokevirtual 219, 3) := by decide +kernel
theorem dX9_goesCart_112 : decode cX9_goesCart 112 = .ok (.ifCond .eq 23, 3) := by decide +kernel
theorem dX9_goesCart_115 : decode cX9_goesCart 115 = .ok (.aload_n 0, 1) := by decide +kernel
theorem dX9_goesCart_116 : decode cX9_goesCart 116 = .ok (.getfield 62, 3) := by decide +kernel
theorem dX9_goesCart_119 : decode cX9_goesCart 119 = .ok (.iload 5, 2) := by decide +kernel
theorem dX9_goesCart_121 : decode cX9_goesCart 121 = .ok (.iaload, 1) := by decide +kernel
theorem dX9_goesCart_122 : decode cX9_goesCart 122 = .ok (.aload_n 0, 1) := by decide +kernel
theorem dX9_goesCart_123 : decode cX9_goesCart 123 = .ok (.iload_n 1, 1) := by decide +kernel
theorem dX9_goesCart_124 : decode cX9_goesCart 124 = .ok (.iconst 3, 1) := by decide +kernel
theorem dX9_goesCart_125 : decode cX9_goesCart 125 = .ok (.invokevirtual 228, 3) := by decide +kernel
theorem dX9_goesCart_128 : decode cX9_goesCart 128 = .ok (.if_icmp .gt 7, 3) := by decide +kernel
theorem dX9_goesCart_131 : decode cX9_goesCart 131 = .ok (.iconst 1, 1) := by decide +kernel
theorem dX9_goesCart_132 : decode cX9_goesCart 132 = .ok (.goto 4, 3) := by decide +kernel
theorem dX9_goesCart_135 : decode cX9_goesCart 135 = .ok (.iconst 0, 1) := by decide +kernel
theorem dX9_goesCart_136 : decode cX9_goesCart 136 = .ok (.istore 6, 2) := by decide +kernel
theorem dX9_goesCart_138 : decode cX9_goesCart 138 = .ok (.iload 6, 2) := by decide +kernel
theorem dX9_goesCart_140 : decode cX9_goesCart 140 = .ok (.ifCond .eq 13, 3) := by decide +kernel
theorem dX9_goesCart_143 : decode cX9_goesCart 143 = .ok (.aload_n 0, 1) := by decide +kernel
theorem dX9_goesCart_144 : decode cX9_goesCart 144 = .ok (.iload_n 1, 1) := by decide +kernel
theorem dX9_goesCart_145 : decode cX9_goesCart 145 = .ok (.iload 4, 2) := by decide +kernel
theorem dX9_goesCart_147 : decode cX9_goesCart 147 = .ok (.invokevirtual 246, 3) := by decide +kernel
theorem dX9_goesCart_150 : decode cX9_goesCart 150 = .ok (.ifCond .ne 26, 3) := by decide +kernel
theorem dX9_goesCart_153 : decode cX9_goesCart 153 = .ok (.aload_n 0, 1) := by decide +kernel
theorem dX9_goesCart_154 : decode cX9_goesCart 154 = .ok (.getfield 56, 3) := by decide +kernel
theorem dX9_goesCart_157 : decode cX9_goesCart 157 = .ok (.iload_n 1, 1) := by decide +kernel
theorem dX9_goesCart_158 : decode cX9_goesCart 158 = .ok (.dup2, 1) := by decide +kernel
theorem dX9_goesCart_159 : decode cX9_goesCart 159 = .ok (.iaload, 1) := by decide +kernel
theorem dX9_goesCart_160 : decode cX9_goesCart 160 = .ok (.iconst 1, 1) := by decide +kernel
theorem dX9_goesCart_161 : decode cX9_goesCart 161 = .ok (.iadd, 1) := by decide +kernel
theorem dX9_goesCart_162 : decode cX9_goesCart 162 = .ok (.iastore, 1) := by decide +kernel
theorem dX9_goesCart_163 : decode cX9_goesCart 163 = .ok (.aload_n 0, 1) := by decide +kernel
theorem dX9_goesCart_164 : decode cX9_goesCart 164 = .ok (.dup, 1) := by decide +kernel
theorem dX9_goesCart_165 : decode cX9_goesCart 165 = .ok (.getfield 249, 3) := by decide +kernel
theorem dX9_goesCart_168 : decode cX9_goesCart 168 = .ok (.iconst 1, 1) := by decide +kernel
theorem dX9_goesCart_169 : decode cX9_goesCart 169 = .ok (.iload_n 1, 1) := by decide +kernel
theorem dX9_goesCart_170 : decode cX9_goesCart 170 = .ok (.ishl, 1) := by decide +kernel
theorem dX9_goesCart_171 : decode cX9_goesCart 171 = .ok (.ior, 1) := by decide +kernel
theorem dX9_goesCart_172 : decode cX9_goesCart 172 = .ok (.putfield 249, 3) := by decide +kernel
theorem dX9_goesCart_175 : decode cX9_goesCart 175 = .ok (.return_, 1) := by decide +kernel
theorem dX9_goesCart_176 : decode cX9_goesCart 176 = .ok (.aload_n 0, 1) := by decide +kernel
theorem dX9_goesCart_177 : decode cX9_goesCart 177 = .ok (.getfield 50, 3) := by decide +kernel
theorem dX9_goesCart_180 : decode cX9_goesCart 180 = .ok (.iload_n 1, 1) := by decide +kernel
theorem dX9_goesCart_181 : decode cX9_goesCart 181 = .ok (.iload 4, 2) := by decide +kernel
theorem dX9_goesCart_183 : decode cX9_goesCart 183 = .ok (.iastore, 1) := by decide +kernel
theorem dX9_goesCart_184 : decode cX9_goesCart 184 = .ok (.iload_n 3, 1) := by decide +kernel
theorem dX9_goesCart_185 : decode cX9_goesCart 185 = .ok (.ifCond .eq 7, 3) := by decide +kernel
theorem dX9_goesCart_188 : decode cX9_goesCart 188 = .ok (.iconst 0, 1) := by decide +kernel
theorem dX9_goesCart_189 : decode cX9_goesCart 189 = .ok (.goto 30, 3) := by decide +kernel
theorem dX9_goesCart_192 : decode cX9_goesCart 192 = .ok (.aload_n 0, 1) := by decide +kernel
theorem dX9_goesCart_193 : decode cX9_goesCart 193 = .ok (.iload_n 1, 1) := by decide +kernel
theorem dX9_goesCart_194 : decode cX9_goesCart 194 = .ok (.iconst 0, 1) := by decide +kernel
theorem dX9_goesCart_195 : decode cX9_goesCart 195 = .ok (.invokevirtual 228, 3) := by decide +kernel
theorem dX9_goesCart_198 : decode cX9_goesCart 198 = .ok (.iconst 1, 1) := by decide +kernel
theorem dX9_goesCart_199 : decode cX9_goesCart 199 = .ok (.if_icmp .ne 14, 3) := by decide +kernel
theorem dX9_goesCart_202 : decode cX9_goesCart 202 = .ok (.iconst 2, 1) := by decide +kernel
theorem dX9_goesCart_203 : decode cX9_goesCart 203 = .ok (.aload_n 0, 1) := by decide +kernel
theorem dX9_goesCart_204 : decode cX9_goesCart 204 = .ok (.iload_n 1, 1) := by decide +kernel
theorem dX9_goesCart_205 : decode cX9_goesCart 205 = .ok (.iconst 2, 1) := by decide +kernel
theorem dX9_goesCart_206 : decode cX9_goesCart 206 = .ok (.invokevirtual 228, 3) := by decide +kernel
theorem dX9_goesCart_209 : decode cX9_goesCart 209 = .ok (.imul, 1) := by decide +kernel
theorem dX9_goesCart_210 : decode cX9_goesCart 210 = .ok (.goto 9, 3) := by decide +kernel
theorem dX9_goesCart_213 : decode cX9_goesCart 213 = .ok (.aload_n 0, 1) := by decide +kernel
theorem dX9_goesCart_214 : decode cX9_goesCart 214 = .ok (.iload_n 1, 1) := by decide +kernel
theorem dX9_goesCart_215 : decode cX9_goesCart 215 = .ok (.iconst 2, 1) := by decide +kernel
theorem dX9_goesCart_216 : decode cX9_goesCart 216 = .ok (.invokevirtual 228, 3) := by decide +kernel
theorem dX9_goesCart_219 : decode cX9_goesCart 219 = .ok (.istore 7, 2) := by decide +kernel
theorem dX9_goesCart_221 : decode cX9_goesCart 221 = .ok (.aload_n 0, 1) := by decide +kernel
theorem dX9_goesCart_222 : decode cX9_goesCart 222 = .ok (.getfield 62, 3) := by decide +kernel
theorem dX9_goesCart_225 : decode cX9_goesCart 225 = .ok (.iload 5, 2) := by decide +kernel
theorem dX9_goesCart_227 : decode cX9_goesCart 227 = .ok (.aload_n 0, 1) := by decide +kernel
theorem dX9_goesCart_228 : decode cX9_goesCart 228 = .ok (.getfield 62, 3) := by decide +kernel
theorem dX9_goesCart_231 : decode cX9_goesCart 231 = .ok (.iload 5, 2) := by decide +kernel
theorem dX9_goesCart_233 : decode cX9_goesCart 233 = .ok (.iaload, 1) := by decide +kernel
theorem dX9_goesCart_234 : decode cX9_goesCart 234 = .ok (.iload 7, 2) := by decide +kernel
theorem dX9_goesCart_236 : decode cX9_goesCart 236 = .ok (.iadd, 1) := by decide +kernel
theorem dX9_goesCart_237 : decode cX9_goesCart 237 = .ok (.bipush 99, 2) := by decide +kernel
theorem dX9_goesCart_239 : decode cX9_goesCart 239 = .ok (.if_icmp .le 8, 3) := by decide +kernel
theorem dX9_goesCart_242 : decode cX9_goesCart 242 = .ok (.bipush 99, 2) := by decide +kernel
theorem dX9_goesCart_244 : decode cX9_goesCart 244 = .ok (.goto 13, 3) := by decide +kernel
theorem dX9_goesCart_247 : decode cX9_goesCart 247 = .ok (.aload_n 0, 1) := by decide +kernel
theorem dX9_goesCart_248 : decode cX9_goesCart 248 = .ok (.getfield 62, 3) := by decide +kernel
theorem dX9_goesCart_251 : decode cX9_goesCart 251 = .ok (.iload 5, 2) := by decide +kernel
theorem dX9_goesCart_253 : decode cX9_goesCart 253 = .ok (.iaload, 1) := by decide +kernel
theorem dX9_goesCart_254 : decode cX9_goesCart 254 = .ok (.iload 7, 2) := by decide +kernel
theorem dX9_goesCart_256 : decode cX9_goesCart 256 = .ok (.iadd, 1) := by decide +kernel
theorem dX9_goesCart_257 : decode cX9_goesCart 257 = .ok (.iastore, 1) := by decide +kernel
theorem dX9_goesCart_258 : decode cX9_goesCart 258 = .ok (.aload_n 0, 1) := by decide +kernel
theorem dX9_goesCart_259 : decode cX9_goesCart 259 = .ok (.getfield 53, 3) := by decide +kernel
theorem dX9_goesCart_262 : decode cX9_goesCart 262 = .ok (.iload_n 1, 1) := by decide +kernel
theorem dX9_goesCart_263 : decode cX9_goesCart 263 = .ok (.dup2, 1) := by decide +kernel
theorem dX9_goesCart_264 : decode cX9_goesCart 264 = .ok (.iaload, 1) := by decide +kernel
theorem dX9_goesCart_265 : decode cX9_goesCart 265 = .ok (.aload_n 0, 1) := by decide +kernel
theorem dX9_goesCart_266 : decode cX9_goesCart 266 = .ok (.iload_n 1, 1) := by decide +kernel
theorem dX9_goesCart_267 : decode cX9_goesCart 267 = .ok (.iconst 0, 1) := by decide +kernel
theorem dX9_goesCart_268 : decode cX9_goesCart 268 = .ok (.invokevirtual 228, 3) := by decide +kernel
theorem dX9_goesCart_271 : decode cX9_goesCart 271 = .ok (.iconst 4, 1) := by decide +kernel
theorem dX9_goesCart_272 : decode cX9_goesCart 272 = .ok (.if_icmp .ne 7, 3) := by decide +kernel
theorem dX9_goesCart_275 : decode cX9_goesCart 275 = .ok (.iconst 0, 1) := by decide +kernel
theorem dX9_goesCart_276 : decode cX9_goesCart 276 = .ok (.goto 10, 3) := by decide +kernel
theorem dX9_goesCart_279 : decode cX9_goesCart 279 = .ok (.aload_n 0, 1) := by decide +kernel
theorem dX9_goesCart_280 : decode cX9_goesCart 280 = .ok (.getfield 26, 3) := by decide +kernel
theorem dX9_goesCart_283 : decode cX9_goesCart 283 = .ok (.iload 5, 2) := by decide +kernel
theorem dX9_goesCart_285 : decode cX9_goesCart 285 = .ok (.iaload, 1) := by decide +kernel
theorem dX9_goesCart_286 : decode cX9_goesCart 286 = .ok (.iadd, 1) := by decide +kernel
theorem dX9_goesCart_287 : decode cX9_goesCart 287 = .ok (.iastore, 1) := by decide +kernel
theorem dX9_goesCart_288 : decode cX9_goesCart 288 = .ok (.aload_n 0, 1) := by decide +kernel
theorem dX9_goesCart_289 : decode cX9_goesCart 289 = .ok (.getfield 59, 3) := by decide +kernel
theorem dX9_goesCart_292 : decode cX9_goesCart 292 = .ok (.iload_n 1, 1) := by decide +kernel
theorem dX9_goesCart_293 : decode cX9_goesCart 293 = .ok (.iload 4, 2) := by decide +kernel
theorem dX9_goesCart_295 : decode cX9_goesCart 295 = .ok (.aload_n 0, 1) := by decide +kernel
theorem dX9_goesCart_296 : decode cX9_goesCart 296 = .ok (.iload_n 1, 1) := by decide +kernel
theorem dX9_goesCart_297 : decode cX9_goesCart 297 = .ok (.iconst 5, 1) := by decide +kernel
theorem dX9_goesCart_298 : decode cX9_goesCart 298 = .ok (.invokevirtual 228, 3) := by decide +kernel
theorem dX9_goesCart_301 : decode cX9_goesCart 301 = .ok (.if_icmp .ne 7, 3) := by decide +kernel
theorem dX9_goesCart_304 : decode cX9_goesCart 304 = .ok (.iload_n 2, 1) := by decide +kernel
theorem dX9_goesCart_305 : decode cX9_goesCart 305 = .ok (.goto 5, 3) := by decide +kernel
theorem dX9_goesCart_308 : decode cX9_goesCart 308 = .ok (.bipush (-4), 2) := by decide +kernel
theorem dX9_goesCart_310 : decode cX9_goesCart 310 = .ok (.iastore, 1) := by decide +kernel
theorem dX9_goesCart_311 : decode cX9_goesCart 311 = .ok (.return_, 1) := by decide +kernel
theorem dX9_goesHour_0 : decode cX9_goesHour 0 = .ok (.aload_n 0, 1) := by decide +kernel
theorem dX9_goesHour_1 : decode cX9_goesHour 1 = .ok (.iconst 0, 1) := by decide +kernel
theorem dX9_goesHour_2 : decode cX9_goesHour 2 = .ok (.putfield 249, 3) := by decide +kernel
theorem dX9_goesHour_5 : decode cX9_goesHour 5 = .ok (.iconst 0, 1) := by decide +kernel
theorem dX9_goesHour_6 : decode cX9_goesHour 6 = .ok (.istore_n 2, 1) := by decide +kernel
theorem dX9_goesHour_7 : decode cX9_goesHour 7 = .ok (.iload_n 2, 1) := by decide +kernel
theorem dX9_goesHour_8 : decode cX9_goesHour 8 = .ok (.aload_n 0, 1) := by decide +kernel
theorem dX9_goesHour_9 : decode cX9_goesHour 9 = .ok (.getfield 7, 3) := by decide +kernel
theorem dX9_goesHour_12 : decode cX9_goesHour 12 = .ok (.iconst 0, 1) := by decide +kernel
theorem dX9_goesHour_13 : decode cX9_goesHour 13 = .ok (.iaload, 1) := by decide +kernel
theorem dX9_goesHour_14 : decode cX9_goesHour 14 = .ok (.if_icmp .ge 20, 3) := by decide +kernel
theorem dX9_goesHour_17 : decode cX9_goesHour 17 = .ok (.aload_n 0, 1) := by decide +kernel
theorem dX9_goesHour_18 : decode cX9_goesHour 18 = .ok (.aload_n 0, 1) := by decide +kernel
theorem dX9_goesHour_19 : decode cX9_goesHour 19 = .ok (.getfield 65, 3) := by decide +kernel
theorem dX9_goesHour_22 : decode cX9_goesHour 22 = .ok (.iload_n 2, 1) := by decide +kernel
theorem dX9_goesHour_23 : decode cX9_goesHour 23 = .ok (.iaload, 1) := by decide +kernel
theorem dX9_goesHour_24 : decode cX9_goesHour 24 = .ok (.iload_n 1, 1) := by decide +kernel
theorem dX9_goesHour_25 : decode cX9_goesHour 25 = .ok (.invokevirtual 252, 3) := by decide +kernel
theorem dX9_goesHour_28 : decode cX9_goesHour 28 = .ok (.iinc 2 1, 3) := by decide +kernel
theorem dX9_goesHour_31 : decode cX9_goesHour 31 = .ok (.goto (-24), 3) := by decide +kernel
theorem dX9_goesHour_34 : decode cX9_goesHour 34 = .ok (.iconst 0, 1) := by decide +kernel
theorem dX9_goesHour_35 : decode cX9_goesHour 35 = .ok (.istore_n 2, 1) := by decide +kernel
theorem dX9_goesHour_36 : decode cX9_goesHour 36 = .ok (.iload_n 2, 1) := by decide +kernel
theorem dX9_goesHour_37 : decode cX9_goesHour 37 = .ok (.bipush 63, 2) := by decide +kernel
theorem dX9_goesHour_39 : decode cX9_goesHour 39 = .ok (.if_icmp .ge 45, 3) := by decide +kernel
theorem dX9_goesHour_42 : decode cX9_goesHour 42 = .ok (.aload_n 0, 1) := by decide +kernel
theorem dX9_goesHour_43 : decode cX9_goesHour 43 = .ok (.getfield 7, 3) := by decide +kernel
theorem dX9_goesHour_46 : decode cX9_goesHour 46 = .ok (.bipush 99, 2) := by decide +kernel
theorem dX9_goesHour_48 : decode cX9_goesHour 48 = .ok (.iload_n 1, 1) := by decide +kernel
theorem dX9_goesHour_49 : decode cX9_goesHour 49 = .ok (.iadd, 1) := by decide +kernel
theorem dX9_goesHour_50 : decode cX9_goesHour 50 = .ok (.iaload, 1) := by decide +kernel
theorem dX9_goesHour_51 : decode cX9_goesHour 51 = .ok (.iconst 1, 1) := by decide +kernel
theorem dX9_goesHour_52 : decode cX9_goesHour 52 = .ok (.if_icmp .ne 32, 3) := by decide +kernel
theorem dX9_goesHour_55 : decode cX9_goesHour 55 = .ok (.aload_n 0, 1) := by decide +kernel
theorem dX9_goesHour_56 : decode cX9_goesHour 56 = .ok (.getfield 62, 3) := by decide +kernel
theorem dX9_goesHour_59 : decode cX9_goesHour 59 = .ok (.iload_n 2, 1) := by decide +kernel
theorem dX9_goesHour_60 : decode cX9_goesHour 60 = .ok (.dup2, 1) := by decide +kernel
theorem dX9_goesHour_61 : decode cX9_goesHour 61 = .ok (.iaload, 1) := by decide +kernel
theorem dX9_goesHour_62 : decode cX9_goesHour 62 = .ok (.aload_n 0, 1) := by decide +kernel
theorem dX9_goesHour_63 : decode cX9_goesHour 63 = .ok (.getfield 62, 3) := by decide +kernel
theorem dX9_goesHour_66 : decode cX9_goesHour 66 = .ok (.iload_n 2, 1) := by decide +kernel
theorem dX9_goesHour_67 : decode cX9_goesHour 67 = .ok (.iaload, 1) := by decide +kernel
theorem dX9_goesHour_68 : decode cX9_goesHour 68 = .ok (.ifCond .le 7, 3) := by decide +kernel
theorem dX9_goesHour_71 : decode cX9_goesHour 71 = .ok (.iconst 1, 1) := by decide +kernel
theorem dX9_goesHour_72 : decode cX9_goesHour 72 = .ok (.goto 4, 3) := by decide +kernel
theorem dX9_goesHour_75 : decode cX9_goesHour 75 = .ok (.iconst 0, 1) := by decide +kernel
theorem dX9_goesHour_76 : decode cX9_goesHour 76 = .ok (.isub, 1) := by decide +kernel
theorem dX9_goesHour_77 : decode cX9_goesHour 77 = .ok (.iastore, 1) := by decide +kernel
theorem dX9_goesHour_78 : decode cX9_goesHour 78 = .ok (.iinc 2 1, 3) := by decide +kernel
theorem dX9_goesHour_81 : decode cX9_goesHour 81 = .ok (.goto (-45), 3) := by decide +kernel
theorem dX9_goesHour_84 : decode cX9_goesHour 84 = .ok (.return_, 1) := by decide +kernel
theorem dX9_runs_0 : decode cX9_runs 0 = .ok (.aload_n 0, 1) := by decide +kernel
theorem dX9_runs_1 : decode cX9_runs 1 = .ok (.invokevirtual 256, 3) := by decide +kernel
theorem dX9_runs_4 : decode cX9_runs 4 = .ok (.iconst 1, 1) := by decide +kernel
theorem dX9_runs_5 : decode cX9_runs 5 = .ok (.istore_n 2, 1) := by decide +kernel
theorem dX9_runs_6 : decode cX9_runs 6 = .ok (.iload_n 2, 1) := by decide +kernel
theorem dX9_runs_7 : decode cX9_runs 7 = .ok (.iload_n 1, 1) := by decide +kernel
theorem dX9_runs_8 : decode cX9_runs 8 = .ok (.if_icmp .gt 14, 3) := by decide +kernel
theorem dX9_runs_11 : decode cX9_runs 11 = .ok (.aload_n 0, 1) := by decide +kernel
theorem dX9_runs_12 : decode cX9_runs 12 = .ok (.iload_n 2, 1) := by decide +kernel
theorem dX9_runs_13 : decode cX9_runs 13 = .ok (.invokevirtual 259, 3) := by decide +kernel
theorem dX9_runs_16 : decode cX9_runs 16 = .ok (.iinc 2 1, 3) := by decide +kernel
theorem dX9_runs_19 : decode cX9_runs 19 = .ok (.goto (-13), 3) := by decide +kernel
theorem dX9_runs_22 : decode cX9_runs 22 = .ok (.return_, 1) := by decide +kernel
theorem dX9_isTime_0 : decode cX9_isTime 0 = .ok (.iload_n 0, 1) := by decide +kernel
theorem dX9_isTime_1 : decode cX9_isTime 1 = .ok (.i2l, 1) := by decide +kernel
theorem dX9_isTime_2 : decode cX9_isTime 2 = .ok (.lconst 0, 1) := by decide +kernel
theorem dX9_isTime_3 : decode cX9_isTime 3 = .ok (.ldc2_w 231, 3) := by decide +kernel
theorem dX9_isTime_6 : decode cX9_isTime 6 = .ok (.invokestatic 117, 3) := by decide +kernel
theorem dX9_isTime_9 : decode cX9_isTime 9 = .ok (.ireturn, 1) := by decide +kernel
theorem dX9_where_0 : decode cX9_where 0 = .ok (.aload_n 0, 1) := by decide +kernel
theorem dX9_where_1 : decode cX9_where 1 = .ok (.iload_n 1, 1) := by decide +kernel
theorem dX9_where_2 : decode cX9_where 2 = .ok (.invokevirtual 223, 3) := by decide +kernel
theorem dX9_where_5 : decode cX9_where 5 = .ok (.ifCond .eq 10, 3) := by decide +kernel
theorem dX9_where_8 : decode cX9_where 8 = .ok (.iload_n 2, 1) := by decide +kernel
theorem dX9_where_9 : decode cX9_where 9 = .ok (.invokestatic 262, 3) := by decide +kernel
theorem dX9_where_12 : decode cX9_where 12 = .ok (.ifCond .ne 5, 3) := by decide +kernel
theorem dX9_where_15 : decode cX9_where 15 = .ok (.iconst (-1), 1) := by decide +kernel
theorem dX9_where_16 : decode cX9_where 16 = .ok (.ireturn, 1) := by decide +kernel
theorem dX9_where_17 : decode cX9_where 17 = .ok (.aload_n 0, 1) := by decide +kernel
theorem dX9_where_18 : decode cX9_where 18 = .ok (.invokevirtual 265, 3) := by decide +kernel
theorem dX9_where_21 : decode cX9_where 21 = .ok (.aload_n 0, 1) := by decide +kernel
theorem dX9_where_22 : decode cX9_where 22 = .ok (.iload_n 2, 1) := by decide +kernel
theorem dX9_where_23 : decode cX9_where 23 = .ok (.invokevirtual 268, 3) := by decide +kernel
theorem dX9_where_26 : decode cX9_where 26 = .ok (.aload_n 0, 1) := by decide +kernel
theorem dX9_where_27 : decode cX9_where 27 = .ok (.getfield 50, 3) := by decide +kernel
theorem dX9_where_30 : decode cX9_where 30 = .ok (.iload_n 1, 1) := by decide +kernel
theorem dX9_where_31 : decode cX9_where 31 = .ok (.iaload, 1) := by decide +kernel
theorem dX9_where_32 : decode cX9_where 32 = .ok (.ireturn, 1) := by decide +kernel
theorem dX9_depth_0 : decode cX9_depth 0 = .ok (.aload_n 0, 1) := by decide +kernel
theorem dX9_depth_1 : decode cX9_depth 1 = .ok (.iload_n 1, 1) := by decide +kernel
theorem dX9_depth_2 : decode cX9_depth 2 = .ok (.invokevirtual 211, 3) := by decide +kernel
theorem dX9_depth_5 : decode cX9_depth 5 = .ok (.ifCond .eq 17, 3) := by decide +kernel
theorem dX9_depth_8 : decode cX9_depth 8 = .ok (.iload_n 2, 1) := by decide +kernel
theorem dX9_depth_9 : decode cX9_depth 9 = .ok (.invokestatic 236, 3) := by decide +kernel
theorem dX9_depth_12 : decode cX9_depth 12 = .ok (.ifCond .eq 10, 3) := by decide +kernel
theorem dX9_depth_15 : decode cX9_depth 15 = .ok (.iload_n 3, 1) := by decide +kernel
theorem dX9_depth_16 : decode cX9_depth 16 = .ok (.invokestatic 262, 3) := by decide +kernel
theorem dX9_depth_19 : decode cX9_depth 19 = .ok (.ifCond .ne 5, 3) := by decide +kernel
theorem dX9_depth_22 : decode cX9_depth 22 = .ok (.iconst (-1), 1) := by decide +kernel
theorem dX9_depth_23 : decode cX9_depth 23 = .ok (.ireturn, 1) := by decide +kernel
theorem dX9_depth_24 : decode cX9_depth 24 = .ok (.aload_n 0, 1) := by decide +kernel
theorem dX9_depth_25 : decode cX9_depth 25 = .ok (.iload_n 1, 1) := by decide +kernel
theorem dX9_depth_26 : decode cX9_depth 26 = .ok (.iload_n 2, 1) := by decide +kernel
theorem dX9_depth_27 : decode cX9_depth 27 = .ok (.invokevirtual 219, 3) := by decide +kernel
theorem dX9_depth_30 : decode cX9_depth 30 = .ok (.ifCond .ne 6, 3) := by decide +kernel
theorem dX9_depth_33 : decode cX9_depth 33 = .ok (.bipush (-4), 2) := by decide +kernel
theorem dX9_depth_35 : decode cX9_depth 35 = .ok (.ireturn, 1) := by decide +kernel
theorem dX9_depth_36 : decode cX9_depth 36 = .ok (.aload_n 0, 1) := by decide +kernel
theorem dX9_depth_37 : decode cX9_depth 37 = .ok (.invokevirtual 265, 3) := by decide +kernel
theorem dX9_depth_40 : decode cX9_depth 40 = .ok (.aload_n 0, 1) := by decide +kernel
theorem dX9_depth_41 : decode cX9_depth 41 = .ok (.iload_n 3, 1) := by decide +kernel
theorem dX9_depth_42 : decode cX9_depth 42 = .ok (.invokevirtual 268, 3) := by decide +kernel
theorem dX9_depth_45 : decode cX9_depth 45 = .ok (.aload_n 0, 1) := by decide +kernel
theorem dX9_depth_46 : decode cX9_depth 46 = .ok (.getfield 62, 3) := by decide +kernel
theorem dX9_depth_49 : decode cX9_depth 49 = .ok (.iconst 3, 1) := by decide +kernel
theorem dX9_depth_50 : decode cX9_depth 50 = .ok (.iload_n 1, 1) := by decide +kernel
theorem dX9_depth_51 : decode cX9_depth 51 = .ok (.imul, 1) := by decide +kernel
theorem dX9_depth_52 : decode cX9_depth 52 = .ok (.iload_n 2, 1) := by decide +kernel
theorem dX9_depth_53 : decode cX9_depth 53 = .ok (.iadd, 1) := by decide +kernel
theorem dX9_depth_54 : decode cX9_depth 54 = .ok (.iaload, 1) := by decide +kernel
theorem dX9_depth_55 : decode cX9_depth 55 = .ok (.ireturn, 1) := by decide +kernel
theorem dX9_paid_0 : decode cX9_paid 0 = .ok (.aload_n 0, 1) := by decide +kernel
theorem dX9_paid_1 : decode cX9_paid 1 = .ok (.iload_n 1, 1) := by decide +kernel
theorem dX9_paid_2 : decode cX9_paid 2 = .ok (.invokevirtual 223, 3) := by decide +kernel
theorem dX9_paid_5 : decode cX9_paid 5 = .ok (.ifCond .eq 10, 3) := by decide +kernel
theorem dX9_paid_8 : decode cX9_paid 8 = .ok (.iload_n 2, 1) := by decide +kernel
theorem dX9_paid_9 : decode cX9_paid 9 = .ok (.invokestatic 262, 3) := by decide +kernel
theorem dX9_paid_12 : decode cX9_paid 12 = .ok (.ifCond .ne 5, 3) := by decide +kernel
theorem dX9_paid_15 : decode cX9_paid 15 = .ok (.iconst (-1), 1) := by decide +kernel
theorem dX9_paid_16 : decode cX9_paid 16 = .ok (.ireturn, 1) := by decide +kernel
theorem dX9_paid_17 : decode cX9_paid 17 = .ok (.aload_n 0, 1) := by decide +kernel
theorem dX9_paid_18 : decode cX9_paid 18 = .ok (.invokevirtual 265, 3) := by decide +kernel
theorem dX9_paid_21 : decode cX9_paid 21 = .ok (.aload_n 0, 1) := by decide +kernel
theorem dX9_paid_22 : decode cX9_paid 22 = .ok (.iload_n 2, 1) := by decide +kernel
theorem dX9_paid_23 : decode cX9_paid 23 = .ok (.invokevirtual 268, 3) := by decide +kernel
theorem dX9_paid_26 : decode cX9_paid 26 = .ok (.aload_n 0, 1) := by decide +kernel
theorem dX9_paid_27 : decode cX9_paid 27 = .ok (.getfield 53, 3) := by decide +kernel
theorem dX9_paid_30 : decode cX9_paid 30 = .ok (.iload_n 1, 1) := by decide +kernel
theorem dX9_paid_31 : decode cX9_paid 31 = .ok (.iaload, 1) := by decide +kernel
theorem dX9_paid_32 : decode cX9_paid 32 = .ok (.ireturn, 1) := by decide +kernel
theorem dX9_waited_0 : decode cX9_waited 0 = .ok (.aload_n 0, 1) := by decide +kernel
theorem dX9_waited_1 : decode cX9_waited 1 = .ok (.iload_n 1, 1) := by decide +kernel
theorem dX9_waited_2 : decode cX9_waited 2 = .ok (.invokevirtual 223, 3) := by decide +kernel
theorem dX9_waited_5 : decode cX9_waited 5 = .ok (.ifCond .eq 10, 3) := by decide +kernel
theorem dX9_waited_8 : decode cX9_waited 8 = .ok (.iload_n 2, 1) := by decide +kernel
theorem dX9_waited_9 : decode cX9_waited 9 = .ok (.invokestatic 262, 3) := by decide +kernel
theorem dX9_waited_12 : decode cX9_waited 12 = .ok (.ifCond .ne 5, 3) := by decide +kernel
theorem dX9_waited_15 : decode cX9_waited 15 = .ok (.iconst (-1), 1) := by decide +kernel
theorem dX9_waited_16 : decode cX9_waited 16 = .ok (.ireturn, 1) := by decide +kernel
theorem dX9_waited_17 : decode cX9_waited 17 = .ok (.aload_n 0, 1) := by decide +kernel
theorem dX9_waited_18 : decode cX9_waited 18 = .ok (.invokevirtual 265, 3) := by decide +kernel
theorem dX9_waited_21 : decode cX9_waited 21 = .ok (.aload_n 0, 1) := by decide +kernel
theorem dX9_waited_22 : decode cX9_waited 22 = .ok (.iload_n 2, 1) := by decide +kernel
theorem dX9_waited_23 : decode cX9_waited 23 = .ok (.invokevirtual 268, 3) := by decide +kernel
theorem dX9_waited_26 : decode cX9_waited 26 = .ok (.aload_n 0, 1) := by decide +kernel
theorem dX9_waited_27 : decode cX9_waited 27 = .ok (.getfield 56, 3) := by decide +kernel
theorem dX9_waited_30 : decode cX9_waited 30 = .ok (.iload_n 1, 1) := by decide +kernel
theorem dX9_waited_31 : decode cX9_waited 31 = .ok (.iaload, 1) := by decide +kernel
theorem dX9_waited_32 : decode cX9_waited 32 = .ok (.ireturn, 1) := by decide +kernel
theorem dX9_done_0 : decode cX9_done 0 = .ok (.aload_n 0, 1) := by decide +kernel
theorem dX9_done_1 : decode cX9_done 1 = .ok (.iload_n 1, 1) := by decide +kernel
theorem dX9_done_2 : decode cX9_done 2 = .ok (.invokevirtual 223, 3) := by decide +kernel
theorem dX9_done_5 : decode cX9_done 5 = .ok (.ifCond .ne 5, 3) := by decide +kernel
theorem dX9_done_8 : decode cX9_done 8 = .ok (.iconst (-1), 1) := by decide +kernel
theorem dX9_done_9 : decode cX9_done 9 = .ok (.ireturn, 1) := by decide +kernel
theorem dX9_done_10 : decode cX9_done 10 = .ok (.aload_n 0, 1) := by decide +kernel
theorem dX9_done_11 : decode cX9_done 11 = .ok (.invokevirtual 265, 3) := by decide +kernel
theorem dX9_done_14 : decode cX9_done 14 = .ok (.aload_n 0, 1) := by decide +kernel
theorem dX9_done_15 : decode cX9_done 15 = .ok (.bipush 60, 2) := by decide +kernel
theorem dX9_done_17 : decode cX9_done 17 = .ok (.invokevirtual 268, 3) := by decide +kernel
theorem dX9_done_20 : decode cX9_done 20 = .ok (.aload_n 0, 1) := by decide +kernel
theorem dX9_done_21 : decode cX9_done 21 = .ok (.getfield 59, 3) := by decide +kernel
theorem dX9_done_24 : decode cX9_done 24 = .ok (.iload_n 1, 1) := by decide +kernel
theorem dX9_done_25 : decode cX9_done 25 = .ok (.iaload, 1) := by decide +kernel
theorem dX9_done_26 : decode cX9_done 26 = .ok (.ireturn, 1) := by decide +kernel
theorem dX9_jam_0 : decode cX9_jam 0 = .ok (.iload_n 1, 1) := by decide +kernel
theorem dX9_jam_1 : decode cX9_jam 1 = .ok (.invokestatic 233, 3) := by decide +kernel
theorem dX9_jam_4 : decode cX9_jam 4 = .ok (.ifCond .ne 5, 3) := by decide +kernel
theorem dX9_jam_7 : decode cX9_jam 7 = .ok (.iconst (-1), 1) := by decide +kernel
theorem dX9_jam_8 : decode cX9_jam 8 = .ok (.ireturn, 1) := by decide +kernel
theorem dX9_jam_9 : decode cX9_jam 9 = .ok (.aload_n 0, 1) := by decide +kernel
theorem dX9_jam_10 : decode cX9_jam 10 = .ok (.invokevirtual 265, 3) := by decide +kernel
theorem dX9_jam_13 : decode cX9_jam 13 = .ok (.aload_n 0, 1) := by decide +kernel
theorem dX9_jam_14 : decode cX9_jam 14 = .ok (.iload_n 1, 1) := by decide +kernel
theorem dX9_jam_15 : decode cX9_jam 15 = .ok (.invokevirtual 268, 3) := by decide +kernel
theorem dX9_jam_18 : decode cX9_jam 18 = .ok (.aload_n 0, 1) := by decide +kernel
theorem dX9_jam_19 : decode cX9_jam 19 = .ok (.getfield 249, 3) := by decide +kernel
theorem dX9_jam_22 : decode cX9_jam 22 = .ok (.ireturn, 1) := by decide +kernel
theorem dX9_deepest_0 : decode cX9_deepest 0 = .ok (.iload_n 1, 1) := by decide +kernel
theorem dX9_deepest_1 : decode cX9_deepest 1 = .ok (.invokestatic 262, 3) := by decide +kernel
theorem dX9_deepest_4 : decode cX9_deepest 4 = .ok (.ifCond .eq 13, 3) := by decide +kernel
theorem dX9_deepest_7 : decode cX9_deepest 7 = .ok (.iload_n 2, 1) := by decide +kernel
theorem dX9_deepest_8 : decode cX9_deepest 8 = .ok (.i2l, 1) := by decide +kernel
theorem dX9_deepest_9 : decode cX9_deepest 9 = .ok (.lconst 0, 1) := by decide +kernel
theorem dX9_deepest_10 : decode cX9_deepest 10 = .ok (.lconst 1, 1) := by decide +kernel
theorem dX9_deepest_11 : decode cX9_deepest 11 = .ok (.invokestatic 117, 3) := by decide +kernel
theorem dX9_deepest_14 : decode cX9_deepest 14 = .ok (.ifCond .ne 5, 3) := by decide +kernel
theorem dX9_deepest_17 : decode cX9_deepest 17 = .ok (.iconst (-1), 1) := by decide +kernel
theorem dX9_deepest_18 : decode cX9_deepest 18 = .ok (.ireturn, 1) := by decide +kernel
theorem dX9_deepest_19 : decode cX9_deepest 19 = .ok (.aload_n 0, 1) := by decide +kernel
theorem dX9_deepest_20 : decode cX9_deepest 20 = .ok (.invokevirtual 265, 3) := by decide +kernel
theorem dX9_deepest_23 : decode cX9_deepest 23 = .ok (.aload_n 0, 1) := by decide +kernel
theorem dX9_deepest_24 : decode cX9_deepest 24 = .ok (.iload_n 1, 1) := by decide +kernel
theorem dX9_deepest_25 : decode cX9_deepest 25 = .ok (.invokevirtual 268, 3) := by decide +kernel
theorem dX9_deepest_28 : decode cX9_deepest 28 = .ok (.bipush (-4), 2) := by decide +kernel
theorem dX9_deepest_30 : decode cX9_deepest 30 = .ok (.istore_n 3, 1) := by decide +kernel
theorem dX9_deepest_31 : decode cX9_deepest 31 = .ok (.iconst 0, 1) := by decide +kernel
theorem dX9_deepest_32 : decode cX9_deepest 32 = .ok (.istore 4, 2) := by decide +kernel
theorem dX9_deepest_34 : decode cX9_deepest 34 = .ok (.iload 4, 2) := by decide +kernel
theorem dX9_deepest_36 : decode cX9_deepest 36 = .ok (.iconst 3, 1) := by decide +kernel
theorem dX9_deepest_37 : decode cX9_deepest 37 = .ok (.aload_n 0, 1) := by decide +kernel
theorem dX9_deepest_38 : decode cX9_deepest 38 = .ok (.getfield 109, 3) := by decide +kernel
theorem dX9_deepest_41 : decode cX9_deepest 41 = .ok (.imul, 1) := by decide +kernel
theorem dX9_deepest_42 : decode cX9_deepest 42 = .ok (.iconst 3, 1) := by decide +kernel
theorem dX9_deepest_43 : decode cX9_deepest 43 = .ok (.iadd, 1) := by decide +kernel
theorem dX9_deepest_44 : decode cX9_deepest 44 = .ok (.if_icmp .ge 49, 3) := by decide +kernel
theorem dX9_deepest_47 : decode cX9_deepest 47 = .ok (.aload_n 0, 1) := by decide +kernel
theorem dX9_deepest_48 : decode cX9_deepest 48 = .ok (.iload 4, 2) := by decide +kernel
theorem dX9_deepest_50 : decode cX9_deepest 50 = .ok (.iconst 3, 1) := by decide +kernel
theorem dX9_deepest_51 : decode cX9_deepest 51 = .ok (.idiv, 1) := by decide +kernel
theorem dX9_deepest_52 : decode cX9_deepest 52 = .ok (.iload 4, 2) := by decide +kernel
theorem dX9_deepest_54 : decode cX9_deepest 54 = .ok (.iconst 3, 1) := by decide +kernel
theorem dX9_deepest_55 : decode cX9_deepest 55 = .ok (.irem, 1) := by decide +kernel
theorem dX9_deepest_56 : decode cX9_deepest 56 = .ok (.invokevirtual 219, 3) := by decide +kernel
theorem dX9_deepest_59 : decode cX9_deepest 59 = .ok (.ifCond .eq 28, 3) := by decide +kernel
theorem dX9_deepest_62 : decode cX9_deepest 62 = .ok (.iload_n 3, 1) := by decide +kernel
theorem dX9_deepest_63 : decode cX9_deepest 63 = .ok (.bipush (-4), 2) := by decide +kernel
theorem dX9_deepest_65 : decode cX9_deepest 65 = .ok (.if_icmp .eq 19, 3) := by decide +kernel
theorem dX9_deepest_68 : decode cX9_deepest 68 = .ok (.aload_n 0, 1) := by decide +kernel
theorem dX9_deepest_69 : decode cX9_deepest 69 = .ok (.getfield 62, 3) := by decide +kernel
theorem dX9_deepest_72 : decode cX9_deepest 72 = .ok (.iload 4, 2) := by decide +kernel
theorem dX9_deepest_74 : decode cX9_deepest 74 = .ok (.iaload, 1) := by decide +kernel
theorem dX9_deepest_75 : decode cX9_deepest 75 = .ok (.aload_n 0, 1) := by decide +kernel
theorem dX9_deepest_76 : decode cX9_deepest 76 = .ok (.getfield 62, 3) := by decide +kernel
theorem dX9_deepest_79 : decode cX9_deepest 79 = .ok (.iload_n 3, 1) := by decide +kernel
theorem dX9_deepest_80 : decode cX9_deepest 80 = .ok (.iaload, 1) := by decide +kernel
theorem dX9_deepest_81 : decode cX9_deepest 81 = .ok (.if_icmp .le 6, 3) := by decide +kernel
theorem dX9_deepest_84 : decode cX9_deepest 84 = .ok (.iload 4, 2) := by decide +kernel
theorem dX9_deepest_86 : decode cX9_deepest 86 = .ok (.istore_n 3, 1) := by decide +kernel
theorem dX9_deepest_87 : decode cX9_deepest 87 = .ok (.iinc 4 1, 3) := by decide +kernel
theorem dX9_deepest_90 : decode cX9_deepest 90 = .ok (.goto (-56), 3) := by decide +kernel
theorem dX9_deepest_93 : decode cX9_deepest 93 = .ok (.iload_n 2, 1) := by decide +kernel
theorem dX9_deepest_94 : decode cX9_deepest 94 = .ok (.ifCond .ne 12, 3) := by decide +kernel
theorem dX9_deepest_97 : decode cX9_deepest 97 = .ok (.aload_n 0, 1) := by decide +kernel
theorem dX9_deepest_98 : decode cX9_deepest 98 = .ok (.getfield 62, 3) := by decide +kernel
theorem dX9_deepest_101 : decode cX9_deepest 101 = .ok (.iload_n 3, 1) := by decide +kernel
theorem dX9_deepest_102 : decode cX9_deepest 102 = .ok (.iaload, 1) := by decide +kernel
theorem dX9_deepest_103 : decode cX9_deepest 103 = .ok (.goto 4, 3) := by decide +kernel
theorem dX9_deepest_106 : decode cX9_deepest 106 = .ok (.iload_n 3, 1) := by decide +kernel
theorem dX9_deepest_107 : decode cX9_deepest 107 = .ok (.ireturn, 1) := by decide +kernel
theorem dX9_go_0 : decode cX9_go 0 = .ok (.iload_n 1, 1) := by decide +kernel
theorem dX9_go_1 : decode cX9_go 1 = .ok (.invokestatic 262, 3) := by decide +kernel
theorem dX9_go_4 : decode cX9_go 4 = .ok (.ifCond .ne 5, 3) := by decide +kernel
theorem dX9_go_7 : decode cX9_go 7 = .ok (.iconst (-1), 1) := by decide +kernel
theorem dX9_go_8 : decode cX9_go 8 = .ok (.ireturn, 1) := by decide +kernel
theorem dX9_go_9 : decode cX9_go 9 = .ok (.aload_n 0, 1) := by decide +kernel
theorem dX9_go_10 : decode cX9_go 10 = .ok (.invokevirtual 265, 3) := by decide +kernel
theorem dX9_go_13 : decode cX9_go 13 = .ok (.aload_n 0, 1) := by decide +kernel
theorem dX9_go_14 : decode cX9_go 14 = .ok (.iload_n 1, 1) := by decide +kernel
theorem dX9_go_15 : decode cX9_go 15 = .ok (.invokevirtual 268, 3) := by decide +kernel
theorem dX9_go_18 : decode cX9_go 18 = .ok (.iconst 0, 1) := by decide +kernel
theorem dX9_go_19 : decode cX9_go 19 = .ok (.istore_n 2, 1) := by decide +kernel
theorem dX9_go_20 : decode cX9_go 20 = .ok (.iconst 0, 1) := by decide +kernel
theorem dX9_go_21 : decode cX9_go 21 = .ok (.istore_n 3, 1) := by decide +kernel
theorem dX9_go_22 : decode cX9_go 22 = .ok (.iload_n 3, 1) := by decide +kernel
theorem dX9_go_23 : decode cX9_go 23 = .ok (.aload_n 0, 1) := by decide +kernel
theorem dX9_go_24 : decode cX9_go 24 = .ok (.getfield 7, 3) := by decide +kernel
theorem dX9_go_27 : decode cX9_go 27 = .ok (.iconst 0, 1) := by decide +kernel
theorem dX9_go_28 : decode cX9_go 28 = .ok (.iaload, 1) := by decide +kernel
theorem dX9_go_29 : decode cX9_go 29 = .ok (.if_icmp .ge 105, 3) := by decide +kernel
theorem dX9_go_32 : decode cX9_go 32 = .ok (.aload_n 0, 1) := by decide +kernel
theorem dX9_go_33 : decode cX9_go 33 = .ok (.getfield 50, 3) := by decide +kernel
theorem dX9_go_36 : decode cX9_go 36 = .ok (.iload_n 3, 1) := by decide +kernel
theorem dX9_go_37 : decode cX9_go 37 = .ok (.iaload, 1) := by decide +kernel
theorem dX9_go_38 : decode cX9_go 38 = .ok (.aload_n 0, 1) := by decide +kernel
theorem dX9_go_39 : decode cX9_go 39 = .ok (.iload_n 3, 1) := by decide +kernel
theorem dX9_go_40 : decode cX9_go 40 = .ok (.iconst 5, 1) := by decide +kernel
theorem dX9_go_41 : decode cX9_go 41 = .ok (.invokevirtual 228, 3) := by decide +kernel
theorem dX9_go_44 : decode cX9_go 44 = .ok (.if_icmp .eq 84, 3) := by decide +kernel
theorem dX9_go_47 : decode cX9_go 47 = .ok (.iconst 0, 1) := by decide +kernel
theorem dX9_go_48 : decode cX9_go 48 = .ok (.istore 4, 2) := by decide +kernel
theorem dX9_go_50 : decode cX9_go 50 = .ok (.iload 4, 2) := by decide +kernel
theorem dX9_go_52 : decode cX9_go 52 = .ok (.bipush 7, 2) := by decide +kernel
theorem dX9_go_54 : decode cX9_go 54 = .ok (.if_icmp .ge 37, 3) := by decide +kernel
theorem dX9_go_57 : decode cX9_go 57 = .ok (.aload_n 0, 1) := by decide +kernel
theorem dX9_go_58 : decode cX9_go 58 = .ok (.getfield 7, 3) := by decide +kernel
theorem dX9_go_61 : decode cX9_go 61 = .ok (.iconst 1, 1) := by decide +kernel
theorem dX9_go_62 : decode cX9_go 62 = .ok (.bipush 7, 2) := by decide +kernel
theorem dX9_go_64 : decode cX9_go 64 = .ok (.iload_n 2, 1) := by decide +kernel
theorem dX9_go_65 : decode cX9_go 65 = .ok (.imul, 1) := by decide +kernel
theorem dX9_go_66 : decode cX9_go 66 = .ok (.iadd, 1) := by decide +kernel
theorem dX9_go_67 : decode cX9_go 67 = .ok (.iload 4, 2) := by decide +kernel
theorem dX9_go_69 : decode cX9_go 69 = .ok (.iadd, 1) := by decide +kernel
theorem dX9_go_70 : decode cX9_go 70 = .ok (.aload_n 0, 1) := by decide +kernel
theorem dX9_go_71 : decode cX9_go 71 = .ok (.getfield 7, 3) := by decide +kernel
theorem dX9_go_74 : decode cX9_go 74 = .ok (.iconst 1, 1) := by decide +kernel
theorem dX9_go_75 : decode cX9_go 75 = .ok (.bipush 7, 2) := by decide +kernel
theorem dX9_go_77 : decode cX9_go 77 = .ok (.iload_n 3, 1) := by decide +kernel
theorem dX9_go_78 : decode cX9_go 78 = .ok (.imul, 1) := by decide +kernel
theorem dX9_go_79 : decode cX9_go 79 = .ok (.iadd, 1) := by decide +kernel
theorem dX9_go_80 : decode cX9_go 80 = .ok (.iload 4, 2) := by decide +kernel
theorem dX9_go_82 : decode cX9_go 82 = .ok (.iadd, 1) := by decide +kernel
theorem dX9_go_83 : decode cX9_go 83 = .ok (.iaload, 1) := by decide +kernel
theorem dX9_go_84 : decode cX9_go 84 = .ok (.iastore, 1) := by decide +kernel
theorem dX9_go_85 : decode cX9_go 85 = .ok (.iinc 4 1, 3) := by decide +kernel
theorem dX9_go_88 : decode cX9_go 88 = .ok (.goto (-38), 3) := by decide +kernel
theorem dX9_go_91 : decode cX9_go 91 = .ok (.aload_n 0, 1) := by decide +kernel
theorem dX9_go_92 : decode cX9_go 92 = .ok (.getfield 7, 3) := by decide +kernel
theorem dX9_go_95 : decode cX9_go 95 = .ok (.iconst 1, 1) := by decide +kernel
theorem dX9_go_96 : decode cX9_go 96 = .ok (.bipush 7, 2) := by decide +kernel
theorem dX9_go_98 : decode cX9_go 98 = .ok (.iload_n 2, 1) := by decide +kernel
theorem dX9_go_99 : decode cX9_go 99 = .ok (.imul, 1) := by decide +kernel
theorem dX9_go_100 : decode cX9_go 100 = .ok (.iadd, 1) := by decide +kernel
theorem dX9_go_101 : decode cX9_go 101 = .ok (.iconst 4, 1) := by decide +kernel
theorem dX9_go_102 : decode cX9_go 102 = .ok (.iadd, 1) := by decide +kernel
theorem dX9_go_103 : decode cX9_go 103 = .ok (.aload_n 0, 1) := by decide +kernel
theorem dX9_go_104 : decode cX9_go 104 = .ok (.getfield 50, 3) := by decide +kernel
theorem dX9_go_107 : decode cX9_go 107 = .ok (.iload_n 3, 1) := by decide +kernel
theorem dX9_go_108 : decode cX9_go 108 = .ok (.iaload, 1) := by decide +kernel
theorem dX9_go_109 : decode cX9_go 109 = .ok (.iastore, 1) := by decide +kernel
theorem dX9_go_110 : decode cX9_go 110 = .ok (.aload_n 0, 1) := by decide +kernel
theorem dX9_go_111 : decode cX9_go 111 = .ok (.getfield 7, 3) := by decide +kernel
theorem dX9_go_114 : decode cX9_go 114 = .ok (.iconst 1, 1) := by decide +kernel
theorem dX9_go_115 : decode cX9_go 115 = .ok (.bipush 7, 2) := by decide +kernel
theorem dX9_go_117 : decode cX9_go 117 = .ok (.iload_n 2, 1) := by decide +kernel
theorem dX9_go_118 : decode cX9_go 118 = .ok (.imul, 1) := by decide +kernel
theorem dX9_go_119 : decode cX9_go 119 = .ok (.iadd, 1) := by decide +kernel
theorem dX9_go_120 : decode cX9_go 120 = .ok (.bipush 6, 2) := by decide +kernel
theorem dX9_go_122 : decode cX9_go 122 = .ok (.iadd, 1) := by decide +kernel
theorem dX9_go_123 : decode cX9_go 123 = .ok (.iconst 0, 1) := by decide +kernel
theorem dX9_go_124 : decode cX9_go 124 = .ok (.iastore, 1) := by decide +kernel
theorem dX9_go_125 : decode cX9_go 125 = .ok (.iinc 2 1, 3) := by decide +kernel
theorem dX9_go_128 : decode cX9_go 128 = .ok (.iinc 3 1, 3) := by decide +kernel
theorem dX9_go_131 : decode cX9_go 131 = .ok (.goto (-109), 3) := by decide +kernel
theorem dX9_go_134 : decode cX9_go 134 = .ok (.aload_n 0, 1) := by decide +kernel
theorem dX9_go_135 : decode cX9_go 135 = .ok (.getfield 7, 3) := by decide +kernel
theorem dX9_go_138 : decode cX9_go 138 = .ok (.iconst 0, 1) := by decide +kernel
theorem dX9_go_139 : decode cX9_go 139 = .ok (.iload_n 2, 1) := by decide +kernel
theorem dX9_go_140 : decode cX9_go 140 = .ok (.iastore, 1) := by decide +kernel
theorem dX9_go_141 : decode cX9_go 141 = .ok (.iconst 0, 1) := by decide +kernel
theorem dX9_go_142 : decode cX9_go 142 = .ok (.istore_n 3, 1) := by decide +kernel
theorem dX9_go_143 : decode cX9_go 143 = .ok (.iload_n 3, 1) := by decide +kernel
theorem dX9_go_144 : decode cX9_go 144 = .ok (.bipush 63, 2) := by decide +kernel
theorem dX9_go_146 : decode cX9_go 146 = .ok (.if_icmp .ge 24, 3) := by decide +kernel
theorem dX9_go_149 : decode cX9_go 149 = .ok (.aload_n 0, 1) := by decide +kernel
theorem dX9_go_150 : decode cX9_go 150 = .ok (.getfield 7, 3) := by decide +kernel
theorem dX9_go_153 : decode cX9_go 153 = .ok (.bipush 36, 2) := by decide +kernel
theorem dX9_go_155 : decode cX9_go 155 = .ok (.iload_n 3, 1) := by decide +kernel
theorem dX9_go_156 : decode cX9_go 156 = .ok (.iadd, 1) := by decide +kernel
theorem dX9_go_157 : decode cX9_go 157 = .ok (.aload_n 0, 1) := by decide +kernel
theorem dX9_go_158 : decode cX9_go 158 = .ok (.getfield 62, 3) := by decide +kernel
theorem dX9_go_161 : decode cX9_go 161 = .ok (.iload_n 3, 1) := by decide +kernel
theorem dX9_go_162 : decode cX9_go 162 = .ok (.iaload, 1) := by decide +kernel
theorem dX9_go_163 : decode cX9_go 163 = .ok (.iastore, 1) := by decide +kernel
theorem dX9_go_164 : decode cX9_go 164 = .ok (.iinc 3 1, 3) := by decide +kernel
theorem dX9_go_167 : decode cX9_go 167 = .ok (.goto (-24), 3) := by decide +kernel
theorem dX9_go_170 : decode cX9_go 170 = .ok (.iload_n 2, 1) := by decide +kernel
theorem dX9_go_171 : decode cX9_go 171 = .ok (.ireturn, 1) := by decide +kernel
theorem dX9_nextOrder_0 : decode cX9_nextOrder 0 = .ok (.aload_n 0, 1) := by decide +kernel
theorem dX9_nextOrder_1 : decode cX9_nextOrder 1 = .ok (.getfield 7, 3) := by decide +kernel
theorem dX9_nextOrder_4 : decode cX9_nextOrder 4 = .ok (.iconst 0, 1) := by decide +kernel
theorem dX9_nextOrder_5 : decode cX9_nextOrder 5 = .ok (.iaload, 1) := by decide +kernel
theorem dX9_nextOrder_6 : decode cX9_nextOrder 6 = .ok (.istore_n 1, 1) := by decide +kernel
theorem dX9_nextOrder_7 : decode cX9_nextOrder 7 = .ok (.iload_n 1, 1) := by decide +kernel
theorem dX9_nextOrder_8 : decode cX9_nextOrder 8 = .ok (.iconst 2, 1) := by decide +kernel
theorem dX9_nextOrder_9 : decode cX9_nextOrder 9 = .ok (.isub, 1) := by decide +kernel
theorem dX9_nextOrder_10 : decode cX9_nextOrder 10 = .ok (.istore_n 2, 1) := by decide +kernel
theorem dX9_nextOrder_11 : decode cX9_nextOrder 11 = .ok (.iload_n 2, 1) := by decide +kernel
theorem dX9_nextOrder_12 : decode cX9_nextOrder 12 = .ok (.ifCond .lt 26, 3) := by decide +kernel
theorem dX9_nextOrder_15 : decode cX9_nextOrder 15 = .ok (.aload_n 0, 1) := by decide +kernel
theorem dX9_nextOrder_16 : decode cX9_nextOrder 16 = .ok (.getfield 65, 3) := by decide +kernel
theorem dX9_nextOrder_19 : decode cX9_nextOrder 19 = .ok (.iload_n 2, 1) := by decide +kernel
theorem dX9_nextOrder_20 : decode cX9_nextOrder 20 = .ok (.iaload, 1) := by decide +kernel
theorem dX9_nextOrder_21 : decode cX9_nextOrder 21 = .ok (.aload_n 0, 1) := by decide +kernel
theorem dX9_nextOrder_22 : decode cX9_nextOrder 22 = .ok (.getfield 65, 3) := by decide +kernel
theorem dX9_nextOrder_25 : decode cX9_nextOrder 25 = .ok (.iload_n 2, 1) := by decide +kernel
theorem dX9_nextOrder_26 : decode cX9_nextOrder 26 = .ok (.iconst 1, 1) := by decide +kernel
theorem dX9_nextOrder_27 : decode cX9_nextOrder 27 = .ok (.iadd, 1) := by decide +kernel
theorem dX9_nextOrder_28 : decode cX9_nextOrder 28 = .ok (.iaload, 1) := by decide +kernel
theorem dX9_nextOrder_29 : decode cX9_nextOrder 29 = .ok (.if_icmp .le 9, 3) := by decide +kernel
theorem dX9_nextOrder_32 : decode cX9_nextOrder 32 = .ok (.iinc 2 (-1), 3) := by decide +kernel
theorem dX9_nextOrder_35 : decode cX9_nextOrder 35 = .ok (.goto (-24), 3) := by decide +kernel
theorem dX9_nextOrder_38 : decode cX9_nextOrder 38 = .ok (.iload_n 2, 1) := by decide +kernel
theorem dX9_nextOrder_39 : decode cX9_nextOrder 39 = .ok (.ifCond .ge 5, 3) := by decide +kernel
theorem dX9_nextOrder_42 : decode cX9_nextOrder 42 = .ok (.iconst 0, 1) := by decide +kernel
theorem dX9_nextOrder_43 : decode cX9_nextOrder 43 = .ok (.ireturn, 1) := by decide +kernel
theorem dX9_nextOrder_44 : decode cX9_nextOrder 44 = .ok (.iload_n 1, 1) := by decide +kernel
theorem dX9_nextOrder_45 : decode cX9_nextOrder 45 = .ok (.iconst 1, 1) := by decide +kernel
theorem dX9_nextOrder_46 : decode cX9_nextOrder 46 = .ok (.isub, 1) := by decide +kernel
theorem dX9_nextOrder_47 : decode cX9_nextOrder 47 = .ok (.istore_n 3, 1) := by decide +kernel
theorem dX9_nextOrder_48 : decode cX9_nextOrder 48 = .ok (.aload_n 0, 1) := by decide +kernel
theorem dX9_nextOrder_49 : decode cX9_nextOrder 49 = .ok (.getfield 65, 3) := by decide +kernel
theorem dX9_nextOrder_52 : decode cX9_nextOrder 52 = .ok (.iload_n 3, 1) := by decide +kernel
theorem dX9_nextOrder_53 : decode cX9_nextOrder 53 = .ok (.iaload, 1) := by decide +kernel
theorem dX9_nextOrder_54 : decode cX9_nextOrder 54 = .ok (.aload_n 0, 1) := by decide +kernel
theorem dX9_nextOrder_55 : decode cX9_nextOrder 55 = .ok (.getfield 65, 3) := by decide +kernel
theorem dX9_nextOrder_58 : decode cX9_nextOrder 58 = .ok (.iload_n 2, 1) := by decide +kernel
theorem dX9_nextOrder_59 : decode cX9_nextOrder 59 = .ok (.iaload, 1) := by decide +kernel
theorem dX9_nextOrder_60 : decode cX9_nextOrder 60 = .ok (.if_icmp .ge 9, 3) := by decide +kernel
theorem dX9_nextOrder_63 : decode cX9_nextOrder 63 = .ok (.iinc 3 (-1), 3) := by decide +kernel
theorem dX9_nextOrder_66 : decode cX9_nextOrder 66 = .ok (.goto (-18), 3) := by decide +kernel
theorem dX9_nextOrder_69 : decode cX9_nextOrder 69 = .ok (.aload_n 0, 1) := by decide +kernel
theorem dX9_nextOrder_70 : decode cX9_nextOrder 70 = .ok (.iload_n 2, 1) := by decide +kernel
theorem dX9_nextOrder_71 : decode cX9_nextOrder 71 = .ok (.iload_n 3, 1) := by decide +kernel
theorem dX9_nextOrder_72 : decode cX9_nextOrder 72 = .ok (.invokevirtual 271, 3) := by decide +kernel
theorem dX9_nextOrder_75 : decode cX9_nextOrder 75 = .ok (.iload_n 2, 1) := by decide +kernel
theorem dX9_nextOrder_76 : decode cX9_nextOrder 76 = .ok (.iconst 1, 1) := by decide +kernel
theorem dX9_nextOrder_77 : decode cX9_nextOrder 77 = .ok (.iadd, 1) := by decide +kernel
theorem dX9_nextOrder_78 : decode cX9_nextOrder 78 = .ok (.istore 4, 2) := by decide +kernel
theorem dX9_nextOrder_80 : decode cX9_nextOrder 80 = .ok (.iload_n 1, 1) := by decide +kernel
theorem dX9_nextOrder_81 : decode cX9_nextOrder 81 = .ok (.iconst 1, 1) := by decide +kernel
theorem dX9_nextOrder_82 : decode cX9_nextOrder 82 = .ok (.isub, 1) := by decide +kernel
theorem dX9_nextOrder_83 : decode cX9_nextOrder 83 = .ok (.istore 5, 2) := by decide +kernel
theorem dX9_nextOrder_85 : decode cX9_nextOrder 85 = .ok (.iload 4, 2) := by decide +kernel
theorem dX9_nextOrder_87 : decode cX9_nextOrder 87 = .ok (.iload 5, 2) := by decide +kernel
theorem dX9_nextOrder_89 : decode cX9_nextOrder 89 = .ok (.if_icmp .ge 20, 3) := by decide +kernel
theorem dX9_nextOrder_92 : decode cX9_nextOrder 92 = .ok (.aload_n 0, 1) := by decide +kernel
theorem dX9_nextOrder_93 : decode cX9_nextOrder 93 = .ok (.iload 4, 2) := by decide +kernel
theorem dX9_nextOrder_95 : decode cX9_nextOrder 95 = .ok (.iload 5, 2) := by decide +kernel
theorem dX9_nextOrder_97 : decode cX9_nextOrder 97 = .ok (.invokevirtual 271, 3) := by decide +kernel
theorem dX9_nextOrder_100 : decode cX9_nextOrder 100 = .ok (.iinc 4 1, 3) := by decide +kernel
theorem dX9_nextOrder_103 : decode cX9_nextOrder 103 = .ok (.iinc 5 (-1), 3) := by decide +kernel
theorem dX9_nextOrder_106 : decode cX9_nextOrder 106 = .ok (.goto (-21), 3) := by decide +kernel
theorem dX9_nextOrder_109 : decode cX9_nextOrder 109 = .ok (.iconst 1, 1) := by decide +kernel
theorem dX9_nextOrder_110 : decode cX9_nextOrder 110 = .ok (.ireturn, 1) := by decide +kernel
theorem dX9_swaps_0 : decode cX9_swaps 0 = .ok (.aload_n 0, 1) := by decide +kernel
theorem dX9_swaps_1 : decode cX9_swaps 1 = .ok (.getfield 65, 3) := by decide +kernel
theorem dX9_swaps_4 : decode cX9_swaps 4 = .ok (.iload_n 1, 1) := by decide +kernel
theorem dX9_swaps_5 : decode cX9_swaps 5 = .ok (.iaload, 1) := by decide +kernel
theorem dX9_swaps_6 : decode cX9_swaps 6 = .ok (.istore_n 3, 1) := by decide +kernel
theorem dX9_swaps_7 : decode cX9_swaps 7 = .ok (.aload_n 0, 1) := by decide +kernel
theorem dX9_swaps_8 : decode cX9_swaps 8 = .ok (.getfield 65, 3) := by decide +kernel
theorem dX9_swaps_11 : decode cX9_swaps 11 = .ok (.iload_n 1, 1) := by decide +kernel
theorem dX9_swaps_12 : decode cX9_swaps 12 = .ok (.aload_n 0, 1) := by decide +kernel
theorem dX9_swaps_13 : decode cX9_swaps 13 = .ok (.getfield 65, 3) := by decide +kernel
theorem dX9_swaps_16 : decode cX9_swaps 16 = .ok (.iload_n 2, 1) := by decide +kernel
theorem dX9_swaps_17 : decode cX9_swaps 17 = .ok (.iaload, 1) := by decide +kernel
theorem dX9_swaps_18 : decode cX9_swaps 18 = .ok (.iastore, 1) := by decide +kernel
theorem dX9_swaps_19 : decode cX9_swaps 19 = .ok (.aload_n 0, 1) := by decide +kernel
theorem dX9_swaps_20 : decode cX9_swaps 20 = .ok (.getfield 65, 3) := by decide +kernel
theorem dX9_swaps_23 : decode cX9_swaps 23 = .ok (.iload_n 2, 1) := by decide +kernel
theorem dX9_swaps_24 : decode cX9_swaps 24 = .ok (.iload_n 3, 1) := by decide +kernel
theorem dX9_swaps_25 : decode cX9_swaps 25 = .ok (.iastore, 1) := by decide +kernel
theorem dX9_swaps_26 : decode cX9_swaps 26 = .ok (.return_, 1) := by decide +kernel
theorem dX9_sumDone_0 : decode cX9_sumDone 0 = .ok (.iconst 0, 1) := by decide +kernel
theorem dX9_sumDone_1 : decode cX9_sumDone 1 = .ok (.istore_n 1, 1) := by decide +kernel
theorem dX9_sumDone_2 : decode cX9_sumDone 2 = .ok (.iconst 1, 1) := by decide +kernel
theorem dX9_sumDone_3 : decode cX9_sumDone 3 = .ok (.istore_n 2, 1) := by decide +kernel
theorem dX9_sumDone_4 : decode cX9_sumDone 4 = .ok (.iconst 0, 1) := by decide +kernel
theorem dX9_sumDone_5 : decode cX9_sumDone 5 = .ok (.istore_n 3, 1) := by decide +kernel
theorem dX9_sumDone_6 : decode cX9_sumDone 6 = .ok (.iload_n 3, 1) := by decide +kernel
theorem dX9_sumDone_7 : decode cX9_sumDone 7 = .ok (.aload_n 0, 1) := by decide +kernel
theorem dX9_sumDone_8 : decode cX9_sumDone 8 = .ok (.getfield 7, 3) := by decide +kernel
theorem dX9_sumDone_11 : decode cX9_sumDone 11 = .ok (.iconst 0, 1) := by decide +kernel
theorem dX9_sumDone_12 : decode cX9_sumDone 12 = .ok (.iaload, 1) := by decide +kernel
theorem dX9_sumDone_13 : decode cX9_sumDone 13 = .ok (.if_icmp .ge 39, 3) := by decide +kernel
theorem dX9_sumDone_16 : decode cX9_sumDone 16 = .ok (.iload_n 2, 1) := by decide +kernel
theorem dX9_sumDone_17 : decode cX9_sumDone 17 = .ok (.ifCond .eq 18, 3) := by decide +kernel
theorem dX9_sumDone_20 : decode cX9_sumDone 20 = .ok (.aload_n 0, 1) := by decide +kernel
theorem dX9_sumDone_21 : decode cX9_sumDone 21 = .ok (.getfield 59, 3) := by decide +kernel
theorem dX9_sumDone_24 : decode cX9_sumDone 24 = .ok (.iload_n 3, 1) := by decide +kernel
theorem dX9_sumDone_25 : decode cX9_sumDone 25 = .ok (.iaload, 1) := by decide +kernel
theorem dX9_sumDone_26 : decode cX9_sumDone 26 = .ok (.bipush (-4), 2) := by decide +kernel
theorem dX9_sumDone_28 : decode cX9_sumDone 28 = .ok (.if_icmp .eq 7, 3) := by decide +kernel
theorem dX9_sumDone_31 : decode cX9_sumDone 31 = .ok (.iconst 1, 1) := by decide +kernel
theorem dX9_sumDone_32 : decode cX9_sumDone 32 = .ok (.goto 4, 3) := by decide +kernel
theorem dX9_sumDone_35 : decode cX9_sumDone 35 = .ok (.iconst 0, 1) := by decide +kernel
theorem dX9_sumDone_36 : decode cX9_sumDone 36 = .ok (.istore_n 2, 1) := by decide +kernel
theorem dX9_sumDone_37 : decode cX9_sumDone 37 = .ok (.iload_n 1, 1) := by decide +kernel
theorem dX9_sumDone_38 : decode cX9_sumDone 38 = .ok (.aload_n 0, 1) := by decide +kernel
theorem dX9_sumDone_39 : decode cX9_sumDone 39 = .ok (.getfield 59, 3) := by decide +kernel
theorem dX9_sumDone_42 : decode cX9_sumDone 42 = .ok (.iload_n 3, 1) := by decide +kernel
theorem dX9_sumDone_43 : decode cX9_sumDone 43 = .ok (.iaload, 1) := by decide +kernel
theorem dX9_sumDone_44 : decode cX9_sumDone 44 = .ok (.iadd, 1) := by decide +kernel
theorem dX9_sumDone_45 : decode cX9_sumDone 45 = .ok (.istore_n 1, 1) := by decide +kernel
theorem dX9_sumDone_46 : decode cX9_sumDone 46 = .ok (.iinc 3 1, 3) := by decide +kernel
theorem dX9_sumDone_49 : decode cX9_sumDone 49 = .ok (.goto (-43), 3) := by decide +kernel
theorem dX9_sumDone_52 : decode cX9_sumDone 52 = .ok (.iload_n 2, 1) := by decide +kernel
theorem dX9_sumDone_53 : decode cX9_sumDone 53 = .ok (.ifCond .eq 7, 3) := by decide +kernel
theorem dX9_sumDone_56 : decode cX9_sumDone 56 = .ok (.iload_n 1, 1) := by decide +kernel
theorem dX9_sumDone_57 : decode cX9_sumDone 57 = .ok (.goto 5, 3) := by decide +kernel
theorem dX9_sumDone_60 : decode cX9_sumDone 60 = .ok (.bipush (-4), 2) := by decide +kernel
theorem dX9_sumDone_62 : decode cX9_sumDone 62 = .ok (.ireturn, 1) := by decide +kernel
theorem dX9_order_0 : decode cX9_order 0 = .ok (.iload_n 1, 1) := by decide +kernel
theorem dX9_order_1 : decode cX9_order 1 = .ok (.ifCond .eq 16, 3) := by decide +kernel
theorem dX9_order_4 : decode cX9_order 4 = .ok (.aload_n 0, 1) := by decide +kernel
theorem dX9_order_5 : decode cX9_order 5 = .ok (.iload_n 1, 1) := by decide +kernel
theorem dX9_order_6 : decode cX9_order 6 = .ok (.bipush 10, 2) := by decide +kernel
theorem dX9_order_8 : decode cX9_order 8 = .ok (.isub, 1) := by decide +kernel
theorem dX9_order_9 : decode cX9_order 9 = .ok (.invokevirtual 223, 3) := by decide +kernel
theorem dX9_order_12 : decode cX9_order 12 = .ok (.ifCond .ne 5, 3) := by decide +kernel
theorem dX9_order_15 : decode cX9_order 15 = .ok (.iconst (-1), 1) := by decide +kernel
theorem dX9_order_16 : decode cX9_order 16 = .ok (.ireturn, 1) := by decide +kernel
theorem dX9_order_17 : decode cX9_order 17 = .ok (.aload_n 0, 1) := by decide +kernel
theorem dX9_order_18 : decode cX9_order 18 = .ok (.getfield 7, 3) := by decide +kernel
theorem dX9_order_21 : decode cX9_order 21 = .ok (.iconst 0, 1) := by decide +kernel
theorem dX9_order_22 : decode cX9_order 22 = .ok (.iaload, 1) := by decide +kernel
theorem dX9_order_23 : decode cX9_order 23 = .ok (.ifCond .ne 6, 3) := by decide +kernel
theorem dX9_order_26 : decode cX9_order 26 = .ok (.bipush (-2), 2) := by decide +kernel
theorem dX9_order_28 : decode cX9_order 28 = .ok (.ireturn, 1) := by decide +kernel
theorem dX9_order_29 : decode cX9_order 29 = .ok (.bipush (-4), 2) := by decide +kernel
theorem dX9_order_31 : decode cX9_order 31 = .ok (.istore_n 2, 1) := by decide +kernel
theorem dX9_order_32 : decode cX9_order 32 = .ok (.aload_n 0, 1) := by decide +kernel
theorem dX9_order_33 : decode cX9_order 33 = .ok (.invokevirtual 265, 3) := by decide +kernel
theorem dX9_order_36 : decode cX9_order 36 = .ok (.iconst 1, 1) := by decide +kernel
theorem dX9_order_37 : decode cX9_order 37 = .ok (.istore_n 3, 1) := by decide +kernel
theorem dX9_order_38 : decode cX9_order 38 = .ok (.iload_n 3, 1) := by decide +kernel
theorem dX9_order_39 : decode cX9_order 39 = .ok (.ifCond .eq 79, 3) := by decide +kernel
theorem dX9_order_42 : decode cX9_order 42 = .ok (.aload_n 0, 1) := by decide +kernel
theorem dX9_order_43 : decode cX9_order 43 = .ok (.bipush 60, 2) := by decide +kernel
theorem dX9_order_45 : decode cX9_order 45 = .ok (.invokevirtual 268, 3) := by decide +kernel
theorem dX9_order_48 : decode cX9_order 48 = .ok (.aload_n 0, 1) := by decide +kernel
theorem dX9_order_49 : decode cX9_order 49 = .ok (.invokevirtual 274, 3) := by decide +kernel
theorem dX9_order_52 : decode cX9_order 52 = .ok (.istore 4, 2) := by decide +kernel
theorem dX9_order_54 : decode cX9_order 54 = .ok (.iload 4, 2) := by decide +kernel
theorem dX9_order_56 : decode cX9_order 56 = .ok (.bipush (-4), 2) := by decide +kernel
theorem dX9_order_58 : decode cX9_order 58 = .ok (.if_icmp .eq 52, 3) := by decide +kernel
theorem dX9_order_61 : decode cX9_order 61 = .ok (.iload_n 2, 1) := by decide +kernel
theorem dX9_order_62 : decode cX9_order 62 = .ok (.bipush (-4), 2) := by decide +kernel
theorem dX9_order_64 : decode cX9_order 64 = .ok (.if_icmp .eq 9, 3) := by decide +kernel
theorem dX9_order_67 : decode cX9_order 67 = .ok (.iload 4, 2) := by decide +kernel
theorem dX9_order_69 : decode cX9_order 69 = .ok (.iload_n 2, 1) := by decide +kernel
theorem dX9_order_70 : decode cX9_order 70 = .ok (.if_icmp .ge 40, 3) := by decide +kernel
theorem dX9_order_73 : decode cX9_order 73 = .ok (.iload 4, 2) := by decide +kernel
theorem dX9_order_75 : decode cX9_order 75 = .ok (.istore_n 2, 1) := by decide +kernel
theorem dX9_order_76 : decode cX9_order 76 = .ok (.iconst 0, 1) := by decide +kernel
theorem dX9_order_77 : decode cX9_order 77 = .ok (.istore 5, 2) := by decide +kernel
theorem dX9_order_79 : decode cX9_order 79 = .ok (.iload 5, 2) := by decide +kernel
theorem dX9_order_81 : decode cX9_order 81 = .ok (.aload_n 0, 1) := by decide +kernel
theorem dX9_order_82 : decode cX9_order 82 = .ok (.getfield 7, 3) := by decide +kernel
theorem dX9_order_85 : decode cX9_order 85 = .ok (.iconst 0, 1) := by decide +kernel
theorem dX9_order_86 : decode cX9_order 86 = .ok (.iaload, 1) := by decide +kernel
theorem dX9_order_87 : decode cX9_order 87 = .ok (.if_icmp .ge 23, 3) := by decide +kernel
theorem dX9_order_90 : decode cX9_order 90 = .ok (.aload_n 0, 1) := by decide +kernel
theorem dX9_order_91 : decode cX9_order 91 = .ok (.getfield 68, 3) := by decide +kernel
theorem dX9_order_94 : decode cX9_order 94 = .ok (.iload 5, 2) := by decide +kernel
theorem dX9_order_96 : decode cX9_order 96 = .ok (.aload_n 0, 1) := by decide +kernel
theorem dX9_order_97 : decode cX9_order 97 = .ok (.getfield 65, 3) := by decide +kernel
theorem dX9_order_100 : decode cX9_order 100 = .ok (.iload 5, 2) := by decide +kernel
theorem dX9_order_102 : decode cX9_order 102 = .ok (.iaload, 1) := by decide +kernel
theorem dX9_order_103 : decode cX9_order 103 = .ok (.iastore, 1) := by decide +kernel
theorem dX9_order_104 : decode cX9_order 104 = .ok (.iinc 5 1, 3) := by decide +kernel
theorem dX9_order_107 : decode cX9_order 107 = .ok (.goto (-28), 3) := by decide +kernel
theorem dX9_order_110 : decode cX9_order 110 = .ok (.aload_n 0, 1) := by decide +kernel
theorem dX9_order_111 : decode cX9_order 111 = .ok (.invokevirtual 277, 3) := by decide +kernel
theorem dX9_order_114 : decode cX9_order 114 = .ok (.istore_n 3, 1) := by decide +kernel
theorem dX9_order_115 : decode cX9_order 115 = .ok (.goto (-77), 3) := by decide +kernel
theorem dX9_order_118 : decode cX9_order 118 = .ok (.iload_n 2, 1) := by decide +kernel
theorem dX9_order_119 : decode cX9_order 119 = .ok (.bipush (-4), 2) := by decide +kernel
theorem dX9_order_121 : decode cX9_order 121 = .ok (.if_icmp .ne 8, 3) := by decide +kernel
theorem dX9_order_124 : decode cX9_order 124 = .ok (.bipush (-4), 2) := by decide +kernel
theorem dX9_order_126 : decode cX9_order 126 = .ok (.goto 20, 3) := by decide +kernel
theorem dX9_order_129 : decode cX9_order 129 = .ok (.iload_n 1, 1) := by decide +kernel
theorem dX9_order_130 : decode cX9_order 130 = .ok (.ifCond .ne 7, 3) := by decide +kernel
theorem dX9_order_133 : decode cX9_order 133 = .ok (.iload_n 2, 1) := by decide +kernel
theorem dX9_order_134 : decode cX9_order 134 = .ok (.goto 12, 3) := by decide +kernel
theorem dX9_order_137 : decode cX9_order 137 = .ok (.aload_n 0, 1) := by decide +kernel
theorem dX9_order_138 : decode cX9_order 138 = .ok (.getfield 68, 3) := by decide +kernel
theorem dX9_order_141 : decode cX9_order 141 = .ok (.iload_n 1, 1) := by decide +kernel
theorem dX9_order_142 : decode cX9_order 142 = .ok (.bipush 10, 2) := by decide +kernel
theorem dX9_order_144 : decode cX9_order 144 = .ok (.isub, 1) := by decide +kernel
theorem dX9_order_145 : decode cX9_order 145 = .ok (.iaload, 1) := by decide +kernel
theorem dX9_order_146 : decode cX9_order 146 = .ok (.ireturn, 1) := by decide +kernel
theorem dX9_areDone_0 : decode cX9_areDone 0 = .ok (.aload_n 0, 1) := by decide +kernel
theorem dX9_areDone_1 : decode cX9_areDone 1 = .ok (.bipush 60, 2) := by decide +kernel
theorem dX9_areDone_3 : decode cX9_areDone 3 = .ok (.invokevirtual 268, 3) := by decide +kernel
theorem dX9_areDone_6 : decode cX9_areDone 6 = .ok (.aload_n 0, 1) := by decide +kernel
theorem dX9_areDone_7 : decode cX9_areDone 7 = .ok (.invokevirtual 274, 3) := by decide +kernel
theorem dX9_areDone_10 : decode cX9_areDone 10 = .ok (.bipush (-4), 2) := by decide +kernel
theorem dX9_areDone_12 : decode cX9_areDone 12 = .ok (.if_icmp .eq 7, 3) := by decide +kernel
theorem dX9_areDone_15 : decode cX9_areDone 15 = .ok (.iconst 1, 1) := by decide +kernel
theorem dX9_areDone_16 : decode cX9_areDone 16 = .ok (.goto 4, 3) := by decide +kernel
theorem dX9_areDone_19 : decode cX9_areDone 19 = .ok (.iconst 0, 1) := by decide +kernel
theorem dX9_areDone_20 : decode cX9_areDone 20 = .ok (.ireturn, 1) := by decide +kernel
theorem dX9_areDoneBy_0 : decode cX9_areDoneBy 0 = .ok (.iconst 0, 1) := by decide +kernel
theorem dX9_areDoneBy_1 : decode cX9_areDoneBy 1 = .ok (.istore_n 3, 1) := by decide +kernel
theorem dX9_areDoneBy_2 : decode cX9_areDoneBy 2 = .ok (.iload_n 3, 1) := by decide +kernel
theorem dX9_areDoneBy_3 : decode cX9_areDoneBy 3 = .ok (.bipush 63, 2) := by decide +kernel
theorem dX9_areDoneBy_5 : decode cX9_areDoneBy 5 = .ok (.if_icmp .ge 24, 3) := by decide +kernel
theorem dX9_areDoneBy_8 : decode cX9_areDoneBy 8 = .ok (.aload_n 0, 1) := by decide +kernel
theorem dX9_areDoneBy_9 : decode cX9_areDoneBy 9 = .ok (.getfield 71, 3) := by decide +kernel
theorem dX9_areDoneBy_12 : decode cX9_areDoneBy 12 = .ok (.iload_n 3, 1) := by decide +kernel
theorem dX9_areDoneBy_13 : decode cX9_areDoneBy 13 = .ok (.aload_n 0, 1) := by decide +kernel
theorem dX9_areDoneBy_14 : decode cX9_areDoneBy 14 = .ok (.getfield 7, 3) := by decide +kernel
theorem dX9_areDoneBy_17 : decode cX9_areDoneBy 17 = .ok (.bipush 36, 2) := by decide +kernel
theorem dX9_areDoneBy_19 : decode cX9_areDoneBy 19 = .ok (.iload_n 3, 1) := by decide +kernel
theorem dX9_areDoneBy_20 : decode cX9_areDoneBy 20 = .ok (.iadd, 1) := by decide +kernel
theorem dX9_areDoneBy_21 : decode cX9_areDoneBy 21 = .ok (.iaload, 1) := by decide +kernel
theorem dX9_areDoneBy_22 : decode cX9_areDoneBy 22 = .ok (.iastore, 1) := by decide +kernel
theorem dX9_areDoneBy_23 : decode cX9_areDoneBy 23 = .ok (.iinc 3 1, 3) := by decide +kernel
theorem dX9_areDoneBy_26 : decode cX9_areDoneBy 26 = .ok (.goto (-24), 3) := by decide +kernel
theorem dX9_areDoneBy_29 : decode cX9_areDoneBy 29 = .ok (.aload_n 0, 1) := by decide +kernel
theorem dX9_areDoneBy_30 : decode cX9_areDoneBy 30 = .ok (.iload_n 1, 1) := by decide +kernel
theorem dX9_areDoneBy_31 : decode cX9_areDoneBy 31 = .ok (.invokevirtual 241, 3) := by decide +kernel
theorem dX9_areDoneBy_34 : decode cX9_areDoneBy 34 = .ok (.pop, 1) := by decide +kernel
theorem dX9_areDoneBy_35 : decode cX9_areDoneBy 35 = .ok (.aload_n 0, 1) := by decide +kernel
theorem dX9_areDoneBy_36 : decode cX9_areDoneBy 36 = .ok (.iload_n 2, 1) := by decide +kernel
theorem dX9_areDoneBy_37 : decode cX9_areDoneBy 37 = .ok (.invokevirtual 241, 3) := by decide +kernel
theorem dX9_areDoneBy_40 : decode cX9_areDoneBy 40 = .ok (.pop, 1) := by decide +kernel
theorem dX9_areDoneBy_41 : decode cX9_areDoneBy 41 = .ok (.aload_n 0, 1) := by decide +kernel
theorem dX9_areDoneBy_42 : decode cX9_areDoneBy 42 = .ok (.invokevirtual 280, 3) := by decide +kernel
theorem dX9_areDoneBy_45 : decode cX9_areDoneBy 45 = .ok (.istore_n 3, 1) := by decide +kernel
theorem dX9_areDoneBy_46 : decode cX9_areDoneBy 46 = .ok (.iconst 0, 1) := by decide +kernel
theorem dX9_areDoneBy_47 : decode cX9_areDoneBy 47 = .ok (.istore 4, 2) := by decide +kernel
theorem dX9_areDoneBy_49 : decode cX9_areDoneBy 49 = .ok (.iload 4, 2) := by decide +kernel
theorem dX9_areDoneBy_51 : decode cX9_areDoneBy 51 = .ok (.bipush 63, 2) := by decide +kernel
theorem dX9_areDoneBy_53 : decode cX9_areDoneBy 53 = .ok (.if_icmp .ge 26, 3) := by decide +kernel
theorem dX9_areDoneBy_56 : decode cX9_areDoneBy 56 = .ok (.aload_n 0, 1) := by decide +kernel
theorem dX9_areDoneBy_57 : decode cX9_areDoneBy 57 = .ok (.getfield 7, 3) := by decide +kernel
theorem dX9_areDoneBy_60 : decode cX9_areDoneBy 60 = .ok (.bipush 36, 2) := by decide +kernel
theorem dX9_areDoneBy_62 : decode cX9_areDoneBy 62 = .ok (.iload 4, 2) := by decide +kernel
theorem dX9_areDoneBy_64 : decode cX9_areDoneBy 64 = .ok (.iadd, 1) := by decide +kernel
theorem dX9_areDoneBy_65 : decode cX9_areDoneBy 65 = .ok (.aload_n 0, 1) := by decide +kernel
theorem dX9_areDoneBy_66 : decode cX9_areDoneBy 66 = .ok (.getfield 71, 3) := by decide +kernel
theorem dX9_areDoneBy_69 : decode cX9_areDoneBy 69 = .ok (.iload 4, 2) := by decide +kernel
theorem dX9_areDoneBy_71 : decode cX9_areDoneBy 71 = .ok (.iaload, 1) := by decide +kernel
theorem dX9_areDoneBy_72 : decode cX9_areDoneBy 72 = .ok (.iastore, 1) := by decide +kernel
theorem dX9_areDoneBy_73 : decode cX9_areDoneBy 73 = .ok (.iinc 4 1, 3) := by decide +kernel
theorem dX9_areDoneBy_76 : decode cX9_areDoneBy 76 = .ok (.goto (-27), 3) := by decide +kernel
theorem dX9_areDoneBy_79 : decode cX9_areDoneBy 79 = .ok (.iload_n 3, 1) := by decide +kernel
theorem dX9_areDoneBy_80 : decode cX9_areDoneBy 80 = .ok (.ireturn, 1) := by decide +kernel
theorem dX9_mend_0 : decode cX9_mend 0 = .ok (.iload_n 1, 1) := by decide +kernel
theorem dX9_mend_1 : decode cX9_mend 1 = .ok (.i2l, 1) := by decide +kernel
theorem dX9_mend_2 : decode cX9_mend 2 = .ok (.lconst 0, 1) := by decide +kernel
theorem dX9_mend_3 : decode cX9_mend 3 = .ok (.ldc2_w 209, 3) := by decide +kernel
theorem dX9_mend_6 : decode cX9_mend 6 = .ok (.invokestatic 117, 3) := by decide +kernel
theorem dX9_mend_9 : decode cX9_mend 9 = .ok (.ifCond .ne 5, 3) := by decide +kernel
theorem dX9_mend_12 : decode cX9_mend 12 = .ok (.iconst (-1), 1) := by decide +kernel
theorem dX9_mend_13 : decode cX9_mend 13 = .ok (.ireturn, 1) := by decide +kernel
theorem dX9_mend_14 : decode cX9_mend 14 = .ok (.aload_n 0, 1) := by decide +kernel
theorem dX9_mend_15 : decode cX9_mend 15 = .ok (.invokevirtual 265, 3) := by decide +kernel
theorem dX9_mend_18 : decode cX9_mend 18 = .ok (.aload_n 0, 1) := by decide +kernel
theorem dX9_mend_19 : decode cX9_mend 19 = .ok (.invokevirtual 280, 3) := by decide +kernel
theorem dX9_mend_22 : decode cX9_mend 22 = .ok (.ifCond .eq 14, 3) := by decide +kernel
theorem dX9_mend_25 : decode cX9_mend 25 = .ok (.iload_n 1, 1) := by decide +kernel
theorem dX9_mend_26 : decode cX9_mend 26 = .ok (.ifCond .ne 7, 3) := by decide +kernel
theorem dX9_mend_29 : decode cX9_mend 29 = .ok (.iconst 0, 1) := by decide +kernel
theorem dX9_mend_30 : decode cX9_mend 30 = .ok (.goto 5, 3) := by decide +kernel
theorem dX9_mend_33 : decode cX9_mend 33 = .ok (.bipush (-4), 2) := by decide +kernel
theorem dX9_mend_35 : decode cX9_mend 35 = .ok (.ireturn, 1) := by decide +kernel
theorem dX9_mend_36 : decode cX9_mend 36 = .ok (.iconst 0, 1) := by decide +kernel
theorem dX9_mend_37 : decode cX9_mend 37 = .ok (.istore_n 2, 1) := by decide +kernel
theorem dX9_mend_38 : decode cX9_mend 38 = .ok (.iload_n 2, 1) := by decide +kernel
theorem dX9_mend_39 : decode cX9_mend 39 = .ok (.aload_n 0, 1) := by decide +kernel
theorem dX9_mend_40 : decode cX9_mend 40 = .ok (.getfield 109, 3) := by decide +kernel
theorem dX9_mend_43 : decode cX9_mend 43 = .ok (.if_icmp .gt 38, 3) := by decide +kernel
theorem dX9_mend_46 : decode cX9_mend 46 = .ok (.aload_n 0, 1) := by decide +kernel
theorem dX9_mend_47 : decode cX9_mend 47 = .ok (.iload_n 2, 1) := by decide +kernel
theorem dX9_mend_48 : decode cX9_mend 48 = .ok (.iload_n 2, 1) := by decide +kernel
theorem dX9_mend_49 : decode cX9_mend 49 = .ok (.invokevirtual 283, 3) := by decide +kernel
theorem dX9_mend_52 : decode cX9_mend 52 = .ok (.ifCond .eq 23, 3) := by decide +kernel
theorem dX9_mend_55 : decode cX9_mend 55 = .ok (.iload_n 1, 1) := by decide +kernel
theorem dX9_mend_56 : decode cX9_mend 56 = .ok (.ifCond .ne 7, 3) := by decide +kernel
theorem dX9_mend_59 : decode cX9_mend 59 = .ok (.iconst 1, 1) := by decide +kernel
theorem dX9_mend_60 : decode cX9_mend 60 = .ok (.goto 14, 3) := by decide +kernel
theorem dX9_mend_63 : decode cX9_mend 63 = .ok (.iload_n 1, 1) := by decide +kernel
theorem dX9_mend_64 : decode cX9_mend 64 = .ok (.iconst 1, 1) := by decide +kernel
theorem dX9_mend_65 : decode cX9_mend 65 = .ok (.if_icmp .ne 7, 3) := by decide +kernel
theorem dX9_mend_68 : decode cX9_mend 68 = .ok (.iload_n 2, 1) := by decide +kernel
theorem dX9_mend_69 : decode cX9_mend 69 = .ok (.goto 5, 3) := by decide +kernel
theorem dX9_mend_72 : decode cX9_mend 72 = .ok (.bipush (-4), 2) := by decide +kernel
theorem dX9_mend_74 : decode cX9_mend 74 = .ok (.ireturn, 1) := by decide +kernel
theorem dX9_mend_75 : decode cX9_mend 75 = .ok (.iinc 2 1, 3) := by decide +kernel
theorem dX9_mend_78 : decode cX9_mend 78 = .ok (.goto (-40), 3) := by decide +kernel
theorem dX9_mend_81 : decode cX9_mend 81 = .ok (.iconst 0, 1) := by decide +kernel
theorem dX9_mend_82 : decode cX9_mend 82 = .ok (.istore_n 2, 1) := by decide +kernel
theorem dX9_mend_83 : decode cX9_mend 83 = .ok (.iload_n 2, 1) := by decide +kernel
theorem dX9_mend_84 : decode cX9_mend 84 = .ok (.aload_n 0, 1) := by decide +kernel
theorem dX9_mend_85 : decode cX9_mend 85 = .ok (.getfield 109, 3) := by decide +kernel
theorem dX9_mend_88 : decode cX9_mend 88 = .ok (.if_icmp .gt 55, 3) := by decide +kernel
theorem dX9_mend_91 : decode cX9_mend 91 = .ok (.iload_n 2, 1) := by decide +kernel
theorem dX9_mend_92 : decode cX9_mend 92 = .ok (.iconst 1, 1) := by decide +kernel
theorem dX9_mend_93 : decode cX9_mend 93 = .ok (.iadd, 1) := by decide +kernel
theorem dX9_mend_94 : decode cX9_mend 94 = .ok (.istore_n 3, 1) := by decide +kernel
theorem dX9_mend_95 : decode cX9_mend 95 = .ok (.iload_n 3, 1) := by decide +kernel
theorem dX9_mend_96 : decode cX9_mend 96 = .ok (.aload_n 0, 1) := by decide +kernel
theorem dX9_mend_97 : decode cX9_mend 97 = .ok (.getfield 109, 3) := by decide +kernel
theorem dX9_mend_100 : decode cX9_mend 100 = .ok (.if_icmp .gt 37, 3) := by decide +kernel
theorem dX9_mend_103 : decode cX9_mend 103 = .ok (.aload_n 0, 1) := by decide +kernel
theorem dX9_mend_104 : decode cX9_mend 104 = .ok (.iload_n 2, 1) := by decide +kernel
theorem dX9_mend_105 : decode cX9_mend 105 = .ok (.iload_n 3, 1) := by decide +kernel
theorem dX9_mend_106 : decode cX9_mend 106 = .ok (.invokevirtual 283, 3) := by decide +kernel
theorem dX9_mend_109 : decode cX9_mend 109 = .ok (.ifCond .eq 22, 3) := by decide +kernel
theorem dX9_mend_112 : decode cX9_mend 112 = .ok (.iload_n 1, 1) := by decide +kernel
theorem dX9_mend_113 : decode cX9_mend 113 = .ok (.ifCond .ne 7, 3) := by decide +kernel
theorem dX9_mend_116 : decode cX9_mend 116 = .ok (.iconst 2, 1) := by decide +kernel
theorem dX9_mend_117 : decode cX9_mend 117 = .ok (.goto 13, 3) := by decide +kernel
theorem dX9_mend_120 : decode cX9_mend 120 = .ok (.iload_n 1, 1) := by decide +kernel
theorem dX9_mend_121 : decode cX9_mend 121 = .ok (.iconst 1, 1) := by decide +kernel
theorem dX9_mend_122 : decode cX9_mend 122 = .ok (.if_icmp .ne 7, 3) := by decide +kernel
theorem dX9_mend_125 : decode cX9_mend 125 = .ok (.iload_n 2, 1) := by decide +kernel
theorem dX9_mend_126 : decode cX9_mend 126 = .ok (.goto 4, 3) := by decide +kernel
theorem dX9_mend_129 : decode cX9_mend 129 = .ok (.iload_n 3, 1) := by decide +kernel
theorem dX9_mend_130 : decode cX9_mend 130 = .ok (.ireturn, 1) := by decide +kernel
theorem dX9_mend_131 : decode cX9_mend 131 = .ok (.iinc 3 1, 3) := by decide +kernel
theorem dX9_mend_134 : decode cX9_mend 134 = .ok (.goto (-39), 3) := by decide +kernel
theorem dX9_mend_137 : decode cX9_mend 137 = .ok (.iinc 2 1, 3) := by decide +kernel
theorem dX9_mend_140 : decode cX9_mend 140 = .ok (.goto (-57), 3) := by decide +kernel
theorem dX9_mend_143 : decode cX9_mend 143 = .ok (.bipush (-4), 2) := by decide +kernel
theorem dX9_mend_145 : decode cX9_mend 145 = .ok (.ireturn, 1) := by decide +kernel
theorem dX9_then_0 : decode cX9_then 0 = .ok (.iload_n 2, 1) := by decide +kernel
theorem dX9_then_1 : decode cX9_then 1 = .ok (.iconst 3, 1) := by decide +kernel
theorem dX9_then_2 : decode cX9_then 2 = .ok (.idiv, 1) := by decide +kernel
theorem dX9_then_3 : decode cX9_then 3 = .ok (.istore 4, 2) := by decide +kernel
theorem dX9_then_5 : decode cX9_then 5 = .ok (.iload_n 2, 1) := by decide +kernel
theorem dX9_then_6 : decode cX9_then 6 = .ok (.iconst 3, 1) := by decide +kernel
theorem dX9_then_7 : decode cX9_then 7 = .ok (.irem, 1) := by decide +kernel
theorem dX9_then_8 : decode cX9_then 8 = .ok (.istore 5, 2) := by decide +kernel
theorem dX9_then_10 : decode cX9_then 10 = .ok (.iload_n 3, 1) := by decide +kernel
theorem dX9_then_11 : decode cX9_then 11 = .ok (.iconst 1, 1) := by decide +kernel
theorem dX9_then_12 : decode cX9_then 12 = .ok (.if_icmp .le 59, 3) := by decide +kernel
theorem dX9_then_15 : decode cX9_then 15 = .ok (.aload_n 0, 1) := by decide +kernel
theorem dX9_then_16 : decode cX9_then 16 = .ok (.getfield 23, 3) := by decide +kernel
theorem dX9_then_19 : decode cX9_then 19 = .ok (.iload 4, 2) := by decide +kernel
theorem dX9_then_21 : decode cX9_then 21 = .ok (.iaload, 1) := by decide +kernel
theorem dX9_then_22 : decode cX9_then 22 = .ok (.bipush (-4), 2) := by decide +kernel
theorem dX9_then_24 : decode cX9_then 24 = .ok (.if_icmp .eq 25, 3) := by decide +kernel
theorem dX9_then_27 : decode cX9_then 27 = .ok (.iload_n 3, 1) := by decide +kernel
theorem dX9_then_28 : decode cX9_then 28 = .ok (.iconst 2, 1) := by decide +kernel
theorem dX9_then_29 : decode cX9_then 29 = .ok (.isub, 1) := by decide +kernel
theorem dX9_then_30 : decode cX9_then 30 = .ok (.iload 5, 2) := by decide +kernel
theorem dX9_then_32 : decode cX9_then 32 = .ok (.if_icmp .eq 17, 3) := by decide +kernel
theorem dX9_then_35 : decode cX9_then 35 = .ok (.aload_n 0, 1) := by decide +kernel
theorem dX9_then_36 : decode cX9_then 36 = .ok (.iload_n 1, 1) := by decide +kernel
theorem dX9_then_37 : decode cX9_then 37 = .ok (.iconst 0, 1) := by decide +kernel
theorem dX9_then_38 : decode cX9_then 38 = .ok (.invokevirtual 228, 3) := by decide +kernel
theorem dX9_then_41 : decode cX9_then 41 = .ok (.iconst 3, 1) := by decide +kernel
theorem dX9_then_42 : decode cX9_then 42 = .ok (.if_icmp .eq 7, 3) := by decide +kernel
theorem dX9_then_45 : decode cX9_then 45 = .ok (.iconst 1, 1) := by decide +kernel
theorem dX9_then_46 : decode cX9_then 46 = .ok (.goto 4, 3) := by decide +kernel
theorem dX9_then_49 : decode cX9_then 49 = .ok (.iconst 0, 1) := by decide +kernel
theorem dX9_then_50 : decode cX9_then 50 = .ok (.istore 6, 2) := by decide +kernel
theorem dX9_then_52 : decode cX9_then 52 = .ok (.iload 6, 2) := by decide +kernel
theorem dX9_then_54 : decode cX9_then 54 = .ok (.ifCond .eq 14, 3) := by decide +kernel
theorem dX9_then_57 : decode cX9_then 57 = .ok (.iconst 3, 1) := by decide +kernel
theorem dX9_then_58 : decode cX9_then 58 = .ok (.iload 4, 2) := by decide +kernel
theorem dX9_then_60 : decode cX9_then 60 = .ok (.imul, 1) := by decide +kernel
theorem dX9_then_61 : decode cX9_then 61 = .ok (.iload_n 3, 1) := by decide +kernel
theorem dX9_then_62 : decode cX9_then 62 = .ok (.iadd, 1) := by decide +kernel
theorem dX9_then_63 : decode cX9_then 63 = .ok (.iconst 2, 1) := by decide +kernel
theorem dX9_then_64 : decode cX9_then 64 = .ok (.isub, 1) := by decide +kernel
theorem dX9_then_65 : decode cX9_then 65 = .ok (.goto 5, 3) := by decide +kernel
theorem dX9_then_68 : decode cX9_then 68 = .ok (.bipush (-4), 2) := by decide +kernel
theorem dX9_then_70 : decode cX9_then 70 = .ok (.ireturn, 1) := by decide +kernel
theorem dX9_then_71 : decode cX9_then 71 = .ok (.iload_n 3, 1) := by decide +kernel
theorem dX9_then_72 : decode cX9_then 72 = .ok (.ifCond .ne 10, 3) := by decide +kernel
theorem dX9_then_75 : decode cX9_then 75 = .ok (.iload 4, 2) := by decide +kernel
theorem dX9_then_77 : decode cX9_then 77 = .ok (.iconst 1, 1) := by decide +kernel
theorem dX9_then_78 : decode cX9_then 78 = .ok (.iadd, 1) := by decide +kernel
theorem dX9_then_79 : decode cX9_then 79 = .ok (.goto 7, 3) := by decide +kernel
theorem dX9_then_82 : decode cX9_then 82 = .ok (.iload 4, 2) := by decide +kernel
theorem dX9_then_84 : decode cX9_then 84 = .ok (.iconst 1, 1) := by decide +kernel
theorem dX9_then_85 : decode cX9_then 85 = .ok (.isub, 1) := by decide +kernel
theorem dX9_then_86 : decode cX9_then 86 = .ok (.istore 6, 2) := by decide +kernel
theorem dX9_then_88 : decode cX9_then 88 = .ok (.aload_n 0, 1) := by decide +kernel
theorem dX9_then_89 : decode cX9_then 89 = .ok (.iload 6, 2) := by decide +kernel
theorem dX9_then_91 : decode cX9_then 91 = .ok (.invokevirtual 211, 3) := by decide +kernel
theorem dX9_then_94 : decode cX9_then 94 = .ok (.ifCond .ne 6, 3) := by decide +kernel
theorem dX9_then_97 : decode cX9_then 97 = .ok (.bipush (-4), 2) := by decide +kernel
theorem dX9_then_99 : decode cX9_then 99 = .ok (.ireturn, 1) := by decide +kernel
theorem dX9_then_100 : decode cX9_then 100 = .ok (.aload_n 0, 1) := by decide +kernel
theorem dX9_then_101 : decode cX9_then 101 = .ok (.iload_n 1, 1) := by decide +kernel
theorem dX9_then_102 : decode cX9_then 102 = .ok (.iconst 0, 1) := by decide +kernel
theorem dX9_then_103 : decode cX9_then 103 = .ok (.invokevirtual 228, 3) := by decide +kernel
theorem dX9_then_106 : decode cX9_then 106 = .ok (.iconst 2, 1) := by decide +kernel
theorem dX9_then_107 : decode cX9_then 107 = .ok (.if_icmp .eq 38, 3) := by decide +kernel
theorem dX9_then_110 : decode cX9_then 110 = .ok (.aload_n 0, 1) := by decide +kernel
theorem dX9_then_111 : decode cX9_then 111 = .ok (.iload 6, 2) := by decide +kernel
theorem dX9_then_113 : decode cX9_then 113 = .ok (.iload 5, 2) := by decide +kernel
theorem dX9_then_115 : decode cX9_then 115 = .ok (.invokevirtual 219, 3) := by decide +kernel
theorem dX9_then_118 : decode cX9_then 118 = .ok (.ifCond .eq 31, 3) := by decide +kernel
theorem dX9_then_121 : decode cX9_then 121 = .ok (.aload_n 0, 1) := by decide +kernel
theorem dX9_then_122 : decode cX9_then 122 = .ok (.getfield 7, 3) := by decide +kernel
theorem dX9_then_125 : decode cX9_then 125 = .ok (.bipush 36, 2) := by decide +kernel
theorem dX9_then_127 : decode cX9_then 127 = .ok (.iconst 3, 1) := by decide +kernel
theorem dX9_then_128 : decode cX9_then 128 = .ok (.iload 6, 2) := by decide +kernel
theorem dX9_then_130 : decode cX9_then 130 = .ok (.imul, 1) := by decide +kernel
theorem dX9_then_131 : decode cX9_then 131 = .ok (.iadd, 1) := by decide +kernel
theorem dX9_then_132 : decode cX9_then 132 = .ok (.iload 5, 2) := by decide +kernel
theorem dX9_then_134 : decode cX9_then 134 = .ok (.iadd, 1) := by decide +kernel
theorem dX9_then_135 : decode cX9_then 135 = .ok (.iaload, 1) := by decide +kernel
theorem dX9_then_136 : decode cX9_then 136 = .ok (.aload_n 0, 1) := by decide +kernel
theorem dX9_then_137 : decode cX9_then 137 = .ok (.iload_n 1, 1) := by decide +kernel
theorem dX9_then_138 : decode cX9_then 138 = .ok (.iconst 3, 1) := by decide +kernel
theorem dX9_then_139 : decode cX9_then 139 = .ok (.invokevirtual 228, 3) := by decide +kernel
theorem dX9_then_142 : decode cX9_then 142 = .ok (.if_icmp .gt 7, 3) := by decide +kernel
theorem dX9_then_145 : decode cX9_then 145 = .ok (.iconst 1, 1) := by decide +kernel
theorem dX9_then_146 : decode cX9_then 146 = .ok (.goto 4, 3) := by decide +kernel
theorem dX9_then_149 : decode cX9_then 149 = .ok (.iconst 0, 1) := by decide +kernel
theorem dX9_then_150 : decode cX9_then 150 = .ok (.istore 7, 2) := by decide +kernel
theorem dX9_then_152 : decode cX9_then 152 = .ok (.iload 7, 2) := by decide +kernel
theorem dX9_then_154 : decode cX9_then 154 = .ok (.ifCond .eq 13, 3) := by decide +kernel
theorem dX9_then_157 : decode cX9_then 157 = .ok (.iconst 3, 1) := by decide +kernel
theorem dX9_then_158 : decode cX9_then 158 = .ok (.iload 6, 2) := by decide +kernel
theorem dX9_then_160 : decode cX9_then 160 = .ok (.imul, 1) := by decide +kernel
theorem dX9_then_161 : decode cX9_then 161 = .ok (.iload 5, 2) := by decide +kernel
theorem dX9_then_163 : decode cX9_then 163 = .ok (.iadd, 1) := by decide +kernel
theorem dX9_then_164 : decode cX9_then 164 = .ok (.goto 5, 3) := by decide +kernel
theorem dX9_then_167 : decode cX9_then 167 = .ok (.bipush (-4), 2) := by decide +kernel
theorem dX9_then_169 : decode cX9_then 169 = .ok (.ireturn, 1) := by decide +kernel
theorem dX9_coinsOf_0 : decode cX9_coinsOf 0 = .ok (.iload_n 3, 1) := by decide +kernel
theorem dX9_coinsOf_1 : decode cX9_coinsOf 1 = .ok (.iconst 1, 1) := by decide +kernel
theorem dX9_coinsOf_2 : decode cX9_coinsOf 2 = .ok (.if_icmp .le 14, 3) := by decide +kernel
theorem dX9_coinsOf_5 : decode cX9_coinsOf 5 = .ok (.aload_n 0, 1) := by decide +kernel
theorem dX9_coinsOf_6 : decode cX9_coinsOf 6 = .ok (.getfield 23, 3) := by decide +kernel
theorem dX9_coinsOf_9 : decode cX9_coinsOf 9 = .ok (.iload_n 2, 1) := by decide +kernel
theorem dX9_coinsOf_10 : decode cX9_coinsOf 10 = .ok (.iconst 3, 1) := by decide +kernel
theorem dX9_coinsOf_11 : decode cX9_coinsOf 11 = .ok (.idiv, 1) := by decide +kernel
theorem dX9_coinsOf_12 : decode cX9_coinsOf 12 = .ok (.iaload, 1) := by decide +kernel
theorem dX9_coinsOf_13 : decode cX9_coinsOf 13 = .ok (.goto 29, 3) := by decide +kernel
theorem dX9_coinsOf_16 : decode cX9_coinsOf 16 = .ok (.aload_n 0, 1) := by decide +kernel
theorem dX9_coinsOf_17 : decode cX9_coinsOf 17 = .ok (.iload_n 1, 1) := by decide +kernel
theorem dX9_coinsOf_18 : decode cX9_coinsOf 18 = .ok (.iconst 0, 1) := by decide +kernel
theorem dX9_coinsOf_19 : decode cX9_coinsOf 19 = .ok (.invokevirtual 228, 3) := by decide +kernel
theorem dX9_coinsOf_22 : decode cX9_coinsOf 22 = .ok (.iconst 4, 1) := by decide +kernel
theorem dX9_coinsOf_23 : decode cX9_coinsOf 23 = .ok (.if_icmp .ne 7, 3) := by decide +kernel
theorem dX9_coinsOf_26 : decode cX9_coinsOf 26 = .ok (.iconst 0, 1) := by decide +kernel
theorem dX9_coinsOf_27 : decode cX9_coinsOf 27 = .ok (.goto 15, 3) := by decide +kernel
theorem dX9_coinsOf_30 : decode cX9_coinsOf 30 = .ok (.aload_n 0, 1) := by decide +kernel
theorem dX9_coinsOf_31 : decode cX9_coinsOf 31 = .ok (.getfield 26, 3) := by decide +kernel
theorem dX9_coinsOf_34 : decode cX9_coinsOf 34 = .ok (.aload_n 0, 1) := by decide +kernel
theorem dX9_coinsOf_35 : decode cX9_coinsOf 35 = .ok (.iload_n 1, 1) := by decide +kernel
theorem dX9_coinsOf_36 : decode cX9_coinsOf 36 = .ok (.iload_n 2, 1) := by decide +kernel
theorem dX9_coinsOf_37 : decode cX9_coinsOf 37 = .ok (.iload_n 3, 1) := by decide +kernel
theorem dX9_coinsOf_38 : decode cX9_coinsOf 38 = .ok (.invokevirtual 286, 3) := by decide +kernel
theorem dX9_coinsOf_41 : decode cX9_coinsOf 41 = .ok (.iaload, 1) := by decide +kernel
theorem dX9_coinsOf_42 : decode cX9_coinsOf 42 = .ok (.ireturn, 1) := by decide +kernel
theorem dX9_hoursOf_0 : decode cX9_hoursOf 0 = .ok (.iload_n 2, 1) := by decide +kernel
theorem dX9_hoursOf_1 : decode cX9_hoursOf 1 = .ok (.iconst 2, 1) := by decide +kernel
theorem dX9_hoursOf_2 : decode cX9_hoursOf 2 = .ok (.if_icmp .ge 17, 3) := by decide +kernel
theorem dX9_hoursOf_5 : decode cX9_hoursOf 5 = .ok (.aload_n 0, 1) := by decide +kernel
theorem dX9_hoursOf_6 : decode cX9_hoursOf 6 = .ok (.iload_n 1, 1) := by decide +kernel
theorem dX9_hoursOf_7 : decode cX9_hoursOf 7 = .ok (.iconst 0, 1) := by decide +kernel
theorem dX9_hoursOf_8 : decode cX9_hoursOf 8 = .ok (.invokevirtual 228, 3) := by decide +kernel
theorem dX9_hoursOf_11 : decode cX9_hoursOf 11 = .ok (.iconst 2, 1) := by decide +kernel
theorem dX9_hoursOf_12 : decode cX9_hoursOf 12 = .ok (.if_icmp .ne 7, 3) := by decide +kernel
theorem dX9_hoursOf_15 : decode cX9_hoursOf 15 = .ok (.iconst 2, 1) := by decide +kernel
theorem dX9_hoursOf_16 : decode cX9_hoursOf 16 = .ok (.goto 4, 3) := by decide +kernel
theorem dX9_hoursOf_19 : decode cX9_hoursOf 19 = .ok (.iconst 1, 1) := by decide +kernel
theorem dX9_hoursOf_20 : decode cX9_hoursOf 20 = .ok (.ireturn, 1) := by decide +kernel
theorem dX9_keyOf_0 : decode cX9_keyOf 0 = .ok (.aload_n 0, 1) := by decide +kernel
theorem dX9_keyOf_1 : decode cX9_keyOf 1 = .ok (.iload_n 1, 1) := by decide +kernel
theorem dX9_keyOf_2 : decode cX9_keyOf 2 = .ok (.iload_n 2, 1) := by decide +kernel
theorem dX9_keyOf_3 : decode cX9_keyOf 3 = .ok (.iload_n 3, 1) := by decide +kernel
theorem dX9_keyOf_4 : decode cX9_keyOf 4 = .ok (.invokevirtual 290, 3) := by decide +kernel
theorem dX9_keyOf_7 : decode cX9_keyOf 7 = .ok (.istore 5, 2) := by decide +kernel
theorem dX9_keyOf_9 : decode cX9_keyOf 9 = .ok (.aload_n 0, 1) := by decide +kernel
theorem dX9_keyOf_10 : decode cX9_keyOf 10 = .ok (.iload_n 1, 1) := by decide +kernel
theorem dX9_keyOf_11 : decode cX9_keyOf 11 = .ok (.iload_n 3, 1) := by decide +kernel
theorem dX9_keyOf_12 : decode cX9_keyOf 12 = .ok (.invokevirtual 293, 3) := by decide +kernel
theorem dX9_keyOf_15 : decode cX9_keyOf 15 = .ok (.istore 6, 2) := by decide +kernel
theorem dX9_keyOf_17 : decode cX9_keyOf 17 = .ok (.iload 4, 2) := by decide +kernel
theorem dX9_keyOf_19 : decode cX9_keyOf 19 = .ok (.ifCond .ne 21, 3) := by decide +kernel
theorem dX9_keyOf_22 : decode cX9_keyOf 22 = .ok (.ldc_w 296, 3) := by decide +kernel
theorem dX9_keyOf_25 : decode cX9_keyOf 25 = .ok (.iload 5, 2) := by decide +kernel
theorem dX9_keyOf_27 : decode cX9_keyOf 27 = .ok (.imul, 1) := by decide +kernel
theorem dX9_keyOf_28 : decode cX9_keyOf 28 = .ok (.sipush 1000, 3) := by decide +kernel
theorem dX9_keyOf_31 : decode cX9_keyOf 31 = .ok (.iload 6, 2) := by decide +kernel
theorem dX9_keyOf_33 : decode cX9_keyOf 33 = .ok (.imul, 1) := by decide +kernel
theorem dX9_keyOf_34 : decode cX9_keyOf 34 = .ok (.iadd, 1) := by decide +kernel
theorem dX9_keyOf_35 : decode cX9_keyOf 35 = .ok (.iconst 1, 1) := by decide +kernel
theorem dX9_keyOf_36 : decode cX9_keyOf 36 = .ok (.iadd, 1) := by decide +kernel
theorem dX9_keyOf_37 : decode cX9_keyOf 37 = .ok (.goto 18, 3) := by decide +kernel
theorem dX9_keyOf_40 : decode cX9_keyOf 40 = .ok (.ldc_w 296, 3) := by decide +kernel
theorem dX9_keyOf_43 : decode cX9_keyOf 43 = .ok (.iload 6, 2) := by decide +kernel
theorem dX9_keyOf_45 : decode cX9_keyOf 45 = .ok (.imul, 1) := by decide +kernel
theorem dX9_keyOf_46 : decode cX9_keyOf 46 = .ok (.sipush 1000, 3) := by decide +kernel
theorem dX9_keyOf_49 : decode cX9_keyOf 49 = .ok (.iload 5, 2) := by decide +kernel
theorem dX9_keyOf_51 : decode cX9_keyOf 51 = .ok (.imul, 1) := by decide +kernel
theorem dX9_keyOf_52 : decode cX9_keyOf 52 = .ok (.iadd, 1) := by decide +kernel
theorem dX9_keyOf_53 : decode cX9_keyOf 53 = .ok (.iconst 1, 1) := by decide +kernel
theorem dX9_keyOf_54 : decode cX9_keyOf 54 = .ok (.iadd, 1) := by decide +kernel
theorem dX9_keyOf_55 : decode cX9_keyOf 55 = .ok (.ireturn, 1) := by decide +kernel
theorem dX9_findLeast_0 : decode cX9_findLeast 0 = .ok (.iconst 0, 1) := by decide +kernel
theorem dX9_findLeast_1 : decode cX9_findLeast 1 = .ok (.istore_n 3, 1) := by decide +kernel
theorem dX9_findLeast_2 : decode cX9_findLeast 2 = .ok (.iload_n 3, 1) := by decide +kernel
theorem dX9_findLeast_3 : decode cX9_findLeast 3 = .ok (.bipush 63, 2) := by decide +kernel
theorem dX9_findLeast_5 : decode cX9_findLeast 5 = .ok (.if_icmp .ge 34, 3) := by decide +kernel
theorem dX9_findLeast_8 : decode cX9_findLeast 8 = .ok (.aload_n 0, 1) := by decide +kernel
theorem dX9_findLeast_9 : decode cX9_findLeast 9 = .ok (.getfield 74, 3) := by decide +kernel
theorem dX9_findLeast_12 : decode cX9_findLeast 12 = .ok (.iload_n 3, 1) := by decide +kernel
theorem dX9_findLeast_13 : decode cX9_findLeast 13 = .ok (.iload_n 3, 1) := by decide +kernel
theorem dX9_findLeast_14 : decode cX9_findLeast 14 = .ok (.iconst 3, 1) := by decide +kernel
theorem dX9_findLeast_15 : decode cX9_findLeast 15 = .ok (.idiv, 1) := by decide +kernel
theorem dX9_findLeast_16 : decode cX9_findLeast 16 = .ok (.aload_n 0, 1) := by decide +kernel
theorem dX9_findLeast_17 : decode cX9_findLeast 17 = .ok (.iload_n 1, 1) := by decide +kernel
theorem dX9_findLeast_18 : decode cX9_findLeast 18 = .ok (.iconst 5, 1) := by decide +kernel
theorem dX9_findLeast_19 : decode cX9_findLeast 19 = .ok (.invokevirtual 228, 3) := by decide +kernel
theorem dX9_findLeast_22 : decode cX9_findLeast 22 = .ok (.if_icmp .ne 7, 3) := by decide +kernel
theorem dX9_findLeast_25 : decode cX9_findLeast 25 = .ok (.iconst 0, 1) := by decide +kernel
theorem dX9_findLeast_26 : decode cX9_findLeast 26 = .ok (.goto 6, 3) := by decide +kernel
theorem dX9_findLeast_29 : decode cX9_findLeast 29 = .ok (.ldc_w 297, 3) := by decide +kernel
theorem dX9_findLeast_32 : decode cX9_findLeast 32 = .ok (.iastore, 1) := by decide +kernel
theorem dX9_findLeast_33 : decode cX9_findLeast 33 = .ok (.iinc 3 1, 3) := by decide +kernel
theorem dX9_findLeast_36 : decode cX9_findLeast 36 = .ok (.goto (-34), 3) := by decide +kernel
theorem dX9_findLeast_39 : decode cX9_findLeast 39 = .ok (.iconst 1, 1) := by decide +kernel
theorem dX9_findLeast_40 : decode cX9_findLeast 40 = .ok (.istore_n 3, 1) := by decide +kernel
theorem dX9_findLeast_41 : decode cX9_findLeast 41 = .ok (.iload_n 3, 1) := by decide +kernel
theorem dX9_findLeast_42 : decode cX9_findLeast 42 = .ok (.ifCond .eq 131, 3) := by decide +kernel
theorem dX9_findLeast_45 : decode cX9_findLeast 45 = .ok (.iconst 0, 1) := by decide +kernel
theorem dX9_findLeast_46 : decode cX9_findLeast 46 = .ok (.istore_n 3, 1) := by decide +kernel
theorem dX9_findLeast_47 : decode cX9_findLeast 47 = .ok (.iconst 0, 1) := by decide +kernel
theorem dX9_findLeast_48 : decode cX9_findLeast 48 = .ok (.istore 4, 2) := by decide +kernel
theorem dX9_findLeast_50 : decode cX9_findLeast 50 = .ok (.iload 4, 2) := by decide +kernel
theorem dX9_findLeast_52 : decode cX9_findLeast 52 = .ok (.iconst 3, 1) := by decide +kernel
theorem dX9_findLeast_53 : decode cX9_findLeast 53 = .ok (.aload_n 0, 1) := by decide +kernel
theorem dX9_findLeast_54 : decode cX9_findLeast 54 = .ok (.getfield 109, 3) := by decide +kernel
theorem dX9_findLeast_57 : decode cX9_findLeast 57 = .ok (.imul, 1) := by decide +kernel
theorem dX9_findLeast_58 : decode cX9_findLeast 58 = .ok (.iconst 3, 1) := by decide +kernel
theorem dX9_findLeast_59 : decode cX9_findLeast 59 = .ok (.iadd, 1) := by decide +kernel
theorem dX9_findLeast_60 : decode cX9_findLeast 60 = .ok (.if_icmp .ge 110, 3) := by decide +kernel
theorem dX9_findLeast_63 : decode cX9_findLeast 63 = .ok (.iconst 0, 1) := by decide +kernel
theorem dX9_findLeast_64 : decode cX9_findLeast 64 = .ok (.istore 5, 2) := by decide +kernel
theorem dX9_findLeast_66 : decode cX9_findLeast 66 = .ok (.iload 5, 2) := by decide +kernel
theorem dX9_findLeast_68 : decode cX9_findLeast 68 = .ok (.iconst 5, 1) := by decide +kernel
theorem dX9_findLeast_69 : decode cX9_findLeast 69 = .ok (.if_icmp .ge 95, 3) := by decide +kernel
theorem dX9_findLeast_72 : decode cX9_findLeast 72 = .ok (.aload_n 0, 1) := by decide +kernel
theorem dX9_findLeast_73 : decode cX9_findLeast 73 = .ok (.iload_n 1, 1) := by decide +kernel
theorem dX9_findLeast_74 : decode cX9_findLeast 74 = .ok (.iload 4, 2) := by decide +kernel
theorem dX9_findLeast_76 : decode cX9_findLeast 76 = .ok (.iload 5, 2) := by decide +kernel
theorem dX9_findLeast_78 : decode cX9_findLeast 78 = .ok (.invokevirtual 286, 3) := by decide +kernel
theorem dX9_findLeast_81 : decode cX9_findLeast 81 = .ok (.istore 6, 2) := by decide +kernel
theorem dX9_findLeast_83 : decode cX9_findLeast 83 = .ok (.iload 6, 2) := by decide +kernel
theorem dX9_findLeast_85 : decode cX9_findLeast 85 = .ok (.bipush (-4), 2) := by decide +kernel
theorem dX9_findLeast_87 : decode cX9_findLeast 87 = .ok (.if_icmp .eq 71, 3) := by decide +kernel
theorem dX9_findLeast_90 : decode cX9_findLeast 90 = .ok (.aload_n 0, 1) := by decide +kernel
theorem dX9_findLeast_91 : decode cX9_findLeast 91 = .ok (.getfield 74, 3) := by decide +kernel
theorem dX9_findLeast_94 : decode cX9_findLeast 94 = .ok (.iload 6, 2) := by decide +kernel
theorem dX9_findLeast_96 : decode cX9_findLeast 96 = .ok (.iaload, 1) := by decide +kernel
theorem dX9_findLeast_97 : decode cX9_findLeast 97 = .ok (.ldc_w 297, 3) := by decide +kernel
theorem dX9_findLeast_100 : decode cX9_findLeast 100 = .ok (.if_icmp .eq 58, 3) := by decide +kernel
theorem dX9_findLeast_103 : decode cX9_findLeast 103 = .ok (.aload_n 0, 1) := by decide +kernel
theorem dX9_findLeast_104 : decode cX9_findLeast 104 = .ok (.getfield 74, 3) := by decide +kernel
theorem dX9_findLeast_107 : decode cX9_findLeast 107 = .ok (.iload 6, 2) := by decide +kernel
theorem dX9_findLeast_109 : decode cX9_findLeast 109 = .ok (.iaload, 1) := by decide +kernel
theorem dX9_findLeast_110 : decode cX9_findLeast 110 = .ok (.aload_n 0, 1) := by decide +kernel
theorem dX9_findLeast_111 : decode cX9_findLeast 111 = .ok (.iload_n 1, 1) := by decide +kernel
theorem dX9_findLeast_112 : decode cX9_findLeast 112 = .ok (.iload 4, 2) := by decide +kernel
theorem dX9_findLeast_114 : decode cX9_findLeast 114 = .ok (.iload 5, 2) := by decide +kernel
theorem dX9_findLeast_116 : decode cX9_findLeast 116 = .ok (.iload_n 2, 1) := by decide +kernel
theorem dX9_findLeast_117 : decode cX9_findLeast 117 = .ok (.invokevirtual 298, 3) := by decide +kernel
theorem dX9_findLeast_120 : decode cX9_findLeast 120 = .ok (.iadd, 1) := by decide +kernel
theorem dX9_findLeast_121 : decode cX9_findLeast 121 = .ok (.aload_n 0, 1) := by decide +kernel
theorem dX9_findLeast_122 : decode cX9_findLeast 122 = .ok (.getfield 74, 3) := by decide +kernel
theorem dX9_findLeast_125 : decode cX9_findLeast 125 = .ok (.iload 4, 2) := by decide +kernel
theorem dX9_findLeast_127 : decode cX9_findLeast 127 = .ok (.iaload, 1) := by decide +kernel
theorem dX9_findLeast_128 : decode cX9_findLeast 128 = .ok (.if_icmp .ge 30, 3) := by decide +kernel
theorem dX9_findLeast_131 : decode cX9_findLeast 131 = .ok (.aload_n 0, 1) := by decide +kernel
theorem dX9_findLeast_132 : decode cX9_findLeast 132 = .ok (.getfield 74, 3) := by decide +kernel
theorem dX9_findLeast_135 : decode cX9_findLeast 135 = .ok (.iload 4, 2) := by decide +kernel
theorem dX9_findLeast_137 : decode cX9_findLeast 137 = .ok (.aload_n 0, 1) := by decide +kernel
theorem dX9_findLeast_138 : decode cX9_findLeast 138 = .ok (.getfield 74, 3) := by decide +kernel
theorem dX9_findLeast_141 : decode cX9_findLeast 141 = .ok (.iload 6, 2) := by decide +kernel
theorem dX9_findLeast_143 : decode cX9_findLeast 143 = .ok (.iaload, 1) := by decide +kernel
theorem dX9_findLeast_144 : decode cX9_findLeast 144 = .ok (.aload_n 0, 1) := by decide +kernel
theorem dX9_findLeast_145 : decode cX9_findLeast 145 = .ok (.iload_n 1, 1) := by decide +kernel
theorem dX9_findLeast_146 : decode cX9_findLeast 146 = .ok (.iload 4, 2) := by decide +kernel
theorem dX9_findLeast_148 : decode cX9_findLeast 148 = .ok (.iload 5, 2) := by decide +kernel
theorem dX9_findLeast_150 : decode cX9_findLeast 150 = .ok (.iload_n 2, 1) := by decide +kernel
theorem dX9_findLeast_151 : decode cX9_findLeast 151 = .ok (.invokevirtual 298, 3) := by decide +kernel
theorem dX9_findLeast_154 : decode cX9_findLeast 154 = .ok (.iadd, 1) := by decide +kernel
theorem dX9_findLeast_155 : decode cX9_findLeast 155 = .ok (.iastore, 1) := by decide +kernel
theorem dX9_findLeast_156 : decode cX9_findLeast 156 = .ok (.iconst 1, 1) := by decide +kernel
theorem dX9_findLeast_157 : decode cX9_findLeast 157 = .ok (.istore_n 3, 1) := by decide +kernel
theorem dX9_findLeast_158 : decode cX9_findLeast 158 = .ok (.iinc 5 1, 3) := by decide +kernel
theorem dX9_findLeast_161 : decode cX9_findLeast 161 = .ok (.goto (-95), 3) := by decide +kernel
theorem dX9_findLeast_164 : decode cX9_findLeast 164 = .ok (.iinc 4 1, 3) := by decide +kernel
theorem dX9_findLeast_167 : decode cX9_findLeast 167 = .ok (.goto (-117), 3) := by decide +kernel
theorem dX9_findLeast_170 : decode cX9_findLeast 170 = .ok (.goto (-129), 3) := by decide +kernel
theorem dX9_findLeast_173 : decode cX9_findLeast 173 = .ok (.return_, 1) := by decide +kernel
theorem dX9_way_0 : decode cX9_way 0 = .ok (.aload_n 0, 1) := by decide +kernel
theorem dX9_way_1 : decode cX9_way 1 = .ok (.iload_n 1, 1) := by decide +kernel
theorem dX9_way_2 : decode cX9_way 2 = .ok (.invokevirtual 223, 3) := by decide +kernel
theorem dX9_way_5 : decode cX9_way 5 = .ok (.ifCond .eq 31, 3) := by decide +kernel
theorem dX9_way_8 : decode cX9_way 8 = .ok (.iload_n 2, 1) := by decide +kernel
theorem dX9_way_9 : decode cX9_way 9 = .ok (.i2l, 1) := by decide +kernel
theorem dX9_way_10 : decode cX9_way 10 = .ok (.lconst 0, 1) := by decide +kernel
theorem dX9_way_11 : decode cX9_way 11 = .ok (.lconst 1, 1) := by decide +kernel
theorem dX9_way_12 : decode cX9_way 12 = .ok (.invokestatic 117, 3) := by decide +kernel
theorem dX9_way_15 : decode cX9_way 15 = .ok (.ifCond .eq 21, 3) := by decide +kernel
theorem dX9_way_18 : decode cX9_way 18 = .ok (.iload_n 3, 1) := by decide +kernel
theorem dX9_way_19 : decode cX9_way 19 = .ok (.i2l, 1) := by decide +kernel
theorem dX9_way_20 : decode cX9_way 20 = .ok (.lconst 0, 1) := by decide +kernel
theorem dX9_way_21 : decode cX9_way 21 = .ok (.ldc2_w 209, 3) := by decide +kernel
theorem dX9_way_24 : decode cX9_way 24 = .ok (.invokestatic 117, 3) := by decide +kernel
theorem dX9_way_27 : decode cX9_way 27 = .ok (.ifCond .ne 11, 3) := by decide +kernel
theorem dX9_way_30 : decode cX9_way 30 = .ok (.iload_n 3, 1) := by decide +kernel
theorem dX9_way_31 : decode cX9_way 31 = .ok (.bipush 10, 2) := by decide +kernel
theorem dX9_way_33 : decode cX9_way 33 = .ok (.if_icmp .ge 5, 3) := by decide +kernel
theorem dX9_way_36 : decode cX9_way 36 = .ok (.iconst (-1), 1) := by decide +kernel
theorem dX9_way_37 : decode cX9_way 37 = .ok (.ireturn, 1) := by decide +kernel
theorem dX9_way_38 : decode cX9_way 38 = .ok (.aload_n 0, 1) := by decide +kernel
theorem dX9_way_39 : decode cX9_way 39 = .ok (.iload_n 1, 1) := by decide +kernel
theorem dX9_way_40 : decode cX9_way 40 = .ok (.iload_n 2, 1) := by decide +kernel
theorem dX9_way_41 : decode cX9_way 41 = .ok (.invokevirtual 302, 3) := by decide +kernel
theorem dX9_way_44 : decode cX9_way 44 = .ok (.iconst 3, 1) := by decide +kernel
theorem dX9_way_45 : decode cX9_way 45 = .ok (.aload_n 0, 1) := by decide +kernel
theorem dX9_way_46 : decode cX9_way 46 = .ok (.iload_n 1, 1) := by decide +kernel
theorem dX9_way_47 : decode cX9_way 47 = .ok (.iconst 4, 1) := by decide +kernel
theorem dX9_way_48 : decode cX9_way 48 = .ok (.invokevirtual 228, 3) := by decide +kernel
theorem dX9_way_51 : decode cX9_way 51 = .ok (.imul, 1) := by decide +kernel
theorem dX9_way_52 : decode cX9_way 52 = .ok (.aload_n 0, 1) := by decide +kernel
theorem dX9_way_53 : decode cX9_way 53 = .ok (.iload_n 1, 1) := by decide +kernel
theorem dX9_way_54 : decode cX9_way 54 = .ok (.iconst 1, 1) := by decide +kernel
theorem dX9_way_55 : decode cX9_way 55 = .ok (.invokevirtual 228, 3) := by decide +kernel
theorem dX9_way_58 : decode cX9_way 58 = .ok (.iadd, 1) := by decide +kernel
theorem dX9_way_59 : decode cX9_way 59 = .ok (.istore 4, 2) := by decide +kernel
theorem dX9_way_61 : decode cX9_way 61 = .ok (.aload_n 0, 1) := by decide +kernel
theorem dX9_way_62 : decode cX9_way 62 = .ok (.getfield 74, 3) := by decide +kernel
theorem dX9_way_65 : decode cX9_way 65 = .ok (.iload 4, 2) := by decide +kernel
theorem dX9_way_67 : decode cX9_way 67 = .ok (.iaload, 1) := by decide +kernel
theorem dX9_way_68 : decode cX9_way 68 = .ok (.istore 5, 2) := by decide +kernel
theorem dX9_way_70 : decode cX9_way 70 = .ok (.iload 5, 2) := by decide +kernel
theorem dX9_way_72 : decode cX9_way 72 = .ok (.ldc_w 297, 3) := by decide +kernel
theorem dX9_way_75 : decode cX9_way 75 = .ok (.if_icmp .ne 6, 3) := by decide +kernel
theorem dX9_way_78 : decode cX9_way 78 = .ok (.bipush (-4), 2) := by decide +kernel
theorem dX9_way_80 : decode cX9_way 80 = .ok (.ireturn, 1) := by decide +kernel
theorem dX9_way_81 : decode cX9_way 81 = .ok (.iload_n 3, 1) := by decide +kernel
theorem dX9_way_82 : decode cX9_way 82 = .ok (.iconst 2, 1) := by decide +kernel
theorem dX9_way_83 : decode cX9_way 83 = .ok (.if_icmp .ne 10, 3) := by decide +kernel
theorem dX9_way_86 : decode cX9_way 86 = .ok (.iload 5, 2) := by decide +kernel
theorem dX9_way_88 : decode cX9_way 88 = .ok (.sipush 1000, 3) := by decide +kernel
theorem dX9_way_91 : decode cX9_way 91 = .ok (.irem, 1) := by decide +kernel
theorem dX9_way_92 : decode cX9_way 92 = .ok (.ireturn, 1) := by decide +kernel
theorem dX9_way_93 : decode cX9_way 93 = .ok (.iload_n 3, 1) := by decide +kernel
theorem dX9_way_94 : decode cX9_way 94 = .ok (.iconst 2, 1) := by decide +kernel
theorem dX9_way_95 : decode cX9_way 95 = .ok (.if_icmp .ge 28, 3) := by decide +kernel
theorem dX9_way_98 : decode cX9_way 98 = .ok (.iload_n 3, 1) := by decide +kernel
theorem dX9_way_99 : decode cX9_way 99 = .ok (.iload_n 2, 1) := by decide +kernel
theorem dX9_way_100 : decode cX9_way 100 = .ok (.if_icmp .ne 12, 3) := by decide +kernel
theorem dX9_way_103 : decode cX9_way 103 = .ok (.iload 5, 2) := by decide +kernel
theorem dX9_way_105 : decode cX9_way 105 = .ok (.ldc_w 296, 3) := by decide +kernel
theorem dX9_way_108 : decode cX9_way 108 = .ok (.idiv, 1) := by decide +kernel
theorem dX9_way_109 : decode cX9_way 109 = .ok (.goto 13, 3) := by decide +kernel
theorem dX9_way_112 : decode cX9_way 112 = .ok (.iload 5, 2) := by decide +kernel
theorem dX9_way_114 : decode cX9_way 114 = .ok (.sipush 1000, 3) := by decide +kernel
theorem dX9_way_117 : decode cX9_way 117 = .ok (.idiv, 1) := by decide +kernel
theorem dX9_way_118 : decode cX9_way 118 = .ok (.sipush 1000, 3) := by decide +kernel
theorem dX9_way_121 : decode cX9_way 121 = .ok (.irem, 1) := by decide +kernel
theorem dX9_way_122 : decode cX9_way 122 = .ok (.ireturn, 1) := by decide +kernel
theorem dX9_way_123 : decode cX9_way 123 = .ok (.iload_n 3, 1) := by decide +kernel
theorem dX9_way_124 : decode cX9_way 124 = .ok (.bipush 10, 2) := by decide +kernel
theorem dX9_way_126 : decode cX9_way 126 = .ok (.isub, 1) := by decide +kernel
theorem dX9_way_127 : decode cX9_way 127 = .ok (.iload 5, 2) := by decide +kernel
theorem dX9_way_129 : decode cX9_way 129 = .ok (.sipush 1000, 3) := by decide +kernel
theorem dX9_way_132 : decode cX9_way 132 = .ok (.irem, 1) := by decide +kernel
theorem dX9_way_133 : decode cX9_way 133 = .ok (.if_icmp .lt 6, 3) := by decide +kernel
theorem dX9_way_136 : decode cX9_way 136 = .ok (.bipush (-4), 2) := by decide +kernel
theorem dX9_way_138 : decode cX9_way 138 = .ok (.ireturn, 1) := by decide +kernel
theorem dX9_way_139 : decode cX9_way 139 = .ok (.bipush (-4), 2) := by decide +kernel
theorem dX9_way_141 : decode cX9_way 141 = .ok (.istore 6, 2) := by decide +kernel
theorem dX9_way_143 : decode cX9_way 143 = .ok (.iconst 0, 1) := by decide +kernel
theorem dX9_way_144 : decode cX9_way 144 = .ok (.istore 7, 2) := by decide +kernel
theorem dX9_way_146 : decode cX9_way 146 = .ok (.iload 7, 2) := by decide +kernel
theorem dX9_way_148 : decode cX9_way 148 = .ok (.iload_n 3, 1) := by decide +kernel
theorem dX9_way_149 : decode cX9_way 149 = .ok (.bipush 10, 2) := by decide +kernel
theorem dX9_way_151 : decode cX9_way 151 = .ok (.isub, 1) := by decide +kernel
theorem dX9_way_152 : decode cX9_way 152 = .ok (.if_icmp .gt 118, 3) := by decide +kernel
theorem dX9_way_155 : decode cX9_way 155 = .ok (.bipush (-4), 2) := by decide +kernel
theorem dX9_way_157 : decode cX9_way 157 = .ok (.istore 6, 2) := by decide +kernel
theorem dX9_way_159 : decode cX9_way 159 = .ok (.iconst 4, 1) := by decide +kernel
theorem dX9_way_160 : decode cX9_way 160 = .ok (.istore 8, 2) := by decide +kernel
theorem dX9_way_162 : decode cX9_way 162 = .ok (.iload 8, 2) := by decide +kernel
theorem dX9_way_164 : decode cX9_way 164 = .ok (.ifCond .lt 89, 3) := by decide +kernel
theorem dX9_way_167 : decode cX9_way 167 = .ok (.aload_n 0, 1) := by decide +kernel
theorem dX9_way_168 : decode cX9_way 168 = .ok (.iload_n 1, 1) := by decide +kernel
theorem dX9_way_169 : decode cX9_way 169 = .ok (.iload 4, 2) := by decide +kernel
theorem dX9_way_171 : decode cX9_way 171 = .ok (.iload 8, 2) := by decide +kernel
theorem dX9_way_173 : decode cX9_way 173 = .ok (.invokevirtual 286, 3) := by decide +kernel
theorem dX9_way_176 : decode cX9_way 176 = .ok (.istore 9, 2) := by decide +kernel
theorem dX9_way_178 : decode cX9_way 178 = .ok (.iload 9, 2) := by decide +kernel
theorem dX9_way_180 : decode cX9_way 180 = .ok (.bipush (-4), 2) := by decide +kernel
theorem dX9_way_182 : decode cX9_way 182 = .ok (.if_icmp .eq 48, 3) := by decide +kernel
theorem dX9_way_185 : decode cX9_way 185 = .ok (.aload_n 0, 1) := by decide +kernel
theorem dX9_way_186 : decode cX9_way 186 = .ok (.getfield 74, 3) := by decide +kernel
theorem dX9_way_189 : decode cX9_way 189 = .ok (.iload 9, 2) := by decide +kernel
theorem dX9_way_191 : decode cX9_way 191 = .ok (.iaload, 1) := by decide +kernel
theorem dX9_way_192 : decode cX9_way 192 = .ok (.ldc_w 297, 3) := by decide +kernel
theorem dX9_way_195 : decode cX9_way 195 = .ok (.if_icmp .eq 35, 3) := by decide +kernel
theorem dX9_way_198 : decode cX9_way 198 = .ok (.aload_n 0, 1) := by decide +kernel
theorem dX9_way_199 : decode cX9_way 199 = .ok (.getfield 74, 3) := by decide +kernel
theorem dX9_way_202 : decode cX9_way 202 = .ok (.iload 9, 2) := by decide +kernel
theorem dX9_way_204 : decode cX9_way 204 = .ok (.iaload, 1) := by decide +kernel
theorem dX9_way_205 : decode cX9_way 205 = .ok (.aload_n 0, 1) := by decide +kernel
theorem dX9_way_206 : decode cX9_way 206 = .ok (.iload_n 1, 1) := by decide +kernel
theorem dX9_way_207 : decode cX9_way 207 = .ok (.iload 4, 2) := by decide +kernel
theorem dX9_way_209 : decode cX9_way 209 = .ok (.iload 8, 2) := by decide +kernel
theorem dX9_way_211 : decode cX9_way 211 = .ok (.iload_n 2, 1) := by decide +kernel
theorem dX9_way_212 : decode cX9_way 212 = .ok (.invokevirtual 298, 3) := by decide +kernel
theorem dX9_way_215 : decode cX9_way 215 = .ok (.iadd, 1) := by decide +kernel
theorem dX9_way_216 : decode cX9_way 216 = .ok (.aload_n 0, 1) := by decide +kernel
theorem dX9_way_217 : decode cX9_way 217 = .ok (.getfield 74, 3) := by decide +kernel
theorem dX9_way_220 : decode cX9_way 220 = .ok (.iload 4, 2) := by decide +kernel
theorem dX9_way_222 : decode cX9_way 222 = .ok (.iaload, 1) := by decide +kernel
theorem dX9_way_223 : decode cX9_way 223 = .ok (.if_icmp .ne 7, 3) := by decide +kernel
theorem dX9_way_226 : decode cX9_way 226 = .ok (.iconst 1, 1) := by decide +kernel
theorem dX9_way_227 : decode cX9_way 227 = .ok (.goto 4, 3) := by decide +kernel
theorem dX9_way_230 : decode cX9_way 230 = .ok (.iconst 0, 1) := by decide +kernel
theorem dX9_way_231 : decode cX9_way 231 = .ok (.istore 10, 2) := by decide +kernel
theorem dX9_way_233 : decode cX9_way 233 = .ok (.iload 10, 2) := by decide +kernel
theorem dX9_way_235 : decode cX9_way 235 = .ok (.ifCond .eq 8, 3) := by decide +kernel
theorem dX9_way_238 : decode cX9_way 238 = .ok (.iload 8, 2) := by decide +kernel
theorem dX9_way_240 : decode cX9_way 240 = .ok (.goto 5, 3) := by decide +kernel
theorem dX9_way_243 : decode cX9_way 243 = .ok (.iload 6, 2) := by decide +kernel
theorem dX9_way_245 : decode cX9_way 245 = .ok (.istore 6, 2) := by decide +kernel
theorem dX9_way_247 : decode cX9_way 247 = .ok (.iinc 8 (-1), 3) := by decide +kernel
theorem dX9_way_250 : decode cX9_way 250 = .ok (.goto (-88), 3) := by decide +kernel
theorem dX9_way_253 : decode cX9_way 253 = .ok (.aload_n 0, 1) := by decide +kernel
theorem dX9_way_254 : decode cX9_way 254 = .ok (.iload_n 1, 1) := by decide +kernel
theorem dX9_way_255 : decode cX9_way 255 = .ok (.iload 4, 2) := by decide +kernel
theorem dX9_way_257 : decode cX9_way 257 = .ok (.iload 6, 2) := by decide +kernel
theorem dX9_way_259 : decode cX9_way 259 = .ok (.invokevirtual 286, 3) := by decide +kernel
theorem dX9_way_262 : decode cX9_way 262 = .ok (.istore 4, 2) := by decide +kernel
theorem dX9_way_264 : decode cX9_way 264 = .ok (.iinc 7 1, 3) := by decide +kernel
theorem dX9_way_267 : decode cX9_way 267 = .ok (.goto (-121), 3) := by decide +kernel
theorem dX9_way_270 : decode cX9_way 270 = .ok (.iload 6, 2) := by decide +kernel
theorem dX9_way_272 : decode cX9_way 272 = .ok (.ireturn, 1) := by decide +kernel
theorem dX9_can_0 : decode cX9_can 0 = .ok (.aload_n 0, 1) := by decide +kernel
theorem dX9_can_1 : decode cX9_can 1 = .ok (.iload_n 1, 1) := by decide +kernel
theorem dX9_can_2 : decode cX9_can 2 = .ok (.invokevirtual 223, 3) := by decide +kernel
theorem dX9_can_5 : decode cX9_can 5 = .ok (.ifCond .ne 5, 3) := by decide +kernel
theorem dX9_can_8 : decode cX9_can 8 = .ok (.iconst (-1), 1) := by decide +kernel
theorem dX9_can_9 : decode cX9_can 9 = .ok (.ireturn, 1) := by decide +kernel
theorem dX9_can_10 : decode cX9_can 10 = .ok (.iconst 0, 1) := by decide +kernel
theorem dX9_can_11 : decode cX9_can 11 = .ok (.istore_n 2, 1) := by decide +kernel
theorem dX9_can_12 : decode cX9_can 12 = .ok (.iload_n 2, 1) := by decide +kernel
theorem dX9_can_13 : decode cX9_can 13 = .ok (.bipush 63, 2) := by decide +kernel
theorem dX9_can_15 : decode cX9_can 15 = .ok (.if_icmp .ge 39, 3) := by decide +kernel
theorem dX9_can_18 : decode cX9_can 18 = .ok (.aload_n 0, 1) := by decide +kernel
theorem dX9_can_19 : decode cX9_can 19 = .ok (.getfield 77, 3) := by decide +kernel
theorem dX9_can_22 : decode cX9_can 22 = .ok (.iload_n 2, 1) := by decide +kernel
theorem dX9_can_23 : decode cX9_can 23 = .ok (.iload_n 2, 1) := by decide +kernel
theorem dX9_can_24 : decode cX9_can 24 = .ok (.iconst 3, 1) := by decide +kernel
theorem dX9_can_25 : decode cX9_can 25 = .ok (.aload_n 0, 1) := by decide +kernel
theorem dX9_can_26 : decode cX9_can 26 = .ok (.iload_n 1, 1) := by decide +kernel
theorem dX9_can_27 : decode cX9_can 27 = .ok (.iconst 4, 1) := by decide +kernel
theorem dX9_can_28 : decode cX9_can 28 = .ok (.invokevirtual 228, 3) := by decide +kernel
theorem dX9_can_31 : decode cX9_can 31 = .ok (.imul, 1) := by decide +kernel
theorem dX9_can_32 : decode cX9_can 32 = .ok (.aload_n 0, 1) := by decide +kernel
theorem dX9_can_33 : decode cX9_can 33 = .ok (.iload_n 1, 1) := by decide +kernel
theorem dX9_can_34 : decode cX9_can 34 = .ok (.iconst 1, 1) := by decide +kernel
theorem dX9_can_35 : decode cX9_can 35 = .ok (.invokevirtual 228, 3) := by decide +kernel
theorem dX9_can_38 : decode cX9_can 38 = .ok (.iadd, 1) := by decide +kernel
theorem dX9_can_39 : decode cX9_can 39 = .ok (.if_icmp .ne 7, 3) := by decide +kernel
theorem dX9_can_42 : decode cX9_can 42 = .ok (.iconst 1, 1) := by decide +kernel
theorem dX9_can_43 : decode cX9_can 43 = .ok (.goto 4, 3) := by decide +kernel
theorem dX9_can_46 : decode cX9_can 46 = .ok (.iconst 0, 1) := by decide +kernel
theorem dX9_can_47 : decode cX9_can 47 = .ok (.bastore, 1) := by decide +kernel
theorem dX9_can_48 : decode cX9_can 48 = .ok (.iinc 2 1, 3) := by decide +kernel
theorem dX9_can_51 : decode cX9_can 51 = .ok (.goto (-39), 3) := by decide +kernel
theorem dX9_can_54 : decode cX9_can 54 = .ok (.iconst 1, 1) := by decide +kernel
theorem dX9_can_55 : decode cX9_can 55 = .ok (.istore_n 2, 1) := by decide +kernel
theorem dX9_can_56 : decode cX9_can 56 = .ok (.iload_n 2, 1) := by decide +kernel
theorem dX9_can_57 : decode cX9_can 57 = .ok (.ifCond .eq 89, 3) := by decide +kernel
theorem dX9_can_60 : decode cX9_can 60 = .ok (.iconst 0, 1) := by decide +kernel
theorem dX9_can_61 : decode cX9_can 61 = .ok (.istore_n 2, 1) := by decide +kernel
theorem dX9_can_62 : decode cX9_can 62 = .ok (.iconst 0, 1) := by decide +kernel
theorem dX9_can_63 : decode cX9_can 63 = .ok (.istore_n 3, 1) := by decide +kernel
theorem dX9_can_64 : decode cX9_can 64 = .ok (.iload_n 3, 1) := by decide +kernel
theorem dX9_can_65 : decode cX9_can 65 = .ok (.iconst 3, 1) := by decide +kernel
theorem dX9_can_66 : decode cX9_can 66 = .ok (.aload_n 0, 1) := by decide +kernel
theorem dX9_can_67 : decode cX9_can 67 = .ok (.getfield 109, 3) := by decide +kernel
theorem dX9_can_70 : decode cX9_can 70 = .ok (.imul, 1) := by decide +kernel
theorem dX9_can_71 : decode cX9_can 71 = .ok (.iconst 3, 1) := by decide +kernel
theorem dX9_can_72 : decode cX9_can 72 = .ok (.iadd, 1) := by decide +kernel
theorem dX9_can_73 : decode cX9_can 73 = .ok (.if_icmp .ge 70, 3) := by decide +kernel
theorem dX9_can_76 : decode cX9_can 76 = .ok (.iconst 0, 1) := by decide +kernel
theorem dX9_can_77 : decode cX9_can 77 = .ok (.istore 4, 2) := by decide +kernel
theorem dX9_can_79 : decode cX9_can 79 = .ok (.iload 4, 2) := by decide +kernel
theorem dX9_can_81 : decode cX9_can 81 = .ok (.iconst 5, 1) := by decide +kernel
theorem dX9_can_82 : decode cX9_can 82 = .ok (.if_icmp .ge 55, 3) := by decide +kernel
theorem dX9_can_85 : decode cX9_can 85 = .ok (.aload_n 0, 1) := by decide +kernel
theorem dX9_can_86 : decode cX9_can 86 = .ok (.getfield 77, 3) := by decide +kernel
theorem dX9_can_89 : decode cX9_can 89 = .ok (.iload_n 3, 1) := by decide +kernel
theorem dX9_can_90 : decode cX9_can 90 = .ok (.baload, 1) := by decide +kernel
theorem dX9_can_91 : decode cX9_can 91 = .ok (.ifCond .eq 46, 3) := by decide +kernel
theorem dX9_can_94 : decode cX9_can 94 = .ok (.aload_n 0, 1) := by decide +kernel
theorem dX9_can_95 : decode cX9_can 95 = .ok (.iload_n 1, 1) := by decide +kernel
theorem dX9_can_96 : decode cX9_can 96 = .ok (.iload_n 3, 1) := by decide +kernel
theorem dX9_can_97 : decode cX9_can 97 = .ok (.iload 4, 2) := by decide +kernel
theorem dX9_can_99 : decode cX9_can 99 = .ok (.invokevirtual 286, 3) := by decide +kernel
theorem dX9_can_102 : decode cX9_can 102 = .ok (.istore 5, 2) := by decide +kernel
theorem dX9_can_104 : decode cX9_can 104 = .ok (.iload 5, 2) := by decide +kernel
theorem dX9_can_106 : decode cX9_can 106 = .ok (.bipush (-4), 2) := by decide +kernel
theorem dX9_can_108 : decode cX9_can 108 = .ok (.if_icmp .eq 23, 3) := by decide +kernel
theorem dX9_can_111 : decode cX9_can 111 = .ok (.aload_n 0, 1) := by decide +kernel
theorem dX9_can_112 : decode cX9_can 112 = .ok (.getfield 77, 3) := by decide +kernel
theorem dX9_can_115 : decode cX9_can 115 = .ok (.iload 5, 2) := by decide +kernel
theorem dX9_can_117 : decode cX9_can 117 = .ok (.baload, 1) := by decide +kernel
theorem dX9_can_118 : decode cX9_can 118 = .ok (.ifCond .ne 13, 3) := by decide +kernel
theorem dX9_can_121 : decode cX9_can 121 = .ok (.aload_n 0, 1) := by decide +kernel
theorem dX9_can_122 : decode cX9_can 122 = .ok (.getfield 77, 3) := by decide +kernel
theorem dX9_can_125 : decode cX9_can 125 = .ok (.iload 5, 2) := by decide +kernel
theorem dX9_can_127 : decode cX9_can 127 = .ok (.iconst 1, 1) := by decide +kernel
theorem dX9_can_128 : decode cX9_can 128 = .ok (.bastore, 1) := by decide +kernel
theorem dX9_can_129 : decode cX9_can 129 = .ok (.iconst 1, 1) := by decide +kernel
theorem dX9_can_130 : decode cX9_can 130 = .ok (.istore_n 2, 1) := by decide +kernel
theorem dX9_can_131 : decode cX9_can 131 = .ok (.iinc 4 1, 3) := by decide +kernel
theorem dX9_can_134 : decode cX9_can 134 = .ok (.goto (-55), 3) := by decide +kernel
theorem dX9_can_137 : decode cX9_can 137 = .ok (.iinc 3 1, 3) := by decide +kernel
theorem dX9_can_140 : decode cX9_can 140 = .ok (.goto (-76), 3) := by decide +kernel
theorem dX9_can_143 : decode cX9_can 143 = .ok (.goto (-87), 3) := by decide +kernel
theorem dX9_can_146 : decode cX9_can 146 = .ok (.iconst 0, 1) := by decide +kernel
theorem dX9_can_147 : decode cX9_can 147 = .ok (.istore_n 3, 1) := by decide +kernel
theorem dX9_can_148 : decode cX9_can 148 = .ok (.iconst 0, 1) := by decide +kernel
theorem dX9_can_149 : decode cX9_can 149 = .ok (.istore 4, 2) := by decide +kernel
theorem dX9_can_151 : decode cX9_can 151 = .ok (.iload 4, 2) := by decide +kernel
theorem dX9_can_153 : decode cX9_can 153 = .ok (.bipush 63, 2) := by decide +kernel
theorem dX9_can_155 : decode cX9_can 155 = .ok (.if_icmp .ge 27, 3) := by decide +kernel
theorem dX9_can_158 : decode cX9_can 158 = .ok (.iload_n 3, 1) := by decide +kernel
theorem dX9_can_159 : decode cX9_can 159 = .ok (.aload_n 0, 1) := by decide +kernel
theorem dX9_can_160 : decode cX9_can 160 = .ok (.getfield 77, 3) := by decide +kernel
theorem dX9_can_163 : decode cX9_can 163 = .ok (.iload 4, 2) := by decide +kernel
theorem dX9_can_165 : decode cX9_can 165 = .ok (.baload, 1) := by decide +kernel
theorem dX9_can_166 : decode cX9_can 166 = .ok (.invokestatic 215, 3) := by decide +kernel
theorem dX9_can_169 : decode cX9_can 169 = .ok (.iload 4, 2) := by decide +kernel
theorem dX9_can_171 : decode cX9_can 171 = .ok (.iconst 3, 1) := by decide +kernel
theorem dX9_can_172 : decode cX9_can 172 = .ok (.idiv, 1) := by decide +kernel
theorem dX9_can_173 : decode cX9_can 173 = .ok (.ishl, 1) := by decide +kernel
theorem dX9_can_174 : decode cX9_can 174 = .ok (.ior, 1) := by decide +kernel
theorem dX9_can_175 : decode cX9_can 175 = .ok (.istore_n 3, 1) := by decide +kernel
theorem dX9_can_176 : decode cX9_can 176 = .ok (.iinc 4 1, 3) := by decide +kernel
theorem dX9_can_179 : decode cX9_can 179 = .ok (.goto (-28), 3) := by decide +kernel
theorem dX9_can_182 : decode cX9_can 182 = .ok (.iload_n 3, 1) := by decide +kernel
theorem dX9_can_183 : decode cX9_can 183 = .ok (.ireturn, 1) := by decide +kernel
theorem dX9_areSome_0 : decode cX9_areSome 0 = .ok (.iload_n 0, 1) := by decide +kernel
theorem dX9_areSome_1 : decode cX9_areSome 1 = .ok (.i2l, 1) := by decide +kernel
theorem dX9_areSome_2 : decode cX9_areSome 2 = .ok (.lconst 1, 1) := by decide +kernel
theorem dX9_areSome_3 : decode cX9_areSome 3 = .ok (.ldc2_w 305, 3) := by decide +kernel
theorem dX9_areSome_6 : decode cX9_areSome 6 = .ok (.invokestatic 117, 3) := by decide +kernel
theorem dX9_areSome_9 : decode cX9_areSome 9 = .ok (.ireturn, 1) := by decide +kernel
theorem dX9_cost_0 : decode cX9_cost 0 = .ok (.iload_n 1, 1) := by decide +kernel
theorem dX9_cost_1 : decode cX9_cost 1 = .ok (.invokestatic 307, 3) := by decide +kernel
theorem dX9_cost_4 : decode cX9_cost 4 = .ok (.ifCond .eq 16, 3) := by decide +kernel
theorem dX9_cost_7 : decode cX9_cost 7 = .ok (.aload_n 0, 1) := by decide +kernel
theorem dX9_cost_8 : decode cX9_cost 8 = .ok (.getfield 7, 3) := by decide +kernel
theorem dX9_cost_11 : decode cX9_cost 11 = .ok (.sipush 160, 3) := by decide +kernel
theorem dX9_cost_14 : decode cX9_cost 14 = .ok (.iload_n 1, 1) := by decide +kernel
theorem dX9_cost_15 : decode cX9_cost 15 = .ok (.iadd, 1) := by decide +kernel
theorem dX9_cost_16 : decode cX9_cost 16 = .ok (.iaload, 1) := by decide +kernel
theorem dX9_cost_17 : decode cX9_cost 17 = .ok (.goto 4, 3) := by decide +kernel
theorem dX9_cost_20 : decode cX9_cost 20 = .ok (.iconst (-1), 1) := by decide +kernel
theorem dX9_cost_21 : decode cX9_cost 21 = .ok (.ireturn, 1) := by decide +kernel
theorem dX9_price_0 : decode cX9_price 0 = .ok (.iload_n 1, 1) := by decide +kernel
theorem dX9_price_1 : decode cX9_price 1 = .ok (.invokestatic 307, 3) := by decide +kernel
theorem dX9_price_4 : decode cX9_price 4 = .ok (.ifCond .eq 15, 3) := by decide +kernel
theorem dX9_price_7 : decode cX9_price 7 = .ok (.iload_n 2, 1) := by decide +kernel
theorem dX9_price_8 : decode cX9_price 8 = .ok (.i2l, 1) := by decide +kernel
theorem dX9_price_9 : decode cX9_price 9 = .ok (.lconst 0, 1) := by decide +kernel
theorem dX9_price_10 : decode cX9_price 10 = .ok (.ldc2_w 231, 3) := by decide +kernel
theorem dX9_price_13 : decode cX9_price 13 = .ok (.invokestatic 117, 3) := by decide +kernel
theorem dX9_price_16 : decode cX9_price 16 = .ok (.ifCond .ne 5, 3) := by decide +kernel
theorem dX9_price_19 : decode cX9_price 19 = .ok (.iconst (-1), 1) := by decide +kernel
theorem dX9_price_20 : decode cX9_price 20 = .ok (.ireturn, 1) := by decide +kernel
theorem dX9_price_21 : decode cX9_price 21 = .ok (.aload_n 0, 1) := by decide +kernel
theorem dX9_price_22 : decode cX9_price 22 = .ok (.getfield 7, 3) := by decide +kernel
theorem dX9_price_25 : decode cX9_price 25 = .ok (.sipush 160, 3) := by decide +kernel
theorem dX9_price_28 : decode cX9_price 28 = .ok (.iload_n 1, 1) := by decide +kernel
theorem dX9_price_29 : decode cX9_price 29 = .ok (.iadd, 1) := by decide +kernel
theorem dX9_price_30 : decode cX9_price 30 = .ok (.iaload, 1) := by decide +kernel
theorem dX9_price_31 : decode cX9_price 31 = .ok (.istore_n 3, 1) := by decide +kernel
theorem dX9_price_32 : decode cX9_price 32 = .ok (.aload_n 0, 1) := by decide +kernel
theorem dX9_price_33 : decode cX9_price 33 = .ok (.getfield 7, 3) := by decide +kernel
theorem dX9_price_36 : decode cX9_price 36 = .ok (.sipush 160, 3) := by decide +kernel
theorem dX9_price_39 : decode cX9_price 39 = .ok (.iload_n 1, 1) := by decide +kernel
theorem dX9_price_40 : decode cX9_price 40 = .ok (.iadd, 1) := by decide +kernel
theorem dX9_price_41 : decode cX9_price 41 = .ok (.iload_n 2, 1) := by decide +kernel
theorem dX9_price_42 : decode cX9_price 42 = .ok (.iastore, 1) := by decide +kernel
theorem dX9_price_43 : decode cX9_price 43 = .ok (.iload_n 3, 1) := by decide +kernel
theorem dX9_price_44 : decode cX9_price 44 = .ok (.ireturn, 1) := by decide +kernel
theorem dX9_areFirm_0 : decode cX9_areFirm 0 = .ok (.iload_n 1, 1) := by decide +kernel
theorem dX9_areFirm_1 : decode cX9_areFirm 1 = .ok (.aload_n 0, 1) := by decide +kernel
theorem dX9_areFirm_2 : decode cX9_areFirm 2 = .ok (.getfield 7, 3) := by decide +kernel
theorem dX9_areFirm_5 : decode cX9_areFirm 5 = .ok (.sipush 161, 3) := by decide +kernel
theorem dX9_areFirm_8 : decode cX9_areFirm 8 = .ok (.iaload, 1) := by decide +kernel
theorem dX9_areFirm_9 : decode cX9_areFirm 9 = .ok (.if_icmp .gt 31, 3) := by decide +kernel
theorem dX9_areFirm_12 : decode cX9_areFirm 12 = .ok (.iload_n 2, 1) := by decide +kernel
theorem dX9_areFirm_13 : decode cX9_areFirm 13 = .ok (.aload_n 0, 1) := by decide +kernel
theorem dX9_areFirm_14 : decode cX9_areFirm 14 = .ok (.getfield 7, 3) := by decide +kernel
theorem dX9_areFirm_17 : decode cX9_areFirm 17 = .ok (.sipush 162, 3) := by decide +kernel
theorem dX9_areFirm_20 : decode cX9_areFirm 20 = .ok (.iaload, 1) := by decide +kernel
theorem dX9_areFirm_21 : decode cX9_areFirm 21 = .ok (.if_icmp .gt 19, 3) := by decide +kernel
theorem dX9_areFirm_24 : decode cX9_areFirm 24 = .ok (.iload_n 3, 1) := by decide +kernel
theorem dX9_areFirm_25 : decode cX9_areFirm 25 = .ok (.aload_n 0, 1) := by decide +kernel
theorem dX9_areFirm_26 : decode cX9_areFirm 26 = .ok (.getfield 7, 3) := by decide +kernel
theorem dX9_areFirm_29 : decode cX9_areFirm 29 = .ok (.sipush 164, 3) := by decide +kernel
theorem dX9_areFirm_32 : decode cX9_areFirm 32 = .ok (.iaload, 1) := by decide +kernel
theorem dX9_areFirm_33 : decode cX9_areFirm 33 = .ok (.if_icmp .gt 7, 3) := by decide +kernel
theorem dX9_areFirm_36 : decode cX9_areFirm 36 = .ok (.iconst 1, 1) := by decide +kernel
theorem dX9_areFirm_37 : decode cX9_areFirm 37 = .ok (.goto 4, 3) := by decide +kernel
theorem dX9_areFirm_40 : decode cX9_areFirm 40 = .ok (.iconst 0, 1) := by decide +kernel
theorem dX9_areFirm_41 : decode cX9_areFirm 41 = .ok (.istore 4, 2) := by decide +kernel
theorem dX9_areFirm_43 : decode cX9_areFirm 43 = .ok (.iload 4, 2) := by decide +kernel
theorem dX9_areFirm_45 : decode cX9_areFirm 45 = .ok (.ifCond .eq 65, 3) := by decide +kernel
theorem dX9_areFirm_48 : decode cX9_areFirm 48 = .ok (.iload_n 1, 1) := by decide +kernel
theorem dX9_areFirm_49 : decode cX9_areFirm 49 = .ok (.iload_n 2, 1) := by decide +kernel
theorem dX9_areFirm_50 : decode cX9_areFirm 50 = .ok (.iadd, 1) := by decide +kernel
theorem dX9_areFirm_51 : decode cX9_areFirm 51 = .ok (.iload_n 3, 1) := by decide +kernel
theorem dX9_areFirm_52 : decode cX9_areFirm 52 = .ok (.iadd, 1) := by decide +kernel
theorem dX9_areFirm_53 : decode cX9_areFirm 53 = .ok (.aload_n 0, 1) := by decide +kernel
theorem dX9_areFirm_54 : decode cX9_areFirm 54 = .ok (.getfield 7, 3) := by decide +kernel
theorem dX9_areFirm_57 : decode cX9_areFirm 57 = .ok (.sipush 167, 3) := by decide +kernel
theorem dX9_areFirm_60 : decode cX9_areFirm 60 = .ok (.iaload, 1) := by decide +kernel
theorem dX9_areFirm_61 : decode cX9_areFirm 61 = .ok (.if_icmp .ne 49, 3) := by decide +kernel
theorem dX9_areFirm_64 : decode cX9_areFirm 64 = .ok (.iload_n 1, 1) := by decide +kernel
theorem dX9_areFirm_65 : decode cX9_areFirm 65 = .ok (.iload_n 2, 1) := by decide +kernel
theorem dX9_areFirm_66 : decode cX9_areFirm 66 = .ok (.iadd, 1) := by decide +kernel
theorem dX9_areFirm_67 : decode cX9_areFirm 67 = .ok (.aload_n 0, 1) := by decide +kernel
theorem dX9_areFirm_68 : decode cX9_areFirm 68 = .ok (.getfield 7, 3) := by decide +kernel
theorem dX9_areFirm_71 : decode cX9_areFirm 71 = .ok (.sipush 163, 3) := by decide +kernel
theorem dX9_areFirm_74 : decode cX9_areFirm 74 = .ok (.iaload, 1) := by decide +kernel
theorem dX9_areFirm_75 : decode cX9_areFirm 75 = .ok (.if_icmp .gt 35, 3) := by decide +kernel
theorem dX9_areFirm_78 : decode cX9_areFirm 78 = .ok (.iload_n 1, 1) := by decide +kernel
theorem dX9_areFirm_79 : decode cX9_areFirm 79 = .ok (.iload_n 3, 1) := by decide +kernel
theorem dX9_areFirm_80 : decode cX9_areFirm 80 = .ok (.iadd, 1) := by decide +kernel
theorem dX9_areFirm_81 : decode cX9_areFirm 81 = .ok (.aload_n 0, 1) := by decide +kernel
theorem dX9_areFirm_82 : decode cX9_areFirm 82 = .ok (.getfield 7, 3) := by decide +kernel
theorem dX9_areFirm_85 : decode cX9_areFirm 85 = .ok (.sipush 165, 3) := by decide +kernel
theorem dX9_areFirm_88 : decode cX9_areFirm 88 = .ok (.iaload, 1) := by decide +kernel
theorem dX9_areFirm_89 : decode cX9_areFirm 89 = .ok (.if_icmp .gt 21, 3) := by decide +kernel
theorem dX9_areFirm_92 : decode cX9_areFirm 92 = .ok (.iload_n 2, 1) := by decide +kernel
theorem dX9_areFirm_93 : decode cX9_areFirm 93 = .ok (.iload_n 3, 1) := by decide +kernel
theorem dX9_areFirm_94 : decode cX9_areFirm 94 = .ok (.iadd, 1) := by decide +kernel
theorem dX9_areFirm_95 : decode cX9_areFirm 95 = .ok (.aload_n 0, 1) := by decide +kernel
theorem dX9_areFirm_96 : decode cX9_areFirm 96 = .ok (.getfield 7, 3) := by decide +kernel
theorem dX9_areFirm_99 : decode cX9_areFirm 99 = .ok (.sipush 166, 3) := by decide +kernel
theorem dX9_areFirm_102 : decode cX9_areFirm 102 = .ok (.iaload, 1) := by decide +kernel
theorem dX9_areFirm_103 : decode cX9_areFirm 103 = .ok (.if_icmp .gt 7, 3) := by decide +kernel
theorem dX9_areFirm_106 : decode cX9_areFirm 106 = .ok (.iconst 1, 1) := by decide +kernel
theorem dX9_areFirm_107 : decode cX9_areFirm 107 = .ok (.goto 4, 3) := by decide +kernel
theorem dX9_areFirm_110 : decode cX9_areFirm 110 = .ok (.iconst 0, 1) := by decide +kernel
theorem dX9_areFirm_111 : decode cX9_areFirm 111 = .ok (.ireturn, 1) := by decide +kernel
theorem dX9_isShare_0 : decode cX9_isShare 0 = .ok (.iload_n 0, 1) := by decide +kernel
theorem dX9_isShare_1 : decode cX9_isShare 1 = .ok (.i2l, 1) := by decide +kernel
theorem dX9_isShare_2 : decode cX9_isShare 2 = .ok (.lconst 0, 1) := by decide +kernel
theorem dX9_isShare_3 : decode cX9_isShare 3 = .ok (.ldc2_w 231, 3) := by decide +kernel
theorem dX9_isShare_6 : decode cX9_isShare 6 = .ok (.invokestatic 117, 3) := by decide +kernel
theorem dX9_isShare_9 : decode cX9_isShare 9 = .ok (.ireturn, 1) := by decide +kernel
theorem dX9_firm_0 : decode cX9_firm 0 = .ok (.iload_n 1, 1) := by decide +kernel
theorem dX9_firm_1 : decode cX9_firm 1 = .ok (.invokestatic 310, 3) := by decide +kernel
theorem dX9_firm_4 : decode cX9_firm 4 = .ok (.ifCond .eq 30, 3) := by decide +kernel
theorem dX9_firm_7 : decode cX9_firm 7 = .ok (.iload_n 2, 1) := by decide +kernel
theorem dX9_firm_8 : decode cX9_firm 8 = .ok (.invokestatic 310, 3) := by decide +kernel
theorem dX9_firm_11 : decode cX9_firm 11 = .ok (.ifCond .eq 23, 3) := by decide +kernel
theorem dX9_firm_14 : decode cX9_firm 14 = .ok (.iload_n 3, 1) := by decide +kernel
theorem dX9_firm_15 : decode cX9_firm 15 = .ok (.invokestatic 310, 3) := by decide +kernel
theorem dX9_firm_18 : decode cX9_firm 18 = .ok (.ifCond .eq 16, 3) := by decide +kernel
theorem dX9_firm_21 : decode cX9_firm 21 = .ok (.aload_n 0, 1) := by decide +kernel
theorem dX9_firm_22 : decode cX9_firm 22 = .ok (.iload_n 1, 1) := by decide +kernel
theorem dX9_firm_23 : decode cX9_firm 23 = .ok (.iload_n 2, 1) := by decide +kernel
theorem dX9_firm_24 : decode cX9_firm 24 = .ok (.iload_n 3, 1) := by decide +kernel
theorem dX9_firm_25 : decode cX9_firm 25 = .ok (.invokevirtual 313, 3) := by decide +kernel
theorem dX9_firm_28 : decode cX9_firm 28 = .ok (.invokestatic 215, 3) := by decide +kernel
theorem dX9_firm_31 : decode cX9_firm 31 = .ok (.goto 4, 3) := by decide +kernel
theorem dX9_firm_34 : decode cX9_firm 34 = .ok (.iconst (-1), 1) := by decide +kernel
theorem dX9_firm_35 : decode cX9_firm 35 = .ok (.ireturn, 1) := by decide +kernel
theorem dX9_shares_0 : decode cX9_shares 0 = .ok (.iload_n 1, 1) := by decide +kernel
theorem dX9_shares_1 : decode cX9_shares 1 = .ok (.i2l, 1) := by decide +kernel
theorem dX9_shares_2 : decode cX9_shares 2 = .ok (.lconst 0, 1) := by decide +kernel
theorem dX9_shares_3 : decode cX9_shares 3 = .ok (.lconst 1, 1) := by decide +kernel
theorem dX9_shares_4 : decode cX9_shares 4 = .ok (.invokestatic 117, 3) := by decide +kernel
theorem dX9_shares_7 : decode cX9_shares 7 = .ok (.ifCond .ne 5, 3) := by decide +kernel
theorem dX9_shares_10 : decode cX9_shares 10 = .ok (.iconst (-1), 1) := by decide +kernel
theorem dX9_shares_11 : decode cX9_shares 11 = .ok (.ireturn, 1) := by decide +kernel
theorem dX9_shares_12 : decode cX9_shares 12 = .ok (.iconst 0, 1) := by decide +kernel
theorem dX9_shares_13 : decode cX9_shares 13 = .ok (.istore_n 2, 1) := by decide +kernel
theorem dX9_shares_14 : decode cX9_shares 14 = .ok (.bipush (-4), 2) := by decide +kernel
theorem dX9_shares_16 : decode cX9_shares 16 = .ok (.istore_n 3, 1) := by decide +kernel
theorem dX9_shares_17 : decode cX9_shares 17 = .ok (.iconst 0, 1) := by decide +kernel
theorem dX9_shares_18 : decode cX9_shares 18 = .ok (.istore 4, 2) := by decide +kernel
theorem dX9_shares_20 : decode cX9_shares 20 = .ok (.iload 4, 2) := by decide +kernel
theorem dX9_shares_22 : decode cX9_shares 22 = .ok (.bipush 60, 2) := by decide +kernel
theorem dX9_shares_24 : decode cX9_shares 24 = .ok (.if_icmp .gt 89, 3) := by decide +kernel
theorem dX9_shares_27 : decode cX9_shares 27 = .ok (.iconst 0, 1) := by decide +kernel
theorem dX9_shares_28 : decode cX9_shares 28 = .ok (.istore 5, 2) := by decide +kernel
theorem dX9_shares_30 : decode cX9_shares 30 = .ok (.iload 5, 2) := by decide +kernel
theorem dX9_shares_32 : decode cX9_shares 32 = .ok (.bipush 60, 2) := by decide +kernel
theorem dX9_shares_34 : decode cX9_shares 34 = .ok (.if_icmp .gt 73, 3) := by decide +kernel
theorem dX9_shares_37 : decode cX9_shares 37 = .ok (.aload_n 0, 1) := by decide +kernel
theorem dX9_shares_38 : decode cX9_shares 38 = .ok (.getfield 7, 3) := by decide +kernel
theorem dX9_shares_41 : decode cX9_shares 41 = .ok (.sipush 167, 3) := by decide +kernel
theorem dX9_shares_44 : decode cX9_shares 44 = .ok (.iaload, 1) := by decide +kernel
theorem dX9_shares_45 : decode cX9_shares 45 = .ok (.iload 4, 2) := by decide +kernel
theorem dX9_shares_47 : decode cX9_shares 47 = .ok (.isub, 1) := by decide +kernel
theorem dX9_shares_48 : decode cX9_shares 48 = .ok (.iload 5, 2) := by decide +kernel
theorem dX9_shares_50 : decode cX9_shares 50 = .ok (.isub, 1) := by decide +kernel
theorem dX9_shares_51 : decode cX9_shares 51 = .ok (.istore 6, 2) := by decide +kernel
theorem dX9_shares_53 : decode cX9_shares 53 = .ok (.iload 6, 2) := by decide +kernel
theorem dX9_shares_55 : decode cX9_shares 55 = .ok (.invokestatic 310, 3) := by decide +kernel
theorem dX9_shares_58 : decode cX9_shares 58 = .ok (.ifCond .eq 43, 3) := by decide +kernel
theorem dX9_shares_61 : decode cX9_shares 61 = .ok (.aload_n 0, 1) := by decide +kernel
theorem dX9_shares_62 : decode cX9_shares 62 = .ok (.iload 4, 2) := by decide +kernel
theorem dX9_shares_64 : decode cX9_shares 64 = .ok (.iload 5, 2) := by decide +kernel
theorem dX9_shares_66 : decode cX9_shares 66 = .ok (.iload 6, 2) := by decide +kernel
theorem dX9_shares_68 : decode cX9_shares 68 = .ok (.invokevirtual 313, 3) := by decide +kernel
theorem dX9_shares_71 : decode cX9_shares 71 = .ok (.ifCond .eq 30, 3) := by decide +kernel
theorem dX9_shares_74 : decode cX9_shares 74 = .ok (.iload_n 2, 1) := by decide +kernel
theorem dX9_shares_75 : decode cX9_shares 75 = .ok (.ifCond .ne 21, 3) := by decide +kernel
theorem dX9_shares_78 : decode cX9_shares 78 = .ok (.sipush 10000, 3) := by decide +kernel
theorem dX9_shares_81 : decode cX9_shares 81 = .ok (.iload 4, 2) := by decide +kernel
theorem dX9_shares_83 : decode cX9_shares 83 = .ok (.imul, 1) := by decide +kernel
theorem dX9_shares_84 : decode cX9_shares 84 = .ok (.bipush 100, 2) := by decide +kernel
theorem dX9_shares_86 : decode cX9_shares 86 = .ok (.iload 5, 2) := by decide +kernel
theorem dX9_shares_88 : decode cX9_shares 88 = .ok (.imul, 1) := by decide +kernel
theorem dX9_shares_89 : decode cX9_shares 89 = .ok (.iadd, 1) := by decide +kernel
theorem dX9_shares_90 : decode cX9_shares 90 = .ok (.iload 6, 2) := by decide +kernel
theorem dX9_shares_92 : decode cX9_shares 92 = .ok (.iadd, 1) := by decide +kernel
theorem dX9_shares_93 : decode cX9_shares 93 = .ok (.goto 4, 3) := by decide +kernel
theorem dX9_shares_96 : decode cX9_shares 96 = .ok (.iload_n 3, 1) := by decide +kernel
theorem dX9_shares_97 : decode cX9_shares 97 = .ok (.istore_n 3, 1) := by decide +kernel
theorem dX9_shares_98 : decode cX9_shares 98 = .ok (.iinc 2 1, 3) := by decide +kernel
theorem dX9_shares_101 : decode cX9_shares 101 = .ok (.iinc 5 1, 3) := by decide +kernel
theorem dX9_shares_104 : decode cX9_shares 104 = .ok (.goto (-74), 3) := by decide +kernel
theorem dX9_shares_107 : decode cX9_shares 107 = .ok (.iinc 4 1, 3) := by decide +kernel
theorem dX9_shares_110 : decode cX9_shares 110 = .ok (.goto (-90), 3) := by decide +kernel
theorem dX9_shares_113 : decode cX9_shares 113 = .ok (.iload_n 1, 1) := by decide +kernel
theorem dX9_shares_114 : decode cX9_shares 114 = .ok (.ifCond .ne 7, 3) := by decide +kernel
theorem dX9_shares_117 : decode cX9_shares 117 = .ok (.iload_n 2, 1) := by decide +kernel
theorem dX9_shares_118 : decode cX9_shares 118 = .ok (.goto 4, 3) := by decide +kernel
theorem dX9_shares_121 : decode cX9_shares 121 = .ok (.iload_n 3, 1) := by decide +kernel
theorem dX9_shares_122 : decode cX9_shares 122 = .ok (.ireturn, 1) := by decide +kernel
theorem dX9_track_0 : decode cX9_track 0 = .ok (.aload_n 0, 1) := by decide +kernel
theorem dX9_track_1 : decode cX9_track 1 = .ok (.iload_n 1, 1) := by decide +kernel
theorem dX9_track_2 : decode cX9_track 2 = .ok (.invokevirtual 211, 3) := by decide +kernel
theorem dX9_track_5 : decode cX9_track 5 = .ok (.ifCond .eq 10, 3) := by decide +kernel
theorem dX9_track_8 : decode cX9_track 8 = .ok (.iload_n 2, 1) := by decide +kernel
theorem dX9_track_9 : decode cX9_track 9 = .ok (.invokestatic 236, 3) := by decide +kernel
theorem dX9_track_12 : decode cX9_track 12 = .ok (.ifCond .ne 5, 3) := by decide +kernel
theorem dX9_track_15 : decode cX9_track 15 = .ok (.iconst (-1), 1) := by decide +kernel
theorem dX9_track_16 : decode cX9_track 16 = .ok (.ireturn, 1) := by decide +kernel
theorem dX9_track_17 : decode cX9_track 17 = .ok (.aload_n 0, 1) := by decide +kernel
theorem dX9_track_18 : decode cX9_track 18 = .ok (.getfield 7, 3) := by decide +kernel
theorem dX9_track_21 : decode cX9_track 21 = .ok (.sipush 168, 3) := by decide +kernel
theorem dX9_track_24 : decode cX9_track 24 = .ok (.iaload, 1) := by decide +kernel
theorem dX9_track_25 : decode cX9_track 25 = .ok (.bipush 8, 2) := by decide +kernel
theorem dX9_track_27 : decode cX9_track 27 = .ok (.if_icmp .ne 6, 3) := by decide +kernel
theorem dX9_track_30 : decode cX9_track 30 = .ok (.bipush (-3), 2) := by decide +kernel
theorem dX9_track_32 : decode cX9_track 32 = .ok (.ireturn, 1) := by decide +kernel
theorem dX9_track_33 : decode cX9_track 33 = .ok (.sipush 169, 3) := by decide +kernel
theorem dX9_track_36 : decode cX9_track 36 = .ok (.iconst 2, 1) := by decide +kernel
theorem dX9_track_37 : decode cX9_track 37 = .ok (.aload_n 0, 1) := by decide +kernel
theorem dX9_track_38 : decode cX9_track 38 = .ok (.getfield 7, 3) := by decide +kernel
theorem dX9_track_41 : decode cX9_track 41 = .ok (.sipush 168, 3) := by decide +kernel
theorem dX9_track_44 : decode cX9_track 44 = .ok (.iaload, 1) := by decide +kernel
theorem dX9_track_45 : decode cX9_track 45 = .ok (.imul, 1) := by decide +kernel
theorem dX9_track_46 : decode cX9_track 46 = .ok (.iadd, 1) := by decide +kernel
theorem dX9_track_47 : decode cX9_track 47 = .ok (.istore_n 3, 1) := by decide +kernel
theorem dX9_track_48 : decode cX9_track 48 = .ok (.aload_n 0, 1) := by decide +kernel
theorem dX9_track_49 : decode cX9_track 49 = .ok (.getfield 7, 3) := by decide +kernel
theorem dX9_track_52 : decode cX9_track 52 = .ok (.iload_n 3, 1) := by decide +kernel
theorem dX9_track_53 : decode cX9_track 53 = .ok (.iload_n 1, 1) := by decide +kernel
theorem dX9_track_54 : decode cX9_track 54 = .ok (.iastore, 1) := by decide +kernel
theorem dX9_track_55 : decode cX9_track 55 = .ok (.aload_n 0, 1) := by decide +kernel
theorem dX9_track_56 : decode cX9_track 56 = .ok (.getfield 7, 3) := by decide +kernel
theorem dX9_track_59 : decode cX9_track 59 = .ok (.iload_n 3, 1) := by decide +kernel
theorem dX9_track_60 : decode cX9_track 60 = .ok (.iconst 1, 1) := by decide +kernel
theorem dX9_track_61 : decode cX9_track 61 = .ok (.iadd, 1) := by decide +kernel
theorem dX9_track_62 : decode cX9_track 62 = .ok (.iload_n 2, 1) := by decide +kernel
theorem dX9_track_63 : decode cX9_track 63 = .ok (.iastore, 1) := by decide +kernel
theorem dX9_track_64 : decode cX9_track 64 = .ok (.aload_n 0, 1) := by decide +kernel
theorem dX9_track_65 : decode cX9_track 65 = .ok (.getfield 7, 3) := by decide +kernel
theorem dX9_track_68 : decode cX9_track 68 = .ok (.sipush 168, 3) := by decide +kernel
theorem dX9_track_71 : decode cX9_track 71 = .ok (.dup2, 1) := by decide +kernel
theorem dX9_track_72 : decode cX9_track 72 = .ok (.iaload, 1) := by decide +kernel
theorem dX9_track_73 : decode cX9_track 73 = .ok (.iconst 1, 1) := by decide +kernel
theorem dX9_track_74 : decode cX9_track 74 = .ok (.iadd, 1) := by decide +kernel
theorem dX9_track_75 : decode cX9_track 75 = .ok (.iastore, 1) := by decide +kernel
theorem dX9_track_76 : decode cX9_track 76 = .ok (.aload_n 0, 1) := by decide +kernel
theorem dX9_track_77 : decode cX9_track 77 = .ok (.getfield 7, 3) := by decide +kernel
theorem dX9_track_80 : decode cX9_track 80 = .ok (.sipush 168, 3) := by decide +kernel
theorem dX9_track_83 : decode cX9_track 83 = .ok (.iaload, 1) := by decide +kernel
theorem dX9_track_84 : decode cX9_track 84 = .ok (.ireturn, 1) := by decide +kernel
theorem dX9_forget_0 : decode cX9_forget 0 = .ok (.iload_n 1, 1) := by decide +kernel
theorem dX9_forget_1 : decode cX9_forget 1 = .ok (.i2l, 1) := by decide +kernel
theorem dX9_forget_2 : decode cX9_forget 2 = .ok (.lconst 0, 1) := by decide +kernel
theorem dX9_forget_3 : decode cX9_forget 3 = .ok (.aload_n 0, 1) := by decide +kernel
theorem dX9_forget_4 : decode cX9_forget 4 = .ok (.getfield 7, 3) := by decide +kernel
theorem dX9_forget_7 : decode cX9_forget 7 = .ok (.sipush 168, 3) := by decide +kernel
theorem dX9_forget_10 : decode cX9_forget 10 = .ok (.iaload, 1) := by decide +kernel
theorem dX9_forget_11 : decode cX9_forget 11 = .ok (.i2l, 1) := by decide +kernel
theorem dX9_forget_12 : decode cX9_forget 12 = .ok (.invokestatic 117, 3) := by decide +kernel
theorem dX9_forget_15 : decode cX9_forget 15 = .ok (.ifCond .ne 5, 3) := by decide +kernel
theorem dX9_forget_18 : decode cX9_forget 18 = .ok (.iconst (-1), 1) := by decide +kernel
theorem dX9_forget_19 : decode cX9_forget 19 = .ok (.ireturn, 1) := by decide +kernel
theorem dX9_forget_20 : decode cX9_forget 20 = .ok (.aload_n 0, 1) := by decide +kernel
theorem dX9_forget_21 : decode cX9_forget 21 = .ok (.getfield 7, 3) := by decide +kernel
theorem dX9_forget_24 : decode cX9_forget 24 = .ok (.sipush 168, 3) := by decide +kernel
theorem dX9_forget_27 : decode cX9_forget 27 = .ok (.iaload, 1) := by decide +kernel
theorem dX9_forget_28 : decode cX9_forget 28 = .ok (.istore_n 2, 1) := by decide +kernel
theorem dX9_forget_29 : decode cX9_forget 29 = .ok (.aload_n 0, 1) := by decide +kernel
theorem dX9_forget_30 : decode cX9_forget 30 = .ok (.getfield 7, 3) := by decide +kernel
theorem dX9_forget_33 : decode cX9_forget 33 = .ok (.sipush 168, 3) := by decide +kernel
theorem dX9_forget_36 : decode cX9_forget 36 = .ok (.iload_n 1, 1) := by decide +kernel
theorem dX9_forget_37 : decode cX9_forget 37 = .ok (.iastore, 1) := by decide +kernel
theorem dX9_forget_38 : decode cX9_forget 38 = .ok (.iload_n 2, 1) := by decide +kernel
theorem dX9_forget_39 : decode cX9_forget 39 = .ok (.ireturn, 1) := by decide +kernel
theorem dX9_goesTo_0 : decode cX9_goesTo 0 = .ok (.aload_n 0, 1) := by decide +kernel
theorem dX9_goesTo_1 : decode cX9_goesTo 1 = .ok (.iload_n 1, 1) := by decide +kernel
theorem dX9_goesTo_2 : decode cX9_goesTo 2 = .ok (.iconst 4, 1) := by decide +kernel
theorem dX9_goesTo_3 : decode cX9_goesTo 3 = .ok (.invokevirtual 228, 3) := by decide +kernel
theorem dX9_goesTo_6 : decode cX9_goesTo 6 = .ok (.istore_n 3, 1) := by decide +kernel
theorem dX9_goesTo_7 : decode cX9_goesTo 7 = .ok (.aload_n 0, 1) := by decide +kernel
theorem dX9_goesTo_8 : decode cX9_goesTo 8 = .ok (.iload_n 1, 1) := by decide +kernel
theorem dX9_goesTo_9 : decode cX9_goesTo 9 = .ok (.iconst 5, 1) := by decide +kernel
theorem dX9_goesTo_10 : decode cX9_goesTo 10 = .ok (.invokevirtual 228, 3) := by decide +kernel
theorem dX9_goesTo_13 : decode cX9_goesTo 13 = .ok (.istore 4, 2) := by decide +kernel
theorem dX9_goesTo_15 : decode cX9_goesTo 15 = .ok (.aload_n 0, 1) := by decide +kernel
theorem dX9_goesTo_16 : decode cX9_goesTo 16 = .ok (.iload_n 1, 1) := by decide +kernel
theorem dX9_goesTo_17 : decode cX9_goesTo 17 = .ok (.iconst 0, 1) := by decide +kernel
theorem dX9_goesTo_18 : decode cX9_goesTo 18 = .ok (.invokevirtual 228, 3) := by decide +kernel
theorem dX9_goesTo_21 : decode cX9_goesTo 21 = .ok (.iconst 2, 1) := by decide +kernel
theorem dX9_goesTo_22 : decode cX9_goesTo 22 = .ok (.if_icmp .eq 46, 3) := by decide +kernel
theorem dX9_goesTo_25 : decode cX9_goesTo 25 = .ok (.iload_n 3, 1) := by decide +kernel
theorem dX9_goesTo_26 : decode cX9_goesTo 26 = .ok (.iload 4, 2) := by decide +kernel
theorem dX9_goesTo_28 : decode cX9_goesTo 28 = .ok (.if_icmp .ge 21, 3) := by decide +kernel
theorem dX9_goesTo_31 : decode cX9_goesTo 31 = .ok (.iload_n 2, 1) := by decide +kernel
theorem dX9_goesTo_32 : decode cX9_goesTo 32 = .ok (.i2l, 1) := by decide +kernel
theorem dX9_goesTo_33 : decode cX9_goesTo 33 = .ok (.iload_n 3, 1) := by decide +kernel
theorem dX9_goesTo_34 : decode cX9_goesTo 34 = .ok (.iconst 1, 1) := by decide +kernel
theorem dX9_goesTo_35 : decode cX9_goesTo 35 = .ok (.iadd, 1) := by decide +kernel
theorem dX9_goesTo_36 : decode cX9_goesTo 36 = .ok (.i2l, 1) := by decide +kernel
theorem dX9_goesTo_37 : decode cX9_goesTo 37 = .ok (.iload 4, 2) := by decide +kernel
theorem dX9_goesTo_39 : decode cX9_goesTo 39 = .ok (.i2l, 1) := by decide +kernel
theorem dX9_goesTo_40 : decode cX9_goesTo 40 = .ok (.invokestatic 117, 3) := by decide +kernel
theorem dX9_goesTo_43 : decode cX9_goesTo 43 = .ok (.ifCond .eq 25, 3) := by decide +kernel
theorem dX9_goesTo_46 : decode cX9_goesTo 46 = .ok (.goto 18, 3) := by decide +kernel
theorem dX9_goesTo_49 : decode cX9_goesTo 49 = .ok (.iload_n 2, 1) := by decide +kernel
theorem dX9_goesTo_50 : decode cX9_goesTo 50 = .ok (.i2l, 1) := by decide +kernel
theorem dX9_goesTo_51 : decode cX9_goesTo 51 = .ok (.iload 4, 2) := by decide +kernel
theorem dX9_goesTo_53 : decode cX9_goesTo 53 = .ok (.i2l, 1) := by decide +kernel
theorem dX9_goesTo_54 : decode cX9_goesTo 54 = .ok (.iload_n 3, 1) := by decide +kernel
theorem dX9_goesTo_55 : decode cX9_goesTo 55 = .ok (.iconst 1, 1) := by decide +kernel
theorem dX9_goesTo_56 : decode cX9_goesTo 56 = .ok (.isub, 1) := by decide +kernel
theorem dX9_goesTo_57 : decode cX9_goesTo 57 = .ok (.i2l, 1) := by decide +kernel
theorem dX9_goesTo_58 : decode cX9_goesTo 58 = .ok (.invokestatic 117, 3) := by decide +kernel
theorem dX9_goesTo_61 : decode cX9_goesTo 61 = .ok (.ifCond .eq 7, 3) := by decide +kernel
theorem dX9_goesTo_64 : decode cX9_goesTo 64 = .ok (.iconst 1, 1) := by decide +kernel
theorem dX9_goesTo_65 : decode cX9_goesTo 65 = .ok (.goto 4, 3) := by decide +kernel
theorem dX9_goesTo_68 : decode cX9_goesTo 68 = .ok (.iconst 0, 1) := by decide +kernel
theorem dX9_goesTo_69 : decode cX9_goesTo 69 = .ok (.ireturn, 1) := by decide +kernel
theorem dX9_lastTo_0 : decode cX9_lastTo 0 = .ok (.bipush (-4), 2) := by decide +kernel
theorem dX9_lastTo_2 : decode cX9_lastTo 2 = .ok (.istore_n 2, 1) := by decide +kernel
theorem dX9_lastTo_3 : decode cX9_lastTo 3 = .ok (.iconst 0, 1) := by decide +kernel
theorem dX9_lastTo_4 : decode cX9_lastTo 4 = .ok (.istore_n 3, 1) := by decide +kernel
theorem dX9_lastTo_5 : decode cX9_lastTo 5 = .ok (.iload_n 3, 1) := by decide +kernel
theorem dX9_lastTo_6 : decode cX9_lastTo 6 = .ok (.aload_n 0, 1) := by decide +kernel
theorem dX9_lastTo_7 : decode cX9_lastTo 7 = .ok (.getfield 7, 3) := by decide +kernel
theorem dX9_lastTo_10 : decode cX9_lastTo 10 = .ok (.iconst 0, 1) := by decide +kernel
theorem dX9_lastTo_11 : decode cX9_lastTo 11 = .ok (.iaload, 1) := by decide +kernel
theorem dX9_lastTo_12 : decode cX9_lastTo 12 = .ok (.if_icmp .ge 34, 3) := by decide +kernel
theorem dX9_lastTo_15 : decode cX9_lastTo 15 = .ok (.aload_n 0, 1) := by decide +kernel
theorem dX9_lastTo_16 : decode cX9_lastTo 16 = .ok (.aload_n 0, 1) := by decide +kernel
theorem dX9_lastTo_17 : decode cX9_lastTo 17 = .ok (.getfield 65, 3) := by decide +kernel
theorem dX9_lastTo_20 : decode cX9_lastTo 20 = .ok (.iload_n 3, 1) := by decide +kernel
theorem dX9_lastTo_21 : decode cX9_lastTo 21 = .ok (.iaload, 1) := by decide +kernel
theorem dX9_lastTo_22 : decode cX9_lastTo 22 = .ok (.iload_n 1, 1) := by decide +kernel
theorem dX9_lastTo_23 : decode cX9_lastTo 23 = .ok (.invokevirtual 316, 3) := by decide +kernel
theorem dX9_lastTo_26 : decode cX9_lastTo 26 = .ok (.ifCond .eq 12, 3) := by decide +kernel
theorem dX9_lastTo_29 : decode cX9_lastTo 29 = .ok (.aload_n 0, 1) := by decide +kernel
theorem dX9_lastTo_30 : decode cX9_lastTo 30 = .ok (.getfield 65, 3) := by decide +kernel
theorem dX9_lastTo_33 : decode cX9_lastTo 33 = .ok (.iload_n 3, 1) := by decide +kernel
theorem dX9_lastTo_34 : decode cX9_lastTo 34 = .ok (.iaload, 1) := by decide +kernel
theorem dX9_lastTo_35 : decode cX9_lastTo 35 = .ok (.goto 4, 3) := by decide +kernel
theorem dX9_lastTo_38 : decode cX9_lastTo 38 = .ok (.iload_n 2, 1) := by decide +kernel
theorem dX9_lastTo_39 : decode cX9_lastTo 39 = .ok (.istore_n 2, 1) := by decide +kernel
theorem dX9_lastTo_40 : decode cX9_lastTo 40 = .ok (.iinc 3 1, 3) := by decide +kernel
theorem dX9_lastTo_43 : decode cX9_lastTo 43 = .ok (.goto (-38), 3) := by decide +kernel
theorem dX9_lastTo_46 : decode cX9_lastTo 46 = .ok (.iload_n 2, 1) := by decide +kernel
theorem dX9_lastTo_47 : decode cX9_lastTo 47 = .ok (.ireturn, 1) := by decide +kernel
theorem dX9_isFit_0 : decode cX9_isFit 0 = .ok (.iconst 1, 1) := by decide +kernel
theorem dX9_isFit_1 : decode cX9_isFit 1 = .ok (.istore_n 1, 1) := by decide +kernel
theorem dX9_isFit_2 : decode cX9_isFit 2 = .ok (.iconst 0, 1) := by decide +kernel
theorem dX9_isFit_3 : decode cX9_isFit 3 = .ok (.istore_n 2, 1) := by decide +kernel
theorem dX9_isFit_4 : decode cX9_isFit 4 = .ok (.iload_n 2, 1) := by decide +kernel
theorem dX9_isFit_5 : decode cX9_isFit 5 = .ok (.aload_n 0, 1) := by decide +kernel
theorem dX9_isFit_6 : decode cX9_isFit 6 = .ok (.getfield 7, 3) := by decide +kernel
theorem dX9_isFit_9 : decode cX9_isFit 9 = .ok (.sipush 168, 3) := by decide +kernel
theorem dX9_isFit_12 : decode cX9_isFit 12 = .ok (.iaload, 1) := by decide +kernel
theorem dX9_isFit_13 : decode cX9_isFit 13 = .ok (.if_icmp .ge 65, 3) := by decide +kernel
theorem dX9_isFit_16 : decode cX9_isFit 16 = .ok (.aload_n 0, 1) := by decide +kernel
theorem dX9_isFit_17 : decode cX9_isFit 17 = .ok (.aload_n 0, 1) := by decide +kernel
theorem dX9_isFit_18 : decode cX9_isFit 18 = .ok (.getfield 7, 3) := by decide +kernel
theorem dX9_isFit_21 : decode cX9_isFit 21 = .ok (.sipush 169, 3) := by decide +kernel
theorem dX9_isFit_24 : decode cX9_isFit 24 = .ok (.iconst 2, 1) := by decide +kernel
theorem dX9_isFit_25 : decode cX9_isFit 25 = .ok (.iload_n 2, 1) := by decide +kernel
theorem dX9_isFit_26 : decode cX9_isFit 26 = .ok (.imul, 1) := by decide +kernel
theorem dX9_isFit_27 : decode cX9_isFit 27 = .ok (.iadd, 1) := by decide +kernel
theorem dX9_isFit_28 : decode cX9_isFit 28 = .ok (.iaload, 1) := by decide +kernel
theorem dX9_isFit_29 : decode cX9_isFit 29 = .ok (.invokevirtual 319, 3) := by decide +kernel
theorem dX9_isFit_32 : decode cX9_isFit 32 = .ok (.istore_n 3, 1) := by decide +kernel
theorem dX9_isFit_33 : decode cX9_isFit 33 = .ok (.iload_n 1, 1) := by decide +kernel
theorem dX9_isFit_34 : decode cX9_isFit 34 = .ok (.ifCond .eq 36, 3) := by decide +kernel
theorem dX9_isFit_37 : decode cX9_isFit 37 = .ok (.iload_n 3, 1) := by decide +kernel
theorem dX9_isFit_38 : decode cX9_isFit 38 = .ok (.bipush (-4), 2) := by decide +kernel
theorem dX9_isFit_40 : decode cX9_isFit 40 = .ok (.if_icmp .eq 30, 3) := by decide +kernel
theorem dX9_isFit_43 : decode cX9_isFit 43 = .ok (.aload_n 0, 1) := by decide +kernel
theorem dX9_isFit_44 : decode cX9_isFit 44 = .ok (.iload_n 3, 1) := by decide +kernel
theorem dX9_isFit_45 : decode cX9_isFit 45 = .ok (.iconst 1, 1) := by decide +kernel
theorem dX9_isFit_46 : decode cX9_isFit 46 = .ok (.invokevirtual 228, 3) := by decide +kernel
theorem dX9_isFit_49 : decode cX9_isFit 49 = .ok (.aload_n 0, 1) := by decide +kernel
theorem dX9_isFit_50 : decode cX9_isFit 50 = .ok (.getfield 7, 3) := by decide +kernel
theorem dX9_isFit_53 : decode cX9_isFit 53 = .ok (.sipush 169, 3) := by decide +kernel
theorem dX9_isFit_56 : decode cX9_isFit 56 = .ok (.iconst 2, 1) := by decide +kernel
theorem dX9_isFit_57 : decode cX9_isFit 57 = .ok (.iload_n 2, 1) := by decide +kernel
theorem dX9_isFit_58 : decode cX9_isFit 58 = .ok (.imul, 1) := by decide +kernel
theorem dX9_isFit_59 : decode cX9_isFit 59 = .ok (.iadd, 1) := by decide +kernel
theorem dX9_isFit_60 : decode cX9_isFit 60 = .ok (.iconst 1, 1) := by decide +kernel
theorem dX9_isFit_61 : decode cX9_isFit 61 = .ok (.iadd, 1) := by decide +kernel
theorem dX9_isFit_62 : decode cX9_isFit 62 = .ok (.iaload, 1) := by decide +kernel
theorem dX9_isFit_63 : decode cX9_isFit 63 = .ok (.if_icmp .ne 7, 3) := by decide +kernel
theorem dX9_isFit_66 : decode cX9_isFit 66 = .ok (.iconst 1, 1) := by decide +kernel
theorem dX9_isFit_67 : decode cX9_isFit 67 = .ok (.goto 4, 3) := by decide +kernel
theorem dX9_isFit_70 : decode cX9_isFit 70 = .ok (.iconst 0, 1) := by decide +kernel
theorem dX9_isFit_71 : decode cX9_isFit 71 = .ok (.istore_n 1, 1) := by decide +kernel
theorem dX9_isFit_72 : decode cX9_isFit 72 = .ok (.iinc 2 1, 3) := by decide +kernel
theorem dX9_isFit_75 : decode cX9_isFit 75 = .ok (.goto (-71), 3) := by decide +kernel
theorem dX9_isFit_78 : decode cX9_isFit 78 = .ok (.iload_n 1, 1) := by decide +kernel
theorem dX9_isFit_79 : decode cX9_isFit 79 = .ok (.ireturn, 1) := by decide +kernel
theorem dX9_orders_0 : decode cX9_orders 0 = .ok (.iload_n 1, 1) := by decide +kernel
theorem dX9_orders_1 : decode cX9_orders 1 = .ok (.ifCond .eq 16, 3) := by decide +kernel
theorem dX9_orders_4 : decode cX9_orders 4 = .ok (.aload_n 0, 1) := by decide +kernel
theorem dX9_orders_5 : decode cX9_orders 5 = .ok (.iload_n 1, 1) := by decide +kernel
theorem dX9_orders_6 : decode cX9_orders 6 = .ok (.bipush 10, 2) := by decide +kernel
theorem dX9_orders_8 : decode cX9_orders 8 = .ok (.isub, 1) := by decide +kernel
theorem dX9_orders_9 : decode cX9_orders 9 = .ok (.invokevirtual 223, 3) := by decide +kernel
theorem dX9_orders_12 : decode cX9_orders 12 = .ok (.ifCond .ne 5, 3) := by decide +kernel
theorem dX9_orders_15 : decode cX9_orders 15 = .ok (.iconst (-1), 1) := by decide +kernel
theorem dX9_orders_16 : decode cX9_orders 16 = .ok (.ireturn, 1) := by decide +kernel
theorem dX9_orders_17 : decode cX9_orders 17 = .ok (.iconst 0, 1) := by decide +kernel
theorem dX9_orders_18 : decode cX9_orders 18 = .ok (.istore_n 2, 1) := by decide +kernel
theorem dX9_orders_19 : decode cX9_orders 19 = .ok (.aload_n 0, 1) := by decide +kernel
theorem dX9_orders_20 : decode cX9_orders 20 = .ok (.invokevirtual 265, 3) := by decide +kernel
theorem dX9_orders_23 : decode cX9_orders 23 = .ok (.iconst 1, 1) := by decide +kernel
theorem dX9_orders_24 : decode cX9_orders 24 = .ok (.istore_n 3, 1) := by decide +kernel
theorem dX9_orders_25 : decode cX9_orders 25 = .ok (.iload_n 3, 1) := by decide +kernel
theorem dX9_orders_26 : decode cX9_orders 26 = .ok (.ifCond .eq 59, 3) := by decide +kernel
theorem dX9_orders_29 : decode cX9_orders 29 = .ok (.aload_n 0, 1) := by decide +kernel
theorem dX9_orders_30 : decode cX9_orders 30 = .ok (.invokevirtual 322, 3) := by decide +kernel
theorem dX9_orders_33 : decode cX9_orders 33 = .ok (.ifCond .eq 44, 3) := by decide +kernel
theorem dX9_orders_36 : decode cX9_orders 36 = .ok (.iconst 0, 1) := by decide +kernel
theorem dX9_orders_37 : decode cX9_orders 37 = .ok (.istore 4, 2) := by decide +kernel
theorem dX9_orders_39 : decode cX9_orders 39 = .ok (.iload 4, 2) := by decide +kernel
theorem dX9_orders_41 : decode cX9_orders 41 = .ok (.aload_n 0, 1) := by decide +kernel
theorem dX9_orders_42 : decode cX9_orders 42 = .ok (.getfield 7, 3) := by decide +kernel
theorem dX9_orders_45 : decode cX9_orders 45 = .ok (.iconst 0, 1) := by decide +kernel
theorem dX9_orders_46 : decode cX9_orders 46 = .ok (.iaload, 1) := by decide +kernel
theorem dX9_orders_47 : decode cX9_orders 47 = .ok (.if_icmp .ge 27, 3) := by decide +kernel
theorem dX9_orders_50 : decode cX9_orders 50 = .ok (.iload_n 2, 1) := by decide +kernel
theorem dX9_orders_51 : decode cX9_orders 51 = .ok (.ifCond .ne 23, 3) := by decide +kernel
theorem dX9_orders_54 : decode cX9_orders 54 = .ok (.aload_n 0, 1) := by decide +kernel
theorem dX9_orders_55 : decode cX9_orders 55 = .ok (.getfield 68, 3) := by decide +kernel
theorem dX9_orders_58 : decode cX9_orders 58 = .ok (.iload 4, 2) := by decide +kernel
theorem dX9_orders_60 : decode cX9_orders 60 = .ok (.aload_n 0, 1) := by decide +kernel
theorem dX9_orders_61 : decode cX9_orders 61 = .ok (.getfield 65, 3) := by decide +kernel
theorem dX9_orders_64 : decode cX9_orders 64 = .ok (.iload 4, 2) := by decide +kernel
theorem dX9_orders_66 : decode cX9_orders 66 = .ok (.iaload, 1) := by decide +kernel
theorem dX9_orders_67 : decode cX9_orders 67 = .ok (.iastore, 1) := by decide +kernel
theorem dX9_orders_68 : decode cX9_orders 68 = .ok (.iinc 4 1, 3) := by decide +kernel
theorem dX9_orders_71 : decode cX9_orders 71 = .ok (.goto (-32), 3) := by decide +kernel
theorem dX9_orders_74 : decode cX9_orders 74 = .ok (.iinc 2 1, 3) := by decide +kernel
theorem dX9_orders_77 : decode cX9_orders 77 = .ok (.aload_n 0, 1) := by decide +kernel
theorem dX9_orders_78 : decode cX9_orders 78 = .ok (.invokevirtual 277, 3) := by decide +kernel
theorem dX9_orders_81 : decode cX9_orders 81 = .ok (.istore_n 3, 1) := by decide +kernel
theorem dX9_orders_82 : decode cX9_orders 82 = .ok (.goto (-57), 3) := by decide +kernel
theorem dX9_orders_85 : decode cX9_orders 85 = .ok (.iload_n 1, 1) := by decide +kernel
theorem dX9_orders_86 : decode cX9_orders 86 = .ok (.ifCond .ne 7, 3) := by decide +kernel
theorem dX9_orders_89 : decode cX9_orders 89 = .ok (.iload_n 2, 1) := by decide +kernel
theorem dX9_orders_90 : decode cX9_orders 90 = .ok (.goto 21, 3) := by decide +kernel
theorem dX9_orders_93 : decode cX9_orders 93 = .ok (.iload_n 2, 1) := by decide +kernel
theorem dX9_orders_94 : decode cX9_orders 94 = .ok (.ifCond .ne 8, 3) := by decide +kernel
theorem dX9_orders_97 : decode cX9_orders 97 = .ok (.bipush (-4), 2) := by decide +kernel
theorem dX9_orders_99 : decode cX9_orders 99 = .ok (.goto 12, 3) := by decide +kernel
theorem dX9_orders_102 : decode cX9_orders 102 = .ok (.aload_n 0, 1) := by decide +kernel
theorem dX9_orders_103 : decode cX9_orders 103 = .ok (.getfield 68, 3) := by decide +kernel
theorem dX9_orders_106 : decode cX9_orders 106 = .ok (.iload_n 1, 1) := by decide +kernel
theorem dX9_orders_107 : decode cX9_orders 107 = .ok (.bipush 10, 2) := by decide +kernel
theorem dX9_orders_109 : decode cX9_orders 109 = .ok (.isub, 1) := by decide +kernel
theorem dX9_orders_110 : decode cX9_orders 110 = .ok (.iaload, 1) := by decide +kernel
theorem dX9_orders_111 : decode cX9_orders 111 = .ok (.ireturn, 1) := by decide +kernel
theorem dX9_whose_0 : decode cX9_whose 0 = .ok (.aload_n 0, 1) := by decide +kernel
theorem dX9_whose_1 : decode cX9_whose 1 = .ok (.iload_n 1, 1) := by decide +kernel
theorem dX9_whose_2 : decode cX9_whose 2 = .ok (.invokevirtual 211, 3) := by decide +kernel
theorem dX9_whose_5 : decode cX9_whose 5 = .ok (.ifCond .ne 5, 3) := by decide +kernel
theorem dX9_whose_8 : decode cX9_whose 8 = .ok (.iconst (-1), 1) := by decide +kernel
theorem dX9_whose_9 : decode cX9_whose 9 = .ok (.ireturn, 1) := by decide +kernel
theorem dX9_whose_10 : decode cX9_whose 10 = .ok (.iconst 0, 1) := by decide +kernel
theorem dX9_whose_11 : decode cX9_whose 11 = .ok (.istore_n 2, 1) := by decide +kernel
theorem dX9_whose_12 : decode cX9_whose 12 = .ok (.aload_n 0, 1) := by decide +kernel
theorem dX9_whose_13 : decode cX9_whose 13 = .ok (.invokevirtual 265, 3) := by decide +kernel
theorem dX9_whose_16 : decode cX9_whose 16 = .ok (.iconst 1, 1) := by decide +kernel
theorem dX9_whose_17 : decode cX9_whose 17 = .ok (.istore_n 3, 1) := by decide +kernel
theorem dX9_whose_18 : decode cX9_whose 18 = .ok (.iload_n 3, 1) := by decide +kernel
theorem dX9_whose_19 : decode cX9_whose 19 = .ok (.ifCond .eq 48, 3) := by decide +kernel
theorem dX9_whose_22 : decode cX9_whose 22 = .ok (.aload_n 0, 1) := by decide +kernel
theorem dX9_whose_23 : decode cX9_whose 23 = .ok (.invokevirtual 322, 3) := by decide +kernel
theorem dX9_whose_26 : decode cX9_whose 26 = .ok (.ifCond .eq 11, 3) := by decide +kernel
theorem dX9_whose_29 : decode cX9_whose 29 = .ok (.aload_n 0, 1) := by decide +kernel
theorem dX9_whose_30 : decode cX9_whose 30 = .ok (.iload_n 1, 1) := by decide +kernel
theorem dX9_whose_31 : decode cX9_whose 31 = .ok (.invokevirtual 319, 3) := by decide +kernel
theorem dX9_whose_34 : decode cX9_whose 34 = .ok (.goto 5, 3) := by decide +kernel
theorem dX9_whose_37 : decode cX9_whose 37 = .ok (.bipush (-4), 2) := by decide +kernel
theorem dX9_whose_39 : decode cX9_whose 39 = .ok (.istore 4, 2) := by decide +kernel
theorem dX9_whose_41 : decode cX9_whose 41 = .ok (.iload_n 2, 1) := by decide +kernel
theorem dX9_whose_42 : decode cX9_whose 42 = .ok (.iload 4, 2) := by decide +kernel
theorem dX9_whose_44 : decode cX9_whose 44 = .ok (.bipush (-4), 2) := by decide +kernel
theorem dX9_whose_46 : decode cX9_whose 46 = .ok (.if_icmp .ne 7, 3) := by decide +kernel
theorem dX9_whose_49 : decode cX9_whose 49 = .ok (.iconst 0, 1) := by decide +kernel
theorem dX9_whose_50 : decode cX9_whose 50 = .ok (.goto 7, 3) := by decide +kernel
theorem dX9_whose_53 : decode cX9_whose 53 = .ok (.iconst 1, 1) := by decide +kernel
theorem dX9_whose_54 : decode cX9_whose 54 = .ok (.iload 4, 2) := by decide +kernel
theorem dX9_whose_56 : decode cX9_whose 56 = .ok (.ishl, 1) := by decide +kernel
theorem dX9_whose_57 : decode cX9_whose 57 = .ok (.ior, 1) := by decide +kernel
theorem dX9_whose_58 : decode cX9_whose 58 = .ok (.istore_n 2, 1) := by decide +kernel
theorem dX9_whose_59 : decode cX9_whose 59 = .ok (.aload_n 0, 1) := by decide +kernel
theorem dX9_whose_60 : decode cX9_whose 60 = .ok (.invokevirtual 277, 3) := by decide +kernel
theorem dX9_whose_63 : decode cX9_whose 63 = .ok (.istore_n 3, 1) := by decide +kernel
theorem dX9_whose_64 : decode cX9_whose 64 = .ok (.goto (-46), 3) := by decide +kernel
theorem dX9_whose_67 : decode cX9_whose 67 = .ok (.iload_n 2, 1) := by decide +kernel
theorem dX9_whose_68 : decode cX9_whose 68 = .ok (.ireturn, 1) := by decide +kernel
theorem dX9_copies_0 : decode cX9_copies 0 = .ok (.iconst 0, 1) := by decide +kernel
theorem dX9_copies_1 : decode cX9_copies 1 = .ok (.istore_n 3, 1) := by decide +kernel
theorem dX9_copies_2 : decode cX9_copies 2 = .ok (.iload_n 3, 1) := by decide +kernel
theorem dX9_copies_3 : decode cX9_copies 3 = .ok (.sipush 185, 3) := by decide +kernel
theorem dX9_copies_6 : decode cX9_copies 6 = .ok (.if_icmp .ge 25, 3) := by decide +kernel
theorem dX9_copies_9 : decode cX9_copies 9 = .ok (.aload_n 0, 1) := by decide +kernel
theorem dX9_copies_10 : decode cX9_copies 10 = .ok (.getfield 7, 3) := by decide +kernel
theorem dX9_copies_13 : decode cX9_copies 13 = .ok (.iload_n 1, 1) := by decide +kernel
theorem dX9_copies_14 : decode cX9_copies 14 = .ok (.iload_n 3, 1) := by decide +kernel
theorem dX9_copies_15 : decode cX9_copies 15 = .ok (.iadd, 1) := by decide +kernel
theorem dX9_copies_16 : decode cX9_copies 16 = .ok (.aload_n 0, 1) := by decide +kernel
theorem dX9_copies_17 : decode cX9_copies 17 = .ok (.getfield 7, 3) := by decide +kernel
theorem dX9_copies_20 : decode cX9_copies 20 = .ok (.iload_n 2, 1) := by decide +kernel
theorem dX9_copies_21 : decode cX9_copies 21 = .ok (.iload_n 3, 1) := by decide +kernel
theorem dX9_copies_22 : decode cX9_copies 22 = .ok (.iadd, 1) := by decide +kernel
theorem dX9_copies_23 : decode cX9_copies 23 = .ok (.iaload, 1) := by decide +kernel
theorem dX9_copies_24 : decode cX9_copies 24 = .ok (.iastore, 1) := by decide +kernel
theorem dX9_copies_25 : decode cX9_copies 25 = .ok (.iinc 3 1, 3) := by decide +kernel
theorem dX9_copies_28 : decode cX9_copies 28 = .ok (.goto (-26), 3) := by decide +kernel
theorem dX9_copies_31 : decode cX9_copies 31 = .ok (.return_, 1) := by decide +kernel
theorem dX9_keep_0 : decode cX9_keep 0 = .ok (.iload_n 1, 1) := by decide +kernel
theorem dX9_keep_1 : decode cX9_keep 1 = .ok (.i2l, 1) := by decide +kernel
theorem dX9_keep_2 : decode cX9_keep 2 = .ok (.lconst 0, 1) := by decide +kernel
theorem dX9_keep_3 : decode cX9_keep 3 = .ok (.lconst 1, 1) := by decide +kernel
theorem dX9_keep_4 : decode cX9_keep 4 = .ok (.invokestatic 117, 3) := by decide +kernel
theorem dX9_keep_7 : decode cX9_keep 7 = .ok (.ifCond .ne 5, 3) := by decide +kernel
theorem dX9_keep_10 : decode cX9_keep 10 = .ok (.iconst (-1), 1) := by decide +kernel
theorem dX9_keep_11 : decode cX9_keep 11 = .ok (.ireturn, 1) := by decide +kernel
theorem dX9_keep_12 : decode cX9_keep 12 = .ok (.aload_n 0, 1) := by decide +kernel
theorem dX9_keep_13 : decode cX9_keep 13 = .ok (.getfield 13, 3) := by decide +kernel
theorem dX9_keep_16 : decode cX9_keep 16 = .ok (.iload_n 1, 1) := by decide +kernel
theorem dX9_keep_17 : decode cX9_keep 17 = .ok (.baload, 1) := by decide +kernel
theorem dX9_keep_18 : decode cX9_keep 18 = .ok (.invokestatic 215, 3) := by decide +kernel
theorem dX9_keep_21 : decode cX9_keep 21 = .ok (.istore_n 2, 1) := by decide +kernel
theorem dX9_keep_22 : decode cX9_keep 22 = .ok (.aload_n 0, 1) := by decide +kernel
theorem dX9_keep_23 : decode cX9_keep 23 = .ok (.getfield 13, 3) := by decide +kernel
theorem dX9_keep_26 : decode cX9_keep 26 = .ok (.iload_n 1, 1) := by decide +kernel
theorem dX9_keep_27 : decode cX9_keep 27 = .ok (.iconst 1, 1) := by decide +kernel
theorem dX9_keep_28 : decode cX9_keep 28 = .ok (.bastore, 1) := by decide +kernel
theorem dX9_keep_29 : decode cX9_keep 29 = .ok (.aload_n 0, 1) := by decide +kernel
theorem dX9_keep_30 : decode cX9_keep 30 = .ok (.sipush 185, 3) := by decide +kernel
theorem dX9_keep_33 : decode cX9_keep 33 = .ok (.iload_n 1, 1) := by decide +kernel
theorem dX9_keep_34 : decode cX9_keep 34 = .ok (.iconst 1, 1) := by decide +kernel
theorem dX9_keep_35 : decode cX9_keep 35 = .ok (.iadd, 1) := by decide +kernel
theorem dX9_keep_36 : decode cX9_keep 36 = .ok (.imul, 1) := by decide +kernel
theorem dX9_keep_37 : decode cX9_keep 37 = .ok (.iconst 0, 1) := by decide +kernel
theorem dX9_keep_38 : decode cX9_keep 38 = .ok (.invokevirtual 325, 3) := by decide +kernel
theorem dX9_keep_41 : decode cX9_keep 41 = .ok (.iload_n 2, 1) := by decide +kernel
theorem dX9_keep_42 : decode cX9_keep 42 = .ok (.ireturn, 1) := by decide +kernel
theorem dX9_back_0 : decode cX9_back 0 = .ok (.iload_n 1, 1) := by decide +kernel
theorem dX9_back_1 : decode cX9_back 1 = .ok (.i2l, 1) := by decide +kernel
theorem dX9_back_2 : decode cX9_back 2 = .ok (.lconst 0, 1) := by decide +kernel
theorem dX9_back_3 : decode cX9_back 3 = .ok (.lconst 1, 1) := by decide +kernel
theorem dX9_back_4 : decode cX9_back 4 = .ok (.invokestatic 117, 3) := by decide +kernel
theorem dX9_back_7 : decode cX9_back 7 = .ok (.ifCond .ne 5, 3) := by decide +kernel
theorem dX9_back_10 : decode cX9_back 10 = .ok (.iconst (-1), 1) := by decide +kernel
theorem dX9_back_11 : decode cX9_back 11 = .ok (.ireturn, 1) := by decide +kernel
theorem dX9_back_12 : decode cX9_back 12 = .ok (.aload_n 0, 1) := by decide +kernel
theorem dX9_back_13 : decode cX9_back 13 = .ok (.getfield 13, 3) := by decide +kernel
theorem dX9_back_16 : decode cX9_back 16 = .ok (.iload_n 1, 1) := by decide +kernel
theorem dX9_back_17 : decode cX9_back 17 = .ok (.baload, 1) := by decide +kernel
theorem dX9_back_18 : decode cX9_back 18 = .ok (.ifCond .ne 6, 3) := by decide +kernel
theorem dX9_back_21 : decode cX9_back 21 = .ok (.bipush (-2), 2) := by decide +kernel
theorem dX9_back_23 : decode cX9_back 23 = .ok (.ireturn, 1) := by decide +kernel
theorem dX9_back_24 : decode cX9_back 24 = .ok (.aload_n 0, 1) := by decide +kernel
theorem dX9_back_25 : decode cX9_back 25 = .ok (.iconst 0, 1) := by decide +kernel
theorem dX9_back_26 : decode cX9_back 26 = .ok (.sipush 185, 3) := by decide +kernel
theorem dX9_back_29 : decode cX9_back 29 = .ok (.iload_n 1, 1) := by decide +kernel
theorem dX9_back_30 : decode cX9_back 30 = .ok (.iconst 1, 1) := by decide +kernel
theorem dX9_back_31 : decode cX9_back 31 = .ok (.iadd, 1) := by decide +kernel
theorem dX9_back_32 : decode cX9_back 32 = .ok (.imul, 1) := by decide +kernel
theorem dX9_back_33 : decode cX9_back 33 = .ok (.invokevirtual 325, 3) := by decide +kernel
theorem dX9_back_36 : decode cX9_back 36 = .ok (.aload_n 0, 1) := by decide +kernel
theorem dX9_back_37 : decode cX9_back 37 = .ok (.getfield 7, 3) := by decide +kernel
theorem dX9_back_40 : decode cX9_back 40 = .ok (.iconst 0, 1) := by decide +kernel
theorem dX9_back_41 : decode cX9_back 41 = .ok (.iaload, 1) := by decide +kernel
theorem dX9_back_42 : decode cX9_back 42 = .ok (.ireturn, 1) := by decide +kernel
theorem dX9_isSheet_0 : decode cX9_isSheet 0 = .ok (.iload_n 0, 1) := by decide +kernel
theorem dX9_isSheet_1 : decode cX9_isSheet 1 = .ok (.i2l, 1) := by decide +kernel
theorem dX9_isSheet_2 : decode cX9_isSheet 2 = .ok (.lconst 0, 1) := by decide +kernel
theorem dX9_isSheet_3 : decode cX9_isSheet 3 = .ok (.ldc2_w 328, 3) := by decide +kernel
theorem dX9_isSheet_6 : decode cX9_isSheet 6 = .ok (.invokestatic 117, 3) := by decide +kernel
theorem dX9_isSheet_9 : decode cX9_isSheet 9 = .ok (.ifCond .eq 19, 3) := by decide +kernel
theorem dX9_isSheet_12 : decode cX9_isSheet 12 = .ok (.iload_n 1, 1) := by decide +kernel
theorem dX9_isSheet_13 : decode cX9_isSheet 13 = .ok (.i2l, 1) := by decide +kernel
theorem dX9_isSheet_14 : decode cX9_isSheet 14 = .ok (.lconst 0, 1) := by decide +kernel
theorem dX9_isSheet_15 : decode cX9_isSheet 15 = .ok (.ldc2_w 209, 3) := by decide +kernel
theorem dX9_isSheet_18 : decode cX9_isSheet 18 = .ok (.invokestatic 117, 3) := by decide +kernel
theorem dX9_isSheet_21 : decode cX9_isSheet 21 = .ok (.ifCond .eq 7, 3) := by decide +kernel
theorem dX9_isSheet_24 : decode cX9_isSheet 24 = .ok (.iconst 1, 1) := by decide +kernel
theorem dX9_isSheet_25 : decode cX9_isSheet 25 = .ok (.goto 4, 3) := by decide +kernel
theorem dX9_isSheet_28 : decode cX9_isSheet 28 = .ok (.iconst 0, 1) := by decide +kernel
theorem dX9_isSheet_29 : decode cX9_isSheet 29 = .ok (.ireturn, 1) := by decide +kernel
theorem dX9_sheet_0 : decode cX9_sheet 0 = .ok (.iload_n 1, 1) := by decide +kernel
theorem dX9_sheet_1 : decode cX9_sheet 1 = .ok (.iload_n 2, 1) := by decide +kernel
theorem dX9_sheet_2 : decode cX9_sheet 2 = .ok (.invokestatic 330, 3) := by decide +kernel
theorem dX9_sheet_5 : decode cX9_sheet 5 = .ok (.ifCond .eq 9, 3) := by decide +kernel
theorem dX9_sheet_8 : decode cX9_sheet 8 = .ok (.iload_n 3, 1) := by decide +kernel
theorem dX9_sheet_9 : decode cX9_sheet 9 = .ok (.bipush 40, 2) := by decide +kernel
theorem dX9_sheet_11 : decode cX9_sheet 11 = .ok (.if_icmp .le 5, 3) := by decide +kernel
theorem dX9_sheet_14 : decode cX9_sheet 14 = .ok (.iconst (-1), 1) := by decide +kernel
theorem dX9_sheet_15 : decode cX9_sheet 15 = .ok (.ireturn, 1) := by decide +kernel
theorem dX9_sheet_16 : decode cX9_sheet 16 = .ok (.iload_n 3, 1) := by decide +kernel
theorem dX9_sheet_17 : decode cX9_sheet 17 = .ok (.ifCond .ge 6, 3) := by decide +kernel
theorem dX9_sheet_20 : decode cX9_sheet 20 = .ok (.bipush (-14), 2) := by decide +kernel
theorem dX9_sheet_22 : decode cX9_sheet 22 = .ok (.ireturn, 1) := by decide +kernel
theorem dX9_sheet_23 : decode cX9_sheet 23 = .ok (.aload_n 0, 1) := by decide +kernel
theorem dX9_sheet_24 : decode cX9_sheet 24 = .ok (.getfield 80, 3) := by decide +kernel
theorem dX9_sheet_27 : decode cX9_sheet 27 = .ok (.iload_n 1, 1) := by decide +kernel
theorem dX9_sheet_28 : decode cX9_sheet 28 = .ok (.iload_n 2, 1) := by decide +kernel
theorem dX9_sheet_29 : decode cX9_sheet 29 = .ok (.iastore, 1) := by decide +kernel
theorem dX9_sheet_30 : decode cX9_sheet 30 = .ok (.aload_n 0, 1) := by decide +kernel
theorem dX9_sheet_31 : decode cX9_sheet 31 = .ok (.getfield 83, 3) := by decide +kernel
theorem dX9_sheet_34 : decode cX9_sheet 34 = .ok (.iload_n 1, 1) := by decide +kernel
theorem dX9_sheet_35 : decode cX9_sheet 35 = .ok (.iload_n 3, 1) := by decide +kernel
theorem dX9_sheet_36 : decode cX9_sheet 36 = .ok (.iastore, 1) := by decide +kernel
theorem dX9_sheet_37 : decode cX9_sheet 37 = .ok (.iconst 0, 1) := by decide +kernel
theorem dX9_sheet_38 : decode cX9_sheet 38 = .ok (.istore 4, 2) := by decide +kernel
theorem dX9_sheet_40 : decode cX9_sheet 40 = .ok (.iload 4, 2) := by decide +kernel
theorem dX9_sheet_42 : decode cX9_sheet 42 = .ok (.bipush 40, 2) := by decide +kernel
theorem dX9_sheet_44 : decode cX9_sheet 44 = .ok (.if_icmp .ge 22, 3) := by decide +kernel
theorem dX9_sheet_47 : decode cX9_sheet 47 = .ok (.aload_n 0, 1) := by decide +kernel
theorem dX9_sheet_48 : decode cX9_sheet 48 = .ok (.getfield 86, 3) := by decide +kernel
theorem dX9_sheet_51 : decode cX9_sheet 51 = .ok (.bipush 40, 2) := by decide +kernel
theorem dX9_sheet_53 : decode cX9_sheet 53 = .ok (.iload_n 1, 1) := by decide +kernel
theorem dX9_sheet_54 : decode cX9_sheet 54 = .ok (.imul, 1) := by decide +kernel
theorem dX9_sheet_55 : decode cX9_sheet 55 = .ok (.iload 4, 2) := by decide +kernel
theorem dX9_sheet_57 : decode cX9_sheet 57 = .ok (.iadd, 1) := by decide +kernel
theorem dX9_sheet_58 : decode cX9_sheet 58 = .ok (.iconst 0, 1) := by decide +kernel
theorem dX9_sheet_59 : decode cX9_sheet 59 = .ok (.iastore, 1) := by decide +kernel
theorem dX9_sheet_60 : decode cX9_sheet 60 = .ok (.iinc 4 1, 3) := by decide +kernel
theorem dX9_sheet_63 : decode cX9_sheet 63 = .ok (.goto (-23), 3) := by decide +kernel
theorem dX9_sheet_66 : decode cX9_sheet 66 = .ok (.iconst 1, 1) := by decide +kernel
theorem dX9_sheet_67 : decode cX9_sheet 67 = .ok (.ireturn, 1) := by decide +kernel
theorem dX9_lay_0 : decode cX9_lay 0 = .ok (.iload_n 1, 1) := by decide +kernel
theorem dX9_lay_1 : decode cX9_lay 1 = .ok (.iconst 0, 1) := by decide +kernel
theorem dX9_lay_2 : decode cX9_lay 2 = .ok (.invokestatic 330, 3) := by decide +kernel
theorem dX9_lay_5 : decode cX9_lay 5 = .ok (.ifCond .ne 5, 3) := by decide +kernel
theorem dX9_lay_8 : decode cX9_lay 8 = .ok (.iconst (-1), 1) := by decide +kernel
theorem dX9_lay_9 : decode cX9_lay 9 = .ok (.ireturn, 1) := by decide +kernel
theorem dX9_lay_10 : decode cX9_lay 10 = .ok (.aload_n 0, 1) := by decide +kernel
theorem dX9_lay_11 : decode cX9_lay 11 = .ok (.getfield 80, 3) := by decide +kernel
theorem dX9_lay_14 : decode cX9_lay 14 = .ok (.iload_n 1, 1) := by decide +kernel
theorem dX9_lay_15 : decode cX9_lay 15 = .ok (.iaload, 1) := by decide +kernel
theorem dX9_lay_16 : decode cX9_lay 16 = .ok (.bipush (-4), 2) := by decide +kernel
theorem dX9_lay_18 : decode cX9_lay 18 = .ok (.if_icmp .ne 6, 3) := by decide +kernel
theorem dX9_lay_21 : decode cX9_lay 21 = .ok (.bipush (-11), 2) := by decide +kernel
theorem dX9_lay_23 : decode cX9_lay 23 = .ok (.ireturn, 1) := by decide +kernel
theorem dX9_lay_24 : decode cX9_lay 24 = .ok (.iload_n 2, 1) := by decide +kernel
theorem dX9_lay_25 : decode cX9_lay 25 = .ok (.i2l, 1) := by decide +kernel
theorem dX9_lay_26 : decode cX9_lay 26 = .ok (.lconst 0, 1) := by decide +kernel
theorem dX9_lay_27 : decode cX9_lay 27 = .ok (.aload_n 0, 1) := by decide +kernel
theorem dX9_lay_28 : decode cX9_lay 28 = .ok (.getfield 83, 3) := by decide +kernel
theorem dX9_lay_31 : decode cX9_lay 31 = .ok (.iload_n 1, 1) := by decide +kernel
theorem dX9_lay_32 : decode cX9_lay 32 = .ok (.iaload, 1) := by decide +kernel
theorem dX9_lay_33 : decode cX9_lay 33 = .ok (.iconst 1, 1) := by decide +kernel
theorem dX9_lay_34 : decode cX9_lay 34 = .ok (.isub, 1) := by decide +kernel
theorem dX9_lay_35 : decode cX9_lay 35 = .ok (.i2l, 1) := by decide +kernel
theorem dX9_lay_36 : decode cX9_lay 36 = .ok (.invokestatic 117, 3) := by decide +kernel
theorem dX9_lay_39 : decode cX9_lay 39 = .ok (.ifCond .ne 6, 3) := by decide +kernel
theorem dX9_lay_42 : decode cX9_lay 42 = .ok (.bipush (-12), 2) := by decide +kernel
theorem dX9_lay_44 : decode cX9_lay 44 = .ok (.ireturn, 1) := by decide +kernel
theorem dX9_lay_45 : decode cX9_lay 45 = .ok (.aload_n 0, 1) := by decide +kernel
theorem dX9_lay_46 : decode cX9_lay 46 = .ok (.getfield 86, 3) := by decide +kernel
theorem dX9_lay_49 : decode cX9_lay 49 = .ok (.bipush 40, 2) := by decide +kernel
theorem dX9_lay_51 : decode cX9_lay 51 = .ok (.iload_n 1, 1) := by decide +kernel
theorem dX9_lay_52 : decode cX9_lay 52 = .ok (.imul, 1) := by decide +kernel
theorem dX9_lay_53 : decode cX9_lay 53 = .ok (.iload_n 2, 1) := by decide +kernel
theorem dX9_lay_54 : decode cX9_lay 54 = .ok (.iadd, 1) := by decide +kernel
theorem dX9_lay_55 : decode cX9_lay 55 = .ok (.aload_n 0, 1) := by decide +kernel
theorem dX9_lay_56 : decode cX9_lay 56 = .ok (.getfield 80, 3) := by decide +kernel
theorem dX9_lay_59 : decode cX9_lay 59 = .ok (.iload_n 1, 1) := by decide +kernel
theorem dX9_lay_60 : decode cX9_lay 60 = .ok (.iaload, 1) := by decide +kernel
theorem dX9_lay_61 : decode cX9_lay 61 = .ok (.ifCond .ne 8, 3) := by decide +kernel
theorem dX9_lay_64 : decode cX9_lay 64 = .ok (.iload_n 3, 1) := by decide +kernel
theorem dX9_lay_65 : decode cX9_lay 65 = .ok (.i2b, 1) := by decide +kernel
theorem dX9_lay_66 : decode cX9_lay 66 = .ok (.goto 19, 3) := by decide +kernel
theorem dX9_lay_69 : decode cX9_lay 69 = .ok (.aload_n 0, 1) := by decide +kernel
theorem dX9_lay_70 : decode cX9_lay 70 = .ok (.getfield 80, 3) := by decide +kernel
theorem dX9_lay_73 : decode cX9_lay 73 = .ok (.iload_n 1, 1) := by decide +kernel
theorem dX9_lay_74 : decode cX9_lay 74 = .ok (.iaload, 1) := by decide +kernel
theorem dX9_lay_75 : decode cX9_lay 75 = .ok (.iconst 1, 1) := by decide +kernel
theorem dX9_lay_76 : decode cX9_lay 76 = .ok (.if_icmp .ne 8, 3) := by decide +kernel
theorem dX9_lay_79 : decode cX9_lay 79 = .ok (.iload_n 3, 1) := by decide +kernel
theorem dX9_lay_80 : decode cX9_lay 80 = .ok (.i2s, 1) := by decide +kernel
theorem dX9_lay_81 : decode cX9_lay 81 = .ok (.goto 4, 3) := by decide +kernel
theorem dX9_lay_84 : decode cX9_lay 84 = .ok (.iload_n 3, 1) := by decide +kernel
theorem dX9_lay_85 : decode cX9_lay 85 = .ok (.iastore, 1) := by decide +kernel
theorem dX9_lay_86 : decode cX9_lay 86 = .ok (.iconst 1, 1) := by decide +kernel
theorem dX9_lay_87 : decode cX9_lay 87 = .ok (.ireturn, 1) := by decide +kernel
theorem dX9_read_0 : decode cX9_read 0 = .ok (.iload_n 1, 1) := by decide +kernel
theorem dX9_read_1 : decode cX9_read 1 = .ok (.iload_n 2, 1) := by decide +kernel
theorem dX9_read_2 : decode cX9_read 2 = .ok (.invokestatic 330, 3) := by decide +kernel
theorem dX9_read_5 : decode cX9_read 5 = .ok (.ifCond .eq 16, 3) := by decide +kernel
theorem dX9_read_8 : decode cX9_read 8 = .ok (.iload 4, 2) := by decide +kernel
theorem dX9_read_10 : decode cX9_read 10 = .ok (.i2l, 1) := by decide +kernel
theorem dX9_read_11 : decode cX9_read 11 = .ok (.lconst 0, 1) := by decide +kernel
theorem dX9_read_12 : decode cX9_read 12 = .ok (.ldc2_w 333, 3) := by decide +kernel
theorem dX9_read_15 : decode cX9_read 15 = .ok (.invokestatic 117, 3) := by decide +kernel
theorem dX9_read_18 : decode cX9_read 18 = .ok (.ifCond .ne 5, 3) := by decide +kernel
theorem dX9_read_21 : decode cX9_read 21 = .ok (.iconst (-1), 1) := by decide +kernel
theorem dX9_read_22 : decode cX9_read 22 = .ok (.ireturn, 1) := by decide +kernel
theorem dX9_read_23 : decode cX9_read 23 = .ok (.aload_n 0, 1) := by decide +kernel
theorem dX9_read_24 : decode cX9_read 24 = .ok (.getfield 7, 3) := by decide +kernel
theorem dX9_read_27 : decode cX9_read 27 = .ok (.sipush 168, 3) := by decide +kernel
theorem dX9_read_30 : decode cX9_read 30 = .ok (.iaload, 1) := by decide +kernel
theorem dX9_read_31 : decode cX9_read 31 = .ok (.istore 5, 2) := by decide +kernel
theorem dX9_read_33 : decode cX9_read 33 = .ok (.iconst 0, 1) := by decide +kernel
theorem dX9_read_34 : decode cX9_read 34 = .ok (.istore 6, 2) := by decide +kernel
theorem dX9_read_36 : decode cX9_read 36 = .ok (.iconst 0, 1) := by decide +kernel
theorem dX9_read_37 : decode cX9_read 37 = .ok (.istore 7, 2) := by decide +kernel
theorem dX9_read_39 : decode cX9_read 39 = .ok (.iconst 0, 1) := by decide +kernel
theorem dX9_read_40 : decode cX9_read 40 = .ok (.istore 8, 2) := by decide +kernel
theorem dX9_read_42 : decode cX9_read 42 = .ok (.iload 8, 2) := by decide +kernel
theorem dX9_read_44 : decode cX9_read 44 = .ok (.iload 4, 2) := by decide +kernel
theorem dX9_read_46 : decode cX9_read 46 = .ok (.if_icmp .ge 164, 3) := by decide +kernel
theorem dX9_read_49 : decode cX9_read 49 = .ok (.iload 6, 2) := by decide +kernel
theorem dX9_read_51 : decode cX9_read 51 = .ok (.ifCond .ne 159, 3) := by decide +kernel
theorem dX9_read_54 : decode cX9_read 54 = .ok (.iconst 0, 1) := by decide +kernel
theorem dX9_read_55 : decode cX9_read 55 = .ok (.istore 9, 2) := by decide +kernel
theorem dX9_read_57 : decode cX9_read 57 = .ok (.iload 9, 2) := by decide +kernel
theorem dX9_read_59 : decode cX9_read 59 = .ok (.iconst 2, 1) := by decide +kernel
theorem dX9_read_60 : decode cX9_read 60 = .ok (.if_icmp .ge 84, 3) := by decide +kernel
theorem dX9_read_63 : decode cX9_read 63 = .ok (.iload 6, 2) := by decide +kernel
theorem dX9_read_65 : decode cX9_read 65 = .ok (.ifCond .ne 79, 3) := by decide +kernel
theorem dX9_read_68 : decode cX9_read 68 = .ok (.iload_n 3, 1) := by decide +kernel
theorem dX9_read_69 : decode cX9_read 69 = .ok (.i2l, 1) := by decide +kernel
theorem dX9_read_70 : decode cX9_read 70 = .ok (.iconst 2, 1) := by decide +kernel
theorem dX9_read_71 : decode cX9_read 71 = .ok (.iload 8, 2) := by decide +kernel
theorem dX9_read_73 : decode cX9_read 73 = .ok (.imul, 1) := by decide +kernel
theorem dX9_read_74 : decode cX9_read 74 = .ok (.i2l, 1) := by decide +kernel
theorem dX9_read_75 : decode cX9_read 75 = .ok (.ladd, 1) := by decide +kernel
theorem dX9_read_76 : decode cX9_read 76 = .ok (.iload 9, 2) := by decide +kernel
theorem dX9_read_78 : decode cX9_read 78 = .ok (.i2l, 1) := by decide +kernel
theorem dX9_read_79 : decode cX9_read 79 = .ok (.ladd, 1) := by decide +kernel
theorem dX9_read_80 : decode cX9_read 80 = .ok (.lstore 10, 2) := by decide +kernel
theorem dX9_read_82 : decode cX9_read 82 = .ok (.aload_n 0, 1) := by decide +kernel
theorem dX9_read_83 : decode cX9_read 83 = .ok (.getfield 80, 3) := by decide +kernel
theorem dX9_read_86 : decode cX9_read 86 = .ok (.iload_n 1, 1) := by decide +kernel
theorem dX9_read_87 : decode cX9_read 87 = .ok (.iaload, 1) := by decide +kernel
theorem dX9_read_88 : decode cX9_read 88 = .ok (.bipush (-4), 2) := by decide +kernel
theorem dX9_read_90 : decode cX9_read 90 = .ok (.if_icmp .ne 7, 3) := by decide +kernel
theorem dX9_read_93 : decode cX9_read 93 = .ok (.iconst 1, 1) := by decide +kernel
theorem dX9_read_94 : decode cX9_read 94 = .ok (.goto 42, 3) := by decide +kernel
theorem dX9_read_97 : decode cX9_read 97 = .ok (.aload_n 0, 1) := by decide +kernel
theorem dX9_read_98 : decode cX9_read 98 = .ok (.getfield 80, 3) := by decide +kernel
theorem dX9_read_101 : decode cX9_read 101 = .ok (.iload_n 1, 1) := by decide +kernel
theorem dX9_read_102 : decode cX9_read 102 = .ok (.iaload, 1) := by decide +kernel
theorem dX9_read_103 : decode cX9_read 103 = .ok (.iload_n 2, 1) := by decide +kernel
theorem dX9_read_104 : decode cX9_read 104 = .ok (.if_icmp .eq 7, 3) := by decide +kernel
theorem dX9_read_107 : decode cX9_read 107 = .ok (.iconst 3, 1) := by decide +kernel
theorem dX9_read_108 : decode cX9_read 108 = .ok (.goto 28, 3) := by decide +kernel
theorem dX9_read_111 : decode cX9_read 111 = .ok (.lload 10, 2) := by decide +kernel
theorem dX9_read_113 : decode cX9_read 113 = .ok (.lconst 0, 1) := by decide +kernel
theorem dX9_read_114 : decode cX9_read 114 = .ok (.lcmp, 1) := by decide +kernel
theorem dX9_read_115 : decode cX9_read 115 = .ok (.ifCond .lt 16, 3) := by decide +kernel
theorem dX9_read_118 : decode cX9_read 118 = .ok (.lload 10, 2) := by decide +kernel
theorem dX9_read_120 : decode cX9_read 120 = .ok (.aload_n 0, 1) := by decide +kernel
theorem dX9_read_121 : decode cX9_read 121 = .ok (.getfield 83, 3) := by decide +kernel
theorem dX9_read_124 : decode cX9_read 124 = .ok (.iload_n 1, 1) := by decide +kernel
theorem dX9_read_125 : decode cX9_read 125 = .ok (.iaload, 1) := by decide +kernel
theorem dX9_read_126 : decode cX9_read 126 = .ok (.i2l, 1) := by decide +kernel
theorem dX9_read_127 : decode cX9_read 127 = .ok (.lcmp, 1) := by decide +kernel
theorem dX9_read_128 : decode cX9_read 128 = .ok (.ifCond .lt 7, 3) := by decide +kernel
theorem dX9_read_131 : decode cX9_read 131 = .ok (.iconst 2, 1) := by decide +kernel
theorem dX9_read_132 : decode cX9_read 132 = .ok (.goto 4, 3) := by decide +kernel
theorem dX9_read_135 : decode cX9_read 135 = .ok (.iconst 0, 1) := by decide +kernel
theorem dX9_read_136 : decode cX9_read 136 = .ok (.istore 6, 2) := by decide +kernel
theorem dX9_read_138 : decode cX9_read 138 = .ok (.iinc 9 1, 3) := by decide +kernel
theorem dX9_read_141 : decode cX9_read 141 = .ok (.goto (-84), 3) := by decide +kernel
theorem dX9_read_144 : decode cX9_read 144 = .ok (.iload 6, 2) := by decide +kernel
theorem dX9_read_146 : decode cX9_read 146 = .ok (.ifCond .ne 58, 3) := by decide +kernel
theorem dX9_read_149 : decode cX9_read 149 = .ok (.bipush 40, 2) := by decide +kernel
theorem dX9_read_151 : decode cX9_read 151 = .ok (.iload_n 1, 1) := by decide +kernel
theorem dX9_read_152 : decode cX9_read 152 = .ok (.imul, 1) := by decide +kernel
theorem dX9_read_153 : decode cX9_read 153 = .ok (.iload_n 3, 1) := by decide +kernel
theorem dX9_read_154 : decode cX9_read 154 = .ok (.iadd, 1) := by decide +kernel
theorem dX9_read_155 : decode cX9_read 155 = .ok (.iconst 2, 1) := by decide +kernel
theorem dX9_read_156 : decode cX9_read 156 = .ok (.iload 8, 2) := by decide +kernel
theorem dX9_read_158 : decode cX9_read 158 = .ok (.imul, 1) := by decide +kernel
theorem dX9_read_159 : decode cX9_read 159 = .ok (.iadd, 1) := by decide +kernel
theorem dX9_read_160 : decode cX9_read 160 = .ok (.istore 9, 2) := by decide +kernel
theorem dX9_read_162 : decode cX9_read 162 = .ok (.aload_n 0, 1) := by decide +kernel
theorem dX9_read_163 : decode cX9_read 163 = .ok (.aload_n 0, 1) := by decide +kernel
theorem dX9_read_164 : decode cX9_read 164 = .ok (.getfield 86, 3) := by decide +kernel
theorem dX9_read_167 : decode cX9_read 167 = .ok (.iload 9, 2) := by decide +kernel
theorem dX9_read_169 : decode cX9_read 169 = .ok (.iaload, 1) := by decide +kernel
theorem dX9_read_170 : decode cX9_read 170 = .ok (.aload_n 0, 1) := by decide +kernel
theorem dX9_read_171 : decode cX9_read 171 = .ok (.getfield 86, 3) := by decide +kernel
theorem dX9_read_174 : decode cX9_read 174 = .ok (.iload 9, 2) := by decide +kernel
theorem dX9_read_176 : decode cX9_read 176 = .ok (.iconst 1, 1) := by decide +kernel
theorem dX9_read_177 : decode cX9_read 177 = .ok (.iadd, 1) := by decide +kernel
theorem dX9_read_178 : decode cX9_read 178 = .ok (.iaload, 1) := by decide +kernel
theorem dX9_read_179 : decode cX9_read 179 = .ok (.invokevirtual 335, 3) := by decide +kernel
theorem dX9_read_182 : decode cX9_read 182 = .ok (.ifCond .ge 19, 3) := by decide +kernel
theorem dX9_read_185 : decode cX9_read 185 = .ok (.aload_n 0, 1) := by decide +kernel
theorem dX9_read_186 : decode cX9_read 186 = .ok (.getfield 7, 3) := by decide +kernel
theorem dX9_read_189 : decode cX9_read 189 = .ok (.sipush 168, 3) := by decide +kernel
theorem dX9_read_192 : decode cX9_read 192 = .ok (.iload 5, 2) := by decide +kernel
theorem dX9_read_194 : decode cX9_read 194 = .ok (.iastore, 1) := by decide +kernel
theorem dX9_read_195 : decode cX9_read 195 = .ok (.bipush (-20), 2) := by decide +kernel
theorem dX9_read_197 : decode cX9_read 197 = .ok (.iload 8, 2) := by decide +kernel
theorem dX9_read_199 : decode cX9_read 199 = .ok (.isub, 1) := by decide +kernel
theorem dX9_read_200 : decode cX9_read 200 = .ok (.ireturn, 1) := by decide +kernel
theorem dX9_read_201 : decode cX9_read 201 = .ok (.iinc 7 1, 3) := by decide +kernel
theorem dX9_read_204 : decode cX9_read 204 = .ok (.iinc 8 1, 3) := by decide +kernel
theorem dX9_read_207 : decode cX9_read 207 = .ok (.goto (-165), 3) := by decide +kernel
theorem dX9_read_210 : decode cX9_read 210 = .ok (.aload_n 0, 1) := by decide +kernel
theorem dX9_read_211 : decode cX9_read 211 = .ok (.iload 6, 2) := by decide +kernel
theorem dX9_read_213 : decode cX9_read 213 = .ok (.putfield 338, 3) := by decide +kernel
theorem dX9_read_216 : decode cX9_read 216 = .ok (.iload 7, 2) := by decide +kernel
theorem dX9_read_218 : decode cX9_read 218 = .ok (.ireturn, 1) := by decide +kernel
theorem dX9_torn_0 : decode cX9_torn 0 = .ok (.aload_n 0, 1) := by decide +kernel
theorem dX9_torn_1 : decode cX9_torn 1 = .ok (.getfield 338, 3) := by decide +kernel
theorem dX9_torn_4 : decode cX9_torn 4 = .ok (.ireturn, 1) := by decide +kernel
theorem dX9_count_0 : decode cX9_count 0 = .ok (.iload_n 1, 1) := by decide +kernel
theorem dX9_count_1 : decode cX9_count 1 = .ok (.tableswitch 108 0 5 #[39, 44, 51, 60, 80, 85], 39) := by decide +kernel
theorem dX9_count_40 : decode cX9_count 40 = .ok (.aload_n 0, 1) := by decide +kernel
theorem dX9_count_41 : decode cX9_count 41 = .ok (.getfield 109, 3) := by decide +kernel
theorem dX9_count_44 : decode cX9_count 44 = .ok (.ireturn, 1) := by decide +kernel
theorem dX9_count_45 : decode cX9_count 45 = .ok (.aload_n 0, 1) := by decide +kernel
theorem dX9_count_46 : decode cX9_count 46 = .ok (.getfield 7, 3) := by decide +kernel
theorem dX9_count_49 : decode cX9_count 49 = .ok (.iconst 0, 1) := by decide +kernel
theorem dX9_count_50 : decode cX9_count 50 = .ok (.iaload, 1) := by decide +kernel
theorem dX9_count_51 : decode cX9_count 51 = .ok (.ireturn, 1) := by decide +kernel
theorem dX9_count_52 : decode cX9_count 52 = .ok (.aload_n 0, 1) := by decide +kernel
theorem dX9_count_53 : decode cX9_count 53 = .ok (.getfield 7, 3) := by decide +kernel
theorem dX9_count_56 : decode cX9_count 56 = .ok (.sipush 168, 3) := by decide +kernel
theorem dX9_count_59 : decode cX9_count 59 = .ok (.iaload, 1) := by decide +kernel
theorem dX9_count_60 : decode cX9_count 60 = .ok (.ireturn, 1) := by decide +kernel
theorem dX9_count_61 : decode cX9_count 61 = .ok (.aload_n 0, 1) := by decide +kernel
theorem dX9_count_62 : decode cX9_count 62 = .ok (.getfield 13, 3) := by decide +kernel
theorem dX9_count_65 : decode cX9_count 65 = .ok (.iconst 0, 1) := by decide +kernel
theorem dX9_count_66 : decode cX9_count 66 = .ok (.baload, 1) := by decide +kernel
theorem dX9_count_67 : decode cX9_count 67 = .ok (.invokestatic 215, 3) := by decide +kernel
theorem dX9_count_70 : decode cX9_count 70 = .ok (.aload_n 0, 1) := by decide +kernel
theorem dX9_count_71 : decode cX9_count 71 = .ok (.getfield 13, 3) := by decide +kernel
theorem dX9_count_74 : decode cX9_count 74 = .ok (.iconst 1, 1) := by decide +kernel
theorem dX9_count_75 : decode cX9_count 75 = .ok (.baload, 1) := by decide +kernel
theorem dX9_count_76 : decode cX9_count 76 = .ok (.invokestatic 215, 3) := by decide +kernel
theorem dX9_count_79 : decode cX9_count 79 = .ok (.iadd, 1) := by decide +kernel
theorem dX9_count_80 : decode cX9_count 80 = .ok (.ireturn, 1) := by decide +kernel
theorem dX9_count_81 : decode cX9_count 81 = .ok (.aload_n 0, 1) := by decide +kernel
theorem dX9_count_82 : decode cX9_count 82 = .ok (.getfield 112, 3) := by decide +kernel
theorem dX9_count_85 : decode cX9_count 85 = .ok (.ireturn, 1) := by decide +kernel
theorem dX9_count_86 : decode cX9_count 86 = .ok (.aload_n 0, 1) := by decide +kernel
theorem dX9_count_87 : decode cX9_count 87 = .ok (.getfield 80, 3) := by decide +kernel
theorem dX9_count_90 : decode cX9_count 90 = .ok (.iconst 0, 1) := by decide +kernel
theorem dX9_count_91 : decode cX9_count 91 = .ok (.iaload, 1) := by decide +kernel
theorem dX9_count_92 : decode cX9_count 92 = .ok (.bipush (-4), 2) := by decide +kernel
theorem dX9_count_94 : decode cX9_count 94 = .ok (.if_icmp .ne 8, 3) := by decide +kernel
theorem dX9_count_97 : decode cX9_count 97 = .ok (.bipush (-4), 2) := by decide +kernel
theorem dX9_count_99 : decode cX9_count 99 = .ok (.goto 9, 3) := by decide +kernel
theorem dX9_count_102 : decode cX9_count 102 = .ok (.aload_n 0, 1) := by decide +kernel
theorem dX9_count_103 : decode cX9_count 103 = .ok (.getfield 83, 3) := by decide +kernel
theorem dX9_count_106 : decode cX9_count 106 = .ok (.iconst 0, 1) := by decide +kernel
theorem dX9_count_107 : decode cX9_count 107 = .ok (.iaload, 1) := by decide +kernel
theorem dX9_count_108 : decode cX9_count 108 = .ok (.ireturn, 1) := by decide +kernel
theorem dX9_count_109 : decode cX9_count 109 = .ok (.iconst (-1), 1) := by decide +kernel
theorem dX9_count_110 : decode cX9_count 110 = .ok (.ireturn, 1) := by decide +kernel
theorem dJ6_bitCount_0f7a4_0 : decode cJ6_bitCount_0f7a4 0 = .ok (.iload_n 0, 1) := by decide +kernel
theorem dJ6_bitCount_0f7a4_1 : decode cJ6_bitCount_0f7a4 1 = .ok (.iload_n 0, 1) := by decide +kernel
theorem dJ6_bitCount_0f7a4_2 : decode cJ6_bitCount_0f7a4 2 = .ok (.iconst 1, 1) := by decide +kernel
theorem dJ6_bitCount_0f7a4_3 : decode cJ6_bitCount_0f7a4 3 = .ok (.iushr, 1) := by decide +kernel
theorem dJ6_bitCount_0f7a4_4 : decode cJ6_bitCount_0f7a4 4 = .ok (.ldc_w 265, 3) := by decide +kernel
theorem dJ6_bitCount_0f7a4_7 : decode cJ6_bitCount_0f7a4 7 = .ok (.iand, 1) := by decide +kernel
theorem dJ6_bitCount_0f7a4_8 : decode cJ6_bitCount_0f7a4 8 = .ok (.isub, 1) := by decide +kernel
theorem dJ6_bitCount_0f7a4_9 : decode cJ6_bitCount_0f7a4 9 = .ok (.istore_n 0, 1) := by decide +kernel
theorem dJ6_bitCount_0f7a4_10 : decode cJ6_bitCount_0f7a4 10 = .ok (.iload_n 0, 1) := by decide +kernel
theorem dJ6_bitCount_0f7a4_11 : decode cJ6_bitCount_0f7a4 11 = .ok (.ldc_w 266, 3) := by decide +kernel
theorem dJ6_bitCount_0f7a4_14 : decode cJ6_bitCount_0f7a4 14 = .ok (.iand, 1) := by decide +kernel
theorem dJ6_bitCount_0f7a4_15 : decode cJ6_bitCount_0f7a4 15 = .ok (.iload_n 0, 1) := by decide +kernel
theorem dJ6_bitCount_0f7a4_16 : decode cJ6_bitCount_0f7a4 16 = .ok (.iconst 2, 1) := by decide +kernel
theorem dJ6_bitCount_0f7a4_17 : decode cJ6_bitCount_0f7a4 17 = .ok (.iushr, 1) := by decide +kernel
theorem dJ6_bitCount_0f7a4_18 : decode cJ6_bitCount_0f7a4 18 = .ok (.ldc_w 266, 3) := by decide +kernel
theorem dJ6_bitCount_0f7a4_21 : decode cJ6_bitCount_0f7a4 21 = .ok (.iand, 1) := by decide +kernel
theorem dJ6_bitCount_0f7a4_22 : decode cJ6_bitCount_0f7a4 22 = .ok (.iadd, 1) := by decide +kernel
theorem dJ6_bitCount_0f7a4_23 : decode cJ6_bitCount_0f7a4 23 = .ok (.istore_n 0, 1) := by decide +kernel
theorem dJ6_bitCount_0f7a4_24 : decode cJ6_bitCount_0f7a4 24 = .ok (.iload_n 0, 1) := by decide +kernel
theorem dJ6_bitCount_0f7a4_25 : decode cJ6_bitCount_0f7a4 25 = .ok (.iload_n 0, 1) := by decide +kernel
theorem dJ6_bitCount_0f7a4_26 : decode cJ6_bitCount_0f7a4 26 = .ok (.iconst 4, 1) := by decide +kernel
theorem dJ6_bitCount_0f7a4_27 : decode cJ6_bitCount_0f7a4 27 = .ok (.iushr, 1) := by decide +kernel
theorem dJ6_bitCount_0f7a4_28 : decode cJ6_bitCount_0f7a4 28 = .ok (.iadd, 1) := by decide +kernel
theorem dJ6_bitCount_0f7a4_29 : decode cJ6_bitCount_0f7a4 29 = .ok (.ldc_w 267, 3) := by decide +kernel
theorem dJ6_bitCount_0f7a4_32 : decode cJ6_bitCount_0f7a4 32 = .ok (.iand, 1) := by decide +kernel
theorem dJ6_bitCount_0f7a4_33 : decode cJ6_bitCount_0f7a4 33 = .ok (.istore_n 0, 1) := by decide +kernel
theorem dJ6_bitCount_0f7a4_34 : decode cJ6_bitCount_0f7a4 34 = .ok (.iload_n 0, 1) := by decide +kernel
theorem dJ6_bitCount_0f7a4_35 : decode cJ6_bitCount_0f7a4 35 = .ok (.iload_n 0, 1) := by decide +kernel
theorem dJ6_bitCount_0f7a4_36 : decode cJ6_bitCount_0f7a4 36 = .ok (.bipush 8, 2) := by decide +kernel
theorem dJ6_bitCount_0f7a4_38 : decode cJ6_bitCount_0f7a4 38 = .ok (.iushr, 1) := by decide +kernel
theorem dJ6_bitCount_0f7a4_39 : decode cJ6_bitCount_0f7a4 39 = .ok (.iadd, 1) := by decide +kernel
theorem dJ6_bitCount_0f7a4_40 : decode cJ6_bitCount_0f7a4 40 = .ok (.istore_n 0, 1) := by decide +kernel
theorem dJ6_bitCount_0f7a4_41 : decode cJ6_bitCount_0f7a4 41 = .ok (.iload_n 0, 1) := by decide +kernel
theorem dJ6_bitCount_0f7a4_42 : decode cJ6_bitCount_0f7a4 42 = .ok (.iload_n 0, 1) := by decide +kernel
theorem dJ6_bitCount_0f7a4_43 : decode cJ6_bitCount_0f7a4 43 = .ok (.bipush 16, 2) := by decide +kernel
theorem dJ6_bitCount_0f7a4_45 : decode cJ6_bitCount_0f7a4 45 = .ok (.iushr, 1) := by decide +kernel
theorem dJ6_bitCount_0f7a4_46 : decode cJ6_bitCount_0f7a4 46 = .ok (.iadd, 1) := by decide +kernel
theorem dJ6_bitCount_0f7a4_47 : decode cJ6_bitCount_0f7a4 47 = .ok (.istore_n 0, 1) := by decide +kernel
theorem dJ6_bitCount_0f7a4_48 : decode cJ6_bitCount_0f7a4 48 = .ok (.iload_n 0, 1) := by decide +kernel
theorem dJ6_bitCount_0f7a4_49 : decode cJ6_bitCount_0f7a4 49 = .ok (.bipush 63, 2) := by decide +kernel
theorem dJ6_bitCount_0f7a4_51 : decode cJ6_bitCount_0f7a4 51 = .ok (.iand, 1) := by decide +kernel
theorem dJ6_bitCount_0f7a4_52 : decode cJ6_bitCount_0f7a4 52 = .ok (.ireturn, 1) := by decide +kernel
theorem dJ9_max_7cf53_0 : decode cJ9_max_7cf53 0 = .ok (.iload_n 0, 1) := by decide +kernel
theorem dJ9_max_7cf53_1 : decode cJ9_max_7cf53 1 = .ok (.iload_n 1, 1) := by decide +kernel
theorem dJ9_max_7cf53_2 : decode cJ9_max_7cf53 2 = .ok (.if_icmp .lt 7, 3) := by decide +kernel
theorem dJ9_max_7cf53_5 : decode cJ9_max_7cf53 5 = .ok (.iload_n 0, 1) := by decide +kernel
theorem dJ9_max_7cf53_6 : decode cJ9_max_7cf53 6 = .ok (.goto 4, 3) := by decide +kernel
theorem dJ9_max_7cf53_9 : decode cJ9_max_7cf53 9 = .ok (.iload_n 1, 1) := by decide +kernel
theorem dJ9_max_7cf53_10 : decode cJ9_max_7cf53 10 = .ok (.ireturn, 1) := by decide +kernel
theorem dJ9_min_7cf53_0 : decode cJ9_min_7cf53 0 = .ok (.iload_n 0, 1) := by decide +kernel
theorem dJ9_min_7cf53_1 : decode cJ9_min_7cf53 1 = .ok (.iload_n 1, 1) := by decide +kernel
theorem dJ9_min_7cf53_2 : decode cJ9_min_7cf53 2 = .ok (.if_icmp .gt 7, 3) := by decide +kernel
theorem dJ9_min_7cf53_5 : decode cJ9_min_7cf53 5 = .ok (.iload_n 0, 1) := by decide +kernel
theorem dJ9_min_7cf53_6 : decode cJ9_min_7cf53 6 = .ok (.goto 4, 3) := by decide +kernel
theorem dJ9_min_7cf53_9 : decode cJ9_min_7cf53 9 = .ok (.iload_n 1, 1) := by decide +kernel
theorem dJ9_min_7cf53_10 : decode cJ9_min_7cf53 10 = .ok (.ireturn, 1) := by decide +kernel
theorem dJ0_length_8abf5_0 : decode cJ0_length_8abf5 0 = .ok (.aload_n 0, 1) := by decide +kernel
theorem dJ0_length_8abf5_1 : decode cJ0_length_8abf5 1 = .ok (.getfield 9, 3) := by decide +kernel
theorem dJ0_length_8abf5_4 : decode cJ0_length_8abf5 4 = .ok (.arraylength, 1) := by decide +kernel
theorem dJ0_length_8abf5_5 : decode cJ0_length_8abf5 5 = .ok (.aload_n 0, 1) := by decide +kernel
theorem dJ0_length_8abf5_6 : decode cJ0_length_8abf5 6 = .ok (.invokevirtual 335, 3) := by decide +kernel
theorem dJ0_length_8abf5_9 : decode cJ0_length_8abf5 9 = .ok (.ishr, 1) := by decide +kernel
theorem dJ0_length_8abf5_10 : decode cJ0_length_8abf5 10 = .ok (.ireturn, 1) := by decide +kernel
theorem dJ0_charAt_5068e_0 : decode cJ0_charAt_5068e 0 = .ok (.aload_n 0, 1) := by decide +kernel
theorem dJ0_charAt_5068e_1 : decode cJ0_charAt_5068e 1 = .ok (.invokevirtual 492, 3) := by decide +kernel
theorem dJ0_charAt_5068e_4 : decode cJ0_charAt_5068e 4 = .ok (.ifCond .eq 12, 3) := by decide +kernel
theorem dJ0_charAt_5068e_7 : decode cJ0_charAt_5068e 7 = .ok (.aload_n 0, 1) := by decide +kernel
theorem dJ0_charAt_5068e_8 : decode cJ0_charAt_5068e 8 = .ok (.getfield 9, 3) := by decide +kernel
theorem dJ0_charAt_5068e_11 : decode cJ0_charAt_5068e 11 = .ok (.iload_n 1, 1) := by decide +kernel
theorem dJ0_charAt_5068e_12 : decode cJ0_charAt_5068e 12 = .ok (.invokestatic 495, 3) := by decide +kernel
theorem dJ0_charAt_5068e_15 : decode cJ0_charAt_5068e 15 = .ok (.ireturn, 1) := by decide +kernel
theorem dJ0_charAt_5068e_16 : decode cJ0_charAt_5068e 16 = .ok (.aload_n 0, 1) := by decide +kernel
theorem dJ0_charAt_5068e_17 : decode cJ0_charAt_5068e 17 = .ok (.getfield 9, 3) := by decide +kernel
theorem dJ0_charAt_5068e_20 : decode cJ0_charAt_5068e 20 = .ok (.iload_n 1, 1) := by decide +kernel
theorem dJ0_charAt_5068e_21 : decode cJ0_charAt_5068e 21 = .ok (.invokestatic 498, 3) := by decide +kernel
theorem dJ0_charAt_5068e_24 : decode cJ0_charAt_5068e 24 = .ok (.ireturn, 1) := by decide +kernel
theorem dJ0_coder_7d493_0 : decode cJ0_coder_7d493 0 = .ok (.getstatic 38, 3) := by decide +kernel
theorem dJ0_coder_7d493_3 : decode cJ0_coder_7d493 3 = .ok (.ifCond .eq 10, 3) := by decide +kernel
theorem dJ0_coder_7d493_6 : decode cJ0_coder_7d493 6 = .ok (.aload_n 0, 1) := by decide +kernel
theorem dJ0_coder_7d493_7 : decode cJ0_coder_7d493 7 = .ok (.getfield 15, 3) := by decide +kernel
theorem dJ0_coder_7d493_10 : decode cJ0_coder_7d493 10 = .ok (.goto 4, 3) := by decide +kernel
theorem dJ0_coder_7d493_13 : decode cJ0_coder_7d493 13 = .ok (.iconst 1, 1) := by decide +kernel
theorem dJ0_coder_7d493_14 : decode cJ0_coder_7d493 14 = .ok (.ireturn, 1) := by decide +kernel
theorem dJ0_isLatin1_aae02_0 : decode cJ0_isLatin1_aae02 0 = .ok (.getstatic 38, 3) := by decide +kernel
theorem dJ0_isLatin1_aae02_3 : decode cJ0_isLatin1_aae02 3 = .ok (.ifCond .eq 14, 3) := by decide +kernel
theorem dJ0_isLatin1_aae02_6 : decode cJ0_isLatin1_aae02 6 = .ok (.aload_n 0, 1) := by decide +kernel
theorem dJ0_isLatin1_aae02_7 : decode cJ0_isLatin1_aae02 7 = .ok (.getfield 15, 3) := by decide +kernel
theorem dJ0_isLatin1_aae02_10 : decode cJ0_isLatin1_aae02 10 = .ok (.ifCond .ne 7, 3) := by decide +kernel
theorem dJ0_isLatin1_aae02_13 : decode cJ0_isLatin1_aae02 13 = .ok (.iconst 1, 1) := by decide +kernel
theorem dJ0_isLatin1_aae02_14 : decode cJ0_isLatin1_aae02 14 = .ok (.goto 4, 3) := by decide +kernel
theorem dJ0_isLatin1_aae02_17 : decode cJ0_isLatin1_aae02 17 = .ok (.iconst 0, 1) := by decide +kernel
theorem dJ0_isLatin1_aae02_18 : decode cJ0_isLatin1_aae02 18 = .ok (.ireturn, 1) := by decide +kernel
theorem dJ0_checkIndex_df160_0 : decode cJ0_checkIndex_df160 0 = .ok (.iload_n 0, 1) := by decide +kernel
theorem dJ0_checkIndex_df160_1 : decode cJ0_checkIndex_df160 1 = .ok (.iload_n 1, 1) := by decide +kernel
theorem dJ0_checkIndex_df160_2 : decode cJ0_checkIndex_df160 2 = .ok (.getstatic 1053, 3) := by decide +kernel
theorem dJ0_checkIndex_df160_5 : decode cJ0_checkIndex_df160 5 = .ok (.invokestatic 1059, 3) := by decide +kernel
theorem dJ0_checkIndex_df160_8 : decode cJ0_checkIndex_df160 8 = .ok (.pop, 1) := by decide +kernel
theorem dJ0_checkIndex_df160_9 : decode cJ0_checkIndex_df160 9 = .ok (.return_, 1) := by decide +kernel
theorem dJ1_charAt_3b067_0 : decode cJ1_charAt_3b067 0 = .ok (.iload_n 1, 1) := by decide +kernel
theorem dJ1_charAt_3b067_1 : decode cJ1_charAt_3b067 1 = .ok (.aload_n 0, 1) := by decide +kernel
theorem dJ1_charAt_3b067_2 : decode cJ1_charAt_3b067 2 = .ok (.arraylength, 1) := by decide +kernel
theorem dJ1_charAt_3b067_3 : decode cJ1_charAt_3b067 3 = .ok (.invokestatic 9, 3) := by decide +kernel
theorem dJ1_charAt_3b067_6 : decode cJ1_charAt_3b067 6 = .ok (.aload_n 0, 1) := by decide +kernel
theorem dJ1_charAt_3b067_7 : decode cJ1_charAt_3b067 7 = .ok (.iload_n 1, 1) := by decide +kernel
theorem dJ1_charAt_3b067_8 : decode cJ1_charAt_3b067 8 = .ok (.baload, 1) := by decide +kernel
theorem dJ1_charAt_3b067_9 : decode cJ1_charAt_3b067 9 = .ok (.sipush 255, 3) := by decide +kernel
theorem dJ1_charAt_3b067_12 : decode cJ1_charAt_3b067 12 = .ok (.iand, 1) := by decide +kernel
theorem dJ1_charAt_3b067_13 : decode cJ1_charAt_3b067 13 = .ok (.i2c, 1) := by decide +kernel
theorem dJ1_charAt_3b067_14 : decode cJ1_charAt_3b067 14 = .ok (.ireturn, 1) := by decide +kernel
theorem dJ2_getChar_3b067_0 : decode cJ2_getChar_3b067 0 = .ok (.getstatic 44, 3) := by decide +kernel
theorem dJ2_getChar_3b067_3 : decode cJ2_getChar_3b067 3 = .ok (.ifCond .ne 25, 3) := by decide +kernel
theorem dJ2_getChar_3b067_6 : decode cJ2_getChar_3b067 6 = .ok (.iload_n 1, 1) := by decide +kernel
theorem dJ2_getChar_3b067_7 : decode cJ2_getChar_3b067 7 = .ok (.ifCond .lt 11, 3) := by decide +kernel
theorem dJ2_getChar_3b067_10 : decode cJ2_getChar_3b067 10 = .ok (.iload_n 1, 1) := by decide +kernel
theorem dJ2_getChar_3b067_11 : decode cJ2_getChar_3b067 11 = .ok (.aload_n 0, 1) := by decide +kernel
theorem dJ2_getChar_3b067_12 : decode cJ2_getChar_3b067 12 = .ok (.invokestatic 48, 3) := by decide +kernel
theorem dJ2_getChar_3b067_15 : decode cJ2_getChar_3b067 15 = .ok (.if_icmp .lt 13, 3) := by decide +kernel
theorem dJ2_getChar_3b067_18 : decode cJ2_getChar_3b067 18 = .ok (.new 52, 3) := by decide +kernel
theorem dJ2_getChar_3b067_21 : decode cJ2_getChar_3b067 21 = .ok (.dup, 1) := by decide +kernel
theorem dJ2_getChar_3b067_22 : decode cJ2_getChar_3b067 22 = .ok (.ldc 54, 2) := by decide +kernel
theorem dJ2_getChar_3b067_24 : decode cJ2_getChar_3b067 24 = .ok (.invokespecial 56, 3) := by decide +kernel
theorem dJ2_getChar_3b067_27 : decode cJ2_getChar_3b067 27 = .ok (.athrow, 1) := by decide +kernel
theorem dJ2_getChar_3b067_28 : decode cJ2_getChar_3b067 28 = .ok (.iload_n 1, 1) := by decide +kernel
theorem dJ2_getChar_3b067_29 : decode cJ2_getChar_3b067 29 = .ok (.iconst 1, 1) := by decide +kernel
theorem dJ2_getChar_3b067_30 : decode cJ2_getChar_3b067 30 = .ok (.ishl, 1) := by decide +kernel
theorem dJ2_getChar_3b067_31 : decode cJ2_getChar_3b067 31 = .ok (.istore_n 1, 1) := by decide +kernel
theorem dJ2_getChar_3b067_32 : decode cJ2_getChar_3b067 32 = .ok (.aload_n 0, 1) := by decide +kernel
theorem dJ2_getChar_3b067_33 : decode cJ2_getChar_3b067 33 = .ok (.iload_n 1, 1) := by decide +kernel
theorem dJ2_getChar_3b067_34 : decode cJ2_getChar_3b067 34 = .ok (.iinc 1 1, 3) := by decide +kernel
theorem dJ2_getChar_3b067_37 : decode cJ2_getChar_3b067 37 = .ok (.baload, 1) := by decide +kernel
theorem dJ2_getChar_3b067_38 : decode cJ2_getChar_3b067 38 = .ok (.sipush 255, 3) := by decide +kernel
theorem dJ2_getChar_3b067_41 : decode cJ2_getChar_3b067 41 = .ok (.iand, 1) := by decide +kernel
theorem dJ2_getChar_3b067_42 : decode cJ2_getChar_3b067 42 = .ok (.getstatic 59, 3) := by decide +kernel
theorem dJ2_getChar_3b067_45 : decode cJ2_getChar_3b067 45 = .ok (.ishl, 1) := by decide +kernel
theorem dJ2_getChar_3b067_46 : decode cJ2_getChar_3b067 46 = .ok (.aload_n 0, 1) := by decide +kernel
theorem dJ2_getChar_3b067_47 : decode cJ2_getChar_3b067 47 = .ok (.iload_n 1, 1) := by decide +kernel
theorem dJ2_getChar_3b067_48 : decode cJ2_getChar_3b067 48 = .ok (.baload, 1) := by decide +kernel
theorem dJ2_getChar_3b067_49 : decode cJ2_getChar_3b067 49 = .ok (.sipush 255, 3) := by decide +kernel
theorem dJ2_getChar_3b067_52 : decode cJ2_getChar_3b067 52 = .ok (.iand, 1) := by decide +kernel
theorem dJ2_getChar_3b067_53 : decode cJ2_getChar_3b067 53 = .ok (.getstatic 63, 3) := by decide +kernel
theorem dJ2_getChar_3b067_56 : decode cJ2_getChar_3b067 56 = .ok (.ishl, 1) := by decide +kernel
theorem dJ2_getChar_3b067_57 : decode cJ2_getChar_3b067 57 = .ok (.ior, 1) := by decide +kernel
theorem dJ2_getChar_3b067_58 : decode cJ2_getChar_3b067 58 = .ok (.i2c, 1) := by decide +kernel
theorem dJ2_getChar_3b067_59 : decode cJ2_getChar_3b067 59 = .ok (.ireturn, 1) := by decide +kernel
theorem dJ2_length_9d52b_0 : decode cJ2_length_9d52b 0 = .ok (.aload_n 0, 1) := by decide +kernel
theorem dJ2_length_9d52b_1 : decode cJ2_length_9d52b 1 = .ok (.arraylength, 1) := by decide +kernel
theorem dJ2_length_9d52b_2 : decode cJ2_length_9d52b 2 = .ok (.iconst 1, 1) := by decide +kernel
theorem dJ2_length_9d52b_3 : decode cJ2_length_9d52b 3 = .ok (.ishr, 1) := by decide +kernel
theorem dJ2_length_9d52b_4 : decode cJ2_length_9d52b 4 = .ok (.ireturn, 1) := by decide +kernel
theorem dJ2_charAt_3b067_0 : decode cJ2_charAt_3b067 0 = .ok (.iload_n 1, 1) := by decide +kernel
theorem dJ2_charAt_3b067_1 : decode cJ2_charAt_3b067 1 = .ok (.aload_n 0, 1) := by decide +kernel
theorem dJ2_charAt_3b067_2 : decode cJ2_charAt_3b067 2 = .ok (.invokestatic 67, 3) := by decide +kernel
theorem dJ2_charAt_3b067_5 : decode cJ2_charAt_3b067 5 = .ok (.aload_n 0, 1) := by decide +kernel
theorem dJ2_charAt_3b067_6 : decode cJ2_charAt_3b067 6 = .ok (.iload_n 1, 1) := by decide +kernel
theorem dJ2_charAt_3b067_7 : decode cJ2_charAt_3b067 7 = .ok (.invokestatic 71, 3) := by decide +kernel
theorem dJ2_charAt_3b067_10 : decode cJ2_charAt_3b067 10 = .ok (.ireturn, 1) := by decide +kernel
theorem dJ2_checkIndex_2214a_0 : decode cJ2_checkIndex_2214a 0 = .ok (.iload_n 0, 1) := by decide +kernel
theorem dJ2_checkIndex_2214a_1 : decode cJ2_checkIndex_2214a 1 = .ok (.aload_n 1, 1) := by decide +kernel
theorem dJ2_checkIndex_2214a_2 : decode cJ2_checkIndex_2214a 2 = .ok (.invokestatic 48, 3) := by decide +kernel
theorem dJ2_checkIndex_2214a_5 : decode cJ2_checkIndex_2214a 5 = .ok (.invokestatic 414, 3) := by decide +kernel
theorem dJ2_checkIndex_2214a_8 : decode cJ2_checkIndex_2214a 8 = .ok (.return_, 1) := by decide +kernel
theorem dJ3_checkIndex_8e157_0 : decode cJ3_checkIndex_8e157 0 = .ok (.iload_n 0, 1) := by decide +kernel
theorem dJ3_checkIndex_8e157_1 : decode cJ3_checkIndex_8e157 1 = .ok (.ifCond .lt 8, 3) := by decide +kernel
theorem dJ3_checkIndex_8e157_4 : decode cJ3_checkIndex_8e157 4 = .ok (.iload_n 0, 1) := by decide +kernel
theorem dJ3_checkIndex_8e157_5 : decode cJ3_checkIndex_8e157 5 = .ok (.iload_n 1, 1) := by decide +kernel
theorem dJ3_checkIndex_8e157_6 : decode cJ3_checkIndex_8e157 6 = .ok (.if_icmp .lt 10, 3) := by decide +kernel
theorem dJ3_checkIndex_8e157_9 : decode cJ3_checkIndex_8e157 9 = .ok (.aload_n 2, 1) := by decide +kernel
theorem dJ3_checkIndex_8e157_10 : decode cJ3_checkIndex_8e157 10 = .ok (.iload_n 0, 1) := by decide +kernel
theorem dJ3_checkIndex_8e157_11 : decode cJ3_checkIndex_8e157 11 = .ok (.iload_n 1, 1) := by decide +kernel
theorem dJ3_checkIndex_8e157_12 : decode cJ3_checkIndex_8e157 12 = .ok (.invokestatic 95, 3) := by decide +kernel
theorem dJ3_checkIndex_8e157_15 : decode cJ3_checkIndex_8e157 15 = .ok (.athrow, 1) := by decide +kernel
theorem dJ3_checkIndex_8e157_16 : decode cJ3_checkIndex_8e157 16 = .ok (.iload_n 0, 1) := by decide +kernel
theorem dJ3_checkIndex_8e157_17 : decode cJ3_checkIndex_8e157 17 = .ok (.ireturn, 1) := by decide +kernel
theorem dL_law_0 : decode cL_law 0 = .ok (.new 7, 3) := by decide +kernel
theorem dL_law_3 : decode cL_law 3 = .ok (.dup, 1) := by decide +kernel
theorem dL_law_4 : decode cL_law 4 = .ok (.invokespecial 9, 3) := by decide +kernel
theorem dL_law_7 : decode cL_law 7 = .ok (.astore_n 1, 1) := by decide +kernel
theorem dL_law_8 : decode cL_law 8 = .ok (.new 10, 3) := by decide +kernel
theorem dL_law_11 : decode cL_law 11 = .ok (.dup, 1) := by decide +kernel
theorem dL_law_12 : decode cL_law 12 = .ok (.invokespecial 12, 3) := by decide +kernel
theorem dL_law_15 : decode cL_law 15 = .ok (.astore_n 2, 1) := by decide +kernel
theorem dL_law_16 : decode cL_law 16 = .ok (.iconst 0, 1) := by decide +kernel
theorem dL_law_17 : decode cL_law 17 = .ok (.istore_n 3, 1) := by decide +kernel
theorem dL_law_18 : decode cL_law 18 = .ok (.iload_n 3, 1) := by decide +kernel
theorem dL_law_19 : decode cL_law 19 = .ok (.aload_n 0, 1) := by decide +kernel
theorem dL_law_20 : decode cL_law 20 = .ok (.arraylength, 1) := by decide +kernel
theorem dL_law_21 : decode cL_law 21 = .ok (.iconst 5, 1) := by decide +kernel
theorem dL_law_22 : decode cL_law 22 = .ok (.isub, 1) := by decide +kernel
theorem dL_law_23 : decode cL_law 23 = .ok (.if_icmp .gt 1360, 3) := by decide +kernel
theorem dL_law_26 : decode cL_law 26 = .ok (.aload_n 0, 1) := by decide +kernel
theorem dL_law_27 : decode cL_law 27 = .ok (.iload_n 3, 1) := by decide +kernel
theorem dL_law_28 : decode cL_law 28 = .ok (.iaload, 1) := by decide +kernel
theorem dL_law_29 : decode cL_law 29 = .ok (.bipush 63, 2) := by decide +kernel
theorem dL_law_31 : decode cL_law 31 = .ok (.iand, 1) := by decide +kernel
theorem dL_law_32 : decode cL_law 32 = .ok (.tableswitch 1345 0 38 #[172, 225, 248, 261, 274, 307, 340, 363, 406, 429, 462, 495, 544, 577, 620, 653, 686, 709, 732, 765, 788, 811, 834, 877, 900, 923, 956, 999, 1022, 1055, 1078, 1101, 1124, 1147, 1170, 1213, 1256, 1309, 1322], 172) := by decide +kernel
theorem dL_law_204 : decode cL_law 204 = .ok (.aload_n 1, 1) := by decide +kernel
theorem dL_law_205 : decode cL_law 205 = .ok (.aload_n 0, 1) := by decide +kernel
theorem dL_law_206 : decode cL_law 206 = .ok (.iload_n 3, 1) := by decide +kernel
theorem dL_law_207 : decode cL_law 207 = .ok (.iconst 1, 1) := by decide +kernel
theorem dL_law_208 : decode cL_law 208 = .ok (.iadd, 1) := by decide +kernel
theorem dL_law_209 : decode cL_law 209 = .ok (.iaload, 1) := by decide +kernel
theorem dL_law_210 : decode cL_law 210 = .ok (.i2l, 1) := by decide +kernel
theorem dL_law_211 : decode cL_law 211 = .ok (.bipush 32, 2) := by decide +kernel
theorem dL_law_213 : decode cL_law 213 = .ok (.lshl, 1) := by decide +kernel
theorem dL_law_214 : decode cL_law 214 = .ok (.aload_n 0, 1) := by decide +kernel
theorem dL_law_215 : decode cL_law 215 = .ok (.iload_n 3, 1) := by decide +kernel
theorem dL_law_216 : decode cL_law 216 = .ok (.iconst 2, 1) := by decide +kernel
theorem dL_law_217 : decode cL_law 217 = .ok (.iadd, 1) := by decide +kernel
theorem dL_law_218 : decode cL_law 218 = .ok (.iaload, 1) := by decide +kernel
theorem dL_law_219 : decode cL_law 219 = .ok (.i2l, 1) := by decide +kernel
theorem dL_law_220 : decode cL_law 220 = .ok (.ldc2_w 13, 3) := by decide +kernel
theorem dL_law_223 : decode cL_law 223 = .ok (.land, 1) := by decide +kernel
theorem dL_law_224 : decode cL_law 224 = .ok (.lor, 1) := by decide +kernel
theorem dL_law_225 : decode cL_law 225 = .ok (.invokevirtual 15, 3) := by decide +kernel
theorem dL_law_228 : decode cL_law 228 = .ok (.aload_n 2, 1) := by decide +kernel
theorem dL_law_229 : decode cL_law 229 = .ok (.aload_n 0, 1) := by decide +kernel
theorem dL_law_230 : decode cL_law 230 = .ok (.iload_n 3, 1) := by decide +kernel
theorem dL_law_231 : decode cL_law 231 = .ok (.iconst 1, 1) := by decide +kernel
theorem dL_law_232 : decode cL_law 232 = .ok (.iadd, 1) := by decide +kernel
theorem dL_law_233 : decode cL_law 233 = .ok (.iaload, 1) := by decide +kernel
theorem dL_law_234 : decode cL_law 234 = .ok (.i2l, 1) := by decide +kernel
theorem dL_law_235 : decode cL_law 235 = .ok (.bipush 32, 2) := by decide +kernel
theorem dL_law_237 : decode cL_law 237 = .ok (.lshl, 1) := by decide +kernel
theorem dL_law_238 : decode cL_law 238 = .ok (.aload_n 0, 1) := by decide +kernel
theorem dL_law_239 : decode cL_law 239 = .ok (.iload_n 3, 1) := by decide +kernel
theorem dL_law_240 : decode cL_law 240 = .ok (.iconst 2, 1) := by decide +kernel
theorem dL_law_241 : decode cL_law 241 = .ok (.iadd, 1) := by decide +kernel
theorem dL_law_242 : decode cL_law 242 = .ok (.iaload, 1) := by decide +kernel
theorem dL_law_243 : decode cL_law 243 = .ok (.i2l, 1) := by decide +kernel
theorem dL_law_244 : decode cL_law 244 = .ok (.ldc2_w 13, 3) := by decide +kernel
theorem dL_law_247 : decode cL_law 247 = .ok (.land, 1) := by decide +kernel
theorem dL_law_248 : decode cL_law 248 = .ok (.lor, 1) := by decide +kernel
theorem dL_law_249 : decode cL_law 249 = .ok (.invokevirtual 19, 3) := by decide +kernel
theorem dL_law_252 : decode cL_law 252 = .ok (.if_icmp .eq 1125, 3) := by decide +kernel
theorem dL_law_255 : decode cL_law 255 = .ok (.iconst 0, 1) := by decide +kernel
theorem dL_law_256 : decode cL_law 256 = .ok (.ireturn, 1) := by decide +kernel
theorem dL_law_257 : decode cL_law 257 = .ok (.aload_n 1, 1) := by decide +kernel
theorem dL_law_258 : decode cL_law 258 = .ok (.aload_n 0, 1) := by decide +kernel
theorem dL_law_259 : decode cL_law 259 = .ok (.iload_n 3, 1) := by decide +kernel
theorem dL_law_260 : decode cL_law 260 = .ok (.iconst 1, 1) := by decide +kernel
theorem dL_law_261 : decode cL_law 261 = .ok (.iadd, 1) := by decide +kernel
theorem dL_law_262 : decode cL_law 262 = .ok (.iaload, 1) := by decide +kernel
theorem dL_law_263 : decode cL_law 263 = .ok (.invokevirtual 20, 3) := by decide +kernel
theorem dL_law_266 : decode cL_law 266 = .ok (.aload_n 2, 1) := by decide +kernel
theorem dL_law_267 : decode cL_law 267 = .ok (.aload_n 0, 1) := by decide +kernel
theorem dL_law_268 : decode cL_law 268 = .ok (.iload_n 3, 1) := by decide +kernel
theorem dL_law_269 : decode cL_law 269 = .ok (.iconst 1, 1) := by decide +kernel
theorem dL_law_270 : decode cL_law 270 = .ok (.iadd, 1) := by decide +kernel
theorem dL_law_271 : decode cL_law 271 = .ok (.iaload, 1) := by decide +kernel
theorem dL_law_272 : decode cL_law 272 = .ok (.invokevirtual 24, 3) := by decide +kernel
theorem dL_law_275 : decode cL_law 275 = .ok (.if_icmp .eq 1102, 3) := by decide +kernel
theorem dL_law_278 : decode cL_law 278 = .ok (.iconst 0, 1) := by decide +kernel
theorem dL_law_279 : decode cL_law 279 = .ok (.ireturn, 1) := by decide +kernel
theorem dL_law_280 : decode cL_law 280 = .ok (.aload_n 1, 1) := by decide +kernel
theorem dL_law_281 : decode cL_law 281 = .ok (.invokevirtual 25, 3) := by decide +kernel
theorem dL_law_284 : decode cL_law 284 = .ok (.aload_n 2, 1) := by decide +kernel
theorem dL_law_285 : decode cL_law 285 = .ok (.invokevirtual 29, 3) := by decide +kernel
theorem dL_law_288 : decode cL_law 288 = .ok (.if_icmp .eq 1089, 3) := by decide +kernel
theorem dL_law_291 : decode cL_law 291 = .ok (.iconst 0, 1) := by decide +kernel
theorem dL_law_292 : decode cL_law 292 = .ok (.ireturn, 1) := by decide +kernel
theorem dL_law_293 : decode cL_law 293 = .ok (.aload_n 1, 1) := by decide +kernel
theorem dL_law_294 : decode cL_law 294 = .ok (.invokevirtual 30, 3) := by decide +kernel
theorem dL_law_297 : decode cL_law 297 = .ok (.aload_n 2, 1) := by decide +kernel
theorem dL_law_298 : decode cL_law 298 = .ok (.invokevirtual 33, 3) := by decide +kernel
theorem dL_law_301 : decode cL_law 301 = .ok (.if_icmp .eq 1076, 3) := by decide +kernel
theorem dL_law_304 : decode cL_law 304 = .ok (.iconst 0, 1) := by decide +kernel
theorem dL_law_305 : decode cL_law 305 = .ok (.ireturn, 1) := by decide +kernel
theorem dL_law_306 : decode cL_law 306 = .ok (.aload_n 1, 1) := by decide +kernel
theorem dL_law_307 : decode cL_law 307 = .ok (.aload_n 0, 1) := by decide +kernel
theorem dL_law_308 : decode cL_law 308 = .ok (.iload_n 3, 1) := by decide +kernel
theorem dL_law_309 : decode cL_law 309 = .ok (.iconst 1, 1) := by decide +kernel
theorem dL_law_310 : decode cL_law 310 = .ok (.iadd, 1) := by decide +kernel
theorem dL_law_311 : decode cL_law 311 = .ok (.iaload, 1) := by decide +kernel
theorem dL_law_312 : decode cL_law 312 = .ok (.aload_n 0, 1) := by decide +kernel
theorem dL_law_313 : decode cL_law 313 = .ok (.iload_n 3, 1) := by decide +kernel
theorem dL_law_314 : decode cL_law 314 = .ok (.iconst 2, 1) := by decide +kernel
theorem dL_law_315 : decode cL_law 315 = .ok (.iadd, 1) := by decide +kernel
theorem dL_law_316 : decode cL_law 316 = .ok (.iaload, 1) := by decide +kernel
theorem dL_law_317 : decode cL_law 317 = .ok (.invokevirtual 34, 3) := by decide +kernel
theorem dL_law_320 : decode cL_law 320 = .ok (.aload_n 2, 1) := by decide +kernel
theorem dL_law_321 : decode cL_law 321 = .ok (.aload_n 0, 1) := by decide +kernel
theorem dL_law_322 : decode cL_law 322 = .ok (.iload_n 3, 1) := by decide +kernel
theorem dL_law_323 : decode cL_law 323 = .ok (.iconst 1, 1) := by decide +kernel
theorem dL_law_324 : decode cL_law 324 = .ok (.iadd, 1) := by decide +kernel
theorem dL_law_325 : decode cL_law 325 = .ok (.iaload, 1) := by decide +kernel
theorem dL_law_326 : decode cL_law 326 = .ok (.aload_n 0, 1) := by decide +kernel
theorem dL_law_327 : decode cL_law 327 = .ok (.iload_n 3, 1) := by decide +kernel
theorem dL_law_328 : decode cL_law 328 = .ok (.iconst 2, 1) := by decide +kernel
theorem dL_law_329 : decode cL_law 329 = .ok (.iadd, 1) := by decide +kernel
theorem dL_law_330 : decode cL_law 330 = .ok (.iaload, 1) := by decide +kernel
theorem dL_law_331 : decode cL_law 331 = .ok (.invokevirtual 38, 3) := by decide +kernel
theorem dL_law_334 : decode cL_law 334 = .ok (.if_icmp .eq 1043, 3) := by decide +kernel
theorem dL_law_337 : decode cL_law 337 = .ok (.iconst 0, 1) := by decide +kernel
theorem dL_law_338 : decode cL_law 338 = .ok (.ireturn, 1) := by decide +kernel
theorem dL_law_339 : decode cL_law 339 = .ok (.aload_n 1, 1) := by decide +kernel
theorem dL_law_340 : decode cL_law 340 = .ok (.aload_n 0, 1) := by decide +kernel
theorem dL_law_341 : decode cL_law 341 = .ok (.iload_n 3, 1) := by decide +kernel
theorem dL_law_342 : decode cL_law 342 = .ok (.iconst 1, 1) := by decide +kernel
theorem dL_law_343 : decode cL_law 343 = .ok (.iadd, 1) := by decide +kernel
theorem dL_law_344 : decode cL_law 344 = .ok (.iaload, 1) := by decide +kernel
theorem dL_law_345 : decode cL_law 345 = .ok (.aload_n 0, 1) := by decide +kernel
theorem dL_law_346 : decode cL_law 346 = .ok (.iload_n 3, 1) := by decide +kernel
theorem dL_law_347 : decode cL_law 347 = .ok (.iconst 2, 1) := by decide +kernel
theorem dL_law_348 : decode cL_law 348 = .ok (.iadd, 1) := by decide +kernel
theorem dL_law_349 : decode cL_law 349 = .ok (.iaload, 1) := by decide +kernel
theorem dL_law_350 : decode cL_law 350 = .ok (.invokevirtual 39, 3) := by decide +kernel
theorem dL_law_353 : decode cL_law 353 = .ok (.aload_n 2, 1) := by decide +kernel
theorem dL_law_354 : decode cL_law 354 = .ok (.aload_n 0, 1) := by decide +kernel
theorem dL_law_355 : decode cL_law 355 = .ok (.iload_n 3, 1) := by decide +kernel
theorem dL_law_356 : decode cL_law 356 = .ok (.iconst 1, 1) := by decide +kernel
theorem dL_law_357 : decode cL_law 357 = .ok (.iadd, 1) := by decide +kernel
theorem dL_law_358 : decode cL_law 358 = .ok (.iaload, 1) := by decide +kernel
theorem dL_law_359 : decode cL_law 359 = .ok (.aload_n 0, 1) := by decide +kernel
theorem dL_law_360 : decode cL_law 360 = .ok (.iload_n 3, 1) := by decide +kernel
theorem dL_law_361 : decode cL_law 361 = .ok (.iconst 2, 1) := by decide +kernel
theorem dL_law_362 : decode cL_law 362 = .ok (.iadd, 1) := by decide +kernel
theorem dL_law_363 : decode cL_law 363 = .ok (.iaload, 1) := by decide +kernel
theorem dL_law_364 : decode cL_law 364 = .ok (.invokevirtual 42, 3) := by decide +kernel
theorem dL_law_367 : decode cL_law 367 = .ok (.if_icmp .eq 1010, 3) := by decide +kernel
theorem dL_law_370 : decode cL_law 370 = .ok (.iconst 0, 1) := by decide +kernel
theorem dL_law_371 : decode cL_law 371 = .ok (.ireturn, 1) := by decide +kernel
theorem dL_law_372 : decode cL_law 372 = .ok (.aload_n 1, 1) := by decide +kernel
theorem dL_law_373 : decode cL_law 373 = .ok (.aload_n 0, 1) := by decide +kernel
theorem dL_law_374 : decode cL_law 374 = .ok (.iload_n 3, 1) := by decide +kernel
theorem dL_law_375 : decode cL_law 375 = .ok (.iconst 1, 1) := by decide +kernel
theorem dL_law_376 : decode cL_law 376 = .ok (.iadd, 1) := by decide +kernel
theorem dL_law_377 : decode cL_law 377 = .ok (.iaload, 1) := by decide +kernel
theorem dL_law_378 : decode cL_law 378 = .ok (.invokevirtual 43, 3) := by decide +kernel
theorem dL_law_381 : decode cL_law 381 = .ok (.aload_n 2, 1) := by decide +kernel
theorem dL_law_382 : decode cL_law 382 = .ok (.aload_n 0, 1) := by decide +kernel
theorem dL_law_383 : decode cL_law 383 = .ok (.iload_n 3, 1) := by decide +kernel
theorem dL_law_384 : decode cL_law 384 = .ok (.iconst 1, 1) := by decide +kernel
theorem dL_law_385 : decode cL_law 385 = .ok (.iadd, 1) := by decide +kernel
theorem dL_law_386 : decode cL_law 386 = .ok (.iaload, 1) := by decide +kernel
theorem dL_law_387 : decode cL_law 387 = .ok (.invokevirtual 46, 3) := by decide +kernel
theorem dL_law_390 : decode cL_law 390 = .ok (.if_icmp .eq 987, 3) := by decide +kernel
theorem dL_law_393 : decode cL_law 393 = .ok (.iconst 0, 1) := by decide +kernel
theorem dL_law_394 : decode cL_law 394 = .ok (.ireturn, 1) := by decide +kernel
theorem dL_law_395 : decode cL_law 395 = .ok (.aload_n 1, 1) := by decide +kernel
theorem dL_law_396 : decode cL_law 396 = .ok (.aload_n 0, 1) := by decide +kernel
theorem dL_law_397 : decode cL_law 397 = .ok (.iload_n 3, 1) := by decide +kernel
theorem dL_law_398 : decode cL_law 398 = .ok (.iconst 1, 1) := by decide +kernel
theorem dL_law_399 : decode cL_law 399 = .ok (.iadd, 1) := by decide +kernel
theorem dL_law_400 : decode cL_law 400 = .ok (.iaload, 1) := by decide +kernel
theorem dL_law_401 : decode cL_law 401 = .ok (.aload_n 0, 1) := by decide +kernel
theorem dL_law_402 : decode cL_law 402 = .ok (.iload_n 3, 1) := by decide +kernel
theorem dL_law_403 : decode cL_law 403 = .ok (.iconst 2, 1) := by decide +kernel
theorem dL_law_404 : decode cL_law 404 = .ok (.iadd, 1) := by decide +kernel
theorem dL_law_405 : decode cL_law 405 = .ok (.iaload, 1) := by decide +kernel
theorem dL_law_406 : decode cL_law 406 = .ok (.aload_n 0, 1) := by decide +kernel
theorem dL_law_407 : decode cL_law 407 = .ok (.iload_n 3, 1) := by decide +kernel
theorem dL_law_408 : decode cL_law 408 = .ok (.iconst 3, 1) := by decide +kernel
theorem dL_law_409 : decode cL_law 409 = .ok (.iadd, 1) := by decide +kernel
theorem dL_law_410 : decode cL_law 410 = .ok (.iaload, 1) := by decide +kernel
theorem dL_law_411 : decode cL_law 411 = .ok (.invokevirtual 47, 3) := by decide +kernel
theorem dL_law_414 : decode cL_law 414 = .ok (.aload_n 2, 1) := by decide +kernel
theorem dL_law_415 : decode cL_law 415 = .ok (.aload_n 0, 1) := by decide +kernel
theorem dL_law_416 : decode cL_law 416 = .ok (.iload_n 3, 1) := by decide +kernel
theorem dL_law_417 : decode cL_law 417 = .ok (.iconst 1, 1) := by decide +kernel
theorem dL_law_418 : decode cL_law 418 = .ok (.iadd, 1) := by decide +kernel
theorem dL_law_419 : decode cL_law 419 = .ok (.iaload, 1) := by decide +kernel
theorem dL_law_420 : decode cL_law 420 = .ok (.aload_n 0, 1) := by decide +kernel
theorem dL_law_421 : decode cL_law 421 = .ok (.iload_n 3, 1) := by decide +kernel
theorem dL_law_422 : decode cL_law 422 = .ok (.iconst 2, 1) := by decide +kernel
theorem dL_law_423 : decode cL_law 423 = .ok (.iadd, 1) := by decide +kernel
theorem dL_law_424 : decode cL_law 424 = .ok (.iaload, 1) := by decide +kernel
theorem dL_law_425 : decode cL_law 425 = .ok (.aload_n 0, 1) := by decide +kernel
theorem dL_law_426 : decode cL_law 426 = .ok (.iload_n 3, 1) := by decide +kernel
theorem dL_law_427 : decode cL_law 427 = .ok (.iconst 3, 1) := by decide +kernel
theorem dL_law_428 : decode cL_law 428 = .ok (.iadd, 1) := by decide +kernel
theorem dL_law_429 : decode cL_law 429 = .ok (.iaload, 1) := by decide +kernel
theorem dL_law_430 : decode cL_law 430 = .ok (.invokevirtual 51, 3) := by decide +kernel
theorem dL_law_433 : decode cL_law 433 = .ok (.if_icmp .eq 944, 3) := by decide +kernel
theorem dL_law_436 : decode cL_law 436 = .ok (.iconst 0, 1) := by decide +kernel
theorem dL_law_437 : decode cL_law 437 = .ok (.ireturn, 1) := by decide +kernel
theorem dL_law_438 : decode cL_law 438 = .ok (.aload_n 1, 1) := by decide +kernel
theorem dL_law_439 : decode cL_law 439 = .ok (.aload_n 0, 1) := by decide +kernel
theorem dL_law_440 : decode cL_law 440 = .ok (.iload_n 3, 1) := by decide +kernel
theorem dL_law_441 : decode cL_law 441 = .ok (.iconst 1, 1) := by decide +kernel
theorem dL_law_442 : decode cL_law 442 = .ok (.iadd, 1) := by decide +kernel
theorem dL_law_443 : decode cL_law 443 = .ok (.iaload, 1) := by decide +kernel
theorem dL_law_444 : decode cL_law 444 = .ok (.invokevirtual 52, 3) := by decide +kernel
theorem dL_law_447 : decode cL_law 447 = .ok (.aload_n 2, 1) := by decide +kernel
theorem dL_law_448 : decode cL_law 448 = .ok (.aload_n 0, 1) := by decide +kernel
theorem dL_law_449 : decode cL_law 449 = .ok (.iload_n 3, 1) := by decide +kernel
theorem dL_law_450 : decode cL_law 450 = .ok (.iconst 1, 1) := by decide +kernel
theorem dL_law_451 : decode cL_law 451 = .ok (.iadd, 1) := by decide +kernel
theorem dL_law_452 : decode cL_law 452 = .ok (.iaload, 1) := by decide +kernel
theorem dL_law_453 : decode cL_law 453 = .ok (.invokevirtual 55, 3) := by decide +kernel
theorem dL_law_456 : decode cL_law 456 = .ok (.if_icmp .eq 921, 3) := by decide +kernel
theorem dL_law_459 : decode cL_law 459 = .ok (.iconst 0, 1) := by decide +kernel
theorem dL_law_460 : decode cL_law 460 = .ok (.ireturn, 1) := by decide +kernel
theorem dL_law_461 : decode cL_law 461 = .ok (.aload_n 1, 1) := by decide +kernel
theorem dL_law_462 : decode cL_law 462 = .ok (.aload_n 0, 1) := by decide +kernel
theorem dL_law_463 : decode cL_law 463 = .ok (.iload_n 3, 1) := by decide +kernel
theorem dL_law_464 : decode cL_law 464 = .ok (.iconst 1, 1) := by decide +kernel
theorem dL_law_465 : decode cL_law 465 = .ok (.iadd, 1) := by decide +kernel
theorem dL_law_466 : decode cL_law 466 = .ok (.iaload, 1) := by decide +kernel
theorem dL_law_467 : decode cL_law 467 = .ok (.aload_n 0, 1) := by decide +kernel
theorem dL_law_468 : decode cL_law 468 = .ok (.iload_n 3, 1) := by decide +kernel
theorem dL_law_469 : decode cL_law 469 = .ok (.iconst 2, 1) := by decide +kernel
theorem dL_law_470 : decode cL_law 470 = .ok (.iadd, 1) := by decide +kernel
theorem dL_law_471 : decode cL_law 471 = .ok (.iaload, 1) := by decide +kernel
theorem dL_law_472 : decode cL_law 472 = .ok (.invokevirtual 56, 3) := by decide +kernel
theorem dL_law_475 : decode cL_law 475 = .ok (.aload_n 2, 1) := by decide +kernel
theorem dL_law_476 : decode cL_law 476 = .ok (.aload_n 0, 1) := by decide +kernel
theorem dL_law_477 : decode cL_law 477 = .ok (.iload_n 3, 1) := by decide +kernel
theorem dL_law_478 : decode cL_law 478 = .ok (.iconst 1, 1) := by decide +kernel
theorem dL_law_479 : decode cL_law 479 = .ok (.iadd, 1) := by decide +kernel
theorem dL_law_480 : decode cL_law 480 = .ok (.iaload, 1) := by decide +kernel
theorem dL_law_481 : decode cL_law 481 = .ok (.aload_n 0, 1) := by decide +kernel
theorem dL_law_482 : decode cL_law 482 = .ok (.iload_n 3, 1) := by decide +kernel
theorem dL_law_483 : decode cL_law 483 = .ok (.iconst 2, 1) := by decide +kernel
theorem dL_law_484 : decode cL_law 484 = .ok (.iadd, 1) := by decide +kernel
theorem dL_law_485 : decode cL_law 485 = .ok (.iaload, 1) := by decide +kernel
theorem dL_law_486 : decode cL_law 486 = .ok (.invokevirtual 59, 3) := by decide +kernel
theorem dL_law_489 : decode cL_law 489 = .ok (.if_icmp .eq 888, 3) := by decide +kernel
theorem dL_law_492 : decode cL_law 492 = .ok (.iconst 0, 1) := by decide +kernel
theorem dL_law_493 : decode cL_law 493 = .ok (.ireturn, 1) := by decide +kernel
theorem dL_law_494 : decode cL_law 494 = .ok (.aload_n 1, 1) := by decide +kernel
theorem dL_law_495 : decode cL_law 495 = .ok (.aload_n 0, 1) := by decide +kernel
theorem dL_law_496 : decode cL_law 496 = .ok (.iload_n 3, 1) := by decide +kernel
theorem dL_law_497 : decode cL_law 497 = .ok (.iconst 1, 1) := by decide +kernel
theorem dL_law_498 : decode cL_law 498 = .ok (.iadd, 1) := by decide +kernel
theorem dL_law_499 : decode cL_law 499 = .ok (.iaload, 1) := by decide +kernel
theorem dL_law_500 : decode cL_law 500 = .ok (.aload_n 0, 1) := by decide +kernel
theorem dL_law_501 : decode cL_law 501 = .ok (.iload_n 3, 1) := by decide +kernel
theorem dL_law_502 : decode cL_law 502 = .ok (.iconst 2, 1) := by decide +kernel
theorem dL_law_503 : decode cL_law 503 = .ok (.iadd, 1) := by decide +kernel
theorem dL_law_504 : decode cL_law 504 = .ok (.iaload, 1) := by decide +kernel
theorem dL_law_505 : decode cL_law 505 = .ok (.invokevirtual 60, 3) := by decide +kernel
theorem dL_law_508 : decode cL_law 508 = .ok (.aload_n 2, 1) := by decide +kernel
theorem dL_law_509 : decode cL_law 509 = .ok (.aload_n 0, 1) := by decide +kernel
theorem dL_law_510 : decode cL_law 510 = .ok (.iload_n 3, 1) := by decide +kernel
theorem dL_law_511 : decode cL_law 511 = .ok (.iconst 1, 1) := by decide +kernel
theorem dL_law_512 : decode cL_law 512 = .ok (.iadd, 1) := by decide +kernel
theorem dL_law_513 : decode cL_law 513 = .ok (.iaload, 1) := by decide +kernel
theorem dL_law_514 : decode cL_law 514 = .ok (.aload_n 0, 1) := by decide +kernel
theorem dL_law_515 : decode cL_law 515 = .ok (.iload_n 3, 1) := by decide +kernel
theorem dL_law_516 : decode cL_law 516 = .ok (.iconst 2, 1) := by decide +kernel
theorem dL_law_517 : decode cL_law 517 = .ok (.iadd, 1) := by decide +kernel
theorem dL_law_518 : decode cL_law 518 = .ok (.iaload, 1) := by decide +kernel
theorem dL_law_519 : decode cL_law 519 = .ok (.invokevirtual 63, 3) := by decide +kernel
theorem dL_law_522 : decode cL_law 522 = .ok (.if_icmp .eq 855, 3) := by decide +kernel
theorem dL_law_525 : decode cL_law 525 = .ok (.iconst 0, 1) := by decide +kernel
theorem dL_law_526 : decode cL_law 526 = .ok (.ireturn, 1) := by decide +kernel
theorem dL_law_527 : decode cL_law 527 = .ok (.aload_n 1, 1) := by decide +kernel
theorem dL_law_528 : decode cL_law 528 = .ok (.aload_n 0, 1) := by decide +kernel
theorem dL_law_529 : decode cL_law 529 = .ok (.iload_n 3, 1) := by decide +kernel
theorem dL_law_530 : decode cL_law 530 = .ok (.iconst 1, 1) := by decide +kernel
theorem dL_law_531 : decode cL_law 531 = .ok (.iadd, 1) := by decide +kernel
theorem dL_law_532 : decode cL_law 532 = .ok (.iaload, 1) := by decide +kernel
theorem dL_law_533 : decode cL_law 533 = .ok (.aload_n 0, 1) := by decide +kernel
theorem dL_law_534 : decode cL_law 534 = .ok (.iload_n 3, 1) := by decide +kernel
theorem dL_law_535 : decode cL_law 535 = .ok (.iconst 2, 1) := by decide +kernel
theorem dL_law_536 : decode cL_law 536 = .ok (.iadd, 1) := by decide +kernel
theorem dL_law_537 : decode cL_law 537 = .ok (.iaload, 1) := by decide +kernel
theorem dL_law_538 : decode cL_law 538 = .ok (.ifCond .eq 7, 3) := by decide +kernel
theorem dL_law_541 : decode cL_law 541 = .ok (.iconst 1, 1) := by decide +kernel
theorem dL_law_542 : decode cL_law 542 = .ok (.goto 4, 3) := by decide +kernel
theorem dL_law_545 : decode cL_law 545 = .ok (.iconst 0, 1) := by decide +kernel
theorem dL_law_546 : decode cL_law 546 = .ok (.invokevirtual 64, 3) := by decide +kernel
theorem dL_law_549 : decode cL_law 549 = .ok (.aload_n 2, 1) := by decide +kernel
theorem dL_law_550 : decode cL_law 550 = .ok (.aload_n 0, 1) := by decide +kernel
theorem dL_law_551 : decode cL_law 551 = .ok (.iload_n 3, 1) := by decide +kernel
theorem dL_law_552 : decode cL_law 552 = .ok (.iconst 1, 1) := by decide +kernel
theorem dL_law_553 : decode cL_law 553 = .ok (.iadd, 1) := by decide +kernel
theorem dL_law_554 : decode cL_law 554 = .ok (.iaload, 1) := by decide +kernel
theorem dL_law_555 : decode cL_law 555 = .ok (.aload_n 0, 1) := by decide +kernel
theorem dL_law_556 : decode cL_law 556 = .ok (.iload_n 3, 1) := by decide +kernel
theorem dL_law_557 : decode cL_law 557 = .ok (.iconst 2, 1) := by decide +kernel
theorem dL_law_558 : decode cL_law 558 = .ok (.iadd, 1) := by decide +kernel
theorem dL_law_559 : decode cL_law 559 = .ok (.iaload, 1) := by decide +kernel
theorem dL_law_560 : decode cL_law 560 = .ok (.ifCond .eq 7, 3) := by decide +kernel
theorem dL_law_563 : decode cL_law 563 = .ok (.iconst 1, 1) := by decide +kernel
theorem dL_law_564 : decode cL_law 564 = .ok (.goto 4, 3) := by decide +kernel
theorem dL_law_567 : decode cL_law 567 = .ok (.iconst 0, 1) := by decide +kernel
theorem dL_law_568 : decode cL_law 568 = .ok (.invokevirtual 68, 3) := by decide +kernel
theorem dL_law_571 : decode cL_law 571 = .ok (.if_icmp .eq 806, 3) := by decide +kernel
theorem dL_law_574 : decode cL_law 574 = .ok (.iconst 0, 1) := by decide +kernel
theorem dL_law_575 : decode cL_law 575 = .ok (.ireturn, 1) := by decide +kernel
theorem dL_law_576 : decode cL_law 576 = .ok (.aload_n 1, 1) := by decide +kernel
theorem dL_law_577 : decode cL_law 577 = .ok (.aload_n 0, 1) := by decide +kernel
theorem dL_law_578 : decode cL_law 578 = .ok (.iload_n 3, 1) := by decide +kernel
theorem dL_law_579 : decode cL_law 579 = .ok (.iconst 1, 1) := by decide +kernel
theorem dL_law_580 : decode cL_law 580 = .ok (.iadd, 1) := by decide +kernel
theorem dL_law_581 : decode cL_law 581 = .ok (.iaload, 1) := by decide +kernel
theorem dL_law_582 : decode cL_law 582 = .ok (.aload_n 0, 1) := by decide +kernel
theorem dL_law_583 : decode cL_law 583 = .ok (.iload_n 3, 1) := by decide +kernel
theorem dL_law_584 : decode cL_law 584 = .ok (.iconst 2, 1) := by decide +kernel
theorem dL_law_585 : decode cL_law 585 = .ok (.iadd, 1) := by decide +kernel
theorem dL_law_586 : decode cL_law 586 = .ok (.iaload, 1) := by decide +kernel
theorem dL_law_587 : decode cL_law 587 = .ok (.invokevirtual 69, 3) := by decide +kernel
theorem dL_law_590 : decode cL_law 590 = .ok (.aload_n 2, 1) := by decide +kernel
theorem dL_law_591 : decode cL_law 591 = .ok (.aload_n 0, 1) := by decide +kernel
theorem dL_law_592 : decode cL_law 592 = .ok (.iload_n 3, 1) := by decide +kernel
theorem dL_law_593 : decode cL_law 593 = .ok (.iconst 1, 1) := by decide +kernel
theorem dL_law_594 : decode cL_law 594 = .ok (.iadd, 1) := by decide +kernel
theorem dL_law_595 : decode cL_law 595 = .ok (.iaload, 1) := by decide +kernel
theorem dL_law_596 : decode cL_law 596 = .ok (.aload_n 0, 1) := by decide +kernel
theorem dL_law_597 : decode cL_law 597 = .ok (.iload_n 3, 1) := by decide +kernel
theorem dL_law_598 : decode cL_law 598 = .ok (.iconst 2, 1) := by decide +kernel
theorem dL_law_599 : decode cL_law 599 = .ok (.iadd, 1) := by decide +kernel
theorem dL_law_600 : decode cL_law 600 = .ok (.iaload, 1) := by decide +kernel
theorem dL_law_601 : decode cL_law 601 = .ok (.invokevirtual 72, 3) := by decide +kernel
theorem dL_law_604 : decode cL_law 604 = .ok (.if_icmp .eq 773, 3) := by decide +kernel
theorem dL_law_607 : decode cL_law 607 = .ok (.iconst 0, 1) := by decide +kernel
theorem dL_law_608 : decode cL_law 608 = .ok (.ireturn, 1) := by decide +kernel
theorem dL_law_609 : decode cL_law 609 = .ok (.aload_n 1, 1) := by decide +kernel
theorem dL_law_610 : decode cL_law 610 = .ok (.aload_n 0, 1) := by decide +kernel
theorem dL_law_611 : decode cL_law 611 = .ok (.iload_n 3, 1) := by decide +kernel
theorem dL_law_612 : decode cL_law 612 = .ok (.iconst 1, 1) := by decide +kernel
theorem dL_law_613 : decode cL_law 613 = .ok (.iadd, 1) := by decide +kernel
theorem dL_law_614 : decode cL_law 614 = .ok (.iaload, 1) := by decide +kernel
theorem dL_law_615 : decode cL_law 615 = .ok (.aload_n 0, 1) := by decide +kernel
theorem dL_law_616 : decode cL_law 616 = .ok (.iload_n 3, 1) := by decide +kernel
theorem dL_law_617 : decode cL_law 617 = .ok (.iconst 2, 1) := by decide +kernel
theorem dL_law_618 : decode cL_law 618 = .ok (.iadd, 1) := by decide +kernel
theorem dL_law_619 : decode cL_law 619 = .ok (.iaload, 1) := by decide +kernel
theorem dL_law_620 : decode cL_law 620 = .ok (.aload_n 0, 1) := by decide +kernel
theorem dL_law_621 : decode cL_law 621 = .ok (.iload_n 3, 1) := by decide +kernel
theorem dL_law_622 : decode cL_law 622 = .ok (.iconst 3, 1) := by decide +kernel
theorem dL_law_623 : decode cL_law 623 = .ok (.iadd, 1) := by decide +kernel
theorem dL_law_624 : decode cL_law 624 = .ok (.iaload, 1) := by decide +kernel
theorem dL_law_625 : decode cL_law 625 = .ok (.invokevirtual 73, 3) := by decide +kernel
theorem dL_law_628 : decode cL_law 628 = .ok (.aload_n 2, 1) := by decide +kernel
theorem dL_law_629 : decode cL_law 629 = .ok (.aload_n 0, 1) := by decide +kernel
theorem dL_law_630 : decode cL_law 630 = .ok (.iload_n 3, 1) := by decide +kernel
theorem dL_law_631 : decode cL_law 631 = .ok (.iconst 1, 1) := by decide +kernel
theorem dL_law_632 : decode cL_law 632 = .ok (.iadd, 1) := by decide +kernel
theorem dL_law_633 : decode cL_law 633 = .ok (.iaload, 1) := by decide +kernel
theorem dL_law_634 : decode cL_law 634 = .ok (.aload_n 0, 1) := by decide +kernel
theorem dL_law_635 : decode cL_law 635 = .ok (.iload_n 3, 1) := by decide +kernel
theorem dL_law_636 : decode cL_law 636 = .ok (.iconst 2, 1) := by decide +kernel
theorem dL_law_637 : decode cL_law 637 = .ok (.iadd, 1) := by decide +kernel
theorem dL_law_638 : decode cL_law 638 = .ok (.iaload, 1) := by decide +kernel
theorem dL_law_639 : decode cL_law 639 = .ok (.aload_n 0, 1) := by decide +kernel
theorem dL_law_640 : decode cL_law 640 = .ok (.iload_n 3, 1) := by decide +kernel
theorem dL_law_641 : decode cL_law 641 = .ok (.iconst 3, 1) := by decide +kernel
theorem dL_law_642 : decode cL_law 642 = .ok (.iadd, 1) := by decide +kernel
theorem dL_law_643 : decode cL_law 643 = .ok (.iaload, 1) := by decide +kernel
theorem dL_law_644 : decode cL_law 644 = .ok (.invokevirtual 76, 3) := by decide +kernel
theorem dL_law_647 : decode cL_law 647 = .ok (.if_icmp .eq 730, 3) := by decide +kernel
theorem dL_law_650 : decode cL_law 650 = .ok (.iconst 0, 1) := by decide +kernel
theorem dL_law_651 : decode cL_law 651 = .ok (.ireturn, 1) := by decide +kernel
theorem dL_law_652 : decode cL_law 652 = .ok (.aload_n 1, 1) := by decide +kernel
theorem dL_law_653 : decode cL_law 653 = .ok (.aload_n 0, 1) := by decide +kernel
theorem dL_law_654 : decode cL_law 654 = .ok (.iload_n 3, 1) := by decide +kernel
theorem dL_law_655 : decode cL_law 655 = .ok (.iconst 1, 1) := by decide +kernel
theorem dL_law_656 : decode cL_law 656 = .ok (.iadd, 1) := by decide +kernel
theorem dL_law_657 : decode cL_law 657 = .ok (.iaload, 1) := by decide +kernel
theorem dL_law_658 : decode cL_law 658 = .ok (.aload_n 0, 1) := by decide +kernel
theorem dL_law_659 : decode cL_law 659 = .ok (.iload_n 3, 1) := by decide +kernel
theorem dL_law_660 : decode cL_law 660 = .ok (.iconst 2, 1) := by decide +kernel
theorem dL_law_661 : decode cL_law 661 = .ok (.iadd, 1) := by decide +kernel
theorem dL_law_662 : decode cL_law 662 = .ok (.iaload, 1) := by decide +kernel
theorem dL_law_663 : decode cL_law 663 = .ok (.invokevirtual 77, 3) := by decide +kernel
theorem dL_law_666 : decode cL_law 666 = .ok (.aload_n 2, 1) := by decide +kernel
theorem dL_law_667 : decode cL_law 667 = .ok (.aload_n 0, 1) := by decide +kernel
theorem dL_law_668 : decode cL_law 668 = .ok (.iload_n 3, 1) := by decide +kernel
theorem dL_law_669 : decode cL_law 669 = .ok (.iconst 1, 1) := by decide +kernel
theorem dL_law_670 : decode cL_law 670 = .ok (.iadd, 1) := by decide +kernel
theorem dL_law_671 : decode cL_law 671 = .ok (.iaload, 1) := by decide +kernel
theorem dL_law_672 : decode cL_law 672 = .ok (.aload_n 0, 1) := by decide +kernel
theorem dL_law_673 : decode cL_law 673 = .ok (.iload_n 3, 1) := by decide +kernel
theorem dL_law_674 : decode cL_law 674 = .ok (.iconst 2, 1) := by decide +kernel
theorem dL_law_675 : decode cL_law 675 = .ok (.iadd, 1) := by decide +kernel
theorem dL_law_676 : decode cL_law 676 = .ok (.iaload, 1) := by decide +kernel
theorem dL_law_677 : decode cL_law 677 = .ok (.invokevirtual 80, 3) := by decide +kernel
theorem dL_law_680 : decode cL_law 680 = .ok (.if_icmp .eq 697, 3) := by decide +kernel
theorem dL_law_683 : decode cL_law 683 = .ok (.iconst 0, 1) := by decide +kernel
theorem dL_law_684 : decode cL_law 684 = .ok (.ireturn, 1) := by decide +kernel
theorem dL_law_685 : decode cL_law 685 = .ok (.aload_n 1, 1) := by decide +kernel
theorem dL_law_686 : decode cL_law 686 = .ok (.aload_n 0, 1) := by decide +kernel
theorem dL_law_687 : decode cL_law 687 = .ok (.iload_n 3, 1) := by decide +kernel
theorem dL_law_688 : decode cL_law 688 = .ok (.iconst 1, 1) := by decide +kernel
theorem dL_law_689 : decode cL_law 689 = .ok (.iadd, 1) := by decide +kernel
theorem dL_law_690 : decode cL_law 690 = .ok (.iaload, 1) := by decide +kernel
theorem dL_law_691 : decode cL_law 691 = .ok (.aload_n 0, 1) := by decide +kernel
theorem dL_law_692 : decode cL_law 692 = .ok (.iload_n 3, 1) := by decide +kernel
theorem dL_law_693 : decode cL_law 693 = .ok (.iconst 2, 1) := by decide +kernel
theorem dL_law_694 : decode cL_law 694 = .ok (.iadd, 1) := by decide +kernel
theorem dL_law_695 : decode cL_law 695 = .ok (.iaload, 1) := by decide +kernel
theorem dL_law_696 : decode cL_law 696 = .ok (.invokevirtual 81, 3) := by decide +kernel
theorem dL_law_699 : decode cL_law 699 = .ok (.aload_n 2, 1) := by decide +kernel
theorem dL_law_700 : decode cL_law 700 = .ok (.aload_n 0, 1) := by decide +kernel
theorem dL_law_701 : decode cL_law 701 = .ok (.iload_n 3, 1) := by decide +kernel
theorem dL_law_702 : decode cL_law 702 = .ok (.iconst 1, 1) := by decide +kernel
theorem dL_law_703 : decode cL_law 703 = .ok (.iadd, 1) := by decide +kernel
theorem dL_law_704 : decode cL_law 704 = .ok (.iaload, 1) := by decide +kernel
theorem dL_law_705 : decode cL_law 705 = .ok (.aload_n 0, 1) := by decide +kernel
theorem dL_law_706 : decode cL_law 706 = .ok (.iload_n 3, 1) := by decide +kernel
theorem dL_law_707 : decode cL_law 707 = .ok (.iconst 2, 1) := by decide +kernel
theorem dL_law_708 : decode cL_law 708 = .ok (.iadd, 1) := by decide +kernel
theorem dL_law_709 : decode cL_law 709 = .ok (.iaload, 1) := by decide +kernel
theorem dL_law_710 : decode cL_law 710 = .ok (.invokevirtual 84, 3) := by decide +kernel
theorem dL_law_713 : decode cL_law 713 = .ok (.if_icmp .eq 664, 3) := by decide +kernel
theorem dL_law_716 : decode cL_law 716 = .ok (.iconst 0, 1) := by decide +kernel
theorem dL_law_717 : decode cL_law 717 = .ok (.ireturn, 1) := by decide +kernel
theorem dL_law_718 : decode cL_law 718 = .ok (.aload_n 1, 1) := by decide +kernel
theorem dL_law_719 : decode cL_law 719 = .ok (.aload_n 0, 1) := by decide +kernel
theorem dL_law_720 : decode cL_law 720 = .ok (.iload_n 3, 1) := by decide +kernel
theorem dL_law_721 : decode cL_law 721 = .ok (.iconst 1, 1) := by decide +kernel
theorem dL_law_722 : decode cL_law 722 = .ok (.iadd, 1) := by decide +kernel
theorem dL_law_723 : decode cL_law 723 = .ok (.iaload, 1) := by decide +kernel
theorem dL_law_724 : decode cL_law 724 = .ok (.invokevirtual 85, 3) := by decide +kernel
theorem dL_law_727 : decode cL_law 727 = .ok (.aload_n 2, 1) := by decide +kernel
theorem dL_law_728 : decode cL_law 728 = .ok (.aload_n 0, 1) := by decide +kernel
theorem dL_law_729 : decode cL_law 729 = .ok (.iload_n 3, 1) := by decide +kernel
theorem dL_law_730 : decode cL_law 730 = .ok (.iconst 1, 1) := by decide +kernel
theorem dL_law_731 : decode cL_law 731 = .ok (.iadd, 1) := by decide +kernel
theorem dL_law_732 : decode cL_law 732 = .ok (.iaload, 1) := by decide +kernel
theorem dL_law_733 : decode cL_law 733 = .ok (.invokevirtual 88, 3) := by decide +kernel
theorem dL_law_736 : decode cL_law 736 = .ok (.if_icmp .eq 641, 3) := by decide +kernel
theorem dL_law_739 : decode cL_law 739 = .ok (.iconst 0, 1) := by decide +kernel
theorem dL_law_740 : decode cL_law 740 = .ok (.ireturn, 1) := by decide +kernel
theorem dL_law_741 : decode cL_law 741 = .ok (.aload_n 1, 1) := by decide +kernel
theorem dL_law_742 : decode cL_law 742 = .ok (.aload_n 0, 1) := by decide +kernel
theorem dL_law_743 : decode cL_law 743 = .ok (.iload_n 3, 1) := by decide +kernel
theorem dL_law_744 : decode cL_law 744 = .ok (.iconst 1, 1) := by decide +kernel
theorem dL_law_745 : decode cL_law 745 = .ok (.iadd, 1) := by decide +kernel
theorem dL_law_746 : decode cL_law 746 = .ok (.iaload, 1) := by decide +kernel
theorem dL_law_747 : decode cL_law 747 = .ok (.invokevirtual 89, 3) := by decide +kernel
theorem dL_law_750 : decode cL_law 750 = .ok (.aload_n 2, 1) := by decide +kernel
theorem dL_law_751 : decode cL_law 751 = .ok (.aload_n 0, 1) := by decide +kernel
theorem dL_law_752 : decode cL_law 752 = .ok (.iload_n 3, 1) := by decide +kernel
theorem dL_law_753 : decode cL_law 753 = .ok (.iconst 1, 1) := by decide +kernel
theorem dL_law_754 : decode cL_law 754 = .ok (.iadd, 1) := by decide +kernel
theorem dL_law_755 : decode cL_law 755 = .ok (.iaload, 1) := by decide +kernel
theorem dL_law_756 : decode cL_law 756 = .ok (.invokevirtual 92, 3) := by decide +kernel
theorem dL_law_759 : decode cL_law 759 = .ok (.if_icmp .eq 618, 3) := by decide +kernel
theorem dL_law_762 : decode cL_law 762 = .ok (.iconst 0, 1) := by decide +kernel
theorem dL_law_763 : decode cL_law 763 = .ok (.ireturn, 1) := by decide +kernel
theorem dL_law_764 : decode cL_law 764 = .ok (.aload_n 1, 1) := by decide +kernel
theorem dL_law_765 : decode cL_law 765 = .ok (.aload_n 0, 1) := by decide +kernel
theorem dL_law_766 : decode cL_law 766 = .ok (.iload_n 3, 1) := by decide +kernel
theorem dL_law_767 : decode cL_law 767 = .ok (.iconst 1, 1) := by decide +kernel
theorem dL_law_768 : decode cL_law 768 = .ok (.iadd, 1) := by decide +kernel
theorem dL_law_769 : decode cL_law 769 = .ok (.iaload, 1) := by decide +kernel
theorem dL_law_770 : decode cL_law 770 = .ok (.aload_n 0, 1) := by decide +kernel
theorem dL_law_771 : decode cL_law 771 = .ok (.iload_n 3, 1) := by decide +kernel
theorem dL_law_772 : decode cL_law 772 = .ok (.iconst 2, 1) := by decide +kernel
theorem dL_law_773 : decode cL_law 773 = .ok (.iadd, 1) := by decide +kernel
theorem dL_law_774 : decode cL_law 774 = .ok (.iaload, 1) := by decide +kernel
theorem dL_law_775 : decode cL_law 775 = .ok (.invokevirtual 93, 3) := by decide +kernel
theorem dL_law_778 : decode cL_law 778 = .ok (.aload_n 2, 1) := by decide +kernel
theorem dL_law_779 : decode cL_law 779 = .ok (.aload_n 0, 1) := by decide +kernel
theorem dL_law_780 : decode cL_law 780 = .ok (.iload_n 3, 1) := by decide +kernel
theorem dL_law_781 : decode cL_law 781 = .ok (.iconst 1, 1) := by decide +kernel
theorem dL_law_782 : decode cL_law 782 = .ok (.iadd, 1) := by decide +kernel
theorem dL_law_783 : decode cL_law 783 = .ok (.iaload, 1) := by decide +kernel
theorem dL_law_784 : decode cL_law 784 = .ok (.aload_n 0, 1) := by decide +kernel
theorem dL_law_785 : decode cL_law 785 = .ok (.iload_n 3, 1) := by decide +kernel
theorem dL_law_786 : decode cL_law 786 = .ok (.iconst 2, 1) := by decide +kernel
theorem dL_law_787 : decode cL_law 787 = .ok (.iadd, 1) := by decide +kernel
theorem dL_law_788 : decode cL_law 788 = .ok (.iaload, 1) := by decide +kernel
theorem dL_law_789 : decode cL_law 789 = .ok (.invokevirtual 96, 3) := by decide +kernel
theorem dL_law_792 : decode cL_law 792 = .ok (.if_icmp .eq 585, 3) := by decide +kernel
theorem dL_law_795 : decode cL_law 795 = .ok (.iconst 0, 1) := by decide +kernel
theorem dL_law_796 : decode cL_law 796 = .ok (.ireturn, 1) := by decide +kernel
theorem dL_law_797 : decode cL_law 797 = .ok (.aload_n 1, 1) := by decide +kernel
theorem dL_law_798 : decode cL_law 798 = .ok (.aload_n 0, 1) := by decide +kernel
theorem dL_law_799 : decode cL_law 799 = .ok (.iload_n 3, 1) := by decide +kernel
theorem dL_law_800 : decode cL_law 800 = .ok (.iconst 1, 1) := by decide +kernel
theorem dL_law_801 : decode cL_law 801 = .ok (.iadd, 1) := by decide +kernel
theorem dL_law_802 : decode cL_law 802 = .ok (.iaload, 1) := by decide +kernel
theorem dL_law_803 : decode cL_law 803 = .ok (.invokevirtual 97, 3) := by decide +kernel
theorem dL_law_806 : decode cL_law 806 = .ok (.aload_n 2, 1) := by decide +kernel
theorem dL_law_807 : decode cL_law 807 = .ok (.aload_n 0, 1) := by decide +kernel
theorem dL_law_808 : decode cL_law 808 = .ok (.iload_n 3, 1) := by decide +kernel
theorem dL_law_809 : decode cL_law 809 = .ok (.iconst 1, 1) := by decide +kernel
theorem dL_law_810 : decode cL_law 810 = .ok (.iadd, 1) := by decide +kernel
theorem dL_law_811 : decode cL_law 811 = .ok (.iaload, 1) := by decide +kernel
theorem dL_law_812 : decode cL_law 812 = .ok (.invokevirtual 100, 3) := by decide +kernel
theorem dL_law_815 : decode cL_law 815 = .ok (.if_icmp .eq 562, 3) := by decide +kernel
theorem dL_law_818 : decode cL_law 818 = .ok (.iconst 0, 1) := by decide +kernel
theorem dL_law_819 : decode cL_law 819 = .ok (.ireturn, 1) := by decide +kernel
theorem dL_law_820 : decode cL_law 820 = .ok (.aload_n 1, 1) := by decide +kernel
theorem dL_law_821 : decode cL_law 821 = .ok (.aload_n 0, 1) := by decide +kernel
theorem dL_law_822 : decode cL_law 822 = .ok (.iload_n 3, 1) := by decide +kernel
theorem dL_law_823 : decode cL_law 823 = .ok (.iconst 1, 1) := by decide +kernel
theorem dL_law_824 : decode cL_law 824 = .ok (.iadd, 1) := by decide +kernel
theorem dL_law_825 : decode cL_law 825 = .ok (.iaload, 1) := by decide +kernel
theorem dL_law_826 : decode cL_law 826 = .ok (.invokevirtual 101, 3) := by decide +kernel
theorem dL_law_829 : decode cL_law 829 = .ok (.aload_n 2, 1) := by decide +kernel
theorem dL_law_830 : decode cL_law 830 = .ok (.aload_n 0, 1) := by decide +kernel
theorem dL_law_831 : decode cL_law 831 = .ok (.iload_n 3, 1) := by decide +kernel
theorem dL_law_832 : decode cL_law 832 = .ok (.iconst 1, 1) := by decide +kernel
theorem dL_law_833 : decode cL_law 833 = .ok (.iadd, 1) := by decide +kernel
theorem dL_law_834 : decode cL_law 834 = .ok (.iaload, 1) := by decide +kernel
theorem dL_law_835 : decode cL_law 835 = .ok (.invokevirtual 104, 3) := by decide +kernel
theorem dL_law_838 : decode cL_law 838 = .ok (.if_icmp .eq 539, 3) := by decide +kernel
theorem dL_law_841 : decode cL_law 841 = .ok (.iconst 0, 1) := by decide +kernel
theorem dL_law_842 : decode cL_law 842 = .ok (.ireturn, 1) := by decide +kernel
theorem dL_law_843 : decode cL_law 843 = .ok (.aload_n 1, 1) := by decide +kernel
theorem dL_law_844 : decode cL_law 844 = .ok (.aload_n 0, 1) := by decide +kernel
theorem dL_law_845 : decode cL_law 845 = .ok (.iload_n 3, 1) := by decide +kernel
theorem dL_law_846 : decode cL_law 846 = .ok (.iconst 1, 1) := by decide +kernel
theorem dL_law_847 : decode cL_law 847 = .ok (.iadd, 1) := by decide +kernel
theorem dL_law_848 : decode cL_law 848 = .ok (.iaload, 1) := by decide +kernel
theorem dL_law_849 : decode cL_law 849 = .ok (.invokevirtual 105, 3) := by decide +kernel
theorem dL_law_852 : decode cL_law 852 = .ok (.aload_n 2, 1) := by decide +kernel
theorem dL_law_853 : decode cL_law 853 = .ok (.aload_n 0, 1) := by decide +kernel
theorem dL_law_854 : decode cL_law 854 = .ok (.iload_n 3, 1) := by decide +kernel
theorem dL_law_855 : decode cL_law 855 = .ok (.iconst 1, 1) := by decide +kernel
theorem dL_law_856 : decode cL_law 856 = .ok (.iadd, 1) := by decide +kernel
theorem dL_law_857 : decode cL_law 857 = .ok (.iaload, 1) := by decide +kernel
theorem dL_law_858 : decode cL_law 858 = .ok (.invokevirtual 108, 3) := by decide +kernel
theorem dL_law_861 : decode cL_law 861 = .ok (.if_icmp .eq 516, 3) := by decide +kernel
theorem dL_law_864 : decode cL_law 864 = .ok (.iconst 0, 1) := by decide +kernel
theorem dL_law_865 : decode cL_law 865 = .ok (.ireturn, 1) := by decide +kernel
theorem dL_law_866 : decode cL_law 866 = .ok (.aload_n 1, 1) := by decide +kernel
theorem dL_law_867 : decode cL_law 867 = .ok (.aload_n 0, 1) := by decide +kernel
theorem dL_law_868 : decode cL_law 868 = .ok (.iload_n 3, 1) := by decide +kernel
theorem dL_law_869 : decode cL_law 869 = .ok (.iconst 1, 1) := by decide +kernel
theorem dL_law_870 : decode cL_law 870 = .ok (.iadd, 1) := by decide +kernel
theorem dL_law_871 : decode cL_law 871 = .ok (.iaload, 1) := by decide +kernel
theorem dL_law_872 : decode cL_law 872 = .ok (.aload_n 0, 1) := by decide +kernel
theorem dL_law_873 : decode cL_law 873 = .ok (.iload_n 3, 1) := by decide +kernel
theorem dL_law_874 : decode cL_law 874 = .ok (.iconst 2, 1) := by decide +kernel
theorem dL_law_875 : decode cL_law 875 = .ok (.iadd, 1) := by decide +kernel
theorem dL_law_876 : decode cL_law 876 = .ok (.iaload, 1) := by decide +kernel
theorem dL_law_877 : decode cL_law 877 = .ok (.aload_n 0, 1) := by decide +kernel
theorem dL_law_878 : decode cL_law 878 = .ok (.iload_n 3, 1) := by decide +kernel
theorem dL_law_879 : decode cL_law 879 = .ok (.iconst 3, 1) := by decide +kernel
theorem dL_law_880 : decode cL_law 880 = .ok (.iadd, 1) := by decide +kernel
theorem dL_law_881 : decode cL_law 881 = .ok (.iaload, 1) := by decide +kernel
theorem dL_law_882 : decode cL_law 882 = .ok (.invokevirtual 109, 3) := by decide +kernel
theorem dL_law_885 : decode cL_law 885 = .ok (.aload_n 2, 1) := by decide +kernel
theorem dL_law_886 : decode cL_law 886 = .ok (.aload_n 0, 1) := by decide +kernel
theorem dL_law_887 : decode cL_law 887 = .ok (.iload_n 3, 1) := by decide +kernel
theorem dL_law_888 : decode cL_law 888 = .ok (.iconst 1, 1) := by decide +kernel
theorem dL_law_889 : decode cL_law 889 = .ok (.iadd, 1) := by decide +kernel
theorem dL_law_890 : decode cL_law 890 = .ok (.iaload, 1) := by decide +kernel
theorem dL_law_891 : decode cL_law 891 = .ok (.aload_n 0, 1) := by decide +kernel
theorem dL_law_892 : decode cL_law 892 = .ok (.iload_n 3, 1) := by decide +kernel
theorem dL_law_893 : decode cL_law 893 = .ok (.iconst 2, 1) := by decide +kernel
theorem dL_law_894 : decode cL_law 894 = .ok (.iadd, 1) := by decide +kernel
theorem dL_law_895 : decode cL_law 895 = .ok (.iaload, 1) := by decide +kernel
theorem dL_law_896 : decode cL_law 896 = .ok (.aload_n 0, 1) := by decide +kernel
theorem dL_law_897 : decode cL_law 897 = .ok (.iload_n 3, 1) := by decide +kernel
theorem dL_law_898 : decode cL_law 898 = .ok (.iconst 3, 1) := by decide +kernel
theorem dL_law_899 : decode cL_law 899 = .ok (.iadd, 1) := by decide +kernel
theorem dL_law_900 : decode cL_law 900 = .ok (.iaload, 1) := by decide +kernel
theorem dL_law_901 : decode cL_law 901 = .ok (.invokevirtual 112, 3) := by decide +kernel
theorem dL_law_904 : decode cL_law 904 = .ok (.if_icmp .eq 473, 3) := by decide +kernel
theorem dL_law_907 : decode cL_law 907 = .ok (.iconst 0, 1) := by decide +kernel
theorem dL_law_908 : decode cL_law 908 = .ok (.ireturn, 1) := by decide +kernel
theorem dL_law_909 : decode cL_law 909 = .ok (.aload_n 1, 1) := by decide +kernel
theorem dL_law_910 : decode cL_law 910 = .ok (.aload_n 0, 1) := by decide +kernel
theorem dL_law_911 : decode cL_law 911 = .ok (.iload_n 3, 1) := by decide +kernel
theorem dL_law_912 : decode cL_law 912 = .ok (.iconst 1, 1) := by decide +kernel
theorem dL_law_913 : decode cL_law 913 = .ok (.iadd, 1) := by decide +kernel
theorem dL_law_914 : decode cL_law 914 = .ok (.iaload, 1) := by decide +kernel
theorem dL_law_915 : decode cL_law 915 = .ok (.invokevirtual 113, 3) := by decide +kernel
theorem dL_law_918 : decode cL_law 918 = .ok (.aload_n 2, 1) := by decide +kernel
theorem dL_law_919 : decode cL_law 919 = .ok (.aload_n 0, 1) := by decide +kernel
theorem dL_law_920 : decode cL_law 920 = .ok (.iload_n 3, 1) := by decide +kernel
theorem dL_law_921 : decode cL_law 921 = .ok (.iconst 1, 1) := by decide +kernel
theorem dL_law_922 : decode cL_law 922 = .ok (.iadd, 1) := by decide +kernel
theorem dL_law_923 : decode cL_law 923 = .ok (.iaload, 1) := by decide +kernel
theorem dL_law_924 : decode cL_law 924 = .ok (.invokevirtual 116, 3) := by decide +kernel
theorem dL_law_927 : decode cL_law 927 = .ok (.if_icmp .eq 450, 3) := by decide +kernel
theorem dL_law_930 : decode cL_law 930 = .ok (.iconst 0, 1) := by decide +kernel
theorem dL_law_931 : decode cL_law 931 = .ok (.ireturn, 1) := by decide +kernel
theorem dL_law_932 : decode cL_law 932 = .ok (.aload_n 1, 1) := by decide +kernel
theorem dL_law_933 : decode cL_law 933 = .ok (.aload_n 0, 1) := by decide +kernel
theorem dL_law_934 : decode cL_law 934 = .ok (.iload_n 3, 1) := by decide +kernel
theorem dL_law_935 : decode cL_law 935 = .ok (.iconst 1, 1) := by decide +kernel
theorem dL_law_936 : decode cL_law 936 = .ok (.iadd, 1) := by decide +kernel
theorem dL_law_937 : decode cL_law 937 = .ok (.iaload, 1) := by decide +kernel
theorem dL_law_938 : decode cL_law 938 = .ok (.invokevirtual 117, 3) := by decide +kernel
theorem dL_law_941 : decode cL_law 941 = .ok (.aload_n 2, 1) := by decide +kernel
theorem dL_law_942 : decode cL_law 942 = .ok (.aload_n 0, 1) := by decide +kernel
theorem dL_law_943 : decode cL_law 943 = .ok (.iload_n 3, 1) := by decide +kernel
theorem dL_law_944 : decode cL_law 944 = .ok (.iconst 1, 1) := by decide +kernel
theorem dL_law_945 : decode cL_law 945 = .ok (.iadd, 1) := by decide +kernel
theorem dL_law_946 : decode cL_law 946 = .ok (.iaload, 1) := by decide +kernel
theorem dL_law_947 : decode cL_law 947 = .ok (.invokevirtual 120, 3) := by decide +kernel
theorem dL_law_950 : decode cL_law 950 = .ok (.if_icmp .eq 427, 3) := by decide +kernel
theorem dL_law_953 : decode cL_law 953 = .ok (.iconst 0, 1) := by decide +kernel
theorem dL_law_954 : decode cL_law 954 = .ok (.ireturn, 1) := by decide +kernel
theorem dL_law_955 : decode cL_law 955 = .ok (.aload_n 1, 1) := by decide +kernel
theorem dL_law_956 : decode cL_law 956 = .ok (.aload_n 0, 1) := by decide +kernel
theorem dL_law_957 : decode cL_law 957 = .ok (.iload_n 3, 1) := by decide +kernel
theorem dL_law_958 : decode cL_law 958 = .ok (.iconst 1, 1) := by decide +kernel
theorem dL_law_959 : decode cL_law 959 = .ok (.iadd, 1) := by decide +kernel
theorem dL_law_960 : decode cL_law 960 = .ok (.iaload, 1) := by decide +kernel
theorem dL_law_961 : decode cL_law 961 = .ok (.aload_n 0, 1) := by decide +kernel
theorem dL_law_962 : decode cL_law 962 = .ok (.iload_n 3, 1) := by decide +kernel
theorem dL_law_963 : decode cL_law 963 = .ok (.iconst 2, 1) := by decide +kernel
theorem dL_law_964 : decode cL_law 964 = .ok (.iadd, 1) := by decide +kernel
theorem dL_law_965 : decode cL_law 965 = .ok (.iaload, 1) := by decide +kernel
theorem dL_law_966 : decode cL_law 966 = .ok (.invokevirtual 121, 3) := by decide +kernel
theorem dL_law_969 : decode cL_law 969 = .ok (.aload_n 2, 1) := by decide +kernel
theorem dL_law_970 : decode cL_law 970 = .ok (.aload_n 0, 1) := by decide +kernel
theorem dL_law_971 : decode cL_law 971 = .ok (.iload_n 3, 1) := by decide +kernel
theorem dL_law_972 : decode cL_law 972 = .ok (.iconst 1, 1) := by decide +kernel
theorem dL_law_973 : decode cL_law 973 = .ok (.iadd, 1) := by decide +kernel
theorem dL_law_974 : decode cL_law 974 = .ok (.iaload, 1) := by decide +kernel
theorem dL_law_975 : decode cL_law 975 = .ok (.aload_n 0, 1) := by decide +kernel
theorem dL_law_976 : decode cL_law 976 = .ok (.iload_n 3, 1) := by decide +kernel
theorem dL_law_977 : decode cL_law 977 = .ok (.iconst 2, 1) := by decide +kernel
theorem dL_law_978 : decode cL_law 978 = .ok (.iadd, 1) := by decide +kernel
theorem dL_law_979 : decode cL_law 979 = .ok (.iaload, 1) := by decide +kernel
theorem dL_law_980 : decode cL_law 980 = .ok (.invokevirtual 124, 3) := by decide +kernel
theorem dL_law_983 : decode cL_law 983 = .ok (.if_icmp .eq 394, 3) := by decide +kernel
theorem dL_law_986 : decode cL_law 986 = .ok (.iconst 0, 1) := by decide +kernel
theorem dL_law_987 : decode cL_law 987 = .ok (.ireturn, 1) := by decide +kernel
theorem dL_law_988 : decode cL_law 988 = .ok (.aload_n 1, 1) := by decide +kernel
theorem dL_law_989 : decode cL_law 989 = .ok (.aload_n 0, 1) := by decide +kernel
theorem dL_law_990 : decode cL_law 990 = .ok (.iload_n 3, 1) := by decide +kernel
theorem dL_law_991 : decode cL_law 991 = .ok (.iconst 1, 1) := by decide +kernel
theorem dL_law_992 : decode cL_law 992 = .ok (.iadd, 1) := by decide +kernel
theorem dL_law_993 : decode cL_law 993 = .ok (.iaload, 1) := by decide +kernel
theorem dL_law_994 : decode cL_law 994 = .ok (.aload_n 0, 1) := by decide +kernel
theorem dL_law_995 : decode cL_law 995 = .ok (.iload_n 3, 1) := by decide +kernel
theorem dL_law_996 : decode cL_law 996 = .ok (.iconst 2, 1) := by decide +kernel
theorem dL_law_997 : decode cL_law 997 = .ok (.iadd, 1) := by decide +kernel
theorem dL_law_998 : decode cL_law 998 = .ok (.iaload, 1) := by decide +kernel
theorem dL_law_999 : decode cL_law 999 = .ok (.aload_n 0, 1) := by decide +kernel
theorem dL_law_1000 : decode cL_law 1000 = .ok (.iload_n 3, 1) := by decide +kernel
theorem dL_law_1001 : decode cL_law 1001 = .ok (.iconst 3, 1) := by decide +kernel
theorem dL_law_1002 : decode cL_law 1002 = .ok (.iadd, 1) := by decide +kernel
theorem dL_law_1003 : decode cL_law 1003 = .ok (.iaload, 1) := by decide +kernel
theorem dL_law_1004 : decode cL_law 1004 = .ok (.invokevirtual 125, 3) := by decide +kernel
theorem dL_law_1007 : decode cL_law 1007 = .ok (.aload_n 2, 1) := by decide +kernel
theorem dL_law_1008 : decode cL_law 1008 = .ok (.aload_n 0, 1) := by decide +kernel
theorem dL_law_1009 : decode cL_law 1009 = .ok (.iload_n 3, 1) := by decide +kernel
theorem dL_law_1010 : decode cL_law 1010 = .ok (.iconst 1, 1) := by decide +kernel
theorem dL_law_1011 : decode cL_law 1011 = .ok (.iadd, 1) := by decide +kernel
theorem dL_law_1012 : decode cL_law 1012 = .ok (.iaload, 1) := by decide +kernel
theorem dL_law_1013 : decode cL_law 1013 = .ok (.aload_n 0, 1) := by decide +kernel
theorem dL_law_1014 : decode cL_law 1014 = .ok (.iload_n 3, 1) := by decide +kernel
theorem dL_law_1015 : decode cL_law 1015 = .ok (.iconst 2, 1) := by decide +kernel
theorem dL_law_1016 : decode cL_law 1016 = .ok (.iadd, 1) := by decide +kernel
theorem dL_law_1017 : decode cL_law 1017 = .ok (.iaload, 1) := by decide +kernel
theorem dL_law_1018 : decode cL_law 1018 = .ok (.aload_n 0, 1) := by decide +kernel
theorem dL_law_1019 : decode cL_law 1019 = .ok (.iload_n 3, 1) := by decide +kernel
theorem dL_law_1020 : decode cL_law 1020 = .ok (.iconst 3, 1) := by decide +kernel
theorem dL_law_1021 : decode cL_law 1021 = .ok (.iadd, 1) := by decide +kernel
theorem dL_law_1022 : decode cL_law 1022 = .ok (.iaload, 1) := by decide +kernel
theorem dL_law_1023 : decode cL_law 1023 = .ok (.invokevirtual 128, 3) := by decide +kernel
theorem dL_law_1026 : decode cL_law 1026 = .ok (.if_icmp .eq 351, 3) := by decide +kernel
theorem dL_law_1029 : decode cL_law 1029 = .ok (.iconst 0, 1) := by decide +kernel
theorem dL_law_1030 : decode cL_law 1030 = .ok (.ireturn, 1) := by decide +kernel
theorem dL_law_1031 : decode cL_law 1031 = .ok (.aload_n 1, 1) := by decide +kernel
theorem dL_law_1032 : decode cL_law 1032 = .ok (.aload_n 0, 1) := by decide +kernel
theorem dL_law_1033 : decode cL_law 1033 = .ok (.iload_n 3, 1) := by decide +kernel
theorem dL_law_1034 : decode cL_law 1034 = .ok (.iconst 1, 1) := by decide +kernel
theorem dL_law_1035 : decode cL_law 1035 = .ok (.iadd, 1) := by decide +kernel
theorem dL_law_1036 : decode cL_law 1036 = .ok (.iaload, 1) := by decide +kernel
theorem dL_law_1037 : decode cL_law 1037 = .ok (.invokevirtual 129, 3) := by decide +kernel
theorem dL_law_1040 : decode cL_law 1040 = .ok (.aload_n 2, 1) := by decide +kernel
theorem dL_law_1041 : decode cL_law 1041 = .ok (.aload_n 0, 1) := by decide +kernel
theorem dL_law_1042 : decode cL_law 1042 = .ok (.iload_n 3, 1) := by decide +kernel
theorem dL_law_1043 : decode cL_law 1043 = .ok (.iconst 1, 1) := by decide +kernel
theorem dL_law_1044 : decode cL_law 1044 = .ok (.iadd, 1) := by decide +kernel
theorem dL_law_1045 : decode cL_law 1045 = .ok (.iaload, 1) := by decide +kernel
theorem dL_law_1046 : decode cL_law 1046 = .ok (.invokevirtual 132, 3) := by decide +kernel
theorem dL_law_1049 : decode cL_law 1049 = .ok (.if_icmp .eq 328, 3) := by decide +kernel
theorem dL_law_1052 : decode cL_law 1052 = .ok (.iconst 0, 1) := by decide +kernel
