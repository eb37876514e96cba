theorem dX9_holds_1 : decode cX9_holds 1 = .ok (.getfield 52, 3) := by decide +kernel
theorem dX9_holds_4 : decode cX9_holds 4 = .ok (.iload_n 1, 1) := by decide +kernel
theorem dX9_holds_5 : decode cX9_holds 5 = .ok (.iaload, 1) := by decide +kernel
theorem dX9_holds_6 : decode cX9_holds 6 = .ok (.aload_n 0, 1) := by decide +kernel
theorem dX9_holds_7 : decode cX9_holds 7 = .ok (.getfield 55, 3) := by decide +kernel
theorem dX9_holds_10 : decode cX9_holds 10 = .ok (.iload_n 1, 1) := by decide +kernel
theorem dX9_holds_11 : decode cX9_holds 11 = .ok (.iaload, 1) := by decide +kernel
theorem dX9_holds_12 : decode cX9_holds 12 = .ok (.if_icmp .ne 5, 3) := by decide +kernel
theorem dX9_holds_15 : decode cX9_holds 15 = .ok (.iconst 1, 1) := by decide +kernel
theorem dX9_holds_16 : decode cX9_holds 16 = .ok (.ireturn, 1) := by decide +kernel
theorem dX9_holds_17 : decode cX9_holds 17 = .ok (.iconst 0, 1) := by decide +kernel
theorem dX9_holds_18 : decode cX9_holds 18 = .ok (.istore_n 2, 1) := by decide +kernel
theorem dX9_holds_19 : decode cX9_holds 19 = .ok (.aload_n 0, 1) := by decide +kernel
theorem dX9_holds_20 : decode cX9_holds 20 = .ok (.getfield 52, 3) := by decide +kernel
theorem dX9_holds_23 : decode cX9_holds 23 = .ok (.iload_n 1, 1) := by decide +kernel
theorem dX9_holds_24 : decode cX9_holds 24 = .ok (.iaload, 1) := by decide +kernel
theorem dX9_holds_25 : decode cX9_holds 25 = .ok (.istore_n 3, 1) := by decide +kernel
theorem dX9_holds_26 : decode cX9_holds 26 = .ok (.iload_n 3, 1) := by decide +kernel
theorem dX9_holds_27 : decode cX9_holds 27 = .ok (.aload_n 0, 1) := by decide +kernel
theorem dX9_holds_28 : decode cX9_holds 28 = .ok (.getfield 55, 3) := by decide +kernel
theorem dX9_holds_31 : decode cX9_holds 31 = .ok (.iload_n 1, 1) := by decide +kernel
theorem dX9_holds_32 : decode cX9_holds 32 = .ok (.iaload, 1) := by decide +kernel
theorem dX9_holds_33 : decode cX9_holds 33 = .ok (.if_icmp .ge 186, 3) := by decide +kernel
theorem dX9_holds_36 : decode cX9_holds 36 = .ok (.sipush 200, 3) := by decide +kernel
theorem dX9_holds_39 : decode cX9_holds 39 = .ok (.aload_n 0, 1) := by decide +kernel
theorem dX9_holds_40 : decode cX9_holds 40 = .ok (.getfield 266, 3) := by decide +kernel
theorem dX9_holds_43 : decode cX9_holds 43 = .ok (.imul, 1) := by decide +kernel
theorem dX9_holds_44 : decode cX9_holds 44 = .ok (.iload_n 3, 1) := by decide +kernel
theorem dX9_holds_45 : decode cX9_holds 45 = .ok (.iadd, 1) := by decide +kernel
theorem dX9_holds_46 : decode cX9_holds 46 = .ok (.istore 4, 2) := by decide +kernel
theorem dX9_holds_48 : decode cX9_holds 48 = .ok (.aload_n 0, 1) := by decide +kernel
theorem dX9_holds_49 : decode cX9_holds 49 = .ok (.getfield 73, 3) := by decide +kernel
theorem dX9_holds_52 : decode cX9_holds 52 = .ok (.iload 4, 2) := by decide +kernel
theorem dX9_holds_54 : decode cX9_holds 54 = .ok (.baload, 1) := by decide +kernel
theorem dX9_holds_55 : decode cX9_holds 55 = .ok (.ifCond .eq 9, 3) := by decide +kernel
theorem dX9_holds_58 : decode cX9_holds 58 = .ok (.iload_n 2, 1) := by decide +kernel
theorem dX9_holds_59 : decode cX9_holds 59 = .ok (.ifCond .eq 5, 3) := by decide +kernel
theorem dX9_holds_62 : decode cX9_holds 62 = .ok (.iconst 1, 1) := by decide +kernel
theorem dX9_holds_63 : decode cX9_holds 63 = .ok (.ireturn, 1) := by decide +kernel
theorem dX9_holds_64 : decode cX9_holds 64 = .ok (.aload_n 0, 1) := by decide +kernel
theorem dX9_holds_65 : decode cX9_holds 65 = .ok (.getfield 73, 3) := by decide +kernel
theorem dX9_holds_68 : decode cX9_holds 68 = .ok (.iload 4, 2) := by decide +kernel
theorem dX9_holds_70 : decode cX9_holds 70 = .ok (.baload, 1) := by decide +kernel
theorem dX9_holds_71 : decode cX9_holds 71 = .ok (.ifCond .eq 5, 3) := by decide +kernel
theorem dX9_holds_74 : decode cX9_holds 74 = .ok (.iconst 1, 1) := by decide +kernel
theorem dX9_holds_75 : decode cX9_holds 75 = .ok (.istore_n 2, 1) := by decide +kernel
theorem dX9_holds_76 : decode cX9_holds 76 = .ok (.iload_n 2, 1) := by decide +kernel
theorem dX9_holds_77 : decode cX9_holds 77 = .ok (.ifCond .ne 6, 3) := by decide +kernel
theorem dX9_holds_80 : decode cX9_holds 80 = .ok (.goto 133, 3) := by decide +kernel
theorem dX9_holds_83 : decode cX9_holds 83 = .ok (.aload_n 0, 1) := by decide +kernel
theorem dX9_holds_84 : decode cX9_holds 84 = .ok (.aload_n 0, 1) := by decide +kernel
theorem dX9_holds_85 : decode cX9_holds 85 = .ok (.getfield 64, 3) := by decide +kernel
theorem dX9_holds_88 : decode cX9_holds 88 = .ok (.iload 4, 2) := by decide +kernel
theorem dX9_holds_90 : decode cX9_holds 90 = .ok (.iaload, 1) := by decide +kernel
theorem dX9_holds_91 : decode cX9_holds 91 = .ok (.aload_n 0, 1) := by decide +kernel
theorem dX9_holds_92 : decode cX9_holds 92 = .ok (.getfield 67, 3) := by decide +kernel
theorem dX9_holds_95 : decode cX9_holds 95 = .ok (.iload 4, 2) := by decide +kernel
theorem dX9_holds_97 : decode cX9_holds 97 = .ok (.iaload, 1) := by decide +kernel
theorem dX9_holds_98 : decode cX9_holds 98 = .ok (.invokevirtual 298, 3) := by decide +kernel
theorem dX9_holds_101 : decode cX9_holds 101 = .ok (.istore 5, 2) := by decide +kernel
theorem dX9_holds_103 : decode cX9_holds 103 = .ok (.aload_n 0, 1) := by decide +kernel
theorem dX9_holds_104 : decode cX9_holds 104 = .ok (.aload_n 0, 1) := by decide +kernel
theorem dX9_holds_105 : decode cX9_holds 105 = .ok (.getfield 67, 3) := by decide +kernel
theorem dX9_holds_108 : decode cX9_holds 108 = .ok (.iload 4, 2) := by decide +kernel
theorem dX9_holds_110 : decode cX9_holds 110 = .ok (.iaload, 1) := by decide +kernel
theorem dX9_holds_111 : decode cX9_holds 111 = .ok (.aload_n 0, 1) := by decide +kernel
theorem dX9_holds_112 : decode cX9_holds 112 = .ok (.getfield 70, 3) := by decide +kernel
theorem dX9_holds_115 : decode cX9_holds 115 = .ok (.iload 4, 2) := by decide +kernel
theorem dX9_holds_117 : decode cX9_holds 117 = .ok (.iaload, 1) := by decide +kernel
theorem dX9_holds_118 : decode cX9_holds 118 = .ok (.invokevirtual 298, 3) := by decide +kernel
theorem dX9_holds_121 : decode cX9_holds 121 = .ok (.istore 6, 2) := by decide +kernel
theorem dX9_holds_123 : decode cX9_holds 123 = .ok (.aload_n 0, 1) := by decide +kernel
theorem dX9_holds_124 : decode cX9_holds 124 = .ok (.getfield 61, 3) := by decide +kernel
theorem dX9_holds_127 : decode cX9_holds 127 = .ok (.iload 4, 2) := by decide +kernel
theorem dX9_holds_129 : decode cX9_holds 129 = .ok (.iaload, 1) := by decide +kernel
theorem dX9_holds_130 : decode cX9_holds 130 = .ok (.ifCond .ne 18, 3) := by decide +kernel
theorem dX9_holds_133 : decode cX9_holds 133 = .ok (.iload 5, 2) := by decide +kernel
theorem dX9_holds_135 : decode cX9_holds 135 = .ok (.iload 6, 2) := by decide +kernel
theorem dX9_holds_137 : decode cX9_holds 137 = .ok (.if_icmp .ne 7, 3) := by decide +kernel
theorem dX9_holds_140 : decode cX9_holds 140 = .ok (.iconst 1, 1) := by decide +kernel
theorem dX9_holds_141 : decode cX9_holds 141 = .ok (.goto 71, 3) := by decide +kernel
theorem dX9_holds_144 : decode cX9_holds 144 = .ok (.iconst 0, 1) := by decide +kernel
theorem dX9_holds_145 : decode cX9_holds 145 = .ok (.goto 67, 3) := by decide +kernel
theorem dX9_holds_148 : decode cX9_holds 148 = .ok (.aload_n 0, 1) := by decide +kernel
theorem dX9_holds_149 : decode cX9_holds 149 = .ok (.getfield 61, 3) := by decide +kernel
theorem dX9_holds_152 : decode cX9_holds 152 = .ok (.iload 4, 2) := by decide +kernel
theorem dX9_holds_154 : decode cX9_holds 154 = .ok (.iaload, 1) := by decide +kernel
theorem dX9_holds_155 : decode cX9_holds 155 = .ok (.iconst 1, 1) := by decide +kernel
theorem dX9_holds_156 : decode cX9_holds 156 = .ok (.if_icmp .ne 18, 3) := by decide +kernel
theorem dX9_holds_159 : decode cX9_holds 159 = .ok (.iload 5, 2) := by decide +kernel
theorem dX9_holds_161 : decode cX9_holds 161 = .ok (.iload 6, 2) := by decide +kernel
theorem dX9_holds_163 : decode cX9_holds 163 = .ok (.if_icmp .eq 7, 3) := by decide +kernel
theorem dX9_holds_166 : decode cX9_holds 166 = .ok (.iconst 1, 1) := by decide +kernel
theorem dX9_holds_167 : decode cX9_holds 167 = .ok (.goto 45, 3) := by decide +kernel
theorem dX9_holds_170 : decode cX9_holds 170 = .ok (.iconst 0, 1) := by decide +kernel
theorem dX9_holds_171 : decode cX9_holds 171 = .ok (.goto 41, 3) := by decide +kernel
theorem dX9_holds_174 : decode cX9_holds 174 = .ok (.aload_n 0, 1) := by decide +kernel
theorem dX9_holds_175 : decode cX9_holds 175 = .ok (.getfield 61, 3) := by decide +kernel
theorem dX9_holds_178 : decode cX9_holds 178 = .ok (.iload 4, 2) := by decide +kernel
theorem dX9_holds_180 : decode cX9_holds 180 = .ok (.iaload, 1) := by decide +kernel
theorem dX9_holds_181 : decode cX9_holds 181 = .ok (.iconst 2, 1) := by decide +kernel
theorem dX9_holds_182 : decode cX9_holds 182 = .ok (.if_icmp .ne 18, 3) := by decide +kernel
theorem dX9_holds_185 : decode cX9_holds 185 = .ok (.iload 5, 2) := by decide +kernel
theorem dX9_holds_187 : decode cX9_holds 187 = .ok (.iload 6, 2) := by decide +kernel
theorem dX9_holds_189 : decode cX9_holds 189 = .ok (.if_icmp .ge 7, 3) := by decide +kernel
theorem dX9_holds_192 : decode cX9_holds 192 = .ok (.iconst 1, 1) := by decide +kernel
theorem dX9_holds_193 : decode cX9_holds 193 = .ok (.goto 19, 3) := by decide +kernel
theorem dX9_holds_196 : decode cX9_holds 196 = .ok (.iconst 0, 1) := by decide +kernel
theorem dX9_holds_197 : decode cX9_holds 197 = .ok (.goto 15, 3) := by decide +kernel
theorem dX9_holds_200 : decode cX9_holds 200 = .ok (.iload 5, 2) := by decide +kernel
theorem dX9_holds_202 : decode cX9_holds 202 = .ok (.iload 6, 2) := by decide +kernel
theorem dX9_holds_204 : decode cX9_holds 204 = .ok (.if_icmp .gt 7, 3) := by decide +kernel
theorem dX9_holds_207 : decode cX9_holds 207 = .ok (.iconst 1, 1) := by decide +kernel
theorem dX9_holds_208 : decode cX9_holds 208 = .ok (.goto 4, 3) := by decide +kernel
theorem dX9_holds_211 : decode cX9_holds 211 = .ok (.iconst 0, 1) := by decide +kernel
theorem dX9_holds_212 : decode cX9_holds 212 = .ok (.istore_n 2, 1) := by decide +kernel
theorem dX9_holds_213 : decode cX9_holds 213 = .ok (.iinc 3 1, 3) := by decide +kernel
theorem dX9_holds_216 : decode cX9_holds 216 = .ok (.goto (-190), 3) := by decide +kernel
theorem dX9_holds_219 : decode cX9_holds 219 = .ok (.iload_n 2, 1) := by decide +kernel
theorem dX9_holds_220 : decode cX9_holds 220 = .ok (.ireturn, 1) := by decide +kernel
theorem dX9_asks_0 : decode cX9_asks 0 = .ok (.aload_n 0, 1) := by decide +kernel
theorem dX9_asks_1 : decode cX9_asks 1 = .ok (.getfield 86, 3) := by decide +kernel
theorem dX9_asks_4 : decode cX9_asks 4 = .ok (.iconst 0, 1) := by decide +kernel
theorem dX9_asks_5 : decode cX9_asks 5 = .ok (.iload_n 1, 1) := by decide +kernel
theorem dX9_asks_6 : decode cX9_asks 6 = .ok (.iastore, 1) := by decide +kernel
theorem dX9_asks_7 : decode cX9_asks 7 = .ok (.aload_n 0, 1) := by decide +kernel
theorem dX9_asks_8 : decode cX9_asks 8 = .ok (.getfield 86, 3) := by decide +kernel
theorem dX9_asks_11 : decode cX9_asks 11 = .ok (.iconst 1, 1) := by decide +kernel
theorem dX9_asks_12 : decode cX9_asks 12 = .ok (.iload_n 2, 1) := by decide +kernel
theorem dX9_asks_13 : decode cX9_asks 13 = .ok (.iastore, 1) := by decide +kernel
theorem dX9_asks_14 : decode cX9_asks 14 = .ok (.aload_n 0, 1) := by decide +kernel
theorem dX9_asks_15 : decode cX9_asks 15 = .ok (.getfield 86, 3) := by decide +kernel
theorem dX9_asks_18 : decode cX9_asks 18 = .ok (.iconst 2, 1) := by decide +kernel
theorem dX9_asks_19 : decode cX9_asks 19 = .ok (.iload_n 3, 1) := by decide +kernel
theorem dX9_asks_20 : decode cX9_asks 20 = .ok (.iastore, 1) := by decide +kernel
theorem dX9_asks_21 : decode cX9_asks 21 = .ok (.aload_n 0, 1) := by decide +kernel
theorem dX9_asks_22 : decode cX9_asks 22 = .ok (.getfield 86, 3) := by decide +kernel
theorem dX9_asks_25 : decode cX9_asks 25 = .ok (.iconst 3, 1) := by decide +kernel
theorem dX9_asks_26 : decode cX9_asks 26 = .ok (.iload 4, 2) := by decide +kernel
theorem dX9_asks_28 : decode cX9_asks 28 = .ok (.iastore, 1) := by decide +kernel
theorem dX9_asks_29 : decode cX9_asks 29 = .ok (.aload_n 0, 1) := by decide +kernel
theorem dX9_asks_30 : decode cX9_asks 30 = .ok (.getfield 86, 3) := by decide +kernel
theorem dX9_asks_33 : decode cX9_asks 33 = .ok (.iconst 4, 1) := by decide +kernel
theorem dX9_asks_34 : decode cX9_asks 34 = .ok (.iload 5, 2) := by decide +kernel
theorem dX9_asks_36 : decode cX9_asks 36 = .ok (.iastore, 1) := by decide +kernel
theorem dX9_asks_37 : decode cX9_asks 37 = .ok (.return_, 1) := by decide +kernel
theorem dX9_ruleOf_0 : decode cX9_ruleOf 0 = .ok (.iconst 0, 1) := by decide +kernel
theorem dX9_ruleOf_1 : decode cX9_ruleOf 1 = .ok (.istore_n 2, 1) := by decide +kernel
theorem dX9_ruleOf_2 : decode cX9_ruleOf 2 = .ok (.iload_n 2, 1) := by decide +kernel
theorem dX9_ruleOf_3 : decode cX9_ruleOf 3 = .ok (.aload_n 0, 1) := by decide +kernel
theorem dX9_ruleOf_4 : decode cX9_ruleOf 4 = .ok (.getfield 40, 3) := by decide +kernel
theorem dX9_ruleOf_7 : decode cX9_ruleOf 7 = .ok (.aload_n 0, 1) := by decide +kernel
theorem dX9_ruleOf_8 : decode cX9_ruleOf 8 = .ok (.getfield 266, 3) := by decide +kernel
theorem dX9_ruleOf_11 : decode cX9_ruleOf 11 = .ok (.iaload, 1) := by decide +kernel
theorem dX9_ruleOf_12 : decode cX9_ruleOf 12 = .ok (.if_icmp .ge 45, 3) := by decide +kernel
theorem dX9_ruleOf_15 : decode cX9_ruleOf 15 = .ok (.aload_n 0, 1) := by decide +kernel
theorem dX9_ruleOf_16 : decode cX9_ruleOf 16 = .ok (.getfield 43, 3) := by decide +kernel
theorem dX9_ruleOf_19 : decode cX9_ruleOf 19 = .ok (.bipush 16, 2) := by decide +kernel
theorem dX9_ruleOf_21 : decode cX9_ruleOf 21 = .ok (.aload_n 0, 1) := by decide +kernel
theorem dX9_ruleOf_22 : decode cX9_ruleOf 22 = .ok (.getfield 266, 3) := by decide +kernel
theorem dX9_ruleOf_25 : decode cX9_ruleOf 25 = .ok (.imul, 1) := by decide +kernel
theorem dX9_ruleOf_26 : decode cX9_ruleOf 26 = .ok (.iload_n 2, 1) := by decide +kernel
theorem dX9_ruleOf_27 : decode cX9_ruleOf 27 = .ok (.iadd, 1) := by decide +kernel
theorem dX9_ruleOf_28 : decode cX9_ruleOf 28 = .ok (.iaload, 1) := by decide +kernel
theorem dX9_ruleOf_29 : decode cX9_ruleOf 29 = .ok (.iload_n 1, 1) := by decide +kernel
theorem dX9_ruleOf_30 : decode cX9_ruleOf 30 = .ok (.if_icmp .ne 21, 3) := by decide +kernel
theorem dX9_ruleOf_33 : decode cX9_ruleOf 33 = .ok (.aload_n 0, 1) := by decide +kernel
theorem dX9_ruleOf_34 : decode cX9_ruleOf 34 = .ok (.bipush 16, 2) := by decide +kernel
theorem dX9_ruleOf_36 : decode cX9_ruleOf 36 = .ok (.aload_n 0, 1) := by decide +kernel
theorem dX9_ruleOf_37 : decode cX9_ruleOf 37 = .ok (.getfield 266, 3) := by decide +kernel
theorem dX9_ruleOf_40 : decode cX9_ruleOf 40 = .ok (.imul, 1) := by decide +kernel
theorem dX9_ruleOf_41 : decode cX9_ruleOf 41 = .ok (.iload_n 2, 1) := by decide +kernel
theorem dX9_ruleOf_42 : decode cX9_ruleOf 42 = .ok (.iadd, 1) := by decide +kernel
theorem dX9_ruleOf_43 : decode cX9_ruleOf 43 = .ok (.invokevirtual 302, 3) := by decide +kernel
theorem dX9_ruleOf_46 : decode cX9_ruleOf 46 = .ok (.ifCond .eq 5, 3) := by decide +kernel
theorem dX9_ruleOf_49 : decode cX9_ruleOf 49 = .ok (.iload_n 2, 1) := by decide +kernel
theorem dX9_ruleOf_50 : decode cX9_ruleOf 50 = .ok (.ireturn, 1) := by decide +kernel
theorem dX9_ruleOf_51 : decode cX9_ruleOf 51 = .ok (.iinc 2 1, 3) := by decide +kernel
theorem dX9_ruleOf_54 : decode cX9_ruleOf 54 = .ok (.goto (-52), 3) := by decide +kernel
theorem dX9_ruleOf_57 : decode cX9_ruleOf 57 = .ok (.iconst (-1), 1) := by decide +kernel
theorem dX9_ruleOf_58 : decode cX9_ruleOf 58 = .ok (.ireturn, 1) := by decide +kernel
theorem dX9_says_0 : decode cX9_says 0 = .ok (.aload_n 0, 1) := by decide +kernel
theorem dX9_says_1 : decode cX9_says 1 = .ok (.aload_n 0, 1) := by decide +kernel
theorem dX9_says_2 : decode cX9_says 2 = .ok (.getfield 46, 3) := by decide +kernel
theorem dX9_says_5 : decode cX9_says 5 = .ok (.bipush 16, 2) := by decide +kernel
theorem dX9_says_7 : decode cX9_says 7 = .ok (.aload_n 0, 1) := by decide +kernel
theorem dX9_says_8 : decode cX9_says 8 = .ok (.getfield 266, 3) := by decide +kernel
theorem dX9_says_11 : decode cX9_says 11 = .ok (.imul, 1) := by decide +kernel
theorem dX9_says_12 : decode cX9_says 12 = .ok (.iload_n 1, 1) := by decide +kernel
theorem dX9_says_13 : decode cX9_says 13 = .ok (.iadd, 1) := by decide +kernel
theorem dX9_says_14 : decode cX9_says 14 = .ok (.iaload, 1) := by decide +kernel
theorem dX9_says_15 : decode cX9_says 15 = .ok (.aload_n 0, 1) := by decide +kernel
theorem dX9_says_16 : decode cX9_says 16 = .ok (.getfield 49, 3) := by decide +kernel
theorem dX9_says_19 : decode cX9_says 19 = .ok (.bipush 16, 2) := by decide +kernel
theorem dX9_says_21 : decode cX9_says 21 = .ok (.aload_n 0, 1) := by decide +kernel
theorem dX9_says_22 : decode cX9_says 22 = .ok (.getfield 266, 3) := by decide +kernel
theorem dX9_says_25 : decode cX9_says 25 = .ok (.imul, 1) := by decide +kernel
theorem dX9_says_26 : decode cX9_says 26 = .ok (.iload_n 1, 1) := by decide +kernel
theorem dX9_says_27 : decode cX9_says 27 = .ok (.iadd, 1) := by decide +kernel
theorem dX9_says_28 : decode cX9_says 28 = .ok (.iaload, 1) := by decide +kernel
theorem dX9_says_29 : decode cX9_says 29 = .ok (.invokevirtual 298, 3) := by decide +kernel
theorem dX9_says_32 : decode cX9_says 32 = .ok (.istore_n 2, 1) := by decide +kernel
theorem dX9_says_33 : decode cX9_says 33 = .ok (.iload_n 2, 1) := by decide +kernel
theorem dX9_says_34 : decode cX9_says 34 = .ok (.ifCond .ge 7, 3) := by decide +kernel
theorem dX9_says_37 : decode cX9_says 37 = .ok (.iconst 0, 1) := by decide +kernel
theorem dX9_says_38 : decode cX9_says 38 = .ok (.goto 17, 3) := by decide +kernel
theorem dX9_says_41 : decode cX9_says 41 = .ok (.iload_n 2, 1) := by decide +kernel
theorem dX9_says_42 : decode cX9_says 42 = .ok (.sipush 1000, 3) := by decide +kernel
theorem dX9_says_45 : decode cX9_says 45 = .ok (.if_icmp .le 9, 3) := by decide +kernel
theorem dX9_says_48 : decode cX9_says 48 = .ok (.sipush 1000, 3) := by decide +kernel
theorem dX9_says_51 : decode cX9_says 51 = .ok (.goto 4, 3) := by decide +kernel
theorem dX9_says_54 : decode cX9_says 54 = .ok (.iload_n 2, 1) := by decide +kernel
theorem dX9_says_55 : decode cX9_says 55 = .ok (.ireturn, 1) := by decide +kernel
theorem dX9_flat_0 : decode cX9_flat 0 = .ok (.aload_n 0, 1) := by decide +kernel
theorem dX9_flat_1 : decode cX9_flat 1 = .ok (.getfield 92, 3) := by decide +kernel
theorem dX9_flat_4 : decode cX9_flat 4 = .ok (.iload_n 1, 1) := by decide +kernel
theorem dX9_flat_5 : decode cX9_flat 5 = .ok (.aload_n 0, 1) := by decide +kernel
theorem dX9_flat_6 : decode cX9_flat 6 = .ok (.getfield 189, 3) := by decide +kernel
theorem dX9_flat_9 : decode cX9_flat 9 = .ok (.iastore, 1) := by decide +kernel
theorem dX9_flat_10 : decode cX9_flat 10 = .ok (.iconst 0, 1) := by decide +kernel
theorem dX9_flat_11 : decode cX9_flat 11 = .ok (.istore_n 2, 1) := by decide +kernel
theorem dX9_flat_12 : decode cX9_flat 12 = .ok (.iload_n 2, 1) := by decide +kernel
theorem dX9_flat_13 : decode cX9_flat 13 = .ok (.aload_n 0, 1) := by decide +kernel
theorem dX9_flat_14 : decode cX9_flat 14 = .ok (.getfield 189, 3) := by decide +kernel
theorem dX9_flat_17 : decode cX9_flat 17 = .ok (.if_icmp .ge 45, 3) := by decide +kernel
theorem dX9_flat_20 : decode cX9_flat 20 = .ok (.aload_n 0, 1) := by decide +kernel
theorem dX9_flat_21 : decode cX9_flat 21 = .ok (.getfield 95, 3) := by decide +kernel
theorem dX9_flat_24 : decode cX9_flat 24 = .ok (.bipush 8, 2) := by decide +kernel
theorem dX9_flat_26 : decode cX9_flat 26 = .ok (.iload_n 1, 1) := by decide +kernel
theorem dX9_flat_27 : decode cX9_flat 27 = .ok (.imul, 1) := by decide +kernel
theorem dX9_flat_28 : decode cX9_flat 28 = .ok (.iload_n 2, 1) := by decide +kernel
theorem dX9_flat_29 : decode cX9_flat 29 = .ok (.iadd, 1) := by decide +kernel
theorem dX9_flat_30 : decode cX9_flat 30 = .ok (.iload_n 2, 1) := by decide +kernel
theorem dX9_flat_31 : decode cX9_flat 31 = .ok (.iastore, 1) := by decide +kernel
theorem dX9_flat_32 : decode cX9_flat 32 = .ok (.aload_n 0, 1) := by decide +kernel
theorem dX9_flat_33 : decode cX9_flat 33 = .ok (.getfield 98, 3) := by decide +kernel
theorem dX9_flat_36 : decode cX9_flat 36 = .ok (.bipush 8, 2) := by decide +kernel
theorem dX9_flat_38 : decode cX9_flat 38 = .ok (.iload_n 1, 1) := by decide +kernel
theorem dX9_flat_39 : decode cX9_flat 39 = .ok (.imul, 1) := by decide +kernel
theorem dX9_flat_40 : decode cX9_flat 40 = .ok (.iload_n 2, 1) := by decide +kernel
theorem dX9_flat_41 : decode cX9_flat 41 = .ok (.iadd, 1) := by decide +kernel
theorem dX9_flat_42 : decode cX9_flat 42 = .ok (.iconst 0, 1) := by decide +kernel
theorem dX9_flat_43 : decode cX9_flat 43 = .ok (.iastore, 1) := by decide +kernel
theorem dX9_flat_44 : decode cX9_flat 44 = .ok (.aload_n 0, 1) := by decide +kernel
theorem dX9_flat_45 : decode cX9_flat 45 = .ok (.getfield 101, 3) := by decide +kernel
theorem dX9_flat_48 : decode cX9_flat 48 = .ok (.bipush 8, 2) := by decide +kernel
theorem dX9_flat_50 : decode cX9_flat 50 = .ok (.iload_n 1, 1) := by decide +kernel
theorem dX9_flat_51 : decode cX9_flat 51 = .ok (.imul, 1) := by decide +kernel
theorem dX9_flat_52 : decode cX9_flat 52 = .ok (.iload_n 2, 1) := by decide +kernel
theorem dX9_flat_53 : decode cX9_flat 53 = .ok (.iadd, 1) := by decide +kernel
theorem dX9_flat_54 : decode cX9_flat 54 = .ok (.iconst 1, 1) := by decide +kernel
theorem dX9_flat_55 : decode cX9_flat 55 = .ok (.bastore, 1) := by decide +kernel
theorem dX9_flat_56 : decode cX9_flat 56 = .ok (.iinc 2 1, 3) := by decide +kernel
theorem dX9_flat_59 : decode cX9_flat 59 = .ok (.goto (-47), 3) := by decide +kernel
theorem dX9_flat_62 : decode cX9_flat 62 = .ok (.return_, 1) := by decide +kernel
theorem dX9_layersOf_0 : decode cX9_layersOf 0 = .ok (.iconst 0, 1) := by decide +kernel
theorem dX9_layersOf_1 : decode cX9_layersOf 1 = .ok (.istore_n 3, 1) := by decide +kernel
theorem dX9_layersOf_2 : decode cX9_layersOf 2 = .ok (.iconst 0, 1) := by decide +kernel
theorem dX9_layersOf_3 : decode cX9_layersOf 3 = .ok (.istore 4, 2) := by decide +kernel
theorem dX9_layersOf_5 : decode cX9_layersOf 5 = .ok (.iload 4, 2) := by decide +kernel
theorem dX9_layersOf_7 : decode cX9_layersOf 7 = .ok (.aload_n 0, 1) := by decide +kernel
theorem dX9_layersOf_8 : decode cX9_layersOf 8 = .ok (.getfield 189, 3) := by decide +kernel
theorem dX9_layersOf_11 : decode cX9_layersOf 11 = .ok (.if_icmp .ge 28, 3) := by decide +kernel
theorem dX9_layersOf_14 : decode cX9_layersOf 14 = .ok (.aload_n 0, 1) := by decide +kernel
theorem dX9_layersOf_15 : decode cX9_layersOf 15 = .ok (.getfield 95, 3) := by decide +kernel
theorem dX9_layersOf_18 : decode cX9_layersOf 18 = .ok (.bipush 8, 2) := by decide +kernel
theorem dX9_layersOf_20 : decode cX9_layersOf 20 = .ok (.iload_n 1, 1) := by decide +kernel
theorem dX9_layersOf_21 : decode cX9_layersOf 21 = .ok (.imul, 1) := by decide +kernel
theorem dX9_layersOf_22 : decode cX9_layersOf 22 = .ok (.iload 4, 2) := by decide +kernel
theorem dX9_layersOf_24 : decode cX9_layersOf 24 = .ok (.iadd, 1) := by decide +kernel
theorem dX9_layersOf_25 : decode cX9_layersOf 25 = .ok (.iaload, 1) := by decide +kernel
theorem dX9_layersOf_26 : decode cX9_layersOf 26 = .ok (.iload_n 2, 1) := by decide +kernel
theorem dX9_layersOf_27 : decode cX9_layersOf 27 = .ok (.if_icmp .ne 6, 3) := by decide +kernel
theorem dX9_layersOf_30 : decode cX9_layersOf 30 = .ok (.iinc 3 1, 3) := by decide +kernel
theorem dX9_layersOf_33 : decode cX9_layersOf 33 = .ok (.iinc 4 1, 3) := by decide +kernel
theorem dX9_layersOf_36 : decode cX9_layersOf 36 = .ok (.goto (-31), 3) := by decide +kernel
theorem dX9_layersOf_39 : decode cX9_layersOf 39 = .ok (.iload_n 3, 1) := by decide +kernel
theorem dX9_layersOf_40 : decode cX9_layersOf 40 = .ok (.ireturn, 1) := by decide +kernel
theorem dX9_partAt_0 : decode cX9_partAt 0 = .ok (.iconst 0, 1) := by decide +kernel
theorem dX9_partAt_1 : decode cX9_partAt 1 = .ok (.istore 4, 2) := by decide +kernel
theorem dX9_partAt_3 : decode cX9_partAt 3 = .ok (.iload 4, 2) := by decide +kernel
theorem dX9_partAt_5 : decode cX9_partAt 5 = .ok (.aload_n 0, 1) := by decide +kernel
theorem dX9_partAt_6 : decode cX9_partAt 6 = .ok (.getfield 189, 3) := by decide +kernel
theorem dX9_partAt_9 : decode cX9_partAt 9 = .ok (.if_icmp .ge 44, 3) := by decide +kernel
theorem dX9_partAt_12 : decode cX9_partAt 12 = .ok (.aload_n 0, 1) := by decide +kernel
theorem dX9_partAt_13 : decode cX9_partAt 13 = .ok (.getfield 95, 3) := by decide +kernel
theorem dX9_partAt_16 : decode cX9_partAt 16 = .ok (.bipush 8, 2) := by decide +kernel
theorem dX9_partAt_18 : decode cX9_partAt 18 = .ok (.iload_n 1, 1) := by decide +kernel
theorem dX9_partAt_19 : decode cX9_partAt 19 = .ok (.imul, 1) := by decide +kernel
theorem dX9_partAt_20 : decode cX9_partAt 20 = .ok (.iload 4, 2) := by decide +kernel
theorem dX9_partAt_22 : decode cX9_partAt 22 = .ok (.iadd, 1) := by decide +kernel
theorem dX9_partAt_23 : decode cX9_partAt 23 = .ok (.iaload, 1) := by decide +kernel
theorem dX9_partAt_24 : decode cX9_partAt 24 = .ok (.iload_n 2, 1) := by decide +kernel
theorem dX9_partAt_25 : decode cX9_partAt 25 = .ok (.if_icmp .ne 22, 3) := by decide +kernel
theorem dX9_partAt_28 : decode cX9_partAt 28 = .ok (.aload_n 0, 1) := by decide +kernel
theorem dX9_partAt_29 : decode cX9_partAt 29 = .ok (.getfield 98, 3) := by decide +kernel
theorem dX9_partAt_32 : decode cX9_partAt 32 = .ok (.bipush 8, 2) := by decide +kernel
theorem dX9_partAt_34 : decode cX9_partAt 34 = .ok (.iload_n 1, 1) := by decide +kernel
theorem dX9_partAt_35 : decode cX9_partAt 35 = .ok (.imul, 1) := by decide +kernel
theorem dX9_partAt_36 : decode cX9_partAt 36 = .ok (.iload 4, 2) := by decide +kernel
theorem dX9_partAt_38 : decode cX9_partAt 38 = .ok (.iadd, 1) := by decide +kernel
theorem dX9_partAt_39 : decode cX9_partAt 39 = .ok (.iaload, 1) := by decide +kernel
theorem dX9_partAt_40 : decode cX9_partAt 40 = .ok (.iload_n 3, 1) := by decide +kernel
theorem dX9_partAt_41 : decode cX9_partAt 41 = .ok (.if_icmp .ne 6, 3) := by decide +kernel
theorem dX9_partAt_44 : decode cX9_partAt 44 = .ok (.iload 4, 2) := by decide +kernel
theorem dX9_partAt_46 : decode cX9_partAt 46 = .ok (.ireturn, 1) := by decide +kernel
theorem dX9_partAt_47 : decode cX9_partAt 47 = .ok (.iinc 4 1, 3) := by decide +kernel
theorem dX9_partAt_50 : decode cX9_partAt 50 = .ok (.goto (-47), 3) := by decide +kernel
theorem dX9_partAt_53 : decode cX9_partAt 53 = .ok (.iconst (-1), 1) := by decide +kernel
theorem dX9_partAt_54 : decode cX9_partAt 54 = .ok (.ireturn, 1) := by decide +kernel
theorem dX9_copies_0 : decode cX9_copies 0 = .ok (.aload_n 0, 1) := by decide +kernel
theorem dX9_copies_1 : decode cX9_copies 1 = .ok (.getfield 92, 3) := by decide +kernel
theorem dX9_copies_4 : decode cX9_copies 4 = .ok (.iload_n 2, 1) := by decide +kernel
theorem dX9_copies_5 : decode cX9_copies 5 = .ok (.aload_n 0, 1) := by decide +kernel
theorem dX9_copies_6 : decode cX9_copies 6 = .ok (.getfield 92, 3) := by decide +kernel
theorem dX9_copies_9 : decode cX9_copies 9 = .ok (.iload_n 1, 1) := by decide +kernel
theorem dX9_copies_10 : decode cX9_copies 10 = .ok (.iaload, 1) := by decide +kernel
theorem dX9_copies_11 : decode cX9_copies 11 = .ok (.iastore, 1) := by decide +kernel
theorem dX9_copies_12 : decode cX9_copies 12 = .ok (.iconst 0, 1) := by decide +kernel
theorem dX9_copies_13 : decode cX9_copies 13 = .ok (.istore_n 3, 1) := by decide +kernel
theorem dX9_copies_14 : decode cX9_copies 14 = .ok (.iload_n 3, 1) := by decide +kernel
theorem dX9_copies_15 : decode cX9_copies 15 = .ok (.aload_n 0, 1) := by decide +kernel
theorem dX9_copies_16 : decode cX9_copies 16 = .ok (.getfield 189, 3) := by decide +kernel
theorem dX9_copies_19 : decode cX9_copies 19 = .ok (.if_icmp .ge 75, 3) := by decide +kernel
theorem dX9_copies_22 : decode cX9_copies 22 = .ok (.aload_n 0, 1) := by decide +kernel
theorem dX9_copies_23 : decode cX9_copies 23 = .ok (.getfield 95, 3) := by decide +kernel
theorem dX9_copies_26 : decode cX9_copies 26 = .ok (.bipush 8, 2) := by decide +kernel
theorem dX9_copies_28 : decode cX9_copies 28 = .ok (.iload_n 2, 1) := by decide +kernel
theorem dX9_copies_29 : decode cX9_copies 29 = .ok (.imul, 1) := by decide +kernel
theorem dX9_copies_30 : decode cX9_copies 30 = .ok (.iload_n 3, 1) := by decide +kernel
theorem dX9_copies_31 : decode cX9_copies 31 = .ok (.iadd, 1) := by decide +kernel
theorem dX9_copies_32 : decode cX9_copies 32 = .ok (.aload_n 0, 1) := by decide +kernel
theorem dX9_copies_33 : decode cX9_copies 33 = .ok (.getfield 95, 3) := by decide +kernel
theorem dX9_copies_36 : decode cX9_copies 36 = .ok (.bipush 8, 2) := by decide +kernel
theorem dX9_copies_38 : decode cX9_copies 38 = .ok (.iload_n 1, 1) := by decide +kernel
theorem dX9_copies_39 : decode cX9_copies 39 = .ok (.imul, 1) := by decide +kernel
theorem dX9_copies_40 : decode cX9_copies 40 = .ok (.iload_n 3, 1) := by decide +kernel
theorem dX9_copies_41 : decode cX9_copies 41 = .ok (.iadd, 1) := by decide +kernel
theorem dX9_copies_42 : decode cX9_copies 42 = .ok (.iaload, 1) := by decide +kernel
theorem dX9_copies_43 : decode cX9_copies 43 = .ok (.iastore, 1) := by decide +kernel
theorem dX9_copies_44 : decode cX9_copies 44 = .ok (.aload_n 0, 1) := by decide +kernel
theorem dX9_copies_45 : decode cX9_copies 45 = .ok (.getfield 98, 3) := by decide +kernel
theorem dX9_copies_48 : decode cX9_copies 48 = .ok (.bipush 8, 2) := by decide +kernel
theorem dX9_copies_50 : decode cX9_copies 50 = .ok (.iload_n 2, 1) := by decide +kernel
theorem dX9_copies_51 : decode cX9_copies 51 = .ok (.imul, 1) := by decide +kernel
theorem dX9_copies_52 : decode cX9_copies 52 = .ok (.iload_n 3, 1) := by decide +kernel
theorem dX9_copies_53 : decode cX9_copies 53 = .ok (.iadd, 1) := by decide +kernel
theorem dX9_copies_54 : decode cX9_copies 54 = .ok (.aload_n 0, 1) := by decide +kernel
theorem dX9_copies_55 : decode cX9_copies 55 = .ok (.getfield 98, 3) := by decide +kernel
theorem dX9_copies_58 : decode cX9_copies 58 = .ok (.bipush 8, 2) := by decide +kernel
theorem dX9_copies_60 : decode cX9_copies 60 = .ok (.iload_n 1, 1) := by decide +kernel
theorem dX9_copies_61 : decode cX9_copies 61 = .ok (.imul, 1) := by decide +kernel
theorem dX9_copies_62 : decode cX9_copies 62 = .ok (.iload_n 3, 1) := by decide +kernel
theorem dX9_copies_63 : decode cX9_copies 63 = .ok (.iadd, 1) := by decide +kernel
theorem dX9_copies_64 : decode cX9_copies 64 = .ok (.iaload, 1) := by decide +kernel
theorem dX9_copies_65 : decode cX9_copies 65 = .ok (.iastore, 1) := by decide +kernel
theorem dX9_copies_66 : decode cX9_copies 66 = .ok (.aload_n 0, 1) := by decide +kernel
theorem dX9_copies_67 : decode cX9_copies 67 = .ok (.getfield 101, 3) := by decide +kernel
theorem dX9_copies_70 : decode cX9_copies 70 = .ok (.bipush 8, 2) := by decide +kernel
theorem dX9_copies_72 : decode cX9_copies 72 = .ok (.iload_n 2, 1) := by decide +kernel
theorem dX9_copies_73 : decode cX9_copies 73 = .ok (.imul, 1) := by decide +kernel
theorem dX9_copies_74 : decode cX9_copies 74 = .ok (.iload_n 3, 1) := by decide +kernel
theorem dX9_copies_75 : decode cX9_copies 75 = .ok (.iadd, 1) := by decide +kernel
theorem dX9_copies_76 : decode cX9_copies 76 = .ok (.aload_n 0, 1) := by decide +kernel
theorem dX9_copies_77 : decode cX9_copies 77 = .ok (.getfield 101, 3) := by decide +kernel
theorem dX9_copies_80 : decode cX9_copies 80 = .ok (.bipush 8, 2) := by decide +kernel
theorem dX9_copies_82 : decode cX9_copies 82 = .ok (.iload_n 1, 1) := by decide +kernel
theorem dX9_copies_83 : decode cX9_copies 83 = .ok (.imul, 1) := by decide +kernel
theorem dX9_copies_84 : decode cX9_copies 84 = .ok (.iload_n 3, 1) := by decide +kernel
theorem dX9_copies_85 : decode cX9_copies 85 = .ok (.iadd, 1) := by decide +kernel
theorem dX9_copies_86 : decode cX9_copies 86 = .ok (.baload, 1) := by decide +kernel
theorem dX9_copies_87 : decode cX9_copies 87 = .ok (.bastore, 1) := by decide +kernel
theorem dX9_copies_88 : decode cX9_copies 88 = .ok (.iinc 3 1, 3) := by decide +kernel
theorem dX9_copies_91 : decode cX9_copies 91 = .ok (.goto (-77), 3) := by decide +kernel
theorem dX9_copies_94 : decode cX9_copies 94 = .ok (.return_, 1) := by decide +kernel
theorem dX9_turns_0 : decode cX9_turns 0 = .ok (.aload_n 0, 1) := by decide +kernel
theorem dX9_turns_1 : decode cX9_turns 1 = .ok (.getfield 95, 3) := by decide +kernel
theorem dX9_turns_4 : decode cX9_turns 4 = .ok (.bipush 8, 2) := by decide +kernel
theorem dX9_turns_6 : decode cX9_turns 6 = .ok (.iload_n 1, 1) := by decide +kernel
theorem dX9_turns_7 : decode cX9_turns 7 = .ok (.imul, 1) := by decide +kernel
theorem dX9_turns_8 : decode cX9_turns 8 = .ok (.iload_n 2, 1) := by decide +kernel
theorem dX9_turns_9 : decode cX9_turns 9 = .ok (.iadd, 1) := by decide +kernel
theorem dX9_turns_10 : decode cX9_turns 10 = .ok (.iaload, 1) := by decide +kernel
theorem dX9_turns_11 : decode cX9_turns 11 = .ok (.iload_n 3, 1) := by decide +kernel
theorem dX9_turns_12 : decode cX9_turns 12 = .ok (.if_icmp .ge 7, 3) := by decide +kernel
theorem dX9_turns_15 : decode cX9_turns 15 = .ok (.iconst 1, 1) := by decide +kernel
theorem dX9_turns_16 : decode cX9_turns 16 = .ok (.goto 4, 3) := by decide +kernel
theorem dX9_turns_19 : decode cX9_turns 19 = .ok (.iconst 0, 1) := by decide +kernel
theorem dX9_turns_20 : decode cX9_turns 20 = .ok (.iload 4, 2) := by decide +kernel
theorem dX9_turns_22 : decode cX9_turns 22 = .ok (.if_icmp .ne 7, 3) := by decide +kernel
theorem dX9_turns_25 : decode cX9_turns 25 = .ok (.iconst 1, 1) := by decide +kernel
theorem dX9_turns_26 : decode cX9_turns 26 = .ok (.goto 4, 3) := by decide +kernel
theorem dX9_turns_29 : decode cX9_turns 29 = .ok (.iconst 0, 1) := by decide +kernel
theorem dX9_turns_30 : decode cX9_turns 30 = .ok (.ireturn, 1) := by decide +kernel
theorem dX9_folds_0 : decode cX9_folds 0 = .ok (.sipush 1000, 3) := by decide +kernel
theorem dX9_folds_3 : decode cX9_folds 3 = .ok (.istore 6, 2) := by decide +kernel
theorem dX9_folds_5 : decode cX9_folds 5 = .ok (.iconst 0, 1) := by decide +kernel
theorem dX9_folds_6 : decode cX9_folds 6 = .ok (.istore 7, 2) := by decide +kernel
theorem dX9_folds_8 : decode cX9_folds 8 = .ok (.iload 7, 2) := by decide +kernel
theorem dX9_folds_10 : decode cX9_folds 10 = .ok (.aload_n 0, 1) := by decide +kernel
theorem dX9_folds_11 : decode cX9_folds 11 = .ok (.getfield 189, 3) := by decide +kernel
theorem dX9_folds_14 : decode cX9_folds 14 = .ok (.if_icmp .ge 130, 3) := by decide +kernel
theorem dX9_folds_17 : decode cX9_folds 17 = .ok (.aload_n 0, 1) := by decide +kernel
theorem dX9_folds_18 : decode cX9_folds 18 = .ok (.getfield 95, 3) := by decide +kernel
theorem dX9_folds_21 : decode cX9_folds 21 = .ok (.bipush 8, 2) := by decide +kernel
theorem dX9_folds_23 : decode cX9_folds 23 = .ok (.iload_n 1, 1) := by decide +kernel
theorem dX9_folds_24 : decode cX9_folds 24 = .ok (.imul, 1) := by decide +kernel
theorem dX9_folds_25 : decode cX9_folds 25 = .ok (.iload 7, 2) := by decide +kernel
theorem dX9_folds_27 : decode cX9_folds 27 = .ok (.iadd, 1) := by decide +kernel
theorem dX9_folds_28 : decode cX9_folds 28 = .ok (.iaload, 1) := by decide +kernel
theorem dX9_folds_29 : decode cX9_folds 29 = .ok (.istore 8, 2) := by decide +kernel
theorem dX9_folds_31 : decode cX9_folds 31 = .ok (.aload_n 0, 1) := by decide +kernel
theorem dX9_folds_32 : decode cX9_folds 32 = .ok (.iload_n 1, 1) := by decide +kernel
theorem dX9_folds_33 : decode cX9_folds 33 = .ok (.iload 7, 2) := by decide +kernel
theorem dX9_folds_35 : decode cX9_folds 35 = .ok (.iload_n 3, 1) := by decide +kernel
theorem dX9_folds_36 : decode cX9_folds 36 = .ok (.iload 4, 2) := by decide +kernel
theorem dX9_folds_38 : decode cX9_folds 38 = .ok (.invokevirtual 305, 3) := by decide +kernel
theorem dX9_folds_41 : decode cX9_folds 41 = .ok (.istore 9, 2) := by decide +kernel
theorem dX9_folds_43 : decode cX9_folds 43 = .ok (.aload_n 0, 1) := by decide +kernel
theorem dX9_folds_44 : decode cX9_folds 44 = .ok (.getfield 95, 3) := by decide +kernel
theorem dX9_folds_47 : decode cX9_folds 47 = .ok (.bipush 8, 2) := by decide +kernel
theorem dX9_folds_49 : decode cX9_folds 49 = .ok (.iload_n 2, 1) := by decide +kernel
theorem dX9_folds_50 : decode cX9_folds 50 = .ok (.imul, 1) := by decide +kernel
theorem dX9_folds_51 : decode cX9_folds 51 = .ok (.iload 7, 2) := by decide +kernel
theorem dX9_folds_53 : decode cX9_folds 53 = .ok (.iadd, 1) := by decide +kernel
theorem dX9_folds_54 : decode cX9_folds 54 = .ok (.iload 9, 2) := by decide +kernel
theorem dX9_folds_56 : decode cX9_folds 56 = .ok (.ifCond .eq 14, 3) := by decide +kernel
theorem dX9_folds_59 : decode cX9_folds 59 = .ok (.iconst 2, 1) := by decide +kernel
theorem dX9_folds_60 : decode cX9_folds 60 = .ok (.iload_n 3, 1) := by decide +kernel
theorem dX9_folds_61 : decode cX9_folds 61 = .ok (.imul, 1) := by decide +kernel
theorem dX9_folds_62 : decode cX9_folds 62 = .ok (.iconst 1, 1) := by decide +kernel
theorem dX9_folds_63 : decode cX9_folds 63 = .ok (.isub, 1) := by decide +kernel
theorem dX9_folds_64 : decode cX9_folds 64 = .ok (.iload 8, 2) := by decide +kernel
theorem dX9_folds_66 : decode cX9_folds 66 = .ok (.isub, 1) := by decide +kernel
theorem dX9_folds_67 : decode cX9_folds 67 = .ok (.goto 5, 3) := by decide +kernel
theorem dX9_folds_70 : decode cX9_folds 70 = .ok (.iload 8, 2) := by decide +kernel
theorem dX9_folds_72 : decode cX9_folds 72 = .ok (.iastore, 1) := by decide +kernel
theorem dX9_folds_73 : decode cX9_folds 73 = .ok (.aload_n 0, 1) := by decide +kernel
theorem dX9_folds_74 : decode cX9_folds 74 = .ok (.getfield 101, 3) := by decide +kernel
theorem dX9_folds_77 : decode cX9_folds 77 = .ok (.bipush 8, 2) := by decide +kernel
theorem dX9_folds_79 : decode cX9_folds 79 = .ok (.iload_n 2, 1) := by decide +kernel
theorem dX9_folds_80 : decode cX9_folds 80 = .ok (.imul, 1) := by decide +kernel
theorem dX9_folds_81 : decode cX9_folds 81 = .ok (.iload 7, 2) := by decide +kernel
theorem dX9_folds_83 : decode cX9_folds 83 = .ok (.iadd, 1) := by decide +kernel
theorem dX9_folds_84 : decode cX9_folds 84 = .ok (.aload_n 0, 1) := by decide +kernel
theorem dX9_folds_85 : decode cX9_folds 85 = .ok (.getfield 101, 3) := by decide +kernel
theorem dX9_folds_88 : decode cX9_folds 88 = .ok (.bipush 8, 2) := by decide +kernel
theorem dX9_folds_90 : decode cX9_folds 90 = .ok (.iload_n 1, 1) := by decide +kernel
theorem dX9_folds_91 : decode cX9_folds 91 = .ok (.imul, 1) := by decide +kernel
theorem dX9_folds_92 : decode cX9_folds 92 = .ok (.iload 7, 2) := by decide +kernel
theorem dX9_folds_94 : decode cX9_folds 94 = .ok (.iadd, 1) := by decide +kernel
theorem dX9_folds_95 : decode cX9_folds 95 = .ok (.baload, 1) := by decide +kernel
theorem dX9_folds_96 : decode cX9_folds 96 = .ok (.iload 9, 2) := by decide +kernel
theorem dX9_folds_98 : decode cX9_folds 98 = .ok (.if_icmp .eq 7, 3) := by decide +kernel
theorem dX9_folds_101 : decode cX9_folds 101 = .ok (.iconst 1, 1) := by decide +kernel
theorem dX9_folds_102 : decode cX9_folds 102 = .ok (.goto 4, 3) := by decide +kernel
theorem dX9_folds_105 : decode cX9_folds 105 = .ok (.iconst 0, 1) := by decide +kernel
theorem dX9_folds_106 : decode cX9_folds 106 = .ok (.bastore, 1) := by decide +kernel
theorem dX9_folds_107 : decode cX9_folds 107 = .ok (.aload_n 0, 1) := by decide +kernel
theorem dX9_folds_108 : decode cX9_folds 108 = .ok (.getfield 95, 3) := by decide +kernel
theorem dX9_folds_111 : decode cX9_folds 111 = .ok (.bipush 8, 2) := by decide +kernel
theorem dX9_folds_113 : decode cX9_folds 113 = .ok (.iload_n 2, 1) := by decide +kernel
theorem dX9_folds_114 : decode cX9_folds 114 = .ok (.imul, 1) := by decide +kernel
theorem dX9_folds_115 : decode cX9_folds 115 = .ok (.iload 7, 2) := by decide +kernel
theorem dX9_folds_117 : decode cX9_folds 117 = .ok (.iadd, 1) := by decide +kernel
theorem dX9_folds_118 : decode cX9_folds 118 = .ok (.iaload, 1) := by decide +kernel
theorem dX9_folds_119 : decode cX9_folds 119 = .ok (.iload 6, 2) := by decide +kernel
theorem dX9_folds_121 : decode cX9_folds 121 = .ok (.if_icmp .ge 17, 3) := by decide +kernel
theorem dX9_folds_124 : decode cX9_folds 124 = .ok (.aload_n 0, 1) := by decide +kernel
theorem dX9_folds_125 : decode cX9_folds 125 = .ok (.getfield 95, 3) := by decide +kernel
theorem dX9_folds_128 : decode cX9_folds 128 = .ok (.bipush 8, 2) := by decide +kernel
theorem dX9_folds_130 : decode cX9_folds 130 = .ok (.iload_n 2, 1) := by decide +kernel
theorem dX9_folds_131 : decode cX9_folds 131 = .ok (.imul, 1) := by decide +kernel
theorem dX9_folds_132 : decode cX9_folds 132 = .ok (.iload 7, 2) := by decide +kernel
theorem dX9_folds_134 : decode cX9_folds 134 = .ok (.iadd, 1) := by decide +kernel
theorem dX9_folds_135 : decode cX9_folds 135 = .ok (.iaload, 1) := by decide +kernel
theorem dX9_folds_136 : decode cX9_folds 136 = .ok (.istore 6, 2) := by decide +kernel
theorem dX9_folds_138 : decode cX9_folds 138 = .ok (.iinc 7 1, 3) := by decide +kernel
theorem dX9_folds_141 : decode cX9_folds 141 = .ok (.goto (-133), 3) := by decide +kernel
theorem dX9_folds_144 : decode cX9_folds 144 = .ok (.iconst 0, 1) := by decide +kernel
theorem dX9_folds_145 : decode cX9_folds 145 = .ok (.istore 7, 2) := by decide +kernel
theorem dX9_folds_147 : decode cX9_folds 147 = .ok (.iconst 0, 1) := by decide +kernel
theorem dX9_folds_148 : decode cX9_folds 148 = .ok (.istore 8, 2) := by decide +kernel
theorem dX9_folds_150 : decode cX9_folds 150 = .ok (.iload 8, 2) := by decide +kernel
theorem dX9_folds_152 : decode cX9_folds 152 = .ok (.aload_n 0, 1) := by decide +kernel
theorem dX9_folds_153 : decode cX9_folds 153 = .ok (.getfield 189, 3) := by decide +kernel
theorem dX9_folds_156 : decode cX9_folds 156 = .ok (.if_icmp .ge 222, 3) := by decide +kernel
theorem dX9_folds_159 : decode cX9_folds 159 = .ok (.aload_n 0, 1) := by decide +kernel
theorem dX9_folds_160 : decode cX9_folds 160 = .ok (.iload_n 1, 1) := by decide +kernel
theorem dX9_folds_161 : decode cX9_folds 161 = .ok (.iload 8, 2) := by decide +kernel
theorem dX9_folds_163 : decode cX9_folds 163 = .ok (.iload_n 3, 1) := by decide +kernel
theorem dX9_folds_164 : decode cX9_folds 164 = .ok (.iload 4, 2) := by decide +kernel
theorem dX9_folds_166 : decode cX9_folds 166 = .ok (.invokevirtual 305, 3) := by decide +kernel
theorem dX9_folds_169 : decode cX9_folds 169 = .ok (.istore 9, 2) := by decide +kernel
theorem dX9_folds_171 : decode cX9_folds 171 = .ok (.aload_n 0, 1) := by decide +kernel
theorem dX9_folds_172 : decode cX9_folds 172 = .ok (.getfield 95, 3) := by decide +kernel
theorem dX9_folds_175 : decode cX9_folds 175 = .ok (.bipush 8, 2) := by decide +kernel
theorem dX9_folds_177 : decode cX9_folds 177 = .ok (.iload_n 1, 1) := by decide +kernel
theorem dX9_folds_178 : decode cX9_folds 178 = .ok (.imul, 1) := by decide +kernel
theorem dX9_folds_179 : decode cX9_folds 179 = .ok (.iload 8, 2) := by decide +kernel
theorem dX9_folds_181 : decode cX9_folds 181 = .ok (.iadd, 1) := by decide +kernel
theorem dX9_folds_182 : decode cX9_folds 182 = .ok (.iaload, 1) := by decide +kernel
theorem dX9_folds_183 : decode cX9_folds 183 = .ok (.istore 10, 2) := by decide +kernel
theorem dX9_folds_185 : decode cX9_folds 185 = .ok (.aload_n 0, 1) := by decide +kernel
theorem dX9_folds_186 : decode cX9_folds 186 = .ok (.iload_n 1, 1) := by decide +kernel
theorem dX9_folds_187 : decode cX9_folds 187 = .ok (.iconst 2, 1) := by decide +kernel
theorem dX9_folds_188 : decode cX9_folds 188 = .ok (.iload_n 3, 1) := by decide +kernel
theorem dX9_folds_189 : decode cX9_folds 189 = .ok (.imul, 1) := by decide +kernel
theorem dX9_folds_190 : decode cX9_folds 190 = .ok (.iconst 1, 1) := by decide +kernel
theorem dX9_folds_191 : decode cX9_folds 191 = .ok (.isub, 1) := by decide +kernel
theorem dX9_folds_192 : decode cX9_folds 192 = .ok (.iload 10, 2) := by decide +kernel
theorem dX9_folds_194 : decode cX9_folds 194 = .ok (.isub, 1) := by decide +kernel
theorem dX9_folds_195 : decode cX9_folds 195 = .ok (.invokevirtual 309, 3) := by decide +kernel
theorem dX9_folds_198 : decode cX9_folds 198 = .ok (.istore 11, 2) := by decide +kernel
theorem dX9_folds_200 : decode cX9_folds 200 = .ok (.aload_n 0, 1) := by decide +kernel
theorem dX9_folds_201 : decode cX9_folds 201 = .ok (.iload_n 1, 1) := by decide +kernel
theorem dX9_folds_202 : decode cX9_folds 202 = .ok (.iload 10, 2) := by decide +kernel
theorem dX9_folds_204 : decode cX9_folds 204 = .ok (.invokevirtual 309, 3) := by decide +kernel
theorem dX9_folds_207 : decode cX9_folds 207 = .ok (.istore 12, 2) := by decide +kernel
theorem dX9_folds_209 : decode cX9_folds 209 = .ok (.iload 9, 2) := by decide +kernel
theorem dX9_folds_211 : decode cX9_folds 211 = .ok (.ifCond .eq 8, 3) := by decide +kernel
theorem dX9_folds_214 : decode cX9_folds 214 = .ok (.iload 11, 2) := by decide +kernel
theorem dX9_folds_216 : decode cX9_folds 216 = .ok (.goto 5, 3) := by decide +kernel
theorem dX9_folds_219 : decode cX9_folds 219 = .ok (.iload 12, 2) := by decide +kernel
theorem dX9_folds_221 : decode cX9_folds 221 = .ok (.istore 13, 2) := by decide +kernel
theorem dX9_folds_223 : decode cX9_folds 223 = .ok (.iload 5, 2) := by decide +kernel
theorem dX9_folds_225 : decode cX9_folds 225 = .ok (.ifCond .ne 8, 3) := by decide +kernel
theorem dX9_folds_228 : decode cX9_folds 228 = .ok (.iload 13, 2) := by decide +kernel
theorem dX9_folds_230 : decode cX9_folds 230 = .ok (.goto 31, 3) := by decide +kernel
theorem dX9_folds_233 : decode cX9_folds 233 = .ok (.iload 5, 2) := by decide +kernel
theorem dX9_folds_235 : decode cX9_folds 235 = .ok (.iconst 1, 1) := by decide +kernel
theorem dX9_folds_236 : decode cX9_folds 236 = .ok (.if_icmp .ne 7, 3) := by decide +kernel
theorem dX9_folds_239 : decode cX9_folds 239 = .ok (.iconst 0, 1) := by decide +kernel
theorem dX9_folds_240 : decode cX9_folds 240 = .ok (.goto 21, 3) := by decide +kernel
theorem dX9_folds_243 : decode cX9_folds 243 = .ok (.iload 5, 2) := by decide +kernel
theorem dX9_folds_245 : decode cX9_folds 245 = .ok (.iconst 2, 1) := by decide +kernel
theorem dX9_folds_246 : decode cX9_folds 246 = .ok (.isub, 1) := by decide +kernel
theorem dX9_folds_247 : decode cX9_folds 247 = .ok (.iload 13, 2) := by decide +kernel
theorem dX9_folds_249 : decode cX9_folds 249 = .ok (.if_icmp .ge 10, 3) := by decide +kernel
theorem dX9_folds_252 : decode cX9_folds 252 = .ok (.iload 5, 2) := by decide +kernel
theorem dX9_folds_254 : decode cX9_folds 254 = .ok (.iconst 2, 1) := by decide +kernel
theorem dX9_folds_255 : decode cX9_folds 255 = .ok (.isub, 1) := by decide +kernel
theorem dX9_folds_256 : decode cX9_folds 256 = .ok (.goto 5, 3) := by decide +kernel
theorem dX9_folds_259 : decode cX9_folds 259 = .ok (.iload 13, 2) := by decide +kernel
theorem dX9_folds_261 : decode cX9_folds 261 = .ok (.istore 14, 2) := by decide +kernel
theorem dX9_folds_263 : decode cX9_folds 263 = .ok (.aload_n 0, 1) := by decide +kernel
theorem dX9_folds_264 : decode cX9_folds 264 = .ok (.getfield 98, 3) := by decide +kernel
theorem dX9_folds_267 : decode cX9_folds 267 = .ok (.bipush 8, 2) := by decide +kernel
theorem dX9_folds_269 : decode cX9_folds 269 = .ok (.iload_n 1, 1) := by decide +kernel
theorem dX9_folds_270 : decode cX9_folds 270 = .ok (.imul, 1) := by decide +kernel
theorem dX9_folds_271 : decode cX9_folds 271 = .ok (.iload 8, 2) := by decide +kernel
theorem dX9_folds_273 : decode cX9_folds 273 = .ok (.iadd, 1) := by decide +kernel
theorem dX9_folds_274 : decode cX9_folds 274 = .ok (.iaload, 1) := by decide +kernel
theorem dX9_folds_275 : decode cX9_folds 275 = .ok (.istore 15, 2) := by decide +kernel
theorem dX9_folds_277 : decode cX9_folds 277 = .ok (.aload_n 0, 1) := by decide +kernel
theorem dX9_folds_278 : decode cX9_folds 278 = .ok (.getfield 98, 3) := by decide +kernel
theorem dX9_folds_281 : decode cX9_folds 281 = .ok (.bipush 8, 2) := by decide +kernel
theorem dX9_folds_283 : decode cX9_folds 283 = .ok (.iload_n 2, 1) := by decide +kernel
theorem dX9_folds_284 : decode cX9_folds 284 = .ok (.imul, 1) := by decide +kernel
theorem dX9_folds_285 : decode cX9_folds 285 = .ok (.iload 8, 2) := by decide +kernel
theorem dX9_folds_287 : decode cX9_folds 287 = .ok (.iadd, 1) := by decide +kernel
theorem dX9_folds_288 : decode cX9_folds 288 = .ok (.iload 9, 2) := by decide +kernel
theorem dX9_folds_290 : decode cX9_folds 290 = .ok (.ifCond .eq 16, 3) := by decide +kernel
theorem dX9_folds_293 : decode cX9_folds 293 = .ok (.iload 14, 2) := by decide +kernel
theorem dX9_folds_295 : decode cX9_folds 295 = .ok (.iload 12, 2) := by decide +kernel
theorem dX9_folds_297 : decode cX9_folds 297 = .ok (.iadd, 1) := by decide +kernel
theorem dX9_folds_298 : decode cX9_folds 298 = .ok (.iconst 1, 1) := by decide +kernel
theorem dX9_folds_299 : decode cX9_folds 299 = .ok (.isub, 1) := by decide +kernel
theorem dX9_folds_300 : decode cX9_folds 300 = .ok (.iload 15, 2) := by decide +kernel
theorem dX9_folds_302 : decode cX9_folds 302 = .ok (.isub, 1) := by decide +kernel
theorem dX9_folds_303 : decode cX9_folds 303 = .ok (.goto 20, 3) := by decide +kernel
theorem dX9_folds_306 : decode cX9_folds 306 = .ok (.iload 15, 2) := by decide +kernel
theorem dX9_folds_308 : decode cX9_folds 308 = .ok (.iload 14, 2) := by decide +kernel
theorem dX9_folds_310 : decode cX9_folds 310 = .ok (.if_icmp .ge 8, 3) := by decide +kernel
theorem dX9_folds_313 : decode cX9_folds 313 = .ok (.iload 15, 2) := by decide +kernel
theorem dX9_folds_315 : decode cX9_folds 315 = .ok (.goto 8, 3) := by decide +kernel
theorem dX9_folds_318 : decode cX9_folds 318 = .ok (.iload 15, 2) := by decide +kernel
theorem dX9_folds_320 : decode cX9_folds 320 = .ok (.iload 11, 2) := by decide +kernel
theorem dX9_folds_322 : decode cX9_folds 322 = .ok (.iadd, 1) := by decide +kernel
theorem dX9_folds_323 : decode cX9_folds 323 = .ok (.iastore, 1) := by decide +kernel
theorem dX9_folds_324 : decode cX9_folds 324 = .ok (.aload_n 0, 1) := by decide +kernel
theorem dX9_folds_325 : decode cX9_folds 325 = .ok (.getfield 95, 3) := by decide +kernel
theorem dX9_folds_328 : decode cX9_folds 328 = .ok (.bipush 8, 2) := by decide +kernel
theorem dX9_folds_330 : decode cX9_folds 330 = .ok (.iload_n 2, 1) := by decide +kernel
theorem dX9_folds_331 : decode cX9_folds 331 = .ok (.imul, 1) := by decide +kernel
theorem dX9_folds_332 : decode cX9_folds 332 = .ok (.iload 8, 2) := by decide +kernel
theorem dX9_folds_334 : decode cX9_folds 334 = .ok (.iadd, 1) := by decide +kernel
theorem dX9_folds_335 : decode cX9_folds 335 = .ok (.dup2, 1) := by decide +kernel
theorem dX9_folds_336 : decode cX9_folds 336 = .ok (.iaload, 1) := by decide +kernel
theorem dX9_folds_337 : decode cX9_folds 337 = .ok (.iload 6, 2) := by decide +kernel
theorem dX9_folds_339 : decode cX9_folds 339 = .ok (.isub, 1) := by decide +kernel
theorem dX9_folds_340 : decode cX9_folds 340 = .ok (.iastore, 1) := by decide +kernel
theorem dX9_folds_341 : decode cX9_folds 341 = .ok (.aload_n 0, 1) := by decide +kernel
theorem dX9_folds_342 : decode cX9_folds 342 = .ok (.getfield 95, 3) := by decide +kernel
theorem dX9_folds_345 : decode cX9_folds 345 = .ok (.bipush 8, 2) := by decide +kernel
theorem dX9_folds_347 : decode cX9_folds 347 = .ok (.iload_n 2, 1) := by decide +kernel
theorem dX9_folds_348 : decode cX9_folds 348 = .ok (.imul, 1) := by decide +kernel
theorem dX9_folds_349 : decode cX9_folds 349 = .ok (.iload 8, 2) := by decide +kernel
theorem dX9_folds_351 : decode cX9_folds 351 = .ok (.iadd, 1) := by decide +kernel
theorem dX9_folds_352 : decode cX9_folds 352 = .ok (.iaload, 1) := by decide +kernel
theorem dX9_folds_353 : decode cX9_folds 353 = .ok (.iload 7, 2) := by decide +kernel
theorem dX9_folds_355 : decode cX9_folds 355 = .ok (.if_icmp .le 17, 3) := by decide +kernel
theorem dX9_folds_358 : decode cX9_folds 358 = .ok (.aload_n 0, 1) := by decide +kernel
theorem dX9_folds_359 : decode cX9_folds 359 = .ok (.getfield 95, 3) := by decide +kernel
theorem dX9_folds_362 : decode cX9_folds 362 = .ok (.bipush 8, 2) := by decide +kernel
theorem dX9_folds_364 : decode cX9_folds 364 = .ok (.iload_n 2, 1) := by decide +kernel
theorem dX9_folds_365 : decode cX9_folds 365 = .ok (.imul, 1) := by decide +kernel
theorem dX9_folds_366 : decode cX9_folds 366 = .ok (.iload 8, 2) := by decide +kernel
theorem dX9_folds_368 : decode cX9_folds 368 = .ok (.iadd, 1) := by decide +kernel
theorem dX9_folds_369 : decode cX9_folds 369 = .ok (.iaload, 1) := by decide +kernel
theorem dX9_folds_370 : decode cX9_folds 370 = .ok (.istore 7, 2) := by decide +kernel
theorem dX9_folds_372 : decode cX9_folds 372 = .ok (.iinc 8 1, 3) := by decide +kernel
theorem dX9_folds_375 : decode cX9_folds 375 = .ok (.goto (-225), 3) := by decide +kernel
theorem dX9_folds_378 : decode cX9_folds 378 = .ok (.aload_n 0, 1) := by decide +kernel
theorem dX9_folds_379 : decode cX9_folds 379 = .ok (.getfield 92, 3) := by decide +kernel
theorem dX9_folds_382 : decode cX9_folds 382 = .ok (.iload_n 2, 1) := by decide +kernel
theorem dX9_folds_383 : decode cX9_folds 383 = .ok (.iload 7, 2) := by decide +kernel
theorem dX9_folds_385 : decode cX9_folds 385 = .ok (.iconst 1, 1) := by decide +kernel
theorem dX9_folds_386 : decode cX9_folds 386 = .ok (.iadd, 1) := by decide +kernel
theorem dX9_folds_387 : decode cX9_folds 387 = .ok (.iastore, 1) := by decide +kernel
theorem dX9_folds_388 : decode cX9_folds 388 = .ok (.iconst 0, 1) := by decide +kernel
theorem dX9_folds_389 : decode cX9_folds 389 = .ok (.istore 8, 2) := by decide +kernel
theorem dX9_folds_391 : decode cX9_folds 391 = .ok (.iload 5, 2) := by decide +kernel
theorem dX9_folds_393 : decode cX9_folds 393 = .ok (.ifCond .eq 9, 3) := by decide +kernel
theorem dX9_folds_396 : decode cX9_folds 396 = .ok (.iload 5, 2) := by decide +kernel
theorem dX9_folds_398 : decode cX9_folds 398 = .ok (.iconst 2, 1) := by decide +kernel
theorem dX9_folds_399 : decode cX9_folds 399 = .ok (.if_icmp .le 7, 3) := by decide +kernel
theorem dX9_folds_402 : decode cX9_folds 402 = .ok (.iconst 1, 1) := by decide +kernel
theorem dX9_folds_403 : decode cX9_folds 403 = .ok (.goto 4, 3) := by decide +kernel
theorem dX9_folds_406 : decode cX9_folds 406 = .ok (.iconst 0, 1) := by decide +kernel
theorem dX9_folds_407 : decode cX9_folds 407 = .ok (.istore 9, 2) := by decide +kernel
theorem dX9_folds_409 : decode cX9_folds 409 = .ok (.iconst 0, 1) := by decide +kernel
theorem dX9_folds_410 : decode cX9_folds 410 = .ok (.istore 10, 2) := by decide +kernel
theorem dX9_folds_412 : decode cX9_folds 412 = .ok (.iload 10, 2) := by decide +kernel
theorem dX9_folds_414 : decode cX9_folds 414 = .ok (.iconst 1, 1) := by decide +kernel
theorem dX9_folds_415 : decode cX9_folds 415 = .ok (.iadd, 1) := by decide +kernel
theorem dX9_folds_416 : decode cX9_folds 416 = .ok (.aload_n 0, 1) := by decide +kernel
theorem dX9_folds_417 : decode cX9_folds 417 = .ok (.getfield 189, 3) := by decide +kernel
theorem dX9_folds_420 : decode cX9_folds 420 = .ok (.if_icmp .ge 98, 3) := by decide +kernel
theorem dX9_folds_423 : decode cX9_folds 423 = .ok (.aload_n 0, 1) := by decide +kernel
theorem dX9_folds_424 : decode cX9_folds 424 = .ok (.getfield 95, 3) := by decide +kernel
theorem dX9_folds_427 : decode cX9_folds 427 = .ok (.bipush 8, 2) := by decide +kernel
theorem dX9_folds_429 : decode cX9_folds 429 = .ok (.iload_n 1, 1) := by decide +kernel
theorem dX9_folds_430 : decode cX9_folds 430 = .ok (.imul, 1) := by decide +kernel
theorem dX9_folds_431 : decode cX9_folds 431 = .ok (.iload 10, 2) := by decide +kernel
theorem dX9_folds_433 : decode cX9_folds 433 = .ok (.iadd, 1) := by decide +kernel
theorem dX9_folds_434 : decode cX9_folds 434 = .ok (.iaload, 1) := by decide +kernel
theorem dX9_folds_435 : decode cX9_folds 435 = .ok (.aload_n 0, 1) := by decide +kernel
theorem dX9_folds_436 : decode cX9_folds 436 = .ok (.getfield 95, 3) := by decide +kernel
theorem dX9_folds_439 : decode cX9_folds 439 = .ok (.bipush 8, 2) := by decide +kernel
theorem dX9_folds_441 : decode cX9_folds 441 = .ok (.iload_n 1, 1) := by decide +kernel
theorem dX9_folds_442 : decode cX9_folds 442 = .ok (.imul, 1) := by decide +kernel
theorem dX9_folds_443 : decode cX9_folds 443 = .ok (.iload 10, 2) := by decide +kernel
theorem dX9_folds_445 : decode cX9_folds 445 = .ok (.iadd, 1) := by decide +kernel
theorem dX9_folds_446 : decode cX9_folds 446 = .ok (.iconst 1, 1) := by decide +kernel
theorem dX9_folds_447 : decode cX9_folds 447 = .ok (.iadd, 1) := by decide +kernel
theorem dX9_folds_448 : decode cX9_folds 448 = .ok (.iaload, 1) := by decide +kernel
theorem dX9_folds_449 : decode cX9_folds 449 = .ok (.if_icmp .eq 63, 3) := by decide +kernel
theorem dX9_folds_452 : decode cX9_folds 452 = .ok (.aload_n 0, 1) := by decide +kernel
theorem dX9_folds_453 : decode cX9_folds 453 = .ok (.iload_n 1, 1) := by decide +kernel
theorem dX9_folds_454 : decode cX9_folds 454 = .ok (.iload 10, 2) := by decide +kernel
theorem dX9_folds_456 : decode cX9_folds 456 = .ok (.iload_n 3, 1) := by decide +kernel
theorem dX9_folds_457 : decode cX9_folds 457 = .ok (.iload 4, 2) := by decide +kernel
theorem dX9_folds_459 : decode cX9_folds 459 = .ok (.invokevirtual 305, 3) := by decide +kernel
theorem dX9_folds_462 : decode cX9_folds 462 = .ok (.aload_n 0, 1) := by decide +kernel
theorem dX9_folds_463 : decode cX9_folds 463 = .ok (.iload_n 1, 1) := by decide +kernel
theorem dX9_folds_464 : decode cX9_folds 464 = .ok (.iload 10, 2) := by decide +kernel
theorem dX9_folds_466 : decode cX9_folds 466 = .ok (.iconst 1, 1) := by decide +kernel
theorem dX9_folds_467 : decode cX9_folds 467 = .ok (.iadd, 1) := by decide +kernel
theorem dX9_folds_468 : decode cX9_folds 468 = .ok (.iload_n 3, 1) := by decide +kernel
theorem dX9_folds_469 : decode cX9_folds 469 = .ok (.iload 4, 2) := by decide +kernel
theorem dX9_folds_471 : decode cX9_folds 471 = .ok (.invokevirtual 305, 3) := by decide +kernel
theorem dX9_folds_474 : decode cX9_folds 474 = .ok (.if_icmp .ne 6, 3) := by decide +kernel
theorem dX9_folds_477 : decode cX9_folds 477 = .ok (.goto 35, 3) := by decide +kernel
theorem dX9_folds_480 : decode cX9_folds 480 = .ok (.iload 8, 2) := by decide +kernel
theorem dX9_folds_482 : decode cX9_folds 482 = .ok (.aload_n 0, 1) := by decide +kernel
theorem dX9_folds_483 : decode cX9_folds 483 = .ok (.getfield 101, 3) := by decide +kernel
theorem dX9_folds_486 : decode cX9_folds 486 = .ok (.bipush 8, 2) := by decide +kernel
theorem dX9_folds_488 : decode cX9_folds 488 = .ok (.iload_n 1, 1) := by decide +kernel
theorem dX9_folds_489 : decode cX9_folds 489 = .ok (.imul, 1) := by decide +kernel
theorem dX9_folds_490 : decode cX9_folds 490 = .ok (.iload 10, 2) := by decide +kernel
theorem dX9_folds_492 : decode cX9_folds 492 = .ok (.iadd, 1) := by decide +kernel
theorem dX9_folds_493 : decode cX9_folds 493 = .ok (.baload, 1) := by decide +kernel
theorem dX9_folds_494 : decode cX9_folds 494 = .ok (.iload 9, 2) := by decide +kernel
theorem dX9_folds_496 : decode cX9_folds 496 = .ok (.if_icmp .ne 7, 3) := by decide +kernel
theorem dX9_folds_499 : decode cX9_folds 499 = .ok (.iconst 1, 1) := by decide +kernel
theorem dX9_folds_500 : decode cX9_folds 500 = .ok (.goto 4, 3) := by decide +kernel
theorem dX9_folds_503 : decode cX9_folds 503 = .ok (.iconst 2, 1) := by decide +kernel
theorem dX9_folds_504 : decode cX9_folds 504 = .ok (.iconst 2, 1) := by decide +kernel
theorem dX9_folds_505 : decode cX9_folds 505 = .ok (.iload 10, 2) := by decide +kernel
theorem dX9_folds_507 : decode cX9_folds 507 = .ok (.imul, 1) := by decide +kernel
theorem dX9_folds_508 : decode cX9_folds 508 = .ok (.ishl, 1) := by decide +kernel
theorem dX9_folds_509 : decode cX9_folds 509 = .ok (.ior, 1) := by decide +kernel
theorem dX9_folds_510 : decode cX9_folds 510 = .ok (.istore 8, 2) := by decide +kernel
theorem dX9_folds_512 : decode cX9_folds 512 = .ok (.iinc 10 1, 3) := by decide +kernel
theorem dX9_folds_515 : decode cX9_folds 515 = .ok (.goto (-103), 3) := by decide +kernel
theorem dX9_folds_518 : decode cX9_folds 518 = .ok (.iload 8, 2) := by decide +kernel
theorem dX9_folds_520 : decode cX9_folds 520 = .ok (.ireturn, 1) := by decide +kernel
theorem dX9_isCrease_0 : decode cX9_isCrease 0 = .ok (.iload_n 2, 1) := by decide +kernel
theorem dX9_isCrease_1 : decode cX9_isCrease 1 = .ok (.ifCond .lt 44, 3) := by decide +kernel
theorem dX9_isCrease_4 : decode cX9_isCrease 4 = .ok (.iload_n 2, 1) := by decide +kernel
theorem dX9_isCrease_5 : decode cX9_isCrease 5 = .ok (.iconst 1, 1) := by decide +kernel
theorem dX9_isCrease_6 : decode cX9_isCrease 6 = .ok (.iadd, 1) := by decide +kernel
theorem dX9_isCrease_7 : decode cX9_isCrease 7 = .ok (.aload_n 0, 1) := by decide +kernel
theorem dX9_isCrease_8 : decode cX9_isCrease 8 = .ok (.getfield 189, 3) := by decide +kernel
theorem dX9_isCrease_11 : decode cX9_isCrease 11 = .ok (.if_icmp .ge 34, 3) := by decide +kernel
theorem dX9_isCrease_14 : decode cX9_isCrease 14 = .ok (.aload_n 0, 1) := by decide +kernel
theorem dX9_isCrease_15 : decode cX9_isCrease 15 = .ok (.getfield 95, 3) := by decide +kernel
theorem dX9_isCrease_18 : decode cX9_isCrease 18 = .ok (.bipush 8, 2) := by decide +kernel
theorem dX9_isCrease_20 : decode cX9_isCrease 20 = .ok (.iload_n 1, 1) := by decide +kernel
theorem dX9_isCrease_21 : decode cX9_isCrease 21 = .ok (.imul, 1) := by decide +kernel
theorem dX9_isCrease_22 : decode cX9_isCrease 22 = .ok (.iload_n 2, 1) := by decide +kernel
theorem dX9_isCrease_23 : decode cX9_isCrease 23 = .ok (.iadd, 1) := by decide +kernel
theorem dX9_isCrease_24 : decode cX9_isCrease 24 = .ok (.iaload, 1) := by decide +kernel
theorem dX9_isCrease_25 : decode cX9_isCrease 25 = .ok (.aload_n 0, 1) := by decide +kernel
theorem dX9_isCrease_26 : decode cX9_isCrease 26 = .ok (.getfield 95, 3) := by decide +kernel
theorem dX9_isCrease_29 : decode cX9_isCrease 29 = .ok (.bipush 8, 2) := by decide +kernel
theorem dX9_isCrease_31 : decode cX9_isCrease 31 = .ok (.iload_n 1, 1) := by decide +kernel
theorem dX9_isCrease_32 : decode cX9_isCrease 32 = .ok (.imul, 1) := by decide +kernel
theorem dX9_isCrease_33 : decode cX9_isCrease 33 = .ok (.iload_n 2, 1) := by decide +kernel
theorem dX9_isCrease_34 : decode cX9_isCrease 34 = .ok (.iadd, 1) := by decide +kernel
theorem dX9_isCrease_35 : decode cX9_isCrease 35 = .ok (.iconst 1, 1) := by decide +kernel
theorem dX9_isCrease_36 : decode cX9_isCrease 36 = .ok (.iadd, 1) := by decide +kernel
theorem dX9_isCrease_37 : decode cX9_isCrease 37 = .ok (.iaload, 1) := by decide +kernel
theorem dX9_isCrease_38 : decode cX9_isCrease 38 = .ok (.if_icmp .ne 7, 3) := by decide +kernel
theorem dX9_isCrease_41 : decode cX9_isCrease 41 = .ok (.iconst 1, 1) := by decide +kernel
theorem dX9_isCrease_42 : decode cX9_isCrease 42 = .ok (.goto 4, 3) := by decide +kernel
theorem dX9_isCrease_45 : decode cX9_isCrease 45 = .ok (.iconst 0, 1) := by decide +kernel
theorem dX9_isCrease_46 : decode cX9_isCrease 46 = .ok (.ireturn, 1) := by decide +kernel
theorem dX9_isFlat_0 : decode cX9_isFlat 0 = .ok (.iload_n 2, 1) := by decide +kernel
theorem dX9_isFlat_1 : decode cX9_isFlat 1 = .ok (.ifCond .lt 44, 3) := by decide +kernel
theorem dX9_isFlat_4 : decode cX9_isFlat 4 = .ok (.iload_n 2, 1) := by decide +kernel
theorem dX9_isFlat_5 : decode cX9_isFlat 5 = .ok (.iconst 1, 1) := by decide +kernel
theorem dX9_isFlat_6 : decode cX9_isFlat 6 = .ok (.iadd, 1) := by decide +kernel
theorem dX9_isFlat_7 : decode cX9_isFlat 7 = .ok (.aload_n 0, 1) := by decide +kernel
theorem dX9_isFlat_8 : decode cX9_isFlat 8 = .ok (.getfield 189, 3) := by decide +kernel
theorem dX9_isFlat_11 : decode cX9_isFlat 11 = .ok (.if_icmp .ge 34, 3) := by decide +kernel
theorem dX9_isFlat_14 : decode cX9_isFlat 14 = .ok (.aload_n 0, 1) := by decide +kernel
theorem dX9_isFlat_15 : decode cX9_isFlat 15 = .ok (.getfield 95, 3) := by decide +kernel
theorem dX9_isFlat_18 : decode cX9_isFlat 18 = .ok (.bipush 8, 2) := by decide +kernel
theorem dX9_isFlat_20 : decode cX9_isFlat 20 = .ok (.iload_n 1, 1) := by decide +kernel
theorem dX9_isFlat_21 : decode cX9_isFlat 21 = .ok (.imul, 1) := by decide +kernel
theorem dX9_isFlat_22 : decode cX9_isFlat 22 = .ok (.iload_n 2, 1) := by decide +kernel
theorem dX9_isFlat_23 : decode cX9_isFlat 23 = .ok (.iadd, 1) := by decide +kernel
theorem dX9_isFlat_24 : decode cX9_isFlat 24 = .ok (.iaload, 1) := by decide +kernel
theorem dX9_isFlat_25 : decode cX9_isFlat 25 = .ok (.aload_n 0, 1) := by decide +kernel
theorem dX9_isFlat_26 : decode cX9_isFlat 26 = .ok (.getfield 95, 3) := by decide +kernel
theorem dX9_isFlat_29 : decode cX9_isFlat 29 = .ok (.bipush 8, 2) := by decide +kernel
theorem dX9_isFlat_31 : decode cX9_isFlat 31 = .ok (.iload_n 1, 1) := by decide +kernel
theorem dX9_isFlat_32 : decode cX9_isFlat 32 = .ok (.imul, 1) := by decide +kernel
theorem dX9_isFlat_33 : decode cX9_isFlat 33 = .ok (.iload_n 2, 1) := by decide +kernel
theorem dX9_isFlat_34 : decode cX9_isFlat 34 = .ok (.iadd, 1) := by decide +kernel
theorem dX9_isFlat_35 : decode cX9_isFlat 35 = .ok (.iconst 1, 1) := by decide +kernel
theorem dX9_isFlat_36 : decode cX9_isFlat 36 = .ok (.iadd, 1) := by decide +kernel
theorem dX9_isFlat_37 : decode cX9_isFlat 37 = .ok (.iaload, 1) := by decide +kernel
theorem dX9_isFlat_38 : decode cX9_isFlat 38 = .ok (.if_icmp .eq 7, 3) := by decide +kernel
theorem dX9_isFlat_41 : decode cX9_isFlat 41 = .ok (.iconst 1, 1) := by decide +kernel
theorem dX9_isFlat_42 : decode cX9_isFlat 42 = .ok (.goto 4, 3) := by decide +kernel
theorem dX9_isFlat_45 : decode cX9_isFlat 45 = .ok (.iconst 0, 1) := by decide +kernel
theorem dX9_isFlat_46 : decode cX9_isFlat 46 = .ok (.ireturn, 1) := by decide +kernel
theorem dX9_low_0 : decode cX9_low 0 = .ok (.aload_n 0, 1) := by decide +kernel
theorem dX9_low_1 : decode cX9_low 1 = .ok (.getfield 98, 3) := by decide +kernel
theorem dX9_low_4 : decode cX9_low 4 = .ok (.bipush 8, 2) := by decide +kernel
theorem dX9_low_6 : decode cX9_low 6 = .ok (.iload_n 1, 1) := by decide +kernel
theorem dX9_low_7 : decode cX9_low 7 = .ok (.imul, 1) := by decide +kernel
theorem dX9_low_8 : decode cX9_low 8 = .ok (.iload_n 2, 1) := by decide +kernel
theorem dX9_low_9 : decode cX9_low 9 = .ok (.iadd, 1) := by decide +kernel
theorem dX9_low_10 : decode cX9_low 10 = .ok (.iaload, 1) := by decide +kernel
theorem dX9_low_11 : decode cX9_low 11 = .ok (.aload_n 0, 1) := by decide +kernel
theorem dX9_low_12 : decode cX9_low 12 = .ok (.getfield 98, 3) := by decide +kernel
theorem dX9_low_15 : decode cX9_low 15 = .ok (.bipush 8, 2) := by decide +kernel
theorem dX9_low_17 : decode cX9_low 17 = .ok (.iload_n 1, 1) := by decide +kernel
theorem dX9_low_18 : decode cX9_low 18 = .ok (.imul, 1) := by decide +kernel
theorem dX9_low_19 : decode cX9_low 19 = .ok (.iload_n 2, 1) := by decide +kernel
theorem dX9_low_20 : decode cX9_low 20 = .ok (.iadd, 1) := by decide +kernel
theorem dX9_low_21 : decode cX9_low 21 = .ok (.iconst 1, 1) := by decide +kernel
theorem dX9_low_22 : decode cX9_low 22 = .ok (.iadd, 1) := by decide +kernel
theorem dX9_low_23 : decode cX9_low 23 = .ok (.iaload, 1) := by decide +kernel
theorem dX9_low_24 : decode cX9_low 24 = .ok (.if_icmp .ge 17, 3) := by decide +kernel
theorem dX9_low_27 : decode cX9_low 27 = .ok (.aload_n 0, 1) := by decide +kernel
theorem dX9_low_28 : decode cX9_low 28 = .ok (.getfield 98, 3) := by decide +kernel
theorem dX9_low_31 : decode cX9_low 31 = .ok (.bipush 8, 2) := by decide +kernel
theorem dX9_low_33 : decode cX9_low 33 = .ok (.iload_n 1, 1) := by decide +kernel
theorem dX9_low_34 : decode cX9_low 34 = .ok (.imul, 1) := by decide +kernel
theorem dX9_low_35 : decode cX9_low 35 = .ok (.iload_n 2, 1) := by decide +kernel
theorem dX9_low_36 : decode cX9_low 36 = .ok (.iadd, 1) := by decide +kernel
theorem dX9_low_37 : decode cX9_low 37 = .ok (.iaload, 1) := by decide +kernel
theorem dX9_low_38 : decode cX9_low 38 = .ok (.goto 16, 3) := by decide +kernel
theorem dX9_low_41 : decode cX9_low 41 = .ok (.aload_n 0, 1) := by decide +kernel
theorem dX9_low_42 : decode cX9_low 42 = .ok (.getfield 98, 3) := by decide +kernel
theorem dX9_low_45 : decode cX9_low 45 = .ok (.bipush 8, 2) := by decide +kernel
theorem dX9_low_47 : decode cX9_low 47 = .ok (.iload_n 1, 1) := by decide +kernel
theorem dX9_low_48 : decode cX9_low 48 = .ok (.imul, 1) := by decide +kernel
theorem dX9_low_49 : decode cX9_low 49 = .ok (.iload_n 2, 1) := by decide +kernel
theorem dX9_low_50 : decode cX9_low 50 = .ok (.iadd, 1) := by decide +kernel
theorem dX9_low_51 : decode cX9_low 51 = .ok (.iconst 1, 1) := by decide +kernel
theorem dX9_low_52 : decode cX9_low 52 = .ok (.iadd, 1) := by decide +kernel
theorem dX9_low_53 : decode cX9_low 53 = .ok (.iaload, 1) := by decide +kernel
theorem dX9_low_54 : decode cX9_low 54 = .ok (.ireturn, 1) := by decide +kernel
theorem dX9_high_0 : decode cX9_high 0 = .ok (.aload_n 0, 1) := by decide +kernel
theorem dX9_high_1 : decode cX9_high 1 = .ok (.getfield 98, 3) := by decide +kernel
theorem dX9_high_4 : decode cX9_high 4 = .ok (.bipush 8, 2) := by decide +kernel
theorem dX9_high_6 : decode cX9_high 6 = .ok (.iload_n 1, 1) := by decide +kernel
theorem dX9_high_7 : decode cX9_high 7 = .ok (.imul, 1) := by decide +kernel
theorem dX9_high_8 : decode cX9_high 8 = .ok (.iload_n 2, 1) := by decide +kernel
theorem dX9_high_9 : decode cX9_high 9 = .ok (.iadd, 1) := by decide +kernel
theorem dX9_high_10 : decode cX9_high 10 = .ok (.iaload, 1) := by decide +kernel
theorem dX9_high_11 : decode cX9_high 11 = .ok (.aload_n 0, 1) := by decide +kernel
theorem dX9_high_12 : decode cX9_high 12 = .ok (.getfield 98, 3) := by decide +kernel
theorem dX9_high_15 : decode cX9_high 15 = .ok (.bipush 8, 2) := by decide +kernel
theorem dX9_high_17 : decode cX9_high 17 = .ok (.iload_n 1, 1) := by decide +kernel
theorem dX9_high_18 : decode cX9_high 18 = .ok (.imul, 1) := by decide +kernel
theorem dX9_high_19 : decode cX9_high 19 = .ok (.iload_n 2, 1) := by decide +kernel
theorem dX9_high_20 : decode cX9_high 20 = .ok (.iadd, 1) := by decide +kernel
theorem dX9_high_21 : decode cX9_high 21 = .ok (.iconst 1, 1) := by decide +kernel
theorem dX9_high_22 : decode cX9_high 22 = .ok (.iadd, 1) := by decide +kernel
theorem dX9_high_23 : decode cX9_high 23 = .ok (.iaload, 1) := by decide +kernel
theorem dX9_high_24 : decode cX9_high 24 = .ok (.if_icmp .ge 19, 3) := by decide +kernel
theorem dX9_high_27 : decode cX9_high 27 = .ok (.aload_n 0, 1) := by decide +kernel
theorem dX9_high_28 : decode cX9_high 28 = .ok (.getfield 98, 3) := by decide +kernel
theorem dX9_high_31 : decode cX9_high 31 = .ok (.bipush 8, 2) := by decide +kernel
theorem dX9_high_33 : decode cX9_high 33 = .ok (.iload_n 1, 1) := by decide +kernel
theorem dX9_high_34 : decode cX9_high 34 = .ok (.imul, 1) := by decide +kernel
theorem dX9_high_35 : decode cX9_high 35 = .ok (.iload_n 2, 1) := by decide +kernel
theorem dX9_high_36 : decode cX9_high 36 = .ok (.iadd, 1) := by decide +kernel
theorem dX9_high_37 : decode cX9_high 37 = .ok (.iconst 1, 1) := by decide +kernel
theorem dX9_high_38 : decode cX9_high 38 = .ok (.iadd, 1) := by decide +kernel
theorem dX9_high_39 : decode cX9_high 39 = .ok (.iaload, 1) := by decide +kernel
theorem dX9_high_40 : decode cX9_high 40 = .ok (.goto 14, 3) := by decide +kernel
theorem dX9_high_43 : decode cX9_high 43 = .ok (.aload_n 0, 1) := by decide +kernel
theorem dX9_high_44 : decode cX9_high 44 = .ok (.getfield 98, 3) := by decide +kernel
theorem dX9_high_47 : decode cX9_high 47 = .ok (.bipush 8, 2) := by decide +kernel
theorem dX9_high_49 : decode cX9_high 49 = .ok (.iload_n 1, 1) := by decide +kernel
theorem dX9_high_50 : decode cX9_high 50 = .ok (.imul, 1) := by decide +kernel
theorem dX9_high_51 : decode cX9_high 51 = .ok (.iload_n 2, 1) := by decide +kernel
theorem dX9_high_52 : decode cX9_high 52 = .ok (.iadd, 1) := by decide +kernel
theorem dX9_high_53 : decode cX9_high 53 = .ok (.iaload, 1) := by decide +kernel
theorem dX9_high_54 : decode cX9_high 54 = .ok (.ireturn, 1) := by decide +kernel
theorem dX9_goesOn_0 : decode cX9_goesOn 0 = .ok (.aload_n 0, 1) := by decide +kernel
theorem dX9_goesOn_1 : decode cX9_goesOn 1 = .ok (.getfield 95, 3) := by decide +kernel
theorem dX9_goesOn_4 : decode cX9_goesOn 4 = .ok (.bipush 8, 2) := by decide +kernel
theorem dX9_goesOn_6 : decode cX9_goesOn 6 = .ok (.iload_n 1, 1) := by decide +kernel
theorem dX9_goesOn_7 : decode cX9_goesOn 7 = .ok (.imul, 1) := by decide +kernel
theorem dX9_goesOn_8 : decode cX9_goesOn 8 = .ok (.iload_n 2, 1) := by decide +kernel
theorem dX9_goesOn_9 : decode cX9_goesOn 9 = .ok (.iadd, 1) := by decide +kernel
theorem dX9_goesOn_10 : decode cX9_goesOn 10 = .ok (.iaload, 1) := by decide +kernel
theorem dX9_goesOn_11 : decode cX9_goesOn 11 = .ok (.iload_n 3, 1) := by decide +kernel
theorem dX9_goesOn_12 : decode cX9_goesOn 12 = .ok (.ifCond .eq 7, 3) := by decide +kernel
theorem dX9_goesOn_15 : decode cX9_goesOn 15 = .ok (.iconst 1, 1) := by decide +kernel
theorem dX9_goesOn_16 : decode cX9_goesOn 16 = .ok (.goto 4, 3) := by decide +kernel
theorem dX9_goesOn_19 : decode cX9_goesOn 19 = .ok (.iconst (-1), 1) := by decide +kernel
theorem dX9_goesOn_20 : decode cX9_goesOn 20 = .ok (.iadd, 1) := by decide +kernel
theorem dX9_goesOn_21 : decode cX9_goesOn 21 = .ok (.istore 4, 2) := by decide +kernel
theorem dX9_goesOn_23 : decode cX9_goesOn 23 = .ok (.iload_n 2, 1) := by decide +kernel
theorem dX9_goesOn_24 : decode cX9_goesOn 24 = .ok (.ifCond .le 21, 3) := by decide +kernel
theorem dX9_goesOn_27 : decode cX9_goesOn 27 = .ok (.aload_n 0, 1) := by decide +kernel
theorem dX9_goesOn_28 : decode cX9_goesOn 28 = .ok (.getfield 95, 3) := by decide +kernel
theorem dX9_goesOn_31 : decode cX9_goesOn 31 = .ok (.bipush 8, 2) := by decide +kernel
theorem dX9_goesOn_33 : decode cX9_goesOn 33 = .ok (.iload_n 1, 1) := by decide +kernel
theorem dX9_goesOn_34 : decode cX9_goesOn 34 = .ok (.imul, 1) := by decide +kernel
theorem dX9_goesOn_35 : decode cX9_goesOn 35 = .ok (.iload_n 2, 1) := by decide +kernel
theorem dX9_goesOn_36 : decode cX9_goesOn 36 = .ok (.iadd, 1) := by decide +kernel
theorem dX9_goesOn_37 : decode cX9_goesOn 37 = .ok (.iconst 1, 1) := by decide +kernel
theorem dX9_goesOn_38 : decode cX9_goesOn 38 = .ok (.isub, 1) := by decide +kernel
theorem dX9_goesOn_39 : decode cX9_goesOn 39 = .ok (.iaload, 1) := by decide +kernel
theorem dX9_goesOn_40 : decode cX9_goesOn 40 = .ok (.iload 4, 2) := by decide +kernel
theorem dX9_goesOn_42 : decode cX9_goesOn 42 = .ok (.if_icmp .eq 31, 3) := by decide +kernel
theorem dX9_goesOn_45 : decode cX9_goesOn 45 = .ok (.iload_n 2, 1) := by decide +kernel
theorem dX9_goesOn_46 : decode cX9_goesOn 46 = .ok (.iconst 1, 1) := by decide +kernel
theorem dX9_goesOn_47 : decode cX9_goesOn 47 = .ok (.iadd, 1) := by decide +kernel
theorem dX9_goesOn_48 : decode cX9_goesOn 48 = .ok (.aload_n 0, 1) := by decide +kernel
theorem dX9_goesOn_49 : decode cX9_goesOn 49 = .ok (.getfield 189, 3) := by decide +kernel
theorem dX9_goesOn_52 : decode cX9_goesOn 52 = .ok (.if_icmp .ge 25, 3) := by decide +kernel
theorem dX9_goesOn_55 : decode cX9_goesOn 55 = .ok (.aload_n 0, 1) := by decide +kernel
theorem dX9_goesOn_56 : decode cX9_goesOn 56 = .ok (.getfield 95, 3) := by decide +kernel
theorem dX9_goesOn_59 : decode cX9_goesOn 59 = .ok (.bipush 8, 2) := by decide +kernel
theorem dX9_goesOn_61 : decode cX9_goesOn 61 = .ok (.iload_n 1, 1) := by decide +kernel
theorem dX9_goesOn_62 : decode cX9_goesOn 62 = .ok (.imul, 1) := by decide +kernel
theorem dX9_goesOn_63 : decode cX9_goesOn 63 = .ok (.iload_n 2, 1) := by decide +kernel
theorem dX9_goesOn_64 : decode cX9_goesOn 64 = .ok (.iadd, 1) := by decide +kernel
theorem dX9_goesOn_65 : decode cX9_goesOn 65 = .ok (.iconst 1, 1) := by decide +kernel
theorem dX9_goesOn_66 : decode cX9_goesOn 66 = .ok (.iadd, 1) := by decide +kernel
theorem dX9_goesOn_67 : decode cX9_goesOn 67 = .ok (.iaload, 1) := by decide +kernel
theorem dX9_goesOn_68 : decode cX9_goesOn 68 = .ok (.iload 4, 2) := by decide +kernel
theorem dX9_goesOn_70 : decode cX9_goesOn 70 = .ok (.if_icmp .ne 7, 3) := by decide +kernel
theorem dX9_goesOn_73 : decode cX9_goesOn 73 = .ok (.iconst 1, 1) := by decide +kernel
theorem dX9_goesOn_74 : decode cX9_goesOn 74 = .ok (.goto 4, 3) := by decide +kernel
theorem dX9_goesOn_77 : decode cX9_goesOn 77 = .ok (.iconst 0, 1) := by decide +kernel
theorem dX9_goesOn_78 : decode cX9_goesOn 78 = .ok (.ireturn, 1) := by decide +kernel
theorem dX9_mayBe_0 : decode cX9_mayBe 0 = .ok (.iconst 0, 1) := by decide +kernel
theorem dX9_mayBe_1 : decode cX9_mayBe 1 = .ok (.istore_n 2, 1) := by decide +kernel
theorem dX9_mayBe_2 : decode cX9_mayBe 2 = .ok (.iload_n 2, 1) := by decide +kernel
theorem dX9_mayBe_3 : decode cX9_mayBe 3 = .ok (.aload_n 0, 1) := by decide +kernel
theorem dX9_mayBe_4 : decode cX9_mayBe 4 = .ok (.getfield 189, 3) := by decide +kernel
theorem dX9_mayBe_7 : decode cX9_mayBe 7 = .ok (.if_icmp .ge 332, 3) := by decide +kernel
theorem dX9_mayBe_10 : decode cX9_mayBe 10 = .ok (.iconst 0, 1) := by decide +kernel
theorem dX9_mayBe_11 : decode cX9_mayBe 11 = .ok (.istore_n 3, 1) := by decide +kernel
theorem dX9_mayBe_12 : decode cX9_mayBe 12 = .ok (.iload_n 3, 1) := by decide +kernel
theorem dX9_mayBe_13 : decode cX9_mayBe 13 = .ok (.aload_n 0, 1) := by decide +kernel
theorem dX9_mayBe_14 : decode cX9_mayBe 14 = .ok (.getfield 189, 3) := by decide +kernel
theorem dX9_mayBe_17 : decode cX9_mayBe 17 = .ok (.if_icmp .ge 198, 3) := by decide +kernel
theorem dX9_mayBe_20 : decode cX9_mayBe 20 = .ok (.iload_n 2, 1) := by decide +kernel
theorem dX9_mayBe_21 : decode cX9_mayBe 21 = .ok (.iload_n 3, 1) := by decide +kernel
theorem dX9_mayBe_22 : decode cX9_mayBe 22 = .ok (.if_icmp .ne 6, 3) := by decide +kernel
theorem dX9_mayBe_25 : decode cX9_mayBe 25 = .ok (.goto 184, 3) := by decide +kernel
theorem dX9_mayBe_28 : decode cX9_mayBe 28 = .ok (.aload_n 0, 1) := by decide +kernel
theorem dX9_mayBe_29 : decode cX9_mayBe 29 = .ok (.iload_n 1, 1) := by decide +kernel
theorem dX9_mayBe_30 : decode cX9_mayBe 30 = .ok (.iload_n 2, 1) := by decide +kernel
theorem dX9_mayBe_31 : decode cX9_mayBe 31 = .ok (.invokevirtual 312, 3) := by decide +kernel
theorem dX9_mayBe_34 : decode cX9_mayBe 34 = .ok (.ifCond .eq 145, 3) := by decide +kernel
theorem dX9_mayBe_37 : decode cX9_mayBe 37 = .ok (.aload_n 0, 1) := by decide +kernel
theorem dX9_mayBe_38 : decode cX9_mayBe 38 = .ok (.iload_n 1, 1) := by decide +kernel
theorem dX9_mayBe_39 : decode cX9_mayBe 39 = .ok (.iload_n 3, 1) := by decide +kernel
theorem dX9_mayBe_40 : decode cX9_mayBe 40 = .ok (.invokevirtual 312, 3) := by decide +kernel
theorem dX9_mayBe_43 : decode cX9_mayBe 43 = .ok (.ifCond .eq 136, 3) := by decide +kernel
theorem dX9_mayBe_46 : decode cX9_mayBe 46 = .ok (.aload_n 0, 1) := by decide +kernel
theorem dX9_mayBe_47 : decode cX9_mayBe 47 = .ok (.getfield 95, 3) := by decide +kernel
theorem dX9_mayBe_50 : decode cX9_mayBe 50 = .ok (.bipush 8, 2) := by decide +kernel
theorem dX9_mayBe_52 : decode cX9_mayBe 52 = .ok (.iload_n 1, 1) := by decide +kernel
theorem dX9_mayBe_53 : decode cX9_mayBe 53 = .ok (.imul, 1) := by decide +kernel
theorem dX9_mayBe_54 : decode cX9_mayBe 54 = .ok (.iload_n 2, 1) := by decide +kernel
theorem dX9_mayBe_55 : decode cX9_mayBe 55 = .ok (.iadd, 1) := by decide +kernel
theorem dX9_mayBe_56 : decode cX9_mayBe 56 = .ok (.iaload, 1) := by decide +kernel
theorem dX9_mayBe_57 : decode cX9_mayBe 57 = .ok (.aload_n 0, 1) := by decide +kernel
theorem dX9_mayBe_58 : decode cX9_mayBe 58 = .ok (.getfield 95, 3) := by decide +kernel
theorem dX9_mayBe_61 : decode cX9_mayBe 61 = .ok (.bipush 8, 2) := by decide +kernel
theorem dX9_mayBe_63 : decode cX9_mayBe 63 = .ok (.iload_n 1, 1) := by decide +kernel
theorem dX9_mayBe_64 : decode cX9_mayBe 64 = .ok (.imul, 1) := by decide +kernel
theorem dX9_mayBe_65 : decode cX9_mayBe 65 = .ok (.iload_n 3, 1) := by decide +kernel
theorem dX9_mayBe_66 : decode cX9_mayBe 66 = .ok (.iadd, 1) := by decide +kernel
theorem dX9_mayBe_67 : decode cX9_mayBe 67 = .ok (.iaload, 1) := by decide +kernel
theorem dX9_mayBe_68 : decode cX9_mayBe 68 = .ok (.if_icmp .ne 111, 3) := by decide +kernel
theorem dX9_mayBe_71 : decode cX9_mayBe 71 = .ok (.aload_n 0, 1) := by decide +kernel
theorem dX9_mayBe_72 : decode cX9_mayBe 72 = .ok (.getfield 101, 3) := by decide +kernel
theorem dX9_mayBe_75 : decode cX9_mayBe 75 = .ok (.bipush 8, 2) := by decide +kernel
theorem dX9_mayBe_77 : decode cX9_mayBe 77 = .ok (.iload_n 1, 1) := by decide +kernel
theorem dX9_mayBe_78 : decode cX9_mayBe 78 = .ok (.imul, 1) := by decide +kernel
theorem dX9_mayBe_79 : decode cX9_mayBe 79 = .ok (.iload_n 2, 1) := by decide +kernel
theorem dX9_mayBe_80 : decode cX9_mayBe 80 = .ok (.iadd, 1) := by decide +kernel
theorem dX9_mayBe_81 : decode cX9_mayBe 81 = .ok (.baload, 1) := by decide +kernel
theorem dX9_mayBe_82 : decode cX9_mayBe 82 = .ok (.aload_n 0, 1) := by decide +kernel
theorem dX9_mayBe_83 : decode cX9_mayBe 83 = .ok (.getfield 101, 3) := by decide +kernel
theorem dX9_mayBe_86 : decode cX9_mayBe 86 = .ok (.bipush 8, 2) := by decide +kernel
theorem dX9_mayBe_88 : decode cX9_mayBe 88 = .ok (.iload_n 1, 1) := by decide +kernel
theorem dX9_mayBe_89 : decode cX9_mayBe 89 = .ok (.imul, 1) := by decide +kernel
theorem dX9_mayBe_90 : decode cX9_mayBe 90 = .ok (.iload_n 3, 1) := by decide +kernel
theorem dX9_mayBe_91 : decode cX9_mayBe 91 = .ok (.iadd, 1) := by decide +kernel
theorem dX9_mayBe_92 : decode cX9_mayBe 92 = .ok (.baload, 1) := by decide +kernel
theorem dX9_mayBe_93 : decode cX9_mayBe 93 = .ok (.if_icmp .ne 86, 3) := by decide +kernel
theorem dX9_mayBe_96 : decode cX9_mayBe 96 = .ok (.aload_n 0, 1) := by decide +kernel
theorem dX9_mayBe_97 : decode cX9_mayBe 97 = .ok (.iload_n 1, 1) := by decide +kernel
theorem dX9_mayBe_98 : decode cX9_mayBe 98 = .ok (.iload_n 2, 1) := by decide +kernel
theorem dX9_mayBe_99 : decode cX9_mayBe 99 = .ok (.invokevirtual 316, 3) := by decide +kernel
theorem dX9_mayBe_102 : decode cX9_mayBe 102 = .ok (.aload_n 0, 1) := by decide +kernel
theorem dX9_mayBe_103 : decode cX9_mayBe 103 = .ok (.iload_n 1, 1) := by decide +kernel
theorem dX9_mayBe_104 : decode cX9_mayBe 104 = .ok (.iload_n 3, 1) := by decide +kernel
theorem dX9_mayBe_105 : decode cX9_mayBe 105 = .ok (.invokevirtual 316, 3) := by decide +kernel
theorem dX9_mayBe_108 : decode cX9_mayBe 108 = .ok (.if_icmp .ge 22, 3) := by decide +kernel
theorem dX9_mayBe_111 : decode cX9_mayBe 111 = .ok (.aload_n 0, 1) := by decide +kernel
theorem dX9_mayBe_112 : decode cX9_mayBe 112 = .ok (.iload_n 1, 1) := by decide +kernel
theorem dX9_mayBe_113 : decode cX9_mayBe 113 = .ok (.iload_n 3, 1) := by decide +kernel
theorem dX9_mayBe_114 : decode cX9_mayBe 114 = .ok (.invokevirtual 316, 3) := by decide +kernel
theorem dX9_mayBe_117 : decode cX9_mayBe 117 = .ok (.aload_n 0, 1) := by decide +kernel
theorem dX9_mayBe_118 : decode cX9_mayBe 118 = .ok (.iload_n 1, 1) := by decide +kernel
theorem dX9_mayBe_119 : decode cX9_mayBe 119 = .ok (.iload_n 2, 1) := by decide +kernel
theorem dX9_mayBe_120 : decode cX9_mayBe 120 = .ok (.invokevirtual 319, 3) := by decide +kernel
theorem dX9_mayBe_123 : decode cX9_mayBe 123 = .ok (.if_icmp .ge 7, 3) := by decide +kernel
theorem dX9_mayBe_126 : decode cX9_mayBe 126 = .ok (.iconst 1, 1) := by decide +kernel
theorem dX9_mayBe_127 : decode cX9_mayBe 127 = .ok (.goto 4, 3) := by decide +kernel
theorem dX9_mayBe_130 : decode cX9_mayBe 130 = .ok (.iconst 0, 1) := by decide +kernel
theorem dX9_mayBe_131 : decode cX9_mayBe 131 = .ok (.istore 4, 2) := by decide +kernel
theorem dX9_mayBe_133 : decode cX9_mayBe 133 = .ok (.aload_n 0, 1) := by decide +kernel
theorem dX9_mayBe_134 : decode cX9_mayBe 134 = .ok (.iload_n 1, 1) := by decide +kernel
theorem dX9_mayBe_135 : decode cX9_mayBe 135 = .ok (.iload_n 2, 1) := by decide +kernel
theorem dX9_mayBe_136 : decode cX9_mayBe 136 = .ok (.invokevirtual 316, 3) := by decide +kernel
theorem dX9_mayBe_139 : decode cX9_mayBe 139 = .ok (.aload_n 0, 1) := by decide +kernel
theorem dX9_mayBe_140 : decode cX9_mayBe 140 = .ok (.iload_n 1, 1) := by decide +kernel
theorem dX9_mayBe_141 : decode cX9_mayBe 141 = .ok (.iload_n 3, 1) := by decide +kernel
theorem dX9_mayBe_142 : decode cX9_mayBe 142 = .ok (.invokevirtual 319, 3) := by decide +kernel
theorem dX9_mayBe_145 : decode cX9_mayBe 145 = .ok (.if_icmp .ge 22, 3) := by decide +kernel
theorem dX9_mayBe_148 : decode cX9_mayBe 148 = .ok (.aload_n 0, 1) := by decide +kernel
theorem dX9_mayBe_149 : decode cX9_mayBe 149 = .ok (.iload_n 1, 1) := by decide +kernel
theorem dX9_mayBe_150 : decode cX9_mayBe 150 = .ok (.iload_n 3, 1) := by decide +kernel
theorem dX9_mayBe_151 : decode cX9_mayBe 151 = .ok (.invokevirtual 319, 3) := by decide +kernel
theorem dX9_mayBe_154 : decode cX9_mayBe 154 = .ok (.aload_n 0, 1) := by decide +kernel
theorem dX9_mayBe_155 : decode cX9_mayBe 155 = .ok (.iload_n 1, 1) := by decide +kernel
theorem dX9_mayBe_156 : decode cX9_mayBe 156 = .ok (.iload_n 2, 1) := by decide +kernel
theorem dX9_mayBe_157 : decode cX9_mayBe 157 = .ok (.invokevirtual 319, 3) := by decide +kernel
theorem dX9_mayBe_160 : decode cX9_mayBe 160 = .ok (.if_icmp .ge 7, 3) := by decide +kernel
theorem dX9_mayBe_163 : decode cX9_mayBe 163 = .ok (.iconst 1, 1) := by decide +kernel
theorem dX9_mayBe_164 : decode cX9_mayBe 164 = .ok (.goto 4, 3) := by decide +kernel
theorem dX9_mayBe_167 : decode cX9_mayBe 167 = .ok (.iconst 0, 1) := by decide +kernel
theorem dX9_mayBe_168 : decode cX9_mayBe 168 = .ok (.istore 5, 2) := by decide +kernel
theorem dX9_mayBe_170 : decode cX9_mayBe 170 = .ok (.iload 4, 2) := by decide +kernel
theorem dX9_mayBe_172 : decode cX9_mayBe 172 = .ok (.iload 5, 2) := by decide +kernel
theorem dX9_mayBe_174 : decode cX9_mayBe 174 = .ok (.if_icmp .eq 5, 3) := by decide +kernel
theorem dX9_mayBe_177 : decode cX9_mayBe 177 = .ok (.iconst 0, 1) := by decide +kernel
theorem dX9_mayBe_178 : decode cX9_mayBe 178 = .ok (.ireturn, 1) := by decide +kernel
theorem dX9_mayBe_179 : decode cX9_mayBe 179 = .ok (.aload_n 0, 1) := by decide +kernel
theorem dX9_mayBe_180 : decode cX9_mayBe 180 = .ok (.iload_n 1, 1) := by decide +kernel
theorem dX9_mayBe_181 : decode cX9_mayBe 181 = .ok (.iload_n 2, 1) := by decide +kernel
theorem dX9_mayBe_182 : decode cX9_mayBe 182 = .ok (.invokevirtual 322, 3) := by decide +kernel
theorem dX9_mayBe_185 : decode cX9_mayBe 185 = .ok (.ifCond .eq 24, 3) := by decide +kernel
theorem dX9_mayBe_188 : decode cX9_mayBe 188 = .ok (.aload_n 0, 1) := by decide +kernel
theorem dX9_mayBe_189 : decode cX9_mayBe 189 = .ok (.iload_n 1, 1) := by decide +kernel
theorem dX9_mayBe_190 : decode cX9_mayBe 190 = .ok (.iload_n 3, 1) := by decide +kernel
theorem dX9_mayBe_191 : decode cX9_mayBe 191 = .ok (.invokevirtual 322, 3) := by decide +kernel
theorem dX9_mayBe_194 : decode cX9_mayBe 194 = .ok (.ifCond .eq 15, 3) := by decide +kernel
theorem dX9_mayBe_197 : decode cX9_mayBe 197 = .ok (.aload_n 0, 1) := by decide +kernel
theorem dX9_mayBe_198 : decode cX9_mayBe 198 = .ok (.iload_n 1, 1) := by decide +kernel
theorem dX9_mayBe_199 : decode cX9_mayBe 199 = .ok (.iload_n 2, 1) := by decide +kernel
theorem dX9_mayBe_200 : decode cX9_mayBe 200 = .ok (.iload_n 3, 1) := by decide +kernel
theorem dX9_mayBe_201 : decode cX9_mayBe 201 = .ok (.invokevirtual 325, 3) := by decide +kernel
theorem dX9_mayBe_204 : decode cX9_mayBe 204 = .ok (.ifCond .ne 5, 3) := by decide +kernel
theorem dX9_mayBe_207 : decode cX9_mayBe 207 = .ok (.iconst 0, 1) := by decide +kernel
theorem dX9_mayBe_208 : decode cX9_mayBe 208 = .ok (.ireturn, 1) := by decide +kernel
theorem dX9_mayBe_209 : decode cX9_mayBe 209 = .ok (.iinc 3 1, 3) := by decide +kernel
theorem dX9_mayBe_212 : decode cX9_mayBe 212 = .ok (.goto (-200), 3) := by decide +kernel
theorem dX9_mayBe_215 : decode cX9_mayBe 215 = .ok (.aload_n 0, 1) := by decide +kernel
theorem dX9_mayBe_216 : decode cX9_mayBe 216 = .ok (.iload_n 1, 1) := by decide +kernel
theorem dX9_mayBe_217 : decode cX9_mayBe 217 = .ok (.iload_n 2, 1) := by decide +kernel
theorem dX9_mayBe_218 : decode cX9_mayBe 218 = .ok (.invokevirtual 312, 3) := by decide +kernel
theorem dX9_mayBe_221 : decode cX9_mayBe 221 = .ok (.ifCond .ne 6, 3) := by decide +kernel
theorem dX9_mayBe_224 : decode cX9_mayBe 224 = .ok (.goto 109, 3) := by decide +kernel
theorem dX9_mayBe_227 : decode cX9_mayBe 227 = .ok (.iconst 0, 1) := by decide +kernel
theorem dX9_mayBe_228 : decode cX9_mayBe 228 = .ok (.istore_n 3, 1) := by decide +kernel
theorem dX9_mayBe_229 : decode cX9_mayBe 229 = .ok (.iload_n 3, 1) := by decide +kernel
theorem dX9_mayBe_230 : decode cX9_mayBe 230 = .ok (.aload_n 0, 1) := by decide +kernel
theorem dX9_mayBe_231 : decode cX9_mayBe 231 = .ok (.getfield 189, 3) := by decide +kernel
theorem dX9_mayBe_234 : decode cX9_mayBe 234 = .ok (.if_icmp .ge 99, 3) := by decide +kernel
theorem dX9_mayBe_237 : decode cX9_mayBe 237 = .ok (.aload_n 0, 1) := by decide +kernel
theorem dX9_mayBe_238 : decode cX9_mayBe 238 = .ok (.getfield 95, 3) := by decide +kernel
theorem dX9_mayBe_241 : decode cX9_mayBe 241 = .ok (.bipush 8, 2) := by decide +kernel
theorem dX9_mayBe_243 : decode cX9_mayBe 243 = .ok (.iload_n 1, 1) := by decide +kernel
theorem dX9_mayBe_244 : decode cX9_mayBe 244 = .ok (.imul, 1) := by decide +kernel
theorem dX9_mayBe_245 : decode cX9_mayBe 245 = .ok (.iload_n 3, 1) := by decide +kernel
theorem dX9_mayBe_246 : decode cX9_mayBe 246 = .ok (.iadd, 1) := by decide +kernel
theorem dX9_mayBe_247 : decode cX9_mayBe 247 = .ok (.iaload, 1) := by decide +kernel
theorem dX9_mayBe_248 : decode cX9_mayBe 248 = .ok (.aload_n 0, 1) := by decide +kernel
theorem dX9_mayBe_249 : decode cX9_mayBe 249 = .ok (.getfield 95, 3) := by decide +kernel
theorem dX9_mayBe_252 : decode cX9_mayBe 252 = .ok (.bipush 8, 2) := by decide +kernel
theorem dX9_mayBe_254 : decode cX9_mayBe 254 = .ok (.iload_n 1, 1) := by decide +kernel
theorem dX9_mayBe_255 : decode cX9_mayBe 255 = .ok (.imul, 1) := by decide +kernel
theorem dX9_mayBe_256 : decode cX9_mayBe 256 = .ok (.iload_n 2, 1) := by decide +kernel
theorem dX9_mayBe_257 : decode cX9_mayBe 257 = .ok (.iadd, 1) := by decide +kernel
theorem dX9_mayBe_258 : decode cX9_mayBe 258 = .ok (.iaload, 1) := by decide +kernel
theorem dX9_mayBe_259 : decode cX9_mayBe 259 = .ok (.if_icmp .ne 68, 3) := by decide +kernel
theorem dX9_mayBe_262 : decode cX9_mayBe 262 = .ok (.aload_n 0, 1) := by decide +kernel
theorem dX9_mayBe_263 : decode cX9_mayBe 263 = .ok (.getfield 98, 3) := by decide +kernel
theorem dX9_mayBe_266 : decode cX9_mayBe 266 = .ok (.bipush 8, 2) := by decide +kernel
theorem dX9_mayBe_268 : decode cX9_mayBe 268 = .ok (.iload_n 1, 1) := by decide +kernel
theorem dX9_mayBe_269 : decode cX9_mayBe 269 = .ok (.imul, 1) := by decide +kernel
theorem dX9_mayBe_270 : decode cX9_mayBe 270 = .ok (.iload_n 3, 1) := by decide +kernel
theorem dX9_mayBe_271 : decode cX9_mayBe 271 = .ok (.iadd, 1) := by decide +kernel
theorem dX9_mayBe_272 : decode cX9_mayBe 272 = .ok (.iaload, 1) := by decide +kernel
theorem dX9_mayBe_273 : decode cX9_mayBe 273 = .ok (.aload_n 0, 1) := by decide +kernel
theorem dX9_mayBe_274 : decode cX9_mayBe 274 = .ok (.iload_n 1, 1) := by decide +kernel
theorem dX9_mayBe_275 : decode cX9_mayBe 275 = .ok (.iload_n 2, 1) := by decide +kernel
theorem dX9_mayBe_276 : decode cX9_mayBe 276 = .ok (.invokevirtual 316, 3) := by decide +kernel
theorem dX9_mayBe_279 : decode cX9_mayBe 279 = .ok (.if_icmp .le 48, 3) := by decide +kernel
theorem dX9_mayBe_282 : decode cX9_mayBe 282 = .ok (.aload_n 0, 1) := by decide +kernel
theorem dX9_mayBe_283 : decode cX9_mayBe 283 = .ok (.getfield 98, 3) := by decide +kernel
theorem dX9_mayBe_286 : decode cX9_mayBe 286 = .ok (.bipush 8, 2) := by decide +kernel
theorem dX9_mayBe_288 : decode cX9_mayBe 288 = .ok (.iload_n 1, 1) := by decide +kernel
theorem dX9_mayBe_289 : decode cX9_mayBe 289 = .ok (.imul, 1) := by decide +kernel
theorem dX9_mayBe_290 : decode cX9_mayBe 290 = .ok (.iload_n 3, 1) := by decide +kernel
theorem dX9_mayBe_291 : decode cX9_mayBe 291 = .ok (.iadd, 1) := by decide +kernel
theorem dX9_mayBe_292 : decode cX9_mayBe 292 = .ok (.iaload, 1) := by decide +kernel
theorem dX9_mayBe_293 : decode cX9_mayBe 293 = .ok (.aload_n 0, 1) := by decide +kernel
theorem dX9_mayBe_294 : decode cX9_mayBe 294 = .ok (.iload_n 1, 1) := by decide +kernel
theorem dX9_mayBe_295 : decode cX9_mayBe 295 = .ok (.iload_n 2, 1) := by decide +kernel
theorem dX9_mayBe_296 : decode cX9_mayBe 296 = .ok (.invokevirtual 319, 3) := by decide +kernel
theorem dX9_mayBe_299 : decode cX9_mayBe 299 = .ok (.if_icmp .lt 6, 3) := by decide +kernel
theorem dX9_mayBe_302 : decode cX9_mayBe 302 = .ok (.goto 25, 3) := by decide +kernel
theorem dX9_mayBe_305 : decode cX9_mayBe 305 = .ok (.aload_n 0, 1) := by decide +kernel
theorem dX9_mayBe_306 : decode cX9_mayBe 306 = .ok (.iload_n 1, 1) := by decide +kernel
theorem dX9_mayBe_307 : decode cX9_mayBe 307 = .ok (.iload_n 3, 1) := by decide +kernel
theorem dX9_mayBe_308 : decode cX9_mayBe 308 = .ok (.aload_n 0, 1) := by decide +kernel
theorem dX9_mayBe_309 : decode cX9_mayBe 309 = .ok (.getfield 101, 3) := by decide +kernel
theorem dX9_mayBe_312 : decode cX9_mayBe 312 = .ok (.bipush 8, 2) := by decide +kernel
theorem dX9_mayBe_314 : decode cX9_mayBe 314 = .ok (.iload_n 1, 1) := by decide +kernel
theorem dX9_mayBe_315 : decode cX9_mayBe 315 = .ok (.imul, 1) := by decide +kernel
theorem dX9_mayBe_316 : decode cX9_mayBe 316 = .ok (.iload_n 2, 1) := by decide +kernel
theorem dX9_mayBe_317 : decode cX9_mayBe 317 = .ok (.iadd, 1) := by decide +kernel
theorem dX9_mayBe_318 : decode cX9_mayBe 318 = .ok (.baload, 1) := by decide +kernel
theorem dX9_mayBe_319 : decode cX9_mayBe 319 = .ok (.invokevirtual 329, 3) := by decide +kernel
theorem dX9_mayBe_322 : decode cX9_mayBe 322 = .ok (.ifCond .eq 5, 3) := by decide +kernel
theorem dX9_mayBe_325 : decode cX9_mayBe 325 = .ok (.iconst 0, 1) := by decide +kernel
theorem dX9_mayBe_326 : decode cX9_mayBe 326 = .ok (.ireturn, 1) := by decide +kernel
theorem dX9_mayBe_327 : decode cX9_mayBe 327 = .ok (.iinc 3 1, 3) := by decide +kernel
theorem dX9_mayBe_330 : decode cX9_mayBe 330 = .ok (.goto (-101), 3) := by decide +kernel
theorem dX9_mayBe_333 : decode cX9_mayBe 333 = .ok (.iinc 2 1, 3) := by decide +kernel
theorem dX9_mayBe_336 : decode cX9_mayBe 336 = .ok (.goto (-334), 3) := by decide +kernel
theorem dX9_mayBe_339 : decode cX9_mayBe 339 = .ok (.iconst 1, 1) := by decide +kernel
theorem dX9_mayBe_340 : decode cX9_mayBe 340 = .ok (.ireturn, 1) := by decide +kernel
theorem dX9_isStraight_0 : decode cX9_isStraight 0 = .ok (.aload_n 0, 1) := by decide +kernel
theorem dX9_isStraight_1 : decode cX9_isStraight 1 = .ok (.getfield 95, 3) := by decide +kernel
theorem dX9_isStraight_4 : decode cX9_isStraight 4 = .ok (.bipush 8, 2) := by decide +kernel
theorem dX9_isStraight_6 : decode cX9_isStraight 6 = .ok (.iload_n 1, 1) := by decide +kernel
theorem dX9_isStraight_7 : decode cX9_isStraight 7 = .ok (.imul, 1) := by decide +kernel
theorem dX9_isStraight_8 : decode cX9_isStraight 8 = .ok (.iload_n 2, 1) := by decide +kernel
theorem dX9_isStraight_9 : decode cX9_isStraight 9 = .ok (.iadd, 1) := by decide +kernel
theorem dX9_isStraight_10 : decode cX9_isStraight 10 = .ok (.iaload, 1) := by decide +kernel
theorem dX9_isStraight_11 : decode cX9_isStraight 11 = .ok (.aload_n 0, 1) := by decide +kernel
theorem dX9_isStraight_12 : decode cX9_isStraight 12 = .ok (.getfield 95, 3) := by decide +kernel
theorem dX9_isStraight_15 : decode cX9_isStraight 15 = .ok (.bipush 8, 2) := by decide +kernel
theorem dX9_isStraight_17 : decode cX9_isStraight 17 = .ok (.iload_n 1, 1) := by decide +kernel
theorem dX9_isStraight_18 : decode cX9_isStraight 18 = .ok (.imul, 1) := by decide +kernel
theorem dX9_isStraight_19 : decode cX9_isStraight 19 = .ok (.iload_n 2, 1) := by decide +kernel
theorem dX9_isStraight_20 : decode cX9_isStraight 20 = .ok (.iadd, 1) := by decide +kernel
theorem dX9_isStraight_21 : decode cX9_isStraight 21 = .ok (.iconst 1, 1) := by decide +kernel
theorem dX9_isStraight_22 : decode cX9_isStraight 22 = .ok (.iadd, 1) := by decide +kernel
theorem dX9_isStraight_23 : decode cX9_isStraight 23 = .ok (.iaload, 1) := by decide +kernel
theorem dX9_isStraight_24 : decode cX9_isStraight 24 = .ok (.if_icmp .ge 17, 3) := by decide +kernel
theorem dX9_isStraight_27 : decode cX9_isStraight 27 = .ok (.aload_n 0, 1) := by decide +kernel
theorem dX9_isStraight_28 : decode cX9_isStraight 28 = .ok (.getfield 95, 3) := by decide +kernel
theorem dX9_isStraight_31 : decode cX9_isStraight 31 = .ok (.bipush 8, 2) := by decide +kernel
theorem dX9_isStraight_33 : decode cX9_isStraight 33 = .ok (.iload_n 1, 1) := by decide +kernel
theorem dX9_isStraight_34 : decode cX9_isStraight 34 = .ok (.imul, 1) := by decide +kernel
theorem dX9_isStraight_35 : decode cX9_isStraight 35 = .ok (.iload_n 2, 1) := by decide +kernel
theorem dX9_isStraight_36 : decode cX9_isStraight 36 = .ok (.iadd, 1) := by decide +kernel
theorem dX9_isStraight_37 : decode cX9_isStraight 37 = .ok (.iaload, 1) := by decide +kernel
theorem dX9_isStraight_38 : decode cX9_isStraight 38 = .ok (.goto 16, 3) := by decide +kernel
theorem dX9_isStraight_41 : decode cX9_isStraight 41 = .ok (.aload_n 0, 1) := by decide +kernel
theorem dX9_isStraight_42 : decode cX9_isStraight 42 = .ok (.getfield 95, 3) := by decide +kernel
theorem dX9_isStraight_45 : decode cX9_isStraight 45 = .ok (.bipush 8, 2) := by decide +kernel
theorem dX9_isStraight_47 : decode cX9_isStraight 47 = .ok (.iload_n 1, 1) := by decide +kernel
theorem dX9_isStraight_48 : decode cX9_isStraight 48 = .ok (.imul, 1) := by decide +kernel
theorem dX9_isStraight_49 : decode cX9_isStraight 49 = .ok (.iload_n 2, 1) := by decide +kernel
theorem dX9_isStraight_50 : decode cX9_isStraight 50 = .ok (.iadd, 1) := by decide +kernel
theorem dX9_isStraight_51 : decode cX9_isStraight 51 = .ok (.iconst 1, 1) := by decide +kernel
theorem dX9_isStraight_52 : decode cX9_isStraight 52 = .ok (.iadd, 1) := by decide +kernel
theorem dX9_isStraight_53 : decode cX9_isStraight 53 = .ok (.iaload, 1) := by decide +kernel
theorem dX9_isStraight_54 : decode cX9_isStraight 54 = .ok (.istore 4, 2) := by decide +kernel
theorem dX9_isStraight_56 : decode cX9_isStraight 56 = .ok (.aload_n 0, 1) := by decide +kernel
theorem dX9_isStraight_57 : decode cX9_isStraight 57 = .ok (.getfield 95, 3) := by decide +kernel
theorem dX9_isStraight_60 : decode cX9_isStraight 60 = .ok (.bipush 8, 2) := by decide +kernel
theorem dX9_isStraight_62 : decode cX9_isStraight 62 = .ok (.iload_n 1, 1) := by decide +kernel
theorem dX9_isStraight_63 : decode cX9_isStraight 63 = .ok (.imul, 1) := by decide +kernel
theorem dX9_isStraight_64 : decode cX9_isStraight 64 = .ok (.iload_n 3, 1) := by decide +kernel
theorem dX9_isStraight_65 : decode cX9_isStraight 65 = .ok (.iadd, 1) := by decide +kernel
theorem dX9_isStraight_66 : decode cX9_isStraight 66 = .ok (.iaload, 1) := by decide +kernel
theorem dX9_isStraight_67 : decode cX9_isStraight 67 = .ok (.aload_n 0, 1) := by decide +kernel
theorem dX9_isStraight_68 : decode cX9_isStraight 68 = .ok (.getfield 95, 3) := by decide +kernel
theorem dX9_isStraight_71 : decode cX9_isStraight 71 = .ok (.bipush 8, 2) := by decide +kernel
theorem dX9_isStraight_73 : decode cX9_isStraight 73 = .ok (.iload_n 1, 1) := by decide +kernel
theorem dX9_isStraight_74 : decode cX9_isStraight 74 = .ok (.imul, 1) := by decide +kernel
theorem dX9_isStraight_75 : decode cX9_isStraight 75 = .ok (.iload_n 3, 1) := by decide +kernel
theorem dX9_isStraight_76 : decode cX9_isStraight 76 = .ok (.iadd, 1) := by decide +kernel
theorem dX9_isStraight_77 : decode cX9_isStraight 77 = .ok (.iconst 1, 1) := by decide +kernel
theorem dX9_isStraight_78 : decode cX9_isStraight 78 = .ok (.iadd, 1) := by decide +kernel
theorem dX9_isStraight_79 : decode cX9_isStraight 79 = .ok (.iaload, 1) := by decide +kernel
theorem dX9_isStraight_80 : decode cX9_isStraight 80 = .ok (.if_icmp .ge 17, 3) := by decide +kernel
theorem dX9_isStraight_83 : decode cX9_isStraight 83 = .ok (.aload_n 0, 1) := by decide +kernel
theorem dX9_isStraight_84 : decode cX9_isStraight 84 = .ok (.getfield 95, 3) := by decide +kernel
theorem dX9_isStraight_87 : decode cX9_isStraight 87 = .ok (.bipush 8, 2) := by decide +kernel
theorem dX9_isStraight_89 : decode cX9_isStraight 89 = .ok (.iload_n 1, 1) := by decide +kernel
theorem dX9_isStraight_90 : decode cX9_isStraight 90 = .ok (.imul, 1) := by decide +kernel
theorem dX9_isStraight_91 : decode cX9_isStraight 91 = .ok (.iload_n 3, 1) := by decide +kernel
theorem dX9_isStraight_92 : decode cX9_isStraight 92 = .ok (.iadd, 1) := by decide +kernel
theorem dX9_isStraight_93 : decode cX9_isStraight 93 = .ok (.iaload, 1) := by decide +kernel
theorem dX9_isStraight_94 : decode cX9_isStraight 94 = .ok (.goto 16, 3) := by decide +kernel
theorem dX9_isStraight_97 : decode cX9_isStraight 97 = .ok (.aload_n 0, 1) := by decide +kernel
theorem dX9_isStraight_98 : decode cX9_isStraight 98 = .ok (.getfield 95, 3) := by decide +kernel
theorem dX9_isStraight_101 : decode cX9_isStraight 101 = .ok (.bipush 8, 2) := by decide +kernel
theorem dX9_isStraight_103 : decode cX9_isStraight 103 = .ok (.iload_n 1, 1) := by decide +kernel
theorem dX9_isStraight_104 : decode cX9_isStraight 104 = .ok (.imul, 1) := by decide +kernel
theorem dX9_isStraight_105 : decode cX9_isStraight 105 = .ok (.iload_n 3, 1) := by decide +kernel
theorem dX9_isStraight_106 : decode cX9_isStraight 106 = .ok (.iadd, 1) := by decide +kernel
theorem dX9_isStraight_107 : decode cX9_isStraight 107 = .ok (.iconst 1, 1) := by decide +kernel
theorem dX9_isStraight_108 : decode cX9_isStraight 108 = .ok (.iadd, 1) := by decide +kernel
theorem dX9_isStraight_109 : decode cX9_isStraight 109 = .ok (.iaload, 1) := by decide +kernel
theorem dX9_isStraight_110 : decode cX9_isStraight 110 = .ok (.istore 5, 2) := by decide +kernel
theorem dX9_isStraight_112 : decode cX9_isStraight 112 = .ok (.iload 4, 2) := by decide +kernel
theorem dX9_isStraight_114 : decode cX9_isStraight 114 = .ok (.iload 5, 2) := by decide +kernel
theorem dX9_isStraight_116 : decode cX9_isStraight 116 = .ok (.if_icmp .eq 5, 3) := by decide +kernel
theorem dX9_isStraight_119 : decode cX9_isStraight 119 = .ok (.iconst 1, 1) := by decide +kernel
theorem dX9_isStraight_120 : decode cX9_isStraight 120 = .ok (.ireturn, 1) := by decide +kernel
theorem dX9_isStraight_121 : decode cX9_isStraight 121 = .ok (.aload_n 0, 1) := by decide +kernel
theorem dX9_isStraight_122 : decode cX9_isStraight 122 = .ok (.getfield 95, 3) := by decide +kernel
theorem dX9_isStraight_125 : decode cX9_isStraight 125 = .ok (.bipush 8, 2) := by decide +kernel
theorem dX9_isStraight_127 : decode cX9_isStraight 127 = .ok (.iload_n 1, 1) := by decide +kernel
theorem dX9_isStraight_128 : decode cX9_isStraight 128 = .ok (.imul, 1) := by decide +kernel
theorem dX9_isStraight_129 : decode cX9_isStraight 129 = .ok (.iload_n 2, 1) := by decide +kernel
theorem dX9_isStraight_130 : decode cX9_isStraight 130 = .ok (.iadd, 1) := by decide +kernel
theorem dX9_isStraight_131 : decode cX9_isStraight 131 = .ok (.iaload, 1) := by decide +kernel
theorem dX9_isStraight_132 : decode cX9_isStraight 132 = .ok (.iload 4, 2) := by decide +kernel
theorem dX9_isStraight_134 : decode cX9_isStraight 134 = .ok (.if_icmp .ne 7, 3) := by decide +kernel
theorem dX9_isStraight_137 : decode cX9_isStraight 137 = .ok (.iload_n 2, 1) := by decide +kernel
theorem dX9_isStraight_138 : decode cX9_isStraight 138 = .ok (.goto 6, 3) := by decide +kernel
theorem dX9_isStraight_141 : decode cX9_isStraight 141 = .ok (.iload_n 2, 1) := by decide +kernel
theorem dX9_isStraight_142 : decode cX9_isStraight 142 = .ok (.iconst 1, 1) := by decide +kernel
theorem dX9_isStraight_143 : decode cX9_isStraight 143 = .ok (.iadd, 1) := by decide +kernel
theorem dX9_isStraight_144 : decode cX9_isStraight 144 = .ok (.istore 6, 2) := by decide +kernel
theorem dX9_isStraight_146 : decode cX9_isStraight 146 = .ok (.aload_n 0, 1) := by decide +kernel
theorem dX9_isStraight_147 : decode cX9_isStraight 147 = .ok (.getfield 95, 3) := by decide +kernel
theorem dX9_isStraight_150 : decode cX9_isStraight 150 = .ok (.bipush 8, 2) := by decide +kernel
theorem dX9_isStraight_152 : decode cX9_isStraight 152 = .ok (.iload_n 1, 1) := by decide +kernel
theorem dX9_isStraight_153 : decode cX9_isStraight 153 = .ok (.imul, 1) := by decide +kernel
theorem dX9_isStraight_154 : decode cX9_isStraight 154 = .ok (.iload_n 3, 1) := by decide +kernel
theorem dX9_isStraight_155 : decode cX9_isStraight 155 = .ok (.iadd, 1) := by decide +kernel
theorem dX9_isStraight_156 : decode cX9_isStraight 156 = .ok (.iaload, 1) := by decide +kernel
theorem dX9_isStraight_157 : decode cX9_isStraight 157 = .ok (.iload 4, 2) := by decide +kernel
theorem dX9_isStraight_159 : decode cX9_isStraight 159 = .ok (.if_icmp .ne 7, 3) := by decide +kernel
theorem dX9_isStraight_162 : decode cX9_isStraight 162 = .ok (.iload_n 3, 1) := by decide +kernel
theorem dX9_isStraight_163 : decode cX9_isStraight 163 = .ok (.goto 6, 3) := by decide +kernel
theorem dX9_isStraight_166 : decode cX9_isStraight 166 = .ok (.iload_n 3, 1) := by decide +kernel
theorem dX9_isStraight_167 : decode cX9_isStraight 167 = .ok (.iconst 1, 1) := by decide +kernel
theorem dX9_isStraight_168 : decode cX9_isStraight 168 = .ok (.iadd, 1) := by decide +kernel
theorem dX9_isStraight_169 : decode cX9_isStraight 169 = .ok (.istore 7, 2) := by decide +kernel
theorem dX9_isStraight_171 : decode cX9_isStraight 171 = .ok (.iconst 2, 1) := by decide +kernel
theorem dX9_isStraight_172 : decode cX9_isStraight 172 = .ok (.iload_n 2, 1) := by decide +kernel
theorem dX9_isStraight_173 : decode cX9_isStraight 173 = .ok (.imul, 1) := by decide +kernel
theorem dX9_isStraight_174 : decode cX9_isStraight 174 = .ok (.iconst 1, 1) := by decide +kernel
theorem dX9_isStraight_175 : decode cX9_isStraight 175 = .ok (.iadd, 1) := by decide +kernel
theorem dX9_isStraight_176 : decode cX9_isStraight 176 = .ok (.iload 6, 2) := by decide +kernel
theorem dX9_isStraight_178 : decode cX9_isStraight 178 = .ok (.isub, 1) := by decide +kernel
theorem dX9_isStraight_179 : decode cX9_isStraight 179 = .ok (.istore 8, 2) := by decide +kernel
theorem dX9_isStraight_181 : decode cX9_isStraight 181 = .ok (.iconst 2, 1) := by decide +kernel
theorem dX9_isStraight_182 : decode cX9_isStraight 182 = .ok (.iload_n 3, 1) := by decide +kernel
theorem dX9_isStraight_183 : decode cX9_isStraight 183 = .ok (.imul, 1) := by decide +kernel
theorem dX9_isStraight_184 : decode cX9_isStraight 184 = .ok (.iconst 1, 1) := by decide +kernel
theorem dX9_isStraight_185 : decode cX9_isStraight 185 = .ok (.iadd, 1) := by decide +kernel
theorem dX9_isStraight_186 : decode cX9_isStraight 186 = .ok (.iload 7, 2) := by decide +kernel
theorem dX9_isStraight_188 : decode cX9_isStraight 188 = .ok (.isub, 1) := by decide +kernel
theorem dX9_isStraight_189 : decode cX9_isStraight 189 = .ok (.istore 9, 2) := by decide +kernel
theorem dX9_isStraight_191 : decode cX9_isStraight 191 = .ok (.aload_n 0, 1) := by decide +kernel
theorem dX9_isStraight_192 : decode cX9_isStraight 192 = .ok (.getfield 98, 3) := by decide +kernel
theorem dX9_isStraight_195 : decode cX9_isStraight 195 = .ok (.bipush 8, 2) := by decide +kernel
theorem dX9_isStraight_197 : decode cX9_isStraight 197 = .ok (.iload_n 1, 1) := by decide +kernel
theorem dX9_isStraight_198 : decode cX9_isStraight 198 = .ok (.imul, 1) := by decide +kernel
theorem dX9_isStraight_199 : decode cX9_isStraight 199 = .ok (.iload 6, 2) := by decide +kernel
theorem dX9_isStraight_201 : decode cX9_isStraight 201 = .ok (.iadd, 1) := by decide +kernel
theorem dX9_isStraight_202 : decode cX9_isStraight 202 = .ok (.iaload, 1) := by decide +kernel
theorem dX9_isStraight_203 : decode cX9_isStraight 203 = .ok (.aload_n 0, 1) := by decide +kernel
theorem dX9_isStraight_204 : decode cX9_isStraight 204 = .ok (.getfield 98, 3) := by decide +kernel
theorem dX9_isStraight_207 : decode cX9_isStraight 207 = .ok (.bipush 8, 2) := by decide +kernel
theorem dX9_isStraight_209 : decode cX9_isStraight 209 = .ok (.iload_n 1, 1) := by decide +kernel
theorem dX9_isStraight_210 : decode cX9_isStraight 210 = .ok (.imul, 1) := by decide +kernel
theorem dX9_isStraight_211 : decode cX9_isStraight 211 = .ok (.iload 7, 2) := by decide +kernel
theorem dX9_isStraight_213 : decode cX9_isStraight 213 = .ok (.iadd, 1) := by decide +kernel
theorem dX9_isStraight_214 : decode cX9_isStraight 214 = .ok (.iaload, 1) := by decide +kernel
theorem dX9_isStraight_215 : decode cX9_isStraight 215 = .ok (.if_icmp .ge 7, 3) := by decide +kernel
theorem dX9_isStraight_218 : decode cX9_isStraight 218 = .ok (.iconst 1, 1) := by decide +kernel
theorem dX9_isStraight_219 : decode cX9_isStraight 219 = .ok (.goto 4, 3) := by decide +kernel
theorem dX9_isStraight_222 : decode cX9_isStraight 222 = .ok (.iconst 0, 1) := by decide +kernel
theorem dX9_isStraight_223 : decode cX9_isStraight 223 = .ok (.aload_n 0, 1) := by decide +kernel
theorem dX9_isStraight_224 : decode cX9_isStraight 224 = .ok (.getfield 98, 3) := by decide +kernel
theorem dX9_isStraight_227 : decode cX9_isStraight 227 = .ok (.bipush 8, 2) := by decide +kernel
theorem dX9_isStraight_229 : decode cX9_isStraight 229 = .ok (.iload_n 1, 1) := by decide +kernel
theorem dX9_isStraight_230 : decode cX9_isStraight 230 = .ok (.imul, 1) := by decide +kernel
theorem dX9_isStraight_231 : decode cX9_isStraight 231 = .ok (.iload 8, 2) := by decide +kernel
theorem dX9_isStraight_233 : decode cX9_isStraight 233 = .ok (.iadd, 1) := by decide +kernel
theorem dX9_isStraight_234 : decode cX9_isStraight 234 = .ok (.iaload, 1) := by decide +kernel
theorem dX9_isStraight_235 : decode cX9_isStraight 235 = .ok (.aload_n 0, 1) := by decide +kernel
theorem dX9_isStraight_236 : decode cX9_isStraight 236 = .ok (.getfield 98, 3) := by decide +kernel
theorem dX9_isStraight_239 : decode cX9_isStraight 239 = .ok (.bipush 8, 2) := by decide +kernel
theorem dX9_isStraight_241 : decode cX9_isStraight 241 = .ok (.iload_n 1, 1) := by decide +kernel
theorem dX9_isStraight_242 : decode cX9_isStraight 242 = .ok (.imul, 1) := by decide +kernel
theorem dX9_isStraight_243 : decode cX9_isStraight 243 = .ok (.iload 9, 2) := by decide +kernel
theorem dX9_isStraight_245 : decode cX9_isStraight 245 = .ok (.iadd, 1) := by decide +kernel
theorem dX9_isStraight_246 : decode cX9_isStraight 246 = .ok (.iaload, 1) := by decide +kernel
theorem dX9_isStraight_247 : decode cX9_isStraight 247 = .ok (.if_icmp .ge 7, 3) := by decide +kernel
theorem dX9_isStraight_250 : decode cX9_isStraight 250 = .ok (.iconst 1, 1) := by decide +kernel
theorem dX9_isStraight_251 : decode cX9_isStraight 251 = .ok (.goto 4, 3) := by decide +kernel
theorem dX9_isStraight_254 : decode cX9_isStraight 254 = .ok (.iconst 0, 1) := by decide +kernel
theorem dX9_isStraight_255 : decode cX9_isStraight 255 = .ok (.if_icmp .ne 7, 3) := by decide +kernel
theorem dX9_isStraight_258 : decode cX9_isStraight 258 = .ok (.iconst 1, 1) := by decide +kernel
theorem dX9_isStraight_259 : decode cX9_isStraight 259 = .ok (.goto 4, 3) := by decide +kernel
theorem dX9_isStraight_262 : decode cX9_isStraight 262 = .ok (.iconst 0, 1) := by decide +kernel
theorem dX9_isStraight_263 : decode cX9_isStraight 263 = .ok (.ireturn, 1) := by decide +kernel
theorem dX9_sheet_0 : decode cX9_sheet 0 = .ok (.iload_n 1, 1) := by decide +kernel
theorem dX9_sheet_1 : decode cX9_sheet 1 = .ok (.iconst 2, 1) := by decide +kernel
theorem dX9_sheet_2 : decode cX9_sheet 2 = .ok (.if_icmp .lt 9, 3) := by decide +kernel
theorem dX9_sheet_5 : decode cX9_sheet 5 = .ok (.iload_n 1, 1) := by decide +kernel
theorem dX9_sheet_6 : decode cX9_sheet 6 = .ok (.bipush 8, 2) := by decide +kernel
theorem dX9_sheet_8 : decode cX9_sheet 8 = .ok (.if_icmp .le 5, 3) := by decide +kernel
theorem dX9_sheet_11 : decode cX9_sheet 11 = .ok (.iconst 0, 1) := by decide +kernel
theorem dX9_sheet_12 : decode cX9_sheet 12 = .ok (.ireturn, 1) := by decide +kernel
theorem dX9_sheet_13 : decode cX9_sheet 13 = .ok (.aload_n 0, 1) := by decide +kernel
theorem dX9_sheet_14 : decode cX9_sheet 14 = .ok (.iload_n 1, 1) := by decide +kernel
theorem dX9_sheet_15 : decode cX9_sheet 15 = .ok (.putfield 189, 3) := by decide +kernel
theorem dX9_sheet_18 : decode cX9_sheet 18 = .ok (.aload_n 0, 1) := by decide +kernel
theorem dX9_sheet_19 : decode cX9_sheet 19 = .ok (.iconst 0, 1) := by decide +kernel
theorem dX9_sheet_20 : decode cX9_sheet 20 = .ok (.putfield 333, 3) := by decide +kernel
theorem dX9_sheet_23 : decode cX9_sheet 23 = .ok (.aload_n 0, 1) := by decide +kernel
theorem dX9_sheet_24 : decode cX9_sheet 24 = .ok (.iconst 0, 1) := by decide +kernel
theorem dX9_sheet_25 : decode cX9_sheet 25 = .ok (.invokevirtual 192, 3) := by decide +kernel
theorem dX9_sheet_28 : decode cX9_sheet 28 = .ok (.iconst 0, 1) := by decide +kernel
theorem dX9_sheet_29 : decode cX9_sheet 29 = .ok (.istore_n 2, 1) := by decide +kernel
theorem dX9_sheet_30 : decode cX9_sheet 30 = .ok (.iload_n 2, 1) := by decide +kernel
theorem dX9_sheet_31 : decode cX9_sheet 31 = .ok (.bipush 8, 2) := by decide +kernel
theorem dX9_sheet_33 : decode cX9_sheet 33 = .ok (.if_icmp .ge 30, 3) := by decide +kernel
theorem dX9_sheet_36 : decode cX9_sheet 36 = .ok (.aload_n 0, 1) := by decide +kernel
theorem dX9_sheet_37 : decode cX9_sheet 37 = .ok (.getfield 104, 3) := by decide +kernel
theorem dX9_sheet_40 : decode cX9_sheet 40 = .ok (.iload_n 2, 1) := by decide +kernel
theorem dX9_sheet_41 : decode cX9_sheet 41 = .ok (.iconst 0, 1) := by decide +kernel
theorem dX9_sheet_42 : decode cX9_sheet 42 = .ok (.iastore, 1) := by decide +kernel
theorem dX9_sheet_43 : decode cX9_sheet 43 = .ok (.aload_n 0, 1) := by decide +kernel
theorem dX9_sheet_44 : decode cX9_sheet 44 = .ok (.getfield 107, 3) := by decide +kernel
theorem dX9_sheet_47 : decode cX9_sheet 47 = .ok (.iload_n 2, 1) := by decide +kernel
theorem dX9_sheet_48 : decode cX9_sheet 48 = .ok (.iconst 0, 1) := by decide +kernel
theorem dX9_sheet_49 : decode cX9_sheet 49 = .ok (.iastore, 1) := by decide +kernel
theorem dX9_sheet_50 : decode cX9_sheet 50 = .ok (.aload_n 0, 1) := by decide +kernel
theorem dX9_sheet_51 : decode cX9_sheet 51 = .ok (.getfield 110, 3) := by decide +kernel
theorem dX9_sheet_54 : decode cX9_sheet 54 = .ok (.iload_n 2, 1) := by decide +kernel
theorem dX9_sheet_55 : decode cX9_sheet 55 = .ok (.iconst 0, 1) := by decide +kernel
theorem dX9_sheet_56 : decode cX9_sheet 56 = .ok (.iastore, 1) := by decide +kernel
theorem dX9_sheet_57 : decode cX9_sheet 57 = .ok (.iinc 2 1, 3) := by decide +kernel
theorem dX9_sheet_60 : decode cX9_sheet 60 = .ok (.goto (-30), 3) := by decide +kernel
theorem dX9_sheet_63 : decode cX9_sheet 63 = .ok (.iconst 0, 1) := by decide +kernel
theorem dX9_sheet_64 : decode cX9_sheet 64 = .ok (.istore_n 2, 1) := by decide +kernel
theorem dX9_sheet_65 : decode cX9_sheet 65 = .ok (.iload_n 2, 1) := by decide +kernel
theorem dX9_sheet_66 : decode cX9_sheet 66 = .ok (.bipush 16, 2) := by decide +kernel
theorem dX9_sheet_68 : decode cX9_sheet 68 = .ok (.if_icmp .ge 16, 3) := by decide +kernel
theorem dX9_sheet_71 : decode cX9_sheet 71 = .ok (.aload_n 0, 1) := by decide +kernel
theorem dX9_sheet_72 : decode cX9_sheet 72 = .ok (.getfield 113, 3) := by decide +kernel
theorem dX9_sheet_75 : decode cX9_sheet 75 = .ok (.iload_n 2, 1) := by decide +kernel
theorem dX9_sheet_76 : decode cX9_sheet 76 = .ok (.iconst 0, 1) := by decide +kernel
theorem dX9_sheet_77 : decode cX9_sheet 77 = .ok (.bastore, 1) := by decide +kernel
theorem dX9_sheet_78 : decode cX9_sheet 78 = .ok (.iinc 2 1, 3) := by decide +kernel
theorem dX9_sheet_81 : decode cX9_sheet 81 = .ok (.goto (-16), 3) := by decide +kernel
theorem dX9_sheet_84 : decode cX9_sheet 84 = .ok (.aload_n 0, 1) := by decide +kernel
theorem dX9_sheet_85 : decode cX9_sheet 85 = .ok (.invokevirtual 196, 3) := by decide +kernel
theorem dX9_sheet_88 : decode cX9_sheet 88 = .ok (.iconst 1, 1) := by decide +kernel
theorem dX9_sheet_89 : decode cX9_sheet 89 = .ok (.ireturn, 1) := by decide +kernel
theorem dX9_acted_0 : decode cX9_acted 0 = .ok (.aload_n 0, 1) := by decide +kernel
theorem dX9_acted_1 : decode cX9_acted 1 = .ok (.getfield 116, 3) := by decide +kernel
theorem dX9_acted_4 : decode cX9_acted 4 = .ok (.aload_n 0, 1) := by decide +kernel
theorem dX9_acted_5 : decode cX9_acted 5 = .ok (.getfield 333, 3) := by decide +kernel
theorem dX9_acted_8 : decode cX9_acted 8 = .ok (.iload_n 1, 1) := by decide +kernel
theorem dX9_acted_9 : decode cX9_acted 9 = .ok (.iastore, 1) := by decide +kernel
theorem dX9_acted_10 : decode cX9_acted 10 = .ok (.aload_n 0, 1) := by decide +kernel
theorem dX9_acted_11 : decode cX9_acted 11 = .ok (.getfield 119, 3) := by decide +kernel
theorem dX9_acted_14 : decode cX9_acted 14 = .ok (.aload_n 0, 1) := by decide +kernel
theorem dX9_acted_15 : decode cX9_acted 15 = .ok (.getfield 333, 3) := by decide +kernel
theorem dX9_acted_18 : decode cX9_acted 18 = .ok (.iload_n 2, 1) := by decide +kernel
theorem dX9_acted_19 : decode cX9_acted 19 = .ok (.iastore, 1) := by decide +kernel
theorem dX9_acted_20 : decode cX9_acted 20 = .ok (.aload_n 0, 1) := by decide +kernel
theorem dX9_acted_21 : decode cX9_acted 21 = .ok (.getfield 122, 3) := by decide +kernel
theorem dX9_acted_24 : decode cX9_acted 24 = .ok (.aload_n 0, 1) := by decide +kernel
theorem dX9_acted_25 : decode cX9_acted 25 = .ok (.getfield 333, 3) := by decide +kernel
theorem dX9_acted_28 : decode cX9_acted 28 = .ok (.iload_n 3, 1) := by decide +kernel
theorem dX9_acted_29 : decode cX9_acted 29 = .ok (.iastore, 1) := by decide +kernel
theorem dX9_acted_30 : decode cX9_acted 30 = .ok (.aload_n 0, 1) := by decide +kernel
theorem dX9_acted_31 : decode cX9_acted 31 = .ok (.getfield 125, 3) := by decide +kernel
theorem dX9_acted_34 : decode cX9_acted 34 = .ok (.aload_n 0, 1) := by decide +kernel
theorem dX9_acted_35 : decode cX9_acted 35 = .ok (.getfield 333, 3) := by decide +kernel
theorem dX9_acted_38 : decode cX9_acted 38 = .ok (.iload 4, 2) := by decide +kernel
theorem dX9_acted_40 : decode cX9_acted 40 = .ok (.iastore, 1) := by decide +kernel
theorem dX9_acted_41 : decode cX9_acted 41 = .ok (.aload_n 0, 1) := by decide +kernel
theorem dX9_acted_42 : decode cX9_acted 42 = .ok (.getfield 128, 3) := by decide +kernel
theorem dX9_acted_45 : decode cX9_acted 45 = .ok (.aload_n 0, 1) := by decide +kernel
theorem dX9_acted_46 : decode cX9_acted 46 = .ok (.getfield 333, 3) := by decide +kernel
theorem dX9_acted_49 : decode cX9_acted 49 = .ok (.iload 5, 2) := by decide +kernel
theorem dX9_acted_51 : decode cX9_acted 51 = .ok (.iastore, 1) := by decide +kernel
theorem dX9_acted_52 : decode cX9_acted 52 = .ok (.aload_n 0, 1) := by decide +kernel
theorem dX9_acted_53 : decode cX9_acted 53 = .ok (.dup, 1) := by decide +kernel
theorem dX9_acted_54 : decode cX9_acted 54 = .ok (.getfield 333, 3) := by decide +kernel
theorem dX9_acted_57 : decode cX9_acted 57 = .ok (.iconst 1, 1) := by decide +kernel
theorem dX9_acted_58 : decode cX9_acted 58 = .ok (.iadd, 1) := by decide +kernel
theorem dX9_acted_59 : decode cX9_acted 59 = .ok (.putfield 333, 3) := by decide +kernel
theorem dX9_acted_62 : decode cX9_acted 62 = .ok (.aload_n 0, 1) := by decide +kernel
theorem dX9_acted_63 : decode cX9_acted 63 = .ok (.getfield 333, 3) := by decide +kernel
theorem dX9_acted_66 : decode cX9_acted 66 = .ok (.iconst 1, 1) := by decide +kernel
theorem dX9_acted_67 : decode cX9_acted 67 = .ok (.isub, 1) := by decide +kernel
theorem dX9_acted_68 : decode cX9_acted 68 = .ok (.ireturn, 1) := by decide +kernel
theorem dX9_turnedBy_0 : decode cX9_turnedBy 0 = .ok (.iconst 0, 1) := by decide +kernel
theorem dX9_turnedBy_1 : decode cX9_turnedBy 1 = .ok (.istore_n 3, 1) := by decide +kernel
theorem dX9_turnedBy_2 : decode cX9_turnedBy 2 = .ok (.iconst 0, 1) := by decide +kernel
theorem dX9_turnedBy_3 : decode cX9_turnedBy 3 = .ok (.istore 4, 2) := by decide +kernel
theorem dX9_turnedBy_5 : decode cX9_turnedBy 5 = .ok (.iload 4, 2) := by decide +kernel
theorem dX9_turnedBy_7 : decode cX9_turnedBy 7 = .ok (.aload_n 0, 1) := by decide +kernel
theorem dX9_turnedBy_8 : decode cX9_turnedBy 8 = .ok (.getfield 189, 3) := by decide +kernel
theorem dX9_turnedBy_11 : decode cX9_turnedBy 11 = .ok (.if_icmp .ge 27, 3) := by decide +kernel
theorem dX9_turnedBy_14 : decode cX9_turnedBy 14 = .ok (.aload_n 0, 1) := by decide +kernel
theorem dX9_turnedBy_15 : decode cX9_turnedBy 15 = .ok (.aload_n 0, 1) := by decide +kernel
theorem dX9_turnedBy_16 : decode cX9_turnedBy 16 = .ok (.getfield 333, 3) := by decide +kernel
theorem dX9_turnedBy_19 : decode cX9_turnedBy 19 = .ok (.iload 4, 2) := by decide +kernel
theorem dX9_turnedBy_21 : decode cX9_turnedBy 21 = .ok (.iload_n 1, 1) := by decide +kernel
theorem dX9_turnedBy_22 : decode cX9_turnedBy 22 = .ok (.iload_n 2, 1) := by decide +kernel
theorem dX9_turnedBy_23 : decode cX9_turnedBy 23 = .ok (.invokevirtual 305, 3) := by decide +kernel
theorem dX9_turnedBy_26 : decode cX9_turnedBy 26 = .ok (.ifCond .eq 6, 3) := by decide +kernel
theorem dX9_turnedBy_29 : decode cX9_turnedBy 29 = .ok (.iinc 3 1, 3) := by decide +kernel
theorem dX9_turnedBy_32 : decode cX9_turnedBy 32 = .ok (.iinc 4 1, 3) := by decide +kernel
theorem dX9_turnedBy_35 : decode cX9_turnedBy 35 = .ok (.goto (-30), 3) := by decide +kernel
theorem dX9_turnedBy_38 : decode cX9_turnedBy 38 = .ok (.iload_n 3, 1) := by decide +kernel
theorem dX9_turnedBy_39 : decode cX9_turnedBy 39 = .ok (.ireturn, 1) := by decide +kernel
theorem dX9_leaves_0 : decode cX9_leaves 0 = .ok (.iconst 0, 1) := by decide +kernel
theorem dX9_leaves_1 : decode cX9_leaves 1 = .ok (.istore_n 2, 1) := by decide +kernel
theorem dX9_leaves_2 : decode cX9_leaves 2 = .ok (.iload_n 2, 1) := by decide +kernel
theorem dX9_leaves_3 : decode cX9_leaves 3 = .ok (.bipush 7, 2) := by decide +kernel
theorem dX9_leaves_5 : decode cX9_leaves 5 = .ok (.if_icmp .ge 25, 3) := by decide +kernel
theorem dX9_leaves_8 : decode cX9_leaves 8 = .ok (.aload_n 0, 1) := by decide +kernel
theorem dX9_leaves_9 : decode cX9_leaves 9 = .ok (.getfield 104, 3) := by decide +kernel
theorem dX9_leaves_12 : decode cX9_leaves 12 = .ok (.iload_n 2, 1) := by decide +kernel
theorem dX9_leaves_13 : decode cX9_leaves 13 = .ok (.dup2, 1) := by decide +kernel
theorem dX9_leaves_14 : decode cX9_leaves 14 = .ok (.iaload, 1) := by decide +kernel
theorem dX9_leaves_15 : decode cX9_leaves 15 = .ok (.iload_n 1, 1) := by decide +kernel
theorem dX9_leaves_16 : decode cX9_leaves 16 = .ok (.iconst 2, 1) := by decide +kernel
theorem dX9_leaves_17 : decode cX9_leaves 17 = .ok (.iload_n 2, 1) := by decide +kernel
theorem dX9_leaves_18 : decode cX9_leaves 18 = .ok (.imul, 1) := by decide +kernel
theorem dX9_leaves_19 : decode cX9_leaves 19 = .ok (.ishr, 1) := by decide +kernel
theorem dX9_leaves_20 : decode cX9_leaves 20 = .ok (.iconst 3, 1) := by decide +kernel
theorem dX9_leaves_21 : decode cX9_leaves 21 = .ok (.iand, 1) := by decide +kernel
theorem dX9_leaves_22 : decode cX9_leaves 22 = .ok (.ior, 1) := by decide +kernel
theorem dX9_leaves_23 : decode cX9_leaves 23 = .ok (.iastore, 1) := by decide +kernel
theorem dX9_leaves_24 : decode cX9_leaves 24 = .ok (.iinc 2 1, 3) := by decide +kernel
theorem dX9_leaves_27 : decode cX9_leaves 27 = .ok (.goto (-25), 3) := by decide +kernel
theorem dX9_leaves_30 : decode cX9_leaves 30 = .ok (.return_, 1) := by decide +kernel
theorem dX9_fold_0 : decode cX9_fold 0 = .ok (.aload_n 0, 1) := by decide +kernel
theorem dX9_fold_1 : decode cX9_fold 1 = .ok (.getfield 333, 3) := by decide +kernel
theorem dX9_fold_4 : decode cX9_fold 4 = .ok (.bipush 16, 2) := by decide +kernel
theorem dX9_fold_6 : decode cX9_fold 6 = .ok (.if_icmp .eq 21, 3) := by decide +kernel
theorem dX9_fold_9 : decode cX9_fold 9 = .ok (.iload_n 1, 1) := by decide +kernel
theorem dX9_fold_10 : decode cX9_fold 10 = .ok (.iconst 1, 1) := by decide +kernel
theorem dX9_fold_11 : decode cX9_fold 11 = .ok (.if_icmp .lt 16, 3) := by decide +kernel
theorem dX9_fold_14 : decode cX9_fold 14 = .ok (.iload_n 1, 1) := by decide +kernel
theorem dX9_fold_15 : decode cX9_fold 15 = .ok (.aload_n 0, 1) := by decide +kernel
theorem dX9_fold_16 : decode cX9_fold 16 = .ok (.getfield 92, 3) := by decide +kernel
theorem dX9_fold_19 : decode cX9_fold 19 = .ok (.aload_n 0, 1) := by decide +kernel
theorem dX9_fold_20 : decode cX9_fold 20 = .ok (.getfield 333, 3) := by decide +kernel
theorem dX9_fold_23 : decode cX9_fold 23 = .ok (.iaload, 1) := by decide +kernel
theorem dX9_fold_24 : decode cX9_fold 24 = .ok (.if_icmp .lt 5, 3) := by decide +kernel
theorem dX9_fold_27 : decode cX9_fold 27 = .ok (.iconst (-1), 1) := by decide +kernel
theorem dX9_fold_28 : decode cX9_fold 28 = .ok (.ireturn, 1) := by decide +kernel
theorem dX9_fold_29 : decode cX9_fold 29 = .ok (.aload_n 0, 1) := by decide +kernel
theorem dX9_fold_30 : decode cX9_fold 30 = .ok (.aload_n 0, 1) := by decide +kernel
theorem dX9_fold_31 : decode cX9_fold 31 = .ok (.aload_n 0, 1) := by decide +kernel
theorem dX9_fold_32 : decode cX9_fold 32 = .ok (.getfield 333, 3) := by decide +kernel
theorem dX9_fold_35 : decode cX9_fold 35 = .ok (.aload_n 0, 1) := by decide +kernel
theorem dX9_fold_36 : decode cX9_fold 36 = .ok (.getfield 333, 3) := by decide +kernel
theorem dX9_fold_39 : decode cX9_fold 39 = .ok (.iconst 1, 1) := by decide +kernel
theorem dX9_fold_40 : decode cX9_fold 40 = .ok (.iadd, 1) := by decide +kernel
theorem dX9_fold_41 : decode cX9_fold 41 = .ok (.iload_n 1, 1) := by decide +kernel
theorem dX9_fold_42 : decode cX9_fold 42 = .ok (.iload_n 2, 1) := by decide +kernel
theorem dX9_fold_43 : decode cX9_fold 43 = .ok (.iload_n 3, 1) := by decide +kernel
theorem dX9_fold_44 : decode cX9_fold 44 = .ok (.ifCond .eq 7, 3) := by decide +kernel
theorem dX9_fold_47 : decode cX9_fold 47 = .ok (.iconst 0, 1) := by decide +kernel
theorem dX9_fold_48 : decode cX9_fold 48 = .ok (.goto 4, 3) := by decide +kernel
theorem dX9_fold_51 : decode cX9_fold 51 = .ok (.iconst 1, 1) := by decide +kernel
theorem dX9_fold_52 : decode cX9_fold 52 = .ok (.invokevirtual 336, 3) := by decide +kernel
theorem dX9_fold_55 : decode cX9_fold 55 = .ok (.invokevirtual 340, 3) := by decide +kernel
theorem dX9_fold_58 : decode cX9_fold 58 = .ok (.aload_n 0, 1) := by decide +kernel
theorem dX9_fold_59 : decode cX9_fold 59 = .ok (.iconst 0, 1) := by decide +kernel
theorem dX9_fold_60 : decode cX9_fold 60 = .ok (.aload_n 0, 1) := by decide +kernel
theorem dX9_fold_61 : decode cX9_fold 61 = .ok (.iload_n 1, 1) := by decide +kernel
theorem dX9_fold_62 : decode cX9_fold 62 = .ok (.iload_n 2, 1) := by decide +kernel
theorem dX9_fold_63 : decode cX9_fold 63 = .ok (.invokevirtual 343, 3) := by decide +kernel
theorem dX9_fold_66 : decode cX9_fold 66 = .ok (.iload_n 1, 1) := by decide +kernel
theorem dX9_fold_67 : decode cX9_fold 67 = .ok (.iconst 0, 1) := by decide +kernel
theorem dX9_fold_68 : decode cX9_fold 68 = .ok (.iconst 0, 1) := by decide +kernel
theorem dX9_fold_69 : decode cX9_fold 69 = .ok (.invokevirtual 347, 3) := by decide +kernel
theorem dX9_fold_72 : decode cX9_fold 72 = .ok (.ireturn, 1) := by decide +kernel
theorem dX9_tuck_0 : decode cX9_tuck 0 = .ok (.aload_n 0, 1) := by decide +kernel
theorem dX9_tuck_1 : decode cX9_tuck 1 = .ok (.getfield 333, 3) := by decide +kernel
theorem dX9_tuck_4 : decode cX9_tuck 4 = .ok (.bipush 16, 2) := by decide +kernel
theorem dX9_tuck_6 : decode cX9_tuck 6 = .ok (.if_icmp .eq 31, 3) := by decide +kernel
theorem dX9_tuck_9 : decode cX9_tuck 9 = .ok (.iload_n 1, 1) := by decide +kernel
theorem dX9_tuck_10 : decode cX9_tuck 10 = .ok (.iconst 1, 1) := by decide +kernel
theorem dX9_tuck_11 : decode cX9_tuck 11 = .ok (.if_icmp .lt 26, 3) := by decide +kernel
theorem dX9_tuck_14 : decode cX9_tuck 14 = .ok (.iload_n 1, 1) := by decide +kernel
theorem dX9_tuck_15 : decode cX9_tuck 15 = .ok (.aload_n 0, 1) := by decide +kernel
theorem dX9_tuck_16 : decode cX9_tuck 16 = .ok (.getfield 92, 3) := by decide +kernel
theorem dX9_tuck_19 : decode cX9_tuck 19 = .ok (.aload_n 0, 1) := by decide +kernel
theorem dX9_tuck_20 : decode cX9_tuck 20 = .ok (.getfield 333, 3) := by decide +kernel
theorem dX9_tuck_23 : decode cX9_tuck 23 = .ok (.iaload, 1) := by decide +kernel
theorem dX9_tuck_24 : decode cX9_tuck 24 = .ok (.if_icmp .ge 13, 3) := by decide +kernel
theorem dX9_tuck_27 : decode cX9_tuck 27 = .ok (.iload_n 3, 1) := by decide +kernel
theorem dX9_tuck_28 : decode cX9_tuck 28 = .ok (.ifCond .lt 9, 3) := by decide +kernel
theorem dX9_tuck_31 : decode cX9_tuck 31 = .ok (.iload_n 3, 1) := by decide +kernel
theorem dX9_tuck_32 : decode cX9_tuck 32 = .ok (.bipush 8, 2) := by decide +kernel
theorem dX9_tuck_34 : decode cX9_tuck 34 = .ok (.if_icmp .le 5, 3) := by decide +kernel
theorem dX9_tuck_37 : decode cX9_tuck 37 = .ok (.iconst (-1), 1) := by decide +kernel
theorem dX9_tuck_38 : decode cX9_tuck 38 = .ok (.ireturn, 1) := by decide +kernel
theorem dX9_tuck_39 : decode cX9_tuck 39 = .ok (.aload_n 0, 1) := by decide +kernel
theorem dX9_tuck_40 : decode cX9_tuck 40 = .ok (.aload_n 0, 1) := by decide +kernel
theorem dX9_tuck_41 : decode cX9_tuck 41 = .ok (.getfield 333, 3) := by decide +kernel
theorem dX9_tuck_44 : decode cX9_tuck 44 = .ok (.aload_n 0, 1) := by decide +kernel
theorem dX9_tuck_45 : decode cX9_tuck 45 = .ok (.getfield 333, 3) := by decide +kernel
theorem dX9_tuck_48 : decode cX9_tuck 48 = .ok (.iconst 1, 1) := by decide +kernel
theorem dX9_tuck_49 : decode cX9_tuck 49 = .ok (.iadd, 1) := by decide +kernel
theorem dX9_tuck_50 : decode cX9_tuck 50 = .ok (.iload_n 1, 1) := by decide +kernel
theorem dX9_tuck_51 : decode cX9_tuck 51 = .ok (.iload_n 2, 1) := by decide +kernel
theorem dX9_tuck_52 : decode cX9_tuck 52 = .ok (.iconst 2, 1) := by decide +kernel
theorem dX9_tuck_53 : decode cX9_tuck 53 = .ok (.iload_n 3, 1) := by decide +kernel
theorem dX9_tuck_54 : decode cX9_tuck 54 = .ok (.iadd, 1) := by decide +kernel
theorem dX9_tuck_55 : decode cX9_tuck 55 = .ok (.invokevirtual 336, 3) := by decide +kernel
theorem dX9_tuck_58 : decode cX9_tuck 58 = .ok (.istore 4, 2) := by decide +kernel
theorem dX9_tuck_60 : decode cX9_tuck 60 = .ok (.aload_n 0, 1) := by decide +kernel
theorem dX9_tuck_61 : decode cX9_tuck 61 = .ok (.aload_n 0, 1) := by decide +kernel
theorem dX9_tuck_62 : decode cX9_tuck 62 = .ok (.getfield 333, 3) := by decide +kernel
theorem dX9_tuck_65 : decode cX9_tuck 65 = .ok (.iconst 1, 1) := by decide +kernel
theorem dX9_tuck_66 : decode cX9_tuck 66 = .ok (.iadd, 1) := by decide +kernel
theorem dX9_tuck_67 : decode cX9_tuck 67 = .ok (.invokevirtual 351, 3) := by decide +kernel
theorem dX9_tuck_70 : decode cX9_tuck 70 = .ok (.ifCond .ne 6, 3) := by decide +kernel
theorem dX9_tuck_73 : decode cX9_tuck 73 = .ok (.bipush (-2), 2) := by decide +kernel
theorem dX9_tuck_75 : decode cX9_tuck 75 = .ok (.ireturn, 1) := by decide +kernel
theorem dX9_tuck_76 : decode cX9_tuck 76 = .ok (.aload_n 0, 1) := by decide +kernel
theorem dX9_tuck_77 : decode cX9_tuck 77 = .ok (.iload 4, 2) := by decide +kernel
theorem dX9_tuck_79 : decode cX9_tuck 79 = .ok (.invokevirtual 340, 3) := by decide +kernel
theorem dX9_tuck_82 : decode cX9_tuck 82 = .ok (.aload_n 0, 1) := by decide +kernel
theorem dX9_tuck_83 : decode cX9_tuck 83 = .ok (.iconst 1, 1) := by decide +kernel
theorem dX9_tuck_84 : decode cX9_tuck 84 = .ok (.aload_n 0, 1) := by decide +kernel
theorem dX9_tuck_85 : decode cX9_tuck 85 = .ok (.iload_n 1, 1) := by decide +kernel
theorem dX9_tuck_86 : decode cX9_tuck 86 = .ok (.iload_n 2, 1) := by decide +kernel
theorem dX9_tuck_87 : decode cX9_tuck 87 = .ok (.invokevirtual 343, 3) := by decide +kernel
theorem dX9_tuck_90 : decode cX9_tuck 90 = .ok (.iload_n 1, 1) := by decide +kernel
theorem dX9_tuck_91 : decode cX9_tuck 91 = .ok (.iconst 0, 1) := by decide +kernel
theorem dX9_tuck_92 : decode cX9_tuck 92 = .ok (.iconst 0, 1) := by decide +kernel
theorem dX9_tuck_93 : decode cX9_tuck 93 = .ok (.invokevirtual 347, 3) := by decide +kernel
theorem dX9_tuck_96 : decode cX9_tuck 96 = .ok (.ireturn, 1) := by decide +kernel
theorem dX9_isColumn_0 : decode cX9_isColumn 0 = .ok (.iload_n 1, 1) := by decide +kernel
theorem dX9_isColumn_1 : decode cX9_isColumn 1 = .ok (.ifCond .lt 20, 3) := by decide +kernel
theorem dX9_isColumn_4 : decode cX9_isColumn 4 = .ok (.iload_n 1, 1) := by decide +kernel
theorem dX9_isColumn_5 : decode cX9_isColumn 5 = .ok (.aload_n 0, 1) := by decide +kernel
theorem dX9_isColumn_6 : decode cX9_isColumn 6 = .ok (.getfield 92, 3) := by decide +kernel
theorem dX9_isColumn_9 : decode cX9_isColumn 9 = .ok (.aload_n 0, 1) := by decide +kernel
theorem dX9_isColumn_10 : decode cX9_isColumn 10 = .ok (.getfield 333, 3) := by decide +kernel
theorem dX9_isColumn_13 : decode cX9_isColumn 13 = .ok (.iaload, 1) := by decide +kernel
theorem dX9_isColumn_14 : decode cX9_isColumn 14 = .ok (.if_icmp .ge 7, 3) := by decide +kernel
theorem dX9_isColumn_17 : decode cX9_isColumn 17 = .ok (.iconst 1, 1) := by decide +kernel
theorem dX9_isColumn_18 : decode cX9_isColumn 18 = .ok (.goto 4, 3) := by decide +kernel
theorem dX9_isColumn_21 : decode cX9_isColumn 21 = .ok (.iconst 0, 1) := by decide +kernel
theorem dX9_isColumn_22 : decode cX9_isColumn 22 = .ok (.ireturn, 1) := by decide +kernel
theorem dX9_highest_0 : decode cX9_highest 0 = .ok (.aload_n 0, 1) := by decide +kernel
theorem dX9_highest_1 : decode cX9_highest 1 = .ok (.iload_n 1, 1) := by decide +kernel
theorem dX9_highest_2 : decode cX9_highest 2 = .ok (.iload_n 2, 1) := by decide +kernel
theorem dX9_highest_3 : decode cX9_highest 3 = .ok (.invokevirtual 309, 3) := by decide +kernel
theorem dX9_highest_6 : decode cX9_highest 6 = .ok (.istore 4, 2) := by decide +kernel
theorem dX9_highest_8 : decode cX9_highest 8 = .ok (.iconst 0, 1) := by decide +kernel
theorem dX9_highest_9 : decode cX9_highest 9 = .ok (.istore 5, 2) := by decide +kernel
theorem dX9_highest_11 : decode cX9_highest 11 = .ok (.iload 4, 2) := by decide +kernel
theorem dX9_highest_13 : decode cX9_highest 13 = .ok (.iload_n 3, 1) := by decide +kernel
theorem dX9_highest_14 : decode cX9_highest 14 = .ok (.isub, 1) := by decide +kernel
theorem dX9_highest_15 : decode cX9_highest 15 = .ok (.istore 6, 2) := by decide +kernel
theorem dX9_highest_17 : decode cX9_highest 17 = .ok (.iload 6, 2) := by decide +kernel
theorem dX9_highest_19 : decode cX9_highest 19 = .ok (.iload 4, 2) := by decide +kernel
theorem dX9_highest_21 : decode cX9_highest 21 = .ok (.if_icmp .ge 24, 3) := by decide +kernel
theorem dX9_highest_24 : decode cX9_highest 24 = .ok (.iload 5, 2) := by decide +kernel
theorem dX9_highest_26 : decode cX9_highest 26 = .ok (.iconst 1, 1) := by decide +kernel
theorem dX9_highest_27 : decode cX9_highest 27 = .ok (.aload_n 0, 1) := by decide +kernel
theorem dX9_highest_28 : decode cX9_highest 28 = .ok (.iload_n 1, 1) := by decide +kernel
theorem dX9_highest_29 : decode cX9_highest 29 = .ok (.iload_n 2, 1) := by decide +kernel
theorem dX9_highest_30 : decode cX9_highest 30 = .ok (.iload 6, 2) := by decide +kernel
theorem dX9_highest_32 : decode cX9_highest 32 = .ok (.invokevirtual 354, 3) := by decide +kernel
theorem dX9_highest_35 : decode cX9_highest 35 = .ok (.ishl, 1) := by decide +kernel
theorem dX9_highest_36 : decode cX9_highest 36 = .ok (.ior, 1) := by decide +kernel
theorem dX9_highest_37 : decode cX9_highest 37 = .ok (.istore 5, 2) := by decide +kernel
theorem dX9_highest_39 : decode cX9_highest 39 = .ok (.iinc 6 1, 3) := by decide +kernel
theorem dX9_highest_42 : decode cX9_highest 42 = .ok (.goto (-25), 3) := by decide +kernel
theorem dX9_highest_45 : decode cX9_highest 45 = .ok (.iload 5, 2) := by decide +kernel
theorem dX9_highest_47 : decode cX9_highest 47 = .ok (.ireturn, 1) := by decide +kernel
theorem dX9_slit_0 : decode cX9_slit 0 = .ok (.aload_n 0, 1) := by decide +kernel
theorem dX9_slit_1 : decode cX9_slit 1 = .ok (.getfield 333, 3) := by decide +kernel
theorem dX9_slit_4 : decode cX9_slit 4 = .ok (.bipush 16, 2) := by decide +kernel
theorem dX9_slit_6 : decode cX9_slit 6 = .ok (.if_icmp .eq 29, 3) := by decide +kernel
theorem dX9_slit_9 : decode cX9_slit 9 = .ok (.aload_n 0, 1) := by decide +kernel
theorem dX9_slit_10 : decode cX9_slit 10 = .ok (.iload_n 1, 1) := by decide +kernel
theorem dX9_slit_11 : decode cX9_slit 11 = .ok (.invokevirtual 357, 3) := by decide +kernel
theorem dX9_slit_14 : decode cX9_slit 14 = .ok (.ifCond .eq 21, 3) := by decide +kernel
theorem dX9_slit_17 : decode cX9_slit 17 = .ok (.iload_n 2, 1) := by decide +kernel
theorem dX9_slit_18 : decode cX9_slit 18 = .ok (.iconst 1, 1) := by decide +kernel
theorem dX9_slit_19 : decode cX9_slit 19 = .ok (.if_icmp .lt 16, 3) := by decide +kernel
theorem dX9_slit_22 : decode cX9_slit 22 = .ok (.iload_n 2, 1) := by decide +kernel
theorem dX9_slit_23 : decode cX9_slit 23 = .ok (.aload_n 0, 1) := by decide +kernel
theorem dX9_slit_24 : decode cX9_slit 24 = .ok (.aload_n 0, 1) := by decide +kernel
theorem dX9_slit_25 : decode cX9_slit 25 = .ok (.getfield 333, 3) := by decide +kernel
theorem dX9_slit_28 : decode cX9_slit 28 = .ok (.iload_n 1, 1) := by decide +kernel
theorem dX9_slit_29 : decode cX9_slit 29 = .ok (.invokevirtual 309, 3) := by decide +kernel
theorem dX9_slit_32 : decode cX9_slit 32 = .ok (.if_icmp .le 5, 3) := by decide +kernel
theorem dX9_slit_35 : decode cX9_slit 35 = .ok (.iconst (-1), 1) := by decide +kernel
theorem dX9_slit_36 : decode cX9_slit 36 = .ok (.ireturn, 1) := by decide +kernel
theorem dX9_slit_37 : decode cX9_slit 37 = .ok (.aload_n 0, 1) := by decide +kernel
theorem dX9_slit_38 : decode cX9_slit 38 = .ok (.aload_n 0, 1) := by decide +kernel
theorem dX9_slit_39 : decode cX9_slit 39 = .ok (.getfield 333, 3) := by decide +kernel
theorem dX9_slit_42 : decode cX9_slit 42 = .ok (.iload_n 1, 1) := by decide +kernel
theorem dX9_slit_43 : decode cX9_slit 43 = .ok (.iload_n 2, 1) := by decide +kernel
theorem dX9_slit_44 : decode cX9_slit 44 = .ok (.invokevirtual 360, 3) := by decide +kernel
theorem dX9_slit_47 : decode cX9_slit 47 = .ok (.istore_n 3, 1) := by decide +kernel
theorem dX9_slit_48 : decode cX9_slit 48 = .ok (.iconst 0, 1) := by decide +kernel
theorem dX9_slit_49 : decode cX9_slit 49 = .ok (.istore 4, 2) := by decide +kernel
theorem dX9_slit_51 : decode cX9_slit 51 = .ok (.iload 4, 2) := by decide +kernel
theorem dX9_slit_53 : decode cX9_slit 53 = .ok (.aload_n 0, 1) := by decide +kernel
theorem dX9_slit_54 : decode cX9_slit 54 = .ok (.getfield 189, 3) := by decide +kernel
theorem dX9_slit_57 : decode cX9_slit 57 = .ok (.if_icmp .ge 25, 3) := by decide +kernel
theorem dX9_slit_60 : decode cX9_slit 60 = .ok (.aload_n 0, 1) := by decide +kernel
theorem dX9_slit_61 : decode cX9_slit 61 = .ok (.getfield 107, 3) := by decide +kernel
theorem dX9_slit_64 : decode cX9_slit 64 = .ok (.iload 4, 2) := by decide +kernel
theorem dX9_slit_66 : decode cX9_slit 66 = .ok (.dup2, 1) := by decide +kernel
theorem dX9_slit_67 : decode cX9_slit 67 = .ok (.iaload, 1) := by decide +kernel
theorem dX9_slit_68 : decode cX9_slit 68 = .ok (.iload_n 3, 1) := by decide +kernel
theorem dX9_slit_69 : decode cX9_slit 69 = .ok (.iload 4, 2) := by decide +kernel
theorem dX9_slit_71 : decode cX9_slit 71 = .ok (.ishr, 1) := by decide +kernel
theorem dX9_slit_72 : decode cX9_slit 72 = .ok (.iconst 1, 1) := by decide +kernel
theorem dX9_slit_73 : decode cX9_slit 73 = .ok (.iand, 1) := by decide +kernel
theorem dX9_slit_74 : decode cX9_slit 74 = .ok (.iadd, 1) := by decide +kernel
theorem dX9_slit_75 : decode cX9_slit 75 = .ok (.iastore, 1) := by decide +kernel
theorem dX9_slit_76 : decode cX9_slit 76 = .ok (.iinc 4 1, 3) := by decide +kernel
theorem dX9_slit_79 : decode cX9_slit 79 = .ok (.goto (-28), 3) := by decide +kernel
theorem dX9_slit_82 : decode cX9_slit 82 = .ok (.aload_n 0, 1) := by decide +kernel
theorem dX9_slit_83 : decode cX9_slit 83 = .ok (.aload_n 0, 1) := by decide +kernel
theorem dX9_slit_84 : decode cX9_slit 84 = .ok (.getfield 333, 3) := by decide +kernel
theorem dX9_slit_87 : decode cX9_slit 87 = .ok (.aload_n 0, 1) := by decide +kernel
theorem dX9_slit_88 : decode cX9_slit 88 = .ok (.getfield 333, 3) := by decide +kernel
theorem dX9_slit_91 : decode cX9_slit 91 = .ok (.iconst 1, 1) := by decide +kernel
theorem dX9_slit_92 : decode cX9_slit 92 = .ok (.iadd, 1) := by decide +kernel
theorem dX9_slit_93 : decode cX9_slit 93 = .ok (.invokevirtual 363, 3) := by decide +kernel
theorem dX9_slit_96 : decode cX9_slit 96 = .ok (.aload_n 0, 1) := by decide +kernel
theorem dX9_slit_97 : decode cX9_slit 97 = .ok (.iconst 2, 1) := by decide +kernel
theorem dX9_slit_98 : decode cX9_slit 98 = .ok (.iload_n 2, 1) := by decide +kernel
theorem dX9_slit_99 : decode cX9_slit 99 = .ok (.iload_n 1, 1) := by decide +kernel
theorem dX9_slit_100 : decode cX9_slit 100 = .ok (.aload_n 0, 1) := by decide +kernel
theorem dX9_slit_101 : decode cX9_slit 101 = .ok (.aload_n 0, 1) := by decide +kernel
theorem dX9_slit_102 : decode cX9_slit 102 = .ok (.getfield 333, 3) := by decide +kernel
theorem dX9_slit_105 : decode cX9_slit 105 = .ok (.iload_n 1, 1) := by decide +kernel
theorem dX9_slit_106 : decode cX9_slit 106 = .ok (.invokevirtual 309, 3) := by decide +kernel
theorem dX9_slit_109 : decode cX9_slit 109 = .ok (.iload_n 2, 1) := by decide +kernel
theorem dX9_slit_110 : decode cX9_slit 110 = .ok (.isub, 1) := by decide +kernel
theorem dX9_slit_111 : decode cX9_slit 111 = .ok (.iconst 0, 1) := by decide +kernel
theorem dX9_slit_112 : decode cX9_slit 112 = .ok (.invokevirtual 347, 3) := by decide +kernel
theorem dX9_slit_115 : decode cX9_slit 115 = .ok (.ireturn, 1) := by decide +kernel
theorem dX9_lock_0 : decode cX9_lock 0 = .ok (.aload_n 0, 1) := by decide +kernel
theorem dX9_lock_1 : decode cX9_lock 1 = .ok (.getfield 333, 3) := by decide +kernel
theorem dX9_lock_4 : decode cX9_lock 4 = .ok (.bipush 16, 2) := by decide +kernel
theorem dX9_lock_6 : decode cX9_lock 6 = .ok (.if_icmp .eq 29, 3) := by decide +kernel
theorem dX9_lock_9 : decode cX9_lock 9 = .ok (.aload_n 0, 1) := by decide +kernel
theorem dX9_lock_10 : decode cX9_lock 10 = .ok (.iload_n 1, 1) := by decide +kernel
theorem dX9_lock_11 : decode cX9_lock 11 = .ok (.invokevirtual 357, 3) := by decide +kernel
theorem dX9_lock_14 : decode cX9_lock 14 = .ok (.ifCond .eq 21, 3) := by decide +kernel
theorem dX9_lock_17 : decode cX9_lock 17 = .ok (.iload_n 2, 1) := by decide +kernel
theorem dX9_lock_18 : decode cX9_lock 18 = .ok (.iconst 2, 1) := by decide +kernel
theorem dX9_lock_19 : decode cX9_lock 19 = .ok (.if_icmp .lt 16, 3) := by decide +kernel
theorem dX9_lock_22 : decode cX9_lock 22 = .ok (.iload_n 2, 1) := by decide +kernel
theorem dX9_lock_23 : decode cX9_lock 23 = .ok (.aload_n 0, 1) := by decide +kernel
theorem dX9_lock_24 : decode cX9_lock 24 = .ok (.aload_n 0, 1) := by decide +kernel
theorem dX9_lock_25 : decode cX9_lock 25 = .ok (.getfield 333, 3) := by decide +kernel
theorem dX9_lock_28 : decode cX9_lock 28 = .ok (.iload_n 1, 1) := by decide +kernel
theorem dX9_lock_29 : decode cX9_lock 29 = .ok (.invokevirtual 309, 3) := by decide +kernel
theorem dX9_lock_32 : decode cX9_lock 32 = .ok (.if_icmp .le 5, 3) := by decide +kernel
theorem dX9_lock_35 : decode cX9_lock 35 = .ok (.iconst (-1), 1) := by decide +kernel
theorem dX9_lock_36 : decode cX9_lock 36 = .ok (.ireturn, 1) := by decide +kernel
theorem dX9_lock_37 : decode cX9_lock 37 = .ok (.aload_n 0, 1) := by decide +kernel
theorem dX9_lock_38 : decode cX9_lock 38 = .ok (.aload_n 0, 1) := by decide +kernel
theorem dX9_lock_39 : decode cX9_lock 39 = .ok (.getfield 333, 3) := by decide +kernel
theorem dX9_lock_42 : decode cX9_lock 42 = .ok (.iload_n 1, 1) := by decide +kernel
theorem dX9_lock_43 : decode cX9_lock 43 = .ok (.iload_n 2, 1) := by decide +kernel
theorem dX9_lock_44 : decode cX9_lock 44 = .ok (.invokevirtual 360, 3) := by decide +kernel
theorem dX9_lock_47 : decode cX9_lock 47 = .ok (.istore_n 3, 1) := by decide +kernel
theorem dX9_lock_48 : decode cX9_lock 48 = .ok (.iconst 0, 1) := by decide +kernel
theorem dX9_lock_49 : decode cX9_lock 49 = .ok (.istore 4, 2) := by decide +kernel
theorem dX9_lock_51 : decode cX9_lock 51 = .ok (.iload 4, 2) := by decide +kernel
theorem dX9_lock_53 : decode cX9_lock 53 = .ok (.aload_n 0, 1) := by decide +kernel
theorem dX9_lock_54 : decode cX9_lock 54 = .ok (.getfield 189, 3) := by decide +kernel
theorem dX9_lock_57 : decode cX9_lock 57 = .ok (.if_icmp .ge 32, 3) := by decide +kernel
theorem dX9_lock_60 : decode cX9_lock 60 = .ok (.iload_n 3, 1) := by decide +kernel
theorem dX9_lock_61 : decode cX9_lock 61 = .ok (.iload 4, 2) := by decide +kernel
theorem dX9_lock_63 : decode cX9_lock 63 = .ok (.ishr, 1) := by decide +kernel
theorem dX9_lock_64 : decode cX9_lock 64 = .ok (.iconst 1, 1) := by decide +kernel
theorem dX9_lock_65 : decode cX9_lock 65 = .ok (.iand, 1) := by decide +kernel
theorem dX9_lock_66 : decode cX9_lock 66 = .ok (.iconst 1, 1) := by decide +kernel
theorem dX9_lock_67 : decode cX9_lock 67 = .ok (.if_icmp .ne 16, 3) := by decide +kernel
theorem dX9_lock_70 : decode cX9_lock 70 = .ok (.aload_n 0, 1) := by decide +kernel
theorem dX9_lock_71 : decode cX9_lock 71 = .ok (.getfield 107, 3) := by decide +kernel
theorem dX9_lock_74 : decode cX9_lock 74 = .ok (.iload 4, 2) := by decide +kernel
theorem dX9_lock_76 : decode cX9_lock 76 = .ok (.iaload, 1) := by decide +kernel
theorem dX9_lock_77 : decode cX9_lock 77 = .ok (.ifCond .ne 6, 3) := by decide +kernel
theorem dX9_lock_80 : decode cX9_lock 80 = .ok (.bipush (-2), 2) := by decide +kernel
theorem dX9_lock_82 : decode cX9_lock 82 = .ok (.ireturn, 1) := by decide +kernel
theorem dX9_lock_83 : decode cX9_lock 83 = .ok (.iinc 4 1, 3) := by decide +kernel
theorem dX9_lock_86 : decode cX9_lock 86 = .ok (.goto (-35), 3) := by decide +kernel
theorem dX9_lock_89 : decode cX9_lock 89 = .ok (.aload_n 0, 1) := by decide +kernel
theorem dX9_lock_90 : decode cX9_lock 90 = .ok (.aload_n 0, 1) := by decide +kernel
theorem dX9_lock_91 : decode cX9_lock 91 = .ok (.getfield 333, 3) := by decide +kernel
theorem dX9_lock_94 : decode cX9_lock 94 = .ok (.aload_n 0, 1) := by decide +kernel
theorem dX9_lock_95 : decode cX9_lock 95 = .ok (.getfield 333, 3) := by decide +kernel
theorem dX9_lock_98 : decode cX9_lock 98 = .ok (.iconst 1, 1) := by decide +kernel
theorem dX9_lock_99 : decode cX9_lock 99 = .ok (.iadd, 1) := by decide +kernel
theorem dX9_lock_100 : decode cX9_lock 100 = .ok (.invokevirtual 363, 3) := by decide +kernel
theorem dX9_lock_103 : decode cX9_lock 103 = .ok (.aload_n 0, 1) := by decide +kernel
theorem dX9_lock_104 : decode cX9_lock 104 = .ok (.iconst 3, 1) := by decide +kernel
theorem dX9_lock_105 : decode cX9_lock 105 = .ok (.iload_n 2, 1) := by decide +kernel
theorem dX9_lock_106 : decode cX9_lock 106 = .ok (.iload_n 1, 1) := by decide +kernel
theorem dX9_lock_107 : decode cX9_lock 107 = .ok (.aload_n 0, 1) := by decide +kernel
theorem dX9_lock_108 : decode cX9_lock 108 = .ok (.aload_n 0, 1) := by decide +kernel
theorem dX9_lock_109 : decode cX9_lock 109 = .ok (.getfield 333, 3) := by decide +kernel
theorem dX9_lock_112 : decode cX9_lock 112 = .ok (.iload_n 1, 1) := by decide +kernel
theorem dX9_lock_113 : decode cX9_lock 113 = .ok (.invokevirtual 309, 3) := by decide +kernel
theorem dX9_lock_116 : decode cX9_lock 116 = .ok (.iload_n 2, 1) := by decide +kernel
theorem dX9_lock_117 : decode cX9_lock 117 = .ok (.isub, 1) := by decide +kernel
theorem dX9_lock_118 : decode cX9_lock 118 = .ok (.iload_n 3, 1) := by decide +kernel
theorem dX9_lock_119 : decode cX9_lock 119 = .ok (.invokevirtual 347, 3) := by decide +kernel
theorem dX9_lock_122 : decode cX9_lock 122 = .ok (.ireturn, 1) := by decide +kernel
theorem dX9_seal_0 : decode cX9_seal 0 = .ok (.aload_n 0, 1) := by decide +kernel
theorem dX9_seal_1 : decode cX9_seal 1 = .ok (.getfield 333, 3) := by decide +kernel
theorem dX9_seal_4 : decode cX9_seal 4 = .ok (.bipush 16, 2) := by decide +kernel
theorem dX9_seal_6 : decode cX9_seal 6 = .ok (.if_icmp .eq 24, 3) := by decide +kernel
theorem dX9_seal_9 : decode cX9_seal 9 = .ok (.aload_n 0, 1) := by decide +kernel
theorem dX9_seal_10 : decode cX9_seal 10 = .ok (.iload_n 1, 1) := by decide +kernel
theorem dX9_seal_11 : decode cX9_seal 11 = .ok (.invokevirtual 357, 3) := by decide +kernel
theorem dX9_seal_14 : decode cX9_seal 14 = .ok (.ifCond .eq 16, 3) := by decide +kernel
theorem dX9_seal_17 : decode cX9_seal 17 = .ok (.aload_n 0, 1) := by decide +kernel
theorem dX9_seal_18 : decode cX9_seal 18 = .ok (.aload_n 0, 1) := by decide +kernel
theorem dX9_seal_19 : decode cX9_seal 19 = .ok (.getfield 333, 3) := by decide +kernel
theorem dX9_seal_22 : decode cX9_seal 22 = .ok (.iload_n 1, 1) := by decide +kernel
theorem dX9_seal_23 : decode cX9_seal 23 = .ok (.invokevirtual 309, 3) := by decide +kernel
theorem dX9_seal_26 : decode cX9_seal 26 = .ok (.iconst 2, 1) := by decide +kernel
theorem dX9_seal_27 : decode cX9_seal 27 = .ok (.if_icmp .ge 5, 3) := by decide +kernel
theorem dX9_seal_30 : decode cX9_seal 30 = .ok (.iconst (-1), 1) := by decide +kernel
theorem dX9_seal_31 : decode cX9_seal 31 = .ok (.ireturn, 1) := by decide +kernel
theorem dX9_seal_32 : decode cX9_seal 32 = .ok (.aload_n 0, 1) := by decide +kernel
theorem dX9_seal_33 : decode cX9_seal 33 = .ok (.aload_n 0, 1) := by decide +kernel
theorem dX9_seal_34 : decode cX9_seal 34 = .ok (.getfield 333, 3) := by decide +kernel
theorem dX9_seal_37 : decode cX9_seal 37 = .ok (.iload_n 1, 1) := by decide +kernel
theorem dX9_seal_38 : decode cX9_seal 38 = .ok (.iconst 2, 1) := by decide +kernel
theorem dX9_seal_39 : decode cX9_seal 39 = .ok (.invokevirtual 360, 3) := by decide +kernel
theorem dX9_seal_42 : decode cX9_seal 42 = .ok (.istore_n 2, 1) := by decide +kernel
theorem dX9_seal_43 : decode cX9_seal 43 = .ok (.iconst 0, 1) := by decide +kernel
theorem dX9_seal_44 : decode cX9_seal 44 = .ok (.istore_n 3, 1) := by decide +kernel
theorem dX9_seal_45 : decode cX9_seal 45 = .ok (.iload_n 3, 1) := by decide +kernel
theorem dX9_seal_46 : decode cX9_seal 46 = .ok (.aload_n 0, 1) := by decide +kernel
theorem dX9_seal_47 : decode cX9_seal 47 = .ok (.getfield 189, 3) := by decide +kernel
theorem dX9_seal_50 : decode cX9_seal 50 = .ok (.if_icmp .ge 23, 3) := by decide +kernel
theorem dX9_seal_53 : decode cX9_seal 53 = .ok (.aload_n 0, 1) := by decide +kernel
theorem dX9_seal_54 : decode cX9_seal 54 = .ok (.getfield 110, 3) := by decide +kernel
theorem dX9_seal_57 : decode cX9_seal 57 = .ok (.iload_n 3, 1) := by decide +kernel
theorem dX9_seal_58 : decode cX9_seal 58 = .ok (.dup2, 1) := by decide +kernel
theorem dX9_seal_59 : decode cX9_seal 59 = .ok (.iaload, 1) := by decide +kernel
theorem dX9_seal_60 : decode cX9_seal 60 = .ok (.iload_n 2, 1) := by decide +kernel
theorem dX9_seal_61 : decode cX9_seal 61 = .ok (.iload_n 3, 1) := by decide +kernel
theorem dX9_seal_62 : decode cX9_seal 62 = .ok (.ishr, 1) := by decide +kernel
theorem dX9_seal_63 : decode cX9_seal 63 = .ok (.iconst 1, 1) := by decide +kernel
theorem dX9_seal_64 : decode cX9_seal 64 = .ok (.iand, 1) := by decide +kernel
theorem dX9_seal_65 : decode cX9_seal 65 = .ok (.iadd, 1) := by decide +kernel
theorem dX9_seal_66 : decode cX9_seal 66 = .ok (.iastore, 1) := by decide +kernel
theorem dX9_seal_67 : decode cX9_seal 67 = .ok (.iinc 3 1, 3) := by decide +kernel
theorem dX9_seal_70 : decode cX9_seal 70 = .ok (.goto (-25), 3) := by decide +kernel
theorem dX9_seal_73 : decode cX9_seal 73 = .ok (.aload_n 0, 1) := by decide +kernel
theorem dX9_seal_74 : decode cX9_seal 74 = .ok (.aload_n 0, 1) := by decide +kernel
theorem dX9_seal_75 : decode cX9_seal 75 = .ok (.getfield 333, 3) := by decide +kernel
theorem dX9_seal_78 : decode cX9_seal 78 = .ok (.aload_n 0, 1) := by decide +kernel
theorem dX9_seal_79 : decode cX9_seal 79 = .ok (.getfield 333, 3) := by decide +kernel
theorem dX9_seal_82 : decode cX9_seal 82 = .ok (.iconst 1, 1) := by decide +kernel
theorem dX9_seal_83 : decode cX9_seal 83 = .ok (.iadd, 1) := by decide +kernel
theorem dX9_seal_84 : decode cX9_seal 84 = .ok (.invokevirtual 363, 3) := by decide +kernel
theorem dX9_seal_87 : decode cX9_seal 87 = .ok (.aload_n 0, 1) := by decide +kernel
theorem dX9_seal_88 : decode cX9_seal 88 = .ok (.iconst 4, 1) := by decide +kernel
theorem dX9_seal_89 : decode cX9_seal 89 = .ok (.iconst 2, 1) := by decide +kernel
theorem dX9_seal_90 : decode cX9_seal 90 = .ok (.iload_n 1, 1) := by decide +kernel
theorem dX9_seal_91 : decode cX9_seal 91 = .ok (.aload_n 0, 1) := by decide +kernel
theorem dX9_seal_92 : decode cX9_seal 92 = .ok (.aload_n 0, 1) := by decide +kernel
theorem dX9_seal_93 : decode cX9_seal 93 = .ok (.getfield 333, 3) := by decide +kernel
theorem dX9_seal_96 : decode cX9_seal 96 = .ok (.iload_n 1, 1) := by decide +kernel
theorem dX9_seal_97 : decode cX9_seal 97 = .ok (.invokevirtual 309, 3) := by decide +kernel
theorem dX9_seal_100 : decode cX9_seal 100 = .ok (.iconst 2, 1) := by decide +kernel
theorem dX9_seal_101 : decode cX9_seal 101 = .ok (.isub, 1) := by decide +kernel
theorem dX9_seal_102 : decode cX9_seal 102 = .ok (.iload_n 2, 1) := by decide +kernel
theorem dX9_seal_103 : decode cX9_seal 103 = .ok (.invokevirtual 347, 3) := by decide +kernel
theorem dX9_seal_106 : decode cX9_seal 106 = .ok (.ireturn, 1) := by decide +kernel
theorem dX9_outer_0 : decode cX9_outer 0 = .ok (.iconst 0, 1) := by decide +kernel
theorem dX9_outer_1 : decode cX9_outer 1 = .ok (.istore_n 2, 1) := by decide +kernel
theorem dX9_outer_2 : decode cX9_outer 2 = .ok (.iconst 0, 1) := by decide +kernel
theorem dX9_outer_3 : decode cX9_outer 3 = .ok (.istore_n 3, 1) := by decide +kernel
theorem dX9_outer_4 : decode cX9_outer 4 = .ok (.iload_n 3, 1) := by decide +kernel
theorem dX9_outer_5 : decode cX9_outer 5 = .ok (.aload_n 0, 1) := by decide +kernel
theorem dX9_outer_6 : decode cX9_outer 6 = .ok (.getfield 92, 3) := by decide +kernel
theorem dX9_outer_9 : decode cX9_outer 9 = .ok (.iload_n 1, 1) := by decide +kernel
theorem dX9_outer_10 : decode cX9_outer 10 = .ok (.iaload, 1) := by decide +kernel
theorem dX9_outer_11 : decode cX9_outer 11 = .ok (.if_icmp .ge 94, 3) := by decide +kernel
theorem dX9_outer_14 : decode cX9_outer 14 = .ok (.aload_n 0, 1) := by decide +kernel
theorem dX9_outer_15 : decode cX9_outer 15 = .ok (.iload_n 1, 1) := by decide +kernel
theorem dX9_outer_16 : decode cX9_outer 16 = .ok (.iload_n 3, 1) := by decide +kernel
theorem dX9_outer_17 : decode cX9_outer 17 = .ok (.aload_n 0, 1) := by decide +kernel
theorem dX9_outer_18 : decode cX9_outer 18 = .ok (.iload_n 1, 1) := by decide +kernel
theorem dX9_outer_19 : decode cX9_outer 19 = .ok (.iload_n 3, 1) := by decide +kernel
theorem dX9_outer_20 : decode cX9_outer 20 = .ok (.invokevirtual 309, 3) := by decide +kernel
theorem dX9_outer_23 : decode cX9_outer 23 = .ok (.iconst 1, 1) := by decide +kernel
theorem dX9_outer_24 : decode cX9_outer 24 = .ok (.isub, 1) := by decide +kernel
theorem dX9_outer_25 : decode cX9_outer 25 = .ok (.invokevirtual 354, 3) := by decide +kernel
theorem dX9_outer_28 : decode cX9_outer 28 = .ok (.istore 4, 2) := by decide +kernel
theorem dX9_outer_30 : decode cX9_outer 30 = .ok (.aload_n 0, 1) := by decide +kernel
theorem dX9_outer_31 : decode cX9_outer 31 = .ok (.iload_n 1, 1) := by decide +kernel
theorem dX9_outer_32 : decode cX9_outer 32 = .ok (.iload_n 3, 1) := by decide +kernel
theorem dX9_outer_33 : decode cX9_outer 33 = .ok (.iconst 0, 1) := by decide +kernel
theorem dX9_outer_34 : decode cX9_outer 34 = .ok (.invokevirtual 354, 3) := by decide +kernel
theorem dX9_outer_37 : decode cX9_outer 37 = .ok (.istore 5, 2) := by decide +kernel
theorem dX9_outer_39 : decode cX9_outer 39 = .ok (.iload_n 2, 1) := by decide +kernel
theorem dX9_outer_40 : decode cX9_outer 40 = .ok (.iconst 1, 1) := by decide +kernel
theorem dX9_outer_41 : decode cX9_outer 41 = .ok (.iconst 2, 1) := by decide +kernel
theorem dX9_outer_42 : decode cX9_outer 42 = .ok (.iload 4, 2) := by decide +kernel
theorem dX9_outer_44 : decode cX9_outer 44 = .ok (.imul, 1) := by decide +kernel
theorem dX9_outer_45 : decode cX9_outer 45 = .ok (.aload_n 0, 1) := by decide +kernel
theorem dX9_outer_46 : decode cX9_outer 46 = .ok (.getfield 101, 3) := by decide +kernel
theorem dX9_outer_49 : decode cX9_outer 49 = .ok (.bipush 8, 2) := by decide +kernel
theorem dX9_outer_51 : decode cX9_outer 51 = .ok (.iload_n 1, 1) := by decide +kernel
theorem dX9_outer_52 : decode cX9_outer 52 = .ok (.imul, 1) := by decide +kernel
theorem dX9_outer_53 : decode cX9_outer 53 = .ok (.iload 4, 2) := by decide +kernel
theorem dX9_outer_55 : decode cX9_outer 55 = .ok (.iadd, 1) := by decide +kernel
theorem dX9_outer_56 : decode cX9_outer 56 = .ok (.baload, 1) := by decide +kernel
theorem dX9_outer_57 : decode cX9_outer 57 = .ok (.ifCond .eq 7, 3) := by decide +kernel
theorem dX9_outer_60 : decode cX9_outer 60 = .ok (.iconst 0, 1) := by decide +kernel
theorem dX9_outer_61 : decode cX9_outer 61 = .ok (.goto 4, 3) := by decide +kernel
theorem dX9_outer_64 : decode cX9_outer 64 = .ok (.iconst 1, 1) := by decide +kernel
theorem dX9_outer_65 : decode cX9_outer 65 = .ok (.iadd, 1) := by decide +kernel
theorem dX9_outer_66 : decode cX9_outer 66 = .ok (.ishl, 1) := by decide +kernel
theorem dX9_outer_67 : decode cX9_outer 67 = .ok (.ior, 1) := by decide +kernel
theorem dX9_outer_68 : decode cX9_outer 68 = .ok (.istore_n 2, 1) := by decide +kernel
theorem dX9_outer_69 : decode cX9_outer 69 = .ok (.iload_n 2, 1) := by decide +kernel
theorem dX9_outer_70 : decode cX9_outer 70 = .ok (.iconst 1, 1) := by decide +kernel
theorem dX9_outer_71 : decode cX9_outer 71 = .ok (.iconst 2, 1) := by decide +kernel
theorem dX9_outer_72 : decode cX9_outer 72 = .ok (.iload 5, 2) := by decide +kernel
theorem dX9_outer_74 : decode cX9_outer 74 = .ok (.imul, 1) := by decide +kernel
theorem dX9_outer_75 : decode cX9_outer 75 = .ok (.aload_n 0, 1) := by decide +kernel
theorem dX9_outer_76 : decode cX9_outer 76 = .ok (.getfield 101, 3) := by decide +kernel
theorem dX9_outer_79 : decode cX9_outer 79 = .ok (.bipush 8, 2) := by decide +kernel
theorem dX9_outer_81 : decode cX9_outer 81 = .ok (.iload_n 1, 1) := by decide +kernel
theorem dX9_outer_82 : decode cX9_outer 82 = .ok (.imul, 1) := by decide +kernel
theorem dX9_outer_83 : decode cX9_outer 83 = .ok (.iload 5, 2) := by decide +kernel
theorem dX9_outer_85 : decode cX9_outer 85 = .ok (.iadd, 1) := by decide +kernel
theorem dX9_outer_86 : decode cX9_outer 86 = .ok (.baload, 1) := by decide +kernel
theorem dX9_outer_87 : decode cX9_outer 87 = .ok (.ifCond .eq 7, 3) := by decide +kernel
theorem dX9_outer_90 : decode cX9_outer 90 = .ok (.iconst 1, 1) := by decide +kernel
theorem dX9_outer_91 : decode cX9_outer 91 = .ok (.goto 4, 3) := by decide +kernel
theorem dX9_outer_94 : decode cX9_outer 94 = .ok (.iconst 0, 1) := by decide +kernel
theorem dX9_outer_95 : decode cX9_outer 95 = .ok (.iadd, 1) := by decide +kernel
theorem dX9_outer_96 : decode cX9_outer 96 = .ok (.ishl, 1) := by decide +kernel
theorem dX9_outer_97 : decode cX9_outer 97 = .ok (.ior, 1) := by decide +kernel
theorem dX9_outer_98 : decode cX9_outer 98 = .ok (.istore_n 2, 1) := by decide +kernel
theorem dX9_outer_99 : decode cX9_outer 99 = .ok (.iinc 3 1, 3) := by decide +kernel
theorem dX9_outer_102 : decode cX9_outer 102 = .ok (.goto (-98), 3) := by decide +kernel
theorem dX9_outer_105 : decode cX9_outer 105 = .ok (.iload_n 2, 1) := by decide +kernel
theorem dX9_outer_106 : decode cX9_outer 106 = .ok (.ireturn, 1) := by decide +kernel
theorem dX9_soil_0 : decode cX9_soil 0 = .ok (.aload_n 0, 1) := by decide +kernel
theorem dX9_soil_1 : decode cX9_soil 1 = .ok (.getfield 333, 3) := by decide +kernel
theorem dX9_soil_4 : decode cX9_soil 4 = .ok (.bipush 16, 2) := by decide +kernel
theorem dX9_soil_6 : decode cX9_soil 6 = .ok (.if_icmp .ne 5, 3) := by decide +kernel
theorem dX9_soil_9 : decode cX9_soil 9 = .ok (.iconst (-1), 1) := by decide +kernel
theorem dX9_soil_10 : decode cX9_soil 10 = .ok (.ireturn, 1) := by decide +kernel
theorem dX9_soil_11 : decode cX9_soil 11 = .ok (.aload_n 0, 1) := by decide +kernel
theorem dX9_soil_12 : decode cX9_soil 12 = .ok (.aload_n 0, 1) := by decide +kernel
theorem dX9_soil_13 : decode cX9_soil 13 = .ok (.getfield 333, 3) := by decide +kernel
theorem dX9_soil_16 : decode cX9_soil 16 = .ok (.invokevirtual 366, 3) := by decide +kernel
theorem dX9_soil_19 : decode cX9_soil 19 = .ok (.istore_n 1, 1) := by decide +kernel
theorem dX9_soil_20 : decode cX9_soil 20 = .ok (.iconst 0, 1) := by decide +kernel
theorem dX9_soil_21 : decode cX9_soil 21 = .ok (.istore_n 2, 1) := by decide +kernel
theorem dX9_soil_22 : decode cX9_soil 22 = .ok (.iload_n 2, 1) := by decide +kernel
theorem dX9_soil_23 : decode cX9_soil 23 = .ok (.bipush 16, 2) := by decide +kernel
theorem dX9_soil_25 : decode cX9_soil 25 = .ok (.if_icmp .ge 25, 3) := by decide +kernel
theorem dX9_soil_28 : decode cX9_soil 28 = .ok (.iload_n 1, 1) := by decide +kernel
theorem dX9_soil_29 : decode cX9_soil 29 = .ok (.iload_n 2, 1) := by decide +kernel
theorem dX9_soil_30 : decode cX9_soil 30 = .ok (.ishr, 1) := by decide +kernel
theorem dX9_soil_31 : decode cX9_soil 31 = .ok (.iconst 1, 1) := by decide +kernel
theorem dX9_soil_32 : decode cX9_soil 32 = .ok (.iand, 1) := by decide +kernel
theorem dX9_soil_33 : decode cX9_soil 33 = .ok (.iconst 1, 1) := by decide +kernel
theorem dX9_soil_34 : decode cX9_soil 34 = .ok (.if_icmp .ne 10, 3) := by decide +kernel
theorem dX9_soil_37 : decode cX9_soil 37 = .ok (.aload_n 0, 1) := by decide +kernel
theorem dX9_soil_38 : decode cX9_soil 38 = .ok (.getfield 113, 3) := by decide +kernel
theorem dX9_soil_41 : decode cX9_soil 41 = .ok (.iload_n 2, 1) := by decide +kernel
theorem dX9_soil_42 : decode cX9_soil 42 = .ok (.iconst 1, 1) := by decide +kernel
theorem dX9_soil_43 : decode cX9_soil 43 = .ok (.bastore, 1) := by decide +kernel
theorem dX9_soil_44 : decode cX9_soil 44 = .ok (.iinc 2 1, 3) := by decide +kernel
theorem dX9_soil_47 : decode cX9_soil 47 = .ok (.goto (-25), 3) := by decide +kernel
theorem dX9_soil_50 : decode cX9_soil 50 = .ok (.aload_n 0, 1) := by decide +kernel
theorem dX9_soil_51 : decode cX9_soil 51 = .ok (.aload_n 0, 1) := by decide +kernel
theorem dX9_soil_52 : decode cX9_soil 52 = .ok (.getfield 333, 3) := by decide +kernel
theorem dX9_soil_55 : decode cX9_soil 55 = .ok (.aload_n 0, 1) := by decide +kernel
theorem dX9_soil_56 : decode cX9_soil 56 = .ok (.getfield 333, 3) := by decide +kernel
theorem dX9_soil_59 : decode cX9_soil 59 = .ok (.iconst 1, 1) := by decide +kernel
theorem dX9_soil_60 : decode cX9_soil 60 = .ok (.iadd, 1) := by decide +kernel
theorem dX9_soil_61 : decode cX9_soil 61 = .ok (.invokevirtual 363, 3) := by decide +kernel
theorem dX9_soil_64 : decode cX9_soil 64 = .ok (.aload_n 0, 1) := by decide +kernel
theorem dX9_soil_65 : decode cX9_soil 65 = .ok (.iconst 5, 1) := by decide +kernel
theorem dX9_soil_66 : decode cX9_soil 66 = .ok (.iconst 0, 1) := by decide +kernel
theorem dX9_soil_67 : decode cX9_soil 67 = .ok (.iconst 0, 1) := by decide +kernel
theorem dX9_soil_68 : decode cX9_soil 68 = .ok (.iconst 0, 1) := by decide +kernel
theorem dX9_soil_69 : decode cX9_soil 69 = .ok (.iconst 0, 1) := by decide +kernel
theorem dX9_soil_70 : decode cX9_soil 70 = .ok (.invokevirtual 347, 3) := by decide +kernel
theorem dX9_soil_73 : decode cX9_soil 73 = .ok (.ireturn, 1) := by decide +kernel
theorem dX9_harmOf_0 : decode cX9_harmOf 0 = .ok (.aload_n 0, 1) := by decide +kernel
theorem dX9_harmOf_1 : decode cX9_harmOf 1 = .ok (.aload_n 0, 1) := by decide +kernel
theorem dX9_harmOf_2 : decode cX9_harmOf 2 = .ok (.getfield 116, 3) := by decide +kernel
theorem dX9_harmOf_5 : decode cX9_harmOf 5 = .ok (.iload_n 1, 1) := by decide +kernel
theorem dX9_harmOf_6 : decode cX9_harmOf 6 = .ok (.iaload, 1) := by decide +kernel
theorem dX9_harmOf_7 : decode cX9_harmOf 7 = .ok (.aload_n 0, 1) := by decide +kernel
theorem dX9_harmOf_8 : decode cX9_harmOf 8 = .ok (.getfield 119, 3) := by decide +kernel
theorem dX9_harmOf_11 : decode cX9_harmOf 11 = .ok (.iload_n 1, 1) := by decide +kernel
theorem dX9_harmOf_12 : decode cX9_harmOf 12 = .ok (.iaload, 1) := by decide +kernel
theorem dX9_harmOf_13 : decode cX9_harmOf 13 = .ok (.aload_n 0, 1) := by decide +kernel
theorem dX9_harmOf_14 : decode cX9_harmOf 14 = .ok (.getfield 122, 3) := by decide +kernel
theorem dX9_harmOf_17 : decode cX9_harmOf 17 = .ok (.iload_n 1, 1) := by decide +kernel
theorem dX9_harmOf_18 : decode cX9_harmOf 18 = .ok (.iaload, 1) := by decide +kernel
theorem dX9_harmOf_19 : decode cX9_harmOf 19 = .ok (.iload_n 1, 1) := by decide +kernel
theorem dX9_harmOf_20 : decode cX9_harmOf 20 = .ok (.aload_n 0, 1) := by decide +kernel
theorem dX9_harmOf_21 : decode cX9_harmOf 21 = .ok (.getfield 125, 3) := by decide +kernel
theorem dX9_harmOf_24 : decode cX9_harmOf 24 = .ok (.iload_n 1, 1) := by decide +kernel
theorem dX9_harmOf_25 : decode cX9_harmOf 25 = .ok (.iaload, 1) := by decide +kernel
theorem dX9_harmOf_26 : decode cX9_harmOf 26 = .ok (.invokevirtual 369, 3) := by decide +kernel
theorem dX9_harmOf_29 : decode cX9_harmOf 29 = .ok (.aload_n 0, 1) := by decide +kernel
theorem dX9_harmOf_30 : decode cX9_harmOf 30 = .ok (.iconst (-1), 1) := by decide +kernel
theorem dX9_harmOf_31 : decode cX9_harmOf 31 = .ok (.putfield 373, 3) := by decide +kernel
theorem dX9_harmOf_34 : decode cX9_harmOf 34 = .ok (.iconst 0, 1) := by decide +kernel
theorem dX9_harmOf_35 : decode cX9_harmOf 35 = .ok (.istore_n 2, 1) := by decide +kernel
theorem dX9_harmOf_36 : decode cX9_harmOf 36 = .ok (.iconst 0, 1) := by decide +kernel
theorem dX9_harmOf_37 : decode cX9_harmOf 37 = .ok (.istore_n 3, 1) := by decide +kernel
theorem dX9_harmOf_38 : decode cX9_harmOf 38 = .ok (.iload_n 3, 1) := by decide +kernel
theorem dX9_harmOf_39 : decode cX9_harmOf 39 = .ok (.iconst 3, 1) := by decide +kernel
theorem dX9_harmOf_40 : decode cX9_harmOf 40 = .ok (.if_icmp .ge 74, 3) := by decide +kernel
theorem dX9_harmOf_43 : decode cX9_harmOf 43 = .ok (.aload_n 0, 1) := by decide +kernel
theorem dX9_harmOf_44 : decode cX9_harmOf 44 = .ok (.iload_n 3, 1) := by decide +kernel
theorem dX9_harmOf_45 : decode cX9_harmOf 45 = .ok (.invokevirtual 376, 3) := by decide +kernel
theorem dX9_harmOf_48 : decode cX9_harmOf 48 = .ok (.istore 4, 2) := by decide +kernel
theorem dX9_harmOf_50 : decode cX9_harmOf 50 = .ok (.iload 4, 2) := by decide +kernel
theorem dX9_harmOf_52 : decode cX9_harmOf 52 = .ok (.iconst (-1), 1) := by decide +kernel
theorem dX9_harmOf_53 : decode cX9_harmOf 53 = .ok (.if_icmp .ne 6, 3) := by decide +kernel
theorem dX9_harmOf_56 : decode cX9_harmOf 56 = .ok (.goto 52, 3) := by decide +kernel
theorem dX9_harmOf_59 : decode cX9_harmOf 59 = .ok (.aload_n 0, 1) := by decide +kernel
theorem dX9_harmOf_60 : decode cX9_harmOf 60 = .ok (.iload 4, 2) := by decide +kernel
theorem dX9_harmOf_62 : decode cX9_harmOf 62 = .ok (.invokevirtual 379, 3) := by decide +kernel
theorem dX9_harmOf_65 : decode cX9_harmOf 65 = .ok (.istore 5, 2) := by decide +kernel
theorem dX9_harmOf_67 : decode cX9_harmOf 67 = .ok (.aload_n 0, 1) := by decide +kernel
theorem dX9_harmOf_68 : decode cX9_harmOf 68 = .ok (.getfield 373, 3) := by decide +kernel
theorem dX9_harmOf_71 : decode cX9_harmOf 71 = .ok (.iconst (-1), 1) := by decide +kernel
theorem dX9_harmOf_72 : decode cX9_harmOf 72 = .ok (.if_icmp .eq 27, 3) := by decide +kernel
theorem dX9_harmOf_75 : decode cX9_harmOf 75 = .ok (.iload 5, 2) := by decide +kernel
theorem dX9_harmOf_77 : decode cX9_harmOf 77 = .ok (.iload_n 2, 1) := by decide +kernel
theorem dX9_harmOf_78 : decode cX9_harmOf 78 = .ok (.if_icmp .gt 30, 3) := by decide +kernel
theorem dX9_harmOf_81 : decode cX9_harmOf 81 = .ok (.iload 5, 2) := by decide +kernel
theorem dX9_harmOf_83 : decode cX9_harmOf 83 = .ok (.iload_n 2, 1) := by decide +kernel
theorem dX9_harmOf_84 : decode cX9_harmOf 84 = .ok (.if_icmp .ne 15, 3) := by decide +kernel
theorem dX9_harmOf_87 : decode cX9_harmOf 87 = .ok (.iload 4, 2) := by decide +kernel
theorem dX9_harmOf_89 : decode cX9_harmOf 89 = .ok (.aload_n 0, 1) := by decide +kernel
theorem dX9_harmOf_90 : decode cX9_harmOf 90 = .ok (.getfield 373, 3) := by decide +kernel
theorem dX9_harmOf_93 : decode cX9_harmOf 93 = .ok (.if_icmp .le 6, 3) := by decide +kernel
theorem dX9_harmOf_96 : decode cX9_harmOf 96 = .ok (.goto 12, 3) := by decide +kernel
theorem dX9_harmOf_99 : decode cX9_harmOf 99 = .ok (.iload 5, 2) := by decide +kernel
theorem dX9_harmOf_101 : decode cX9_harmOf 101 = .ok (.istore_n 2, 1) := by decide +kernel
theorem dX9_harmOf_102 : decode cX9_harmOf 102 = .ok (.aload_n 0, 1) := by decide +kernel
theorem dX9_harmOf_103 : decode cX9_harmOf 103 = .ok (.iload 4, 2) := by decide +kernel
theorem dX9_harmOf_105 : decode cX9_harmOf 105 = .ok (.putfield 373, 3) := by decide +kernel
theorem dX9_harmOf_108 : decode cX9_harmOf 108 = .ok (.iinc 3 1, 3) := by decide +kernel
theorem dX9_harmOf_111 : decode cX9_harmOf 111 = .ok (.goto (-73), 3) := by decide +kernel
theorem dX9_harmOf_114 : decode cX9_harmOf 114 = .ok (.aload_n 0, 1) := by decide +kernel
theorem dX9_harmOf_115 : decode cX9_harmOf 115 = .ok (.getfield 373, 3) := by decide +kernel
theorem dX9_harmOf_118 : decode cX9_harmOf 118 = .ok (.iconst (-1), 1) := by decide +kernel
theorem dX9_harmOf_119 : decode cX9_harmOf 119 = .ok (.if_icmp .eq 7, 3) := by decide +kernel
theorem dX9_harmOf_122 : decode cX9_harmOf 122 = .ok (.iload_n 2, 1) := by decide +kernel
theorem dX9_harmOf_123 : decode cX9_harmOf 123 = .ok (.goto 29, 3) := by decide +kernel
theorem dX9_harmOf_126 : decode cX9_harmOf 126 = .ok (.aload_n 0, 1) := by decide +kernel
theorem dX9_harmOf_127 : decode cX9_harmOf 127 = .ok (.getfield 116, 3) := by decide +kernel
theorem dX9_harmOf_130 : decode cX9_harmOf 130 = .ok (.iload_n 1, 1) := by decide +kernel
theorem dX9_harmOf_131 : decode cX9_harmOf 131 = .ok (.iaload, 1) := by decide +kernel
theorem dX9_harmOf_132 : decode cX9_harmOf 132 = .ok (.iconst 3, 1) := by decide +kernel
theorem dX9_harmOf_133 : decode cX9_harmOf 133 = .ok (.if_icmp .eq 13, 3) := by decide +kernel
theorem dX9_harmOf_136 : decode cX9_harmOf 136 = .ok (.aload_n 0, 1) := by decide +kernel
theorem dX9_harmOf_137 : decode cX9_harmOf 137 = .ok (.getfield 116, 3) := by decide +kernel
theorem dX9_harmOf_140 : decode cX9_harmOf 140 = .ok (.iload_n 1, 1) := by decide +kernel
theorem dX9_harmOf_141 : decode cX9_harmOf 141 = .ok (.iaload, 1) := by decide +kernel
theorem dX9_harmOf_142 : decode cX9_harmOf 142 = .ok (.iconst 4, 1) := by decide +kernel
theorem dX9_harmOf_143 : decode cX9_harmOf 143 = .ok (.if_icmp .ne 8, 3) := by decide +kernel
theorem dX9_harmOf_146 : decode cX9_harmOf 146 = .ok (.bipush 10, 2) := by decide +kernel
theorem dX9_harmOf_148 : decode cX9_harmOf 148 = .ok (.goto 4, 3) := by decide +kernel
theorem dX9_harmOf_151 : decode cX9_harmOf 151 = .ok (.iconst 0, 1) := by decide +kernel
theorem dX9_harmOf_152 : decode cX9_harmOf 152 = .ok (.ireturn, 1) := by decide +kernel
theorem dX9_harm_0 : decode cX9_harm 0 = .ok (.iload_n 1, 1) := by decide +kernel
theorem dX9_harm_1 : decode cX9_harm 1 = .ok (.ifCond .lt 19, 3) := by decide +kernel
theorem dX9_harm_4 : decode cX9_harm 4 = .ok (.iload_n 1, 1) := by decide +kernel
theorem dX9_harm_5 : decode cX9_harm 5 = .ok (.aload_n 0, 1) := by decide +kernel
theorem dX9_harm_6 : decode cX9_harm 6 = .ok (.getfield 333, 3) := by decide +kernel
theorem dX9_harm_9 : decode cX9_harm 9 = .ok (.if_icmp .ge 11, 3) := by decide +kernel
theorem dX9_harm_12 : decode cX9_harm 12 = .ok (.aload_n 0, 1) := by decide +kernel
theorem dX9_harm_13 : decode cX9_harm 13 = .ok (.iload_n 1, 1) := by decide +kernel
theorem dX9_harm_14 : decode cX9_harm 14 = .ok (.invokevirtual 382, 3) := by decide +kernel
theorem dX9_harm_17 : decode cX9_harm 17 = .ok (.goto 4, 3) := by decide +kernel
theorem dX9_harm_20 : decode cX9_harm 20 = .ok (.iconst (-1), 1) := by decide +kernel
theorem dX9_harm_21 : decode cX9_harm 21 = .ok (.ireturn, 1) := by decide +kernel
theorem dX9_by_0 : decode cX9_by 0 = .ok (.iload_n 1, 1) := by decide +kernel
theorem dX9_by_1 : decode cX9_by 1 = .ok (.ifCond .lt 11, 3) := by decide +kernel
theorem dX9_by_4 : decode cX9_by 4 = .ok (.iload_n 1, 1) := by decide +kernel
theorem dX9_by_5 : decode cX9_by 5 = .ok (.aload_n 0, 1) := by decide +kernel
theorem dX9_by_6 : decode cX9_by 6 = .ok (.getfield 333, 3) := by decide +kernel
theorem dX9_by_9 : decode cX9_by 9 = .ok (.if_icmp .lt 5, 3) := by decide +kernel
theorem dX9_by_12 : decode cX9_by 12 = .ok (.iconst (-1), 1) := by decide +kernel
theorem dX9_by_13 : decode cX9_by 13 = .ok (.ireturn, 1) := by decide +kernel
theorem dX9_by_14 : decode cX9_by 14 = .ok (.aload_n 0, 1) := by decide +kernel
theorem dX9_by_15 : decode cX9_by 15 = .ok (.iload_n 1, 1) := by decide +kernel
theorem dX9_by_16 : decode cX9_by 16 = .ok (.invokevirtual 382, 3) := by decide +kernel
theorem dX9_by_19 : decode cX9_by 19 = .ok (.istore_n 2, 1) := by decide +kernel
theorem dX9_by_20 : decode cX9_by 20 = .ok (.iload_n 2, 1) := by decide +kernel
theorem dX9_by_21 : decode cX9_by 21 = .ok (.ifCond .ge 7, 3) := by decide +kernel
theorem dX9_by_24 : decode cX9_by 24 = .ok (.iconst (-1), 1) := by decide +kernel
theorem dX9_by_25 : decode cX9_by 25 = .ok (.goto 7, 3) := by decide +kernel
theorem dX9_by_28 : decode cX9_by 28 = .ok (.aload_n 0, 1) := by decide +kernel
theorem dX9_by_29 : decode cX9_by 29 = .ok (.getfield 373, 3) := by decide +kernel
theorem dX9_by_32 : decode cX9_by 32 = .ok (.ireturn, 1) := by decide +kernel
theorem dX9_undo_0 : decode cX9_undo 0 = .ok (.aload_n 0, 1) := by decide +kernel
theorem dX9_undo_1 : decode cX9_undo 1 = .ok (.getfield 333, 3) := by decide +kernel
theorem dX9_undo_4 : decode cX9_undo 4 = .ok (.ifCond .ne 5, 3) := by decide +kernel
theorem dX9_undo_7 : decode cX9_undo 7 = .ok (.iconst (-1), 1) := by decide +kernel
theorem dX9_undo_8 : decode cX9_undo 8 = .ok (.ireturn, 1) := by decide +kernel
theorem dX9_undo_9 : decode cX9_undo 9 = .ok (.aload_n 0, 1) := by decide +kernel
theorem dX9_undo_10 : decode cX9_undo 10 = .ok (.aload_n 0, 1) := by decide +kernel
theorem dX9_undo_11 : decode cX9_undo 11 = .ok (.getfield 333, 3) := by decide +kernel
theorem dX9_undo_14 : decode cX9_undo 14 = .ok (.iconst 1, 1) := by decide +kernel
theorem dX9_undo_15 : decode cX9_undo 15 = .ok (.isub, 1) := by decide +kernel
theorem dX9_undo_16 : decode cX9_undo 16 = .ok (.invokevirtual 382, 3) := by decide +kernel
theorem dX9_undo_19 : decode cX9_undo 19 = .ok (.istore_n 1, 1) := by decide +kernel
theorem dX9_undo_20 : decode cX9_undo 20 = .ok (.aload_n 0, 1) := by decide +kernel
theorem dX9_undo_21 : decode cX9_undo 21 = .ok (.dup, 1) := by decide +kernel
theorem dX9_undo_22 : decode cX9_undo 22 = .ok (.getfield 333, 3) := by decide +kernel
theorem dX9_undo_25 : decode cX9_undo 25 = .ok (.iconst 1, 1) := by decide +kernel
theorem dX9_undo_26 : decode cX9_undo 26 = .ok (.isub, 1) := by decide +kernel
theorem dX9_undo_27 : decode cX9_undo 27 = .ok (.putfield 333, 3) := by decide +kernel
theorem dX9_undo_30 : decode cX9_undo 30 = .ok (.iload_n 1, 1) := by decide +kernel
theorem dX9_undo_31 : decode cX9_undo 31 = .ok (.ireturn, 1) := by decide +kernel
theorem dX9_isRead_0 : decode cX9_isRead 0 = .ok (.aload_n 0, 1) := by decide +kernel
theorem dX9_isRead_1 : decode cX9_isRead 1 = .ok (.getfield 98, 3) := by decide +kernel
theorem dX9_isRead_4 : decode cX9_isRead 4 = .ok (.bipush 8, 2) := by decide +kernel
theorem dX9_isRead_6 : decode cX9_isRead 6 = .ok (.iload_n 1, 1) := by decide +kernel
theorem dX9_isRead_7 : decode cX9_isRead 7 = .ok (.imul, 1) := by decide +kernel
theorem dX9_isRead_8 : decode cX9_isRead 8 = .ok (.iload_n 2, 1) := by decide +kernel
theorem dX9_isRead_9 : decode cX9_isRead 9 = .ok (.iadd, 1) := by decide +kernel
theorem dX9_isRead_10 : decode cX9_isRead 10 = .ok (.iaload, 1) := by decide +kernel
theorem dX9_isRead_11 : decode cX9_isRead 11 = .ok (.istore_n 3, 1) := by decide +kernel
theorem dX9_isRead_12 : decode cX9_isRead 12 = .ok (.aload_n 0, 1) := by decide +kernel
theorem dX9_isRead_13 : decode cX9_isRead 13 = .ok (.getfield 101, 3) := by decide +kernel
theorem dX9_isRead_16 : decode cX9_isRead 16 = .ok (.bipush 8, 2) := by decide +kernel
theorem dX9_isRead_18 : decode cX9_isRead 18 = .ok (.iload_n 1, 1) := by decide +kernel
theorem dX9_isRead_19 : decode cX9_isRead 19 = .ok (.imul, 1) := by decide +kernel
theorem dX9_isRead_20 : decode cX9_isRead 20 = .ok (.iload_n 2, 1) := by decide +kernel
theorem dX9_isRead_21 : decode cX9_isRead 21 = .ok (.iadd, 1) := by decide +kernel
theorem dX9_isRead_22 : decode cX9_isRead 22 = .ok (.baload, 1) := by decide +kernel
theorem dX9_isRead_23 : decode cX9_isRead 23 = .ok (.ifCond .eq 33, 3) := by decide +kernel
theorem dX9_isRead_26 : decode cX9_isRead 26 = .ok (.iload_n 3, 1) := by decide +kernel
theorem dX9_isRead_27 : decode cX9_isRead 27 = .ok (.aload_n 0, 1) := by decide +kernel
theorem dX9_isRead_28 : decode cX9_isRead 28 = .ok (.iload_n 1, 1) := by decide +kernel
theorem dX9_isRead_29 : decode cX9_isRead 29 = .ok (.aload_n 0, 1) := by decide +kernel
theorem dX9_isRead_30 : decode cX9_isRead 30 = .ok (.getfield 95, 3) := by decide +kernel
theorem dX9_isRead_33 : decode cX9_isRead 33 = .ok (.bipush 8, 2) := by decide +kernel
theorem dX9_isRead_35 : decode cX9_isRead 35 = .ok (.iload_n 1, 1) := by decide +kernel
theorem dX9_isRead_36 : decode cX9_isRead 36 = .ok (.imul, 1) := by decide +kernel
theorem dX9_isRead_37 : decode cX9_isRead 37 = .ok (.iload_n 2, 1) := by decide +kernel
theorem dX9_isRead_38 : decode cX9_isRead 38 = .ok (.iadd, 1) := by decide +kernel
theorem dX9_isRead_39 : decode cX9_isRead 39 = .ok (.iaload, 1) := by decide +kernel
theorem dX9_isRead_40 : decode cX9_isRead 40 = .ok (.invokevirtual 309, 3) := by decide +kernel
theorem dX9_isRead_43 : decode cX9_isRead 43 = .ok (.iconst 1, 1) := by decide +kernel
theorem dX9_isRead_44 : decode cX9_isRead 44 = .ok (.isub, 1) := by decide +kernel
theorem dX9_isRead_45 : decode cX9_isRead 45 = .ok (.if_icmp .ne 7, 3) := by decide +kernel
theorem dX9_isRead_48 : decode cX9_isRead 48 = .ok (.iconst 1, 1) := by decide +kernel
theorem dX9_isRead_49 : decode cX9_isRead 49 = .ok (.goto 16, 3) := by decide +kernel
theorem dX9_isRead_52 : decode cX9_isRead 52 = .ok (.iconst 0, 1) := by decide +kernel
theorem dX9_isRead_53 : decode cX9_isRead 53 = .ok (.goto 12, 3) := by decide +kernel
theorem dX9_isRead_56 : decode cX9_isRead 56 = .ok (.iload_n 3, 1) := by decide +kernel
theorem dX9_isRead_57 : decode cX9_isRead 57 = .ok (.ifCond .ne 7, 3) := by decide +kernel
theorem dX9_isRead_60 : decode cX9_isRead 60 = .ok (.iconst 1, 1) := by decide +kernel
theorem dX9_isRead_61 : decode cX9_isRead 61 = .ok (.goto 4, 3) := by decide +kernel
theorem dX9_isRead_64 : decode cX9_isRead 64 = .ok (.iconst 0, 1) := by decide +kernel
theorem dX9_isRead_65 : decode cX9_isRead 65 = .ok (.ireturn, 1) := by decide +kernel
theorem dX9_isOpen_0 : decode cX9_isOpen 0 = .ok (.aload_n 0, 1) := by decide +kernel
theorem dX9_isOpen_1 : decode cX9_isOpen 1 = .ok (.getfield 98, 3) := by decide +kernel
theorem dX9_isOpen_4 : decode cX9_isOpen 4 = .ok (.bipush 8, 2) := by decide +kernel
theorem dX9_isOpen_6 : decode cX9_isOpen 6 = .ok (.iload_n 1, 1) := by decide +kernel
theorem dX9_isOpen_7 : decode cX9_isOpen 7 = .ok (.imul, 1) := by decide +kernel
theorem dX9_isOpen_8 : decode cX9_isOpen 8 = .ok (.iload_n 2, 1) := by decide +kernel
theorem dX9_isOpen_9 : decode cX9_isOpen 9 = .ok (.iadd, 1) := by decide +kernel
theorem dX9_isOpen_10 : decode cX9_isOpen 10 = .ok (.iaload, 1) := by decide +kernel
theorem dX9_isOpen_11 : decode cX9_isOpen 11 = .ok (.aload_n 0, 1) := by decide +kernel
theorem dX9_isOpen_12 : decode cX9_isOpen 12 = .ok (.getfield 98, 3) := by decide +kernel
theorem dX9_isOpen_15 : decode cX9_isOpen 15 = .ok (.bipush 8, 2) := by decide +kernel
theorem dX9_isOpen_17 : decode cX9_isOpen 17 = .ok (.iload_n 1, 1) := by decide +kernel
theorem dX9_isOpen_18 : decode cX9_isOpen 18 = .ok (.imul, 1) := by decide +kernel
theorem dX9_isOpen_19 : decode cX9_isOpen 19 = .ok (.iload_n 3, 1) := by decide +kernel
theorem dX9_isOpen_20 : decode cX9_isOpen 20 = .ok (.iadd, 1) := by decide +kernel
theorem dX9_isOpen_21 : decode cX9_isOpen 21 = .ok (.iaload, 1) := by decide +kernel
theorem dX9_isOpen_22 : decode cX9_isOpen 22 = .ok (.if_icmp .ge 17, 3) := by decide +kernel
theorem dX9_isOpen_25 : decode cX9_isOpen 25 = .ok (.aload_n 0, 1) := by decide +kernel
theorem dX9_isOpen_26 : decode cX9_isOpen 26 = .ok (.getfield 98, 3) := by decide +kernel
theorem dX9_isOpen_29 : decode cX9_isOpen 29 = .ok (.bipush 8, 2) := by decide +kernel
theorem dX9_isOpen_31 : decode cX9_isOpen 31 = .ok (.iload_n 1, 1) := by decide +kernel
theorem dX9_isOpen_32 : decode cX9_isOpen 32 = .ok (.imul, 1) := by decide +kernel
theorem dX9_isOpen_33 : decode cX9_isOpen 33 = .ok (.iload_n 2, 1) := by decide +kernel
theorem dX9_isOpen_34 : decode cX9_isOpen 34 = .ok (.iadd, 1) := by decide +kernel
theorem dX9_isOpen_35 : decode cX9_isOpen 35 = .ok (.iaload, 1) := by decide +kernel
theorem dX9_isOpen_36 : decode cX9_isOpen 36 = .ok (.goto 14, 3) := by decide +kernel
theorem dX9_isOpen_39 : decode cX9_isOpen 39 = .ok (.aload_n 0, 1) := by decide +kernel
theorem dX9_isOpen_40 : decode cX9_isOpen 40 = .ok (.getfield 98, 3) := by decide +kernel
theorem dX9_isOpen_43 : decode cX9_isOpen 43 = .ok (.bipush 8, 2) := by decide +kernel
theorem dX9_isOpen_45 : decode cX9_isOpen 45 = .ok (.iload_n 1, 1) := by decide +kernel
theorem dX9_isOpen_46 : decode cX9_isOpen 46 = .ok (.imul, 1) := by decide +kernel
theorem dX9_isOpen_47 : decode cX9_isOpen 47 = .ok (.iload_n 3, 1) := by decide +kernel
theorem dX9_isOpen_48 : decode cX9_isOpen 48 = .ok (.iadd, 1) := by decide +kernel
theorem dX9_isOpen_49 : decode cX9_isOpen 49 = .ok (.iaload, 1) := by decide +kernel
theorem dX9_isOpen_50 : decode cX9_isOpen 50 = .ok (.istore 5, 2) := by decide +kernel
theorem dX9_isOpen_52 : decode cX9_isOpen 52 = .ok (.iconst 0, 1) := by decide +kernel
theorem dX9_isOpen_53 : decode cX9_isOpen 53 = .ok (.istore 6, 2) := by decide +kernel
theorem dX9_isOpen_55 : decode cX9_isOpen 55 = .ok (.iload 6, 2) := by decide +kernel
theorem dX9_isOpen_57 : decode cX9_isOpen 57 = .ok (.iconst 1, 1) := by decide +kernel
theorem dX9_isOpen_58 : decode cX9_isOpen 58 = .ok (.iadd, 1) := by decide +kernel
theorem dX9_isOpen_59 : decode cX9_isOpen 59 = .ok (.aload_n 0, 1) := by decide +kernel
theorem dX9_isOpen_60 : decode cX9_isOpen 60 = .ok (.getfield 189, 3) := by decide +kernel
theorem dX9_isOpen_63 : decode cX9_isOpen 63 = .ok (.if_icmp .ge 90, 3) := by decide +kernel
theorem dX9_isOpen_66 : decode cX9_isOpen 66 = .ok (.aload_n 0, 1) := by decide +kernel
theorem dX9_isOpen_67 : decode cX9_isOpen 67 = .ok (.iload_n 1, 1) := by decide +kernel
theorem dX9_isOpen_68 : decode cX9_isOpen 68 = .ok (.iload 6, 2) := by decide +kernel
theorem dX9_isOpen_70 : decode cX9_isOpen 70 = .ok (.invokevirtual 312, 3) := by decide +kernel
theorem dX9_isOpen_73 : decode cX9_isOpen 73 = .ok (.ifCond .eq 74, 3) := by decide +kernel
theorem dX9_isOpen_76 : decode cX9_isOpen 76 = .ok (.aload_n 0, 1) := by decide +kernel
theorem dX9_isOpen_77 : decode cX9_isOpen 77 = .ok (.getfield 95, 3) := by decide +kernel
theorem dX9_isOpen_80 : decode cX9_isOpen 80 = .ok (.bipush 8, 2) := by decide +kernel
theorem dX9_isOpen_82 : decode cX9_isOpen 82 = .ok (.iload_n 1, 1) := by decide +kernel
theorem dX9_isOpen_83 : decode cX9_isOpen 83 = .ok (.imul, 1) := by decide +kernel
theorem dX9_isOpen_84 : decode cX9_isOpen 84 = .ok (.iload 6, 2) := by decide +kernel
theorem dX9_isOpen_86 : decode cX9_isOpen 86 = .ok (.iadd, 1) := by decide +kernel
theorem dX9_isOpen_87 : decode cX9_isOpen 87 = .ok (.iaload, 1) := by decide +kernel
theorem dX9_isOpen_88 : decode cX9_isOpen 88 = .ok (.aload_n 0, 1) := by decide +kernel
theorem dX9_isOpen_89 : decode cX9_isOpen 89 = .ok (.getfield 95, 3) := by decide +kernel
theorem dX9_isOpen_92 : decode cX9_isOpen 92 = .ok (.bipush 8, 2) := by decide +kernel
theorem dX9_isOpen_94 : decode cX9_isOpen 94 = .ok (.iload_n 1, 1) := by decide +kernel
theorem dX9_isOpen_95 : decode cX9_isOpen 95 = .ok (.imul, 1) := by decide +kernel
theorem dX9_isOpen_96 : decode cX9_isOpen 96 = .ok (.iload_n 2, 1) := by decide +kernel
theorem dX9_isOpen_97 : decode cX9_isOpen 97 = .ok (.iadd, 1) := by decide +kernel
theorem dX9_isOpen_98 : decode cX9_isOpen 98 = .ok (.iaload, 1) := by decide +kernel
theorem dX9_isOpen_99 : decode cX9_isOpen 99 = .ok (.if_icmp .ne 48, 3) := by decide +kernel
theorem dX9_isOpen_102 : decode cX9_isOpen 102 = .ok (.aload_n 0, 1) := by decide +kernel
theorem dX9_isOpen_103 : decode cX9_isOpen 103 = .ok (.getfield 101, 3) := by decide +kernel
theorem dX9_isOpen_106 : decode cX9_isOpen 106 = .ok (.bipush 8, 2) := by decide +kernel
theorem dX9_isOpen_108 : decode cX9_isOpen 108 = .ok (.iload_n 1, 1) := by decide +kernel
theorem dX9_isOpen_109 : decode cX9_isOpen 109 = .ok (.imul, 1) := by decide +kernel
theorem dX9_isOpen_110 : decode cX9_isOpen 110 = .ok (.iload 6, 2) := by decide +kernel
theorem dX9_isOpen_112 : decode cX9_isOpen 112 = .ok (.iadd, 1) := by decide +kernel
theorem dX9_isOpen_113 : decode cX9_isOpen 113 = .ok (.baload, 1) := by decide +kernel
theorem dX9_isOpen_114 : decode cX9_isOpen 114 = .ok (.iload 4, 2) := by decide +kernel
theorem dX9_isOpen_116 : decode cX9_isOpen 116 = .ok (.if_icmp .ne 31, 3) := by decide +kernel
theorem dX9_isOpen_119 : decode cX9_isOpen 119 = .ok (.aload_n 0, 1) := by decide +kernel
theorem dX9_isOpen_120 : decode cX9_isOpen 120 = .ok (.iload_n 1, 1) := by decide +kernel
theorem dX9_isOpen_121 : decode cX9_isOpen 121 = .ok (.iload 6, 2) := by decide +kernel
theorem dX9_isOpen_123 : decode cX9_isOpen 123 = .ok (.invokevirtual 316, 3) := by decide +kernel
theorem dX9_isOpen_126 : decode cX9_isOpen 126 = .ok (.iload 5, 2) := by decide +kernel
theorem dX9_isOpen_128 : decode cX9_isOpen 128 = .ok (.if_icmp .gt 19, 3) := by decide +kernel
theorem dX9_isOpen_131 : decode cX9_isOpen 131 = .ok (.aload_n 0, 1) := by decide +kernel
theorem dX9_isOpen_132 : decode cX9_isOpen 132 = .ok (.iload_n 1, 1) := by decide +kernel
theorem dX9_isOpen_133 : decode cX9_isOpen 133 = .ok (.iload 6, 2) := by decide +kernel
theorem dX9_isOpen_135 : decode cX9_isOpen 135 = .ok (.invokevirtual 319, 3) := by decide +kernel
theorem dX9_isOpen_138 : decode cX9_isOpen 138 = .ok (.iload 5, 2) := by decide +kernel
theorem dX9_isOpen_140 : decode cX9_isOpen 140 = .ok (.iconst 1, 1) := by decide +kernel
theorem dX9_isOpen_141 : decode cX9_isOpen 141 = .ok (.iadd, 1) := by decide +kernel
theorem dX9_isOpen_142 : decode cX9_isOpen 142 = .ok (.if_icmp .lt 5, 3) := by decide +kernel
theorem dX9_isOpen_145 : decode cX9_isOpen 145 = .ok (.iconst 0, 1) := by decide +kernel
theorem dX9_isOpen_146 : decode cX9_isOpen 146 = .ok (.ireturn, 1) := by decide +kernel
theorem dX9_isOpen_147 : decode cX9_isOpen 147 = .ok (.iinc 6 1, 3) := by decide +kernel
theorem dX9_isOpen_150 : decode cX9_isOpen 150 = .ok (.goto (-95), 3) := by decide +kernel
theorem dX9_isOpen_153 : decode cX9_isOpen 153 = .ok (.iconst 1, 1) := by decide +kernel
theorem dX9_isOpen_154 : decode cX9_isOpen 154 = .ok (.ireturn, 1) := by decide +kernel
theorem dX9_peepOf_0 : decode cX9_peepOf 0 = .ok (.aload_n 0, 1) := by decide +kernel
theorem dX9_peepOf_1 : decode cX9_peepOf 1 = .ok (.getfield 95, 3) := by decide +kernel
theorem dX9_peepOf_4 : decode cX9_peepOf 4 = .ok (.bipush 8, 2) := by decide +kernel
theorem dX9_peepOf_6 : decode cX9_peepOf 6 = .ok (.iload_n 1, 1) := by decide +kernel
theorem dX9_peepOf_7 : decode cX9_peepOf 7 = .ok (.imul, 1) := by decide +kernel
theorem dX9_peepOf_8 : decode cX9_peepOf 8 = .ok (.iload_n 2, 1) := by decide +kernel
theorem dX9_peepOf_9 : decode cX9_peepOf 9 = .ok (.iadd, 1) := by decide +kernel
theorem dX9_peepOf_10 : decode cX9_peepOf 10 = .ok (.iaload, 1) := by decide +kernel
theorem dX9_peepOf_11 : decode cX9_peepOf 11 = .ok (.istore_n 3, 1) := by decide +kernel
theorem dX9_peepOf_12 : decode cX9_peepOf 12 = .ok (.aload_n 0, 1) := by decide +kernel
theorem dX9_peepOf_13 : decode cX9_peepOf 13 = .ok (.getfield 98, 3) := by decide +kernel
theorem dX9_peepOf_16 : decode cX9_peepOf 16 = .ok (.bipush 8, 2) := by decide +kernel
theorem dX9_peepOf_18 : decode cX9_peepOf 18 = .ok (.iload_n 1, 1) := by decide +kernel
theorem dX9_peepOf_19 : decode cX9_peepOf 19 = .ok (.imul, 1) := by decide +kernel
theorem dX9_peepOf_20 : decode cX9_peepOf 20 = .ok (.iload_n 2, 1) := by decide +kernel
theorem dX9_peepOf_21 : decode cX9_peepOf 21 = .ok (.iadd, 1) := by decide +kernel
theorem dX9_peepOf_22 : decode cX9_peepOf 22 = .ok (.iaload, 1) := by decide +kernel
theorem dX9_peepOf_23 : decode cX9_peepOf 23 = .ok (.istore 4, 2) := by decide +kernel
theorem dX9_peepOf_25 : decode cX9_peepOf 25 = .ok (.aload_n 0, 1) := by decide +kernel
theorem dX9_peepOf_26 : decode cX9_peepOf 26 = .ok (.iload_n 1, 1) := by decide +kernel
theorem dX9_peepOf_27 : decode cX9_peepOf 27 = .ok (.iload_n 3, 1) := by decide +kernel
theorem dX9_peepOf_28 : decode cX9_peepOf 28 = .ok (.aload_n 0, 1) := by decide +kernel
theorem dX9_peepOf_29 : decode cX9_peepOf 29 = .ok (.getfield 101, 3) := by decide +kernel
theorem dX9_peepOf_32 : decode cX9_peepOf 32 = .ok (.bipush 8, 2) := by decide +kernel
theorem dX9_peepOf_34 : decode cX9_peepOf 34 = .ok (.iload_n 1, 1) := by decide +kernel
theorem dX9_peepOf_35 : decode cX9_peepOf 35 = .ok (.imul, 1) := by decide +kernel
theorem dX9_peepOf_36 : decode cX9_peepOf 36 = .ok (.iload_n 2, 1) := by decide +kernel
theorem dX9_peepOf_37 : decode cX9_peepOf 37 = .ok (.iadd, 1) := by decide +kernel
theorem dX9_peepOf_38 : decode cX9_peepOf 38 = .ok (.baload, 1) := by decide +kernel
theorem dX9_peepOf_39 : decode cX9_peepOf 39 = .ok (.ifCond .eq 10, 3) := by decide +kernel
theorem dX9_peepOf_42 : decode cX9_peepOf 42 = .ok (.iload 4, 2) := by decide +kernel
theorem dX9_peepOf_44 : decode cX9_peepOf 44 = .ok (.iconst 1, 1) := by decide +kernel
theorem dX9_peepOf_45 : decode cX9_peepOf 45 = .ok (.iadd, 1) := by decide +kernel
theorem dX9_peepOf_46 : decode cX9_peepOf 46 = .ok (.goto 7, 3) := by decide +kernel
theorem dX9_peepOf_49 : decode cX9_peepOf 49 = .ok (.iload 4, 2) := by decide +kernel
theorem dX9_peepOf_51 : decode cX9_peepOf 51 = .ok (.iconst 1, 1) := by decide +kernel
theorem dX9_peepOf_52 : decode cX9_peepOf 52 = .ok (.isub, 1) := by decide +kernel
theorem dX9_peepOf_53 : decode cX9_peepOf 53 = .ok (.invokevirtual 354, 3) := by decide +kernel
theorem dX9_peepOf_56 : decode cX9_peepOf 56 = .ok (.istore 5, 2) := by decide +kernel
theorem dX9_peepOf_58 : decode cX9_peepOf 58 = .ok (.iload 5, 2) := by decide +kernel
theorem dX9_peepOf_60 : decode cX9_peepOf 60 = .ok (.iconst (-1), 1) := by decide +kernel
theorem dX9_peepOf_61 : decode cX9_peepOf 61 = .ok (.if_icmp .ne 5, 3) := by decide +kernel
theorem dX9_peepOf_64 : decode cX9_peepOf 64 = .ok (.iconst (-1), 1) := by decide +kernel
theorem dX9_peepOf_65 : decode cX9_peepOf 65 = .ok (.ireturn, 1) := by decide +kernel
theorem dX9_peepOf_66 : decode cX9_peepOf 66 = .ok (.iconst 0, 1) := by decide +kernel
theorem dX9_peepOf_67 : decode cX9_peepOf 67 = .ok (.istore 6, 2) := by decide +kernel
theorem dX9_peepOf_69 : decode cX9_peepOf 69 = .ok (.iload 6, 2) := by decide +kernel
theorem dX9_peepOf_71 : decode cX9_peepOf 71 = .ok (.iload_n 1, 1) := by decide +kernel
