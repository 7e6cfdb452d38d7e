theorem dL_cell_0 : decode cL_cell 0 = .ok (.iload_n 1, 1) := by decide +kernel
theorem dL_cell_1 : decode cL_cell 1 = .ok (.aload_n 0, 1) := by decide +kernel
theorem dL_cell_2 : decode cL_cell 2 = .ok (.arraylength, 1) := by decide +kernel
theorem dL_cell_3 : decode cL_cell 3 = .ok (.if_icmp .ge 9, 3) := by decide +kernel
theorem dL_cell_6 : decode cL_cell 6 = .ok (.aload_n 0, 1) := by decide +kernel
theorem dL_cell_7 : decode cL_cell 7 = .ok (.iload_n 1, 1) := by decide +kernel
theorem dL_cell_8 : decode cL_cell 8 = .ok (.iaload, 1) := by decide +kernel
theorem dL_cell_9 : decode cL_cell 9 = .ok (.goto 15, 3) := by decide +kernel
theorem dL_cell_12 : decode cL_cell 12 = .ok (.sipush 7919, 3) := by decide +kernel
theorem dL_cell_15 : decode cL_cell 15 = .ok (.iload_n 1, 1) := by decide +kernel
theorem dL_cell_16 : decode cL_cell 16 = .ok (.iconst 3, 1) := by decide +kernel
theorem dL_cell_17 : decode cL_cell 17 = .ok (.iadd, 1) := by decide +kernel
theorem dL_cell_18 : decode cL_cell 18 = .ok (.imul, 1) := by decide +kernel
theorem dL_cell_19 : decode cL_cell 19 = .ok (.iload_n 1, 1) := by decide +kernel
theorem dL_cell_20 : decode cL_cell 20 = .ok (.bipush 11, 2) := by decide +kernel
theorem dL_cell_22 : decode cL_cell 22 = .ok (.iadd, 1) := by decide +kernel
theorem dL_cell_23 : decode cL_cell 23 = .ok (.imul, 1) := by decide +kernel
theorem dL_cell_24 : decode cL_cell 24 = .ok (.ireturn, 1) := by decide +kernel
theorem dL_low_0 : decode cL_low 0 = .ok (.iload_n 0, 1) := by decide +kernel
theorem dL_low_1 : decode cL_low 1 = .ok (.ldc 7, 2) := by decide +kernel
theorem dL_low_3 : decode cL_low 3 = .ok (.iand, 1) := by decide +kernel
theorem dL_low_4 : decode cL_low 4 = .ok (.iload_n 1, 1) := by decide +kernel
theorem dL_low_5 : decode cL_low 5 = .ok (.irem, 1) := by decide +kernel
theorem dL_low_6 : decode cL_low 6 = .ok (.ireturn, 1) := by decide +kernel
theorem dL_isMember_0 : decode cL_isMember 0 = .ok (.iconst 0, 1) := by decide +kernel
theorem dL_isMember_1 : decode cL_isMember 1 = .ok (.istore 4, 2) := by decide +kernel
theorem dL_isMember_3 : decode cL_isMember 3 = .ok (.iconst 0, 1) := by decide +kernel
theorem dL_isMember_4 : decode cL_isMember 4 = .ok (.istore 5, 2) := by decide +kernel
theorem dL_isMember_6 : decode cL_isMember 6 = .ok (.iload 5, 2) := by decide +kernel
theorem dL_isMember_8 : decode cL_isMember 8 = .ok (.iload_n 2, 1) := by decide +kernel
theorem dL_isMember_9 : decode cL_isMember 9 = .ok (.if_icmp .ge 39, 3) := by decide +kernel
theorem dL_isMember_12 : decode cL_isMember 12 = .ok (.iload 4, 2) := by decide +kernel
theorem dL_isMember_14 : decode cL_isMember 14 = .ok (.ifCond .ne 21, 3) := by decide +kernel
theorem dL_isMember_17 : decode cL_isMember 17 = .ok (.aload_n 0, 1) := by decide +kernel
theorem dL_isMember_18 : decode cL_isMember 18 = .ok (.iload_n 1, 1) := by decide +kernel
theorem dL_isMember_19 : decode cL_isMember 19 = .ok (.aload_n 0, 1) := by decide +kernel
theorem dL_isMember_20 : decode cL_isMember 20 = .ok (.iload_n 1, 1) := by decide +kernel
theorem dL_isMember_21 : decode cL_isMember 21 = .ok (.invokevirtual 8, 3) := by decide +kernel
theorem dL_isMember_24 : decode cL_isMember 24 = .ok (.iconst 1, 1) := by decide +kernel
theorem dL_isMember_25 : decode cL_isMember 25 = .ok (.isub, 1) := by decide +kernel
theorem dL_isMember_26 : decode cL_isMember 26 = .ok (.iload 5, 2) := by decide +kernel
theorem dL_isMember_28 : decode cL_isMember 28 = .ok (.invokevirtual 14, 3) := by decide +kernel
theorem dL_isMember_31 : decode cL_isMember 31 = .ok (.iload_n 3, 1) := by decide +kernel
theorem dL_isMember_32 : decode cL_isMember 32 = .ok (.if_icmp .ne 7, 3) := by decide +kernel
theorem dL_isMember_35 : decode cL_isMember 35 = .ok (.iconst 1, 1) := by decide +kernel
theorem dL_isMember_36 : decode cL_isMember 36 = .ok (.goto 4, 3) := by decide +kernel
theorem dL_isMember_39 : decode cL_isMember 39 = .ok (.iconst 0, 1) := by decide +kernel
theorem dL_isMember_40 : decode cL_isMember 40 = .ok (.istore 4, 2) := by decide +kernel
theorem dL_isMember_42 : decode cL_isMember 42 = .ok (.iinc 5 1, 3) := by decide +kernel
theorem dL_isMember_45 : decode cL_isMember 45 = .ok (.goto (-39), 3) := by decide +kernel
theorem dL_isMember_48 : decode cL_isMember 48 = .ok (.iload 4, 2) := by decide +kernel
theorem dL_isMember_50 : decode cL_isMember 50 = .ok (.ireturn, 1) := by decide +kernel
theorem dL_canReplace_0 : decode cL_canReplace 0 = .ok (.iconst 0, 1) := by decide +kernel
theorem dL_canReplace_1 : decode cL_canReplace 1 = .ok (.istore 5, 2) := by decide +kernel
theorem dL_canReplace_3 : decode cL_canReplace 3 = .ok (.iconst 0, 1) := by decide +kernel
theorem dL_canReplace_4 : decode cL_canReplace 4 = .ok (.istore 6, 2) := by decide +kernel
theorem dL_canReplace_6 : decode cL_canReplace 6 = .ok (.iload 6, 2) := by decide +kernel
theorem dL_canReplace_8 : decode cL_canReplace 8 = .ok (.iload 4, 2) := by decide +kernel
theorem dL_canReplace_10 : decode cL_canReplace 10 = .ok (.if_icmp .ge 39, 3) := by decide +kernel
theorem dL_canReplace_13 : decode cL_canReplace 13 = .ok (.iload 5, 2) := by decide +kernel
theorem dL_canReplace_15 : decode cL_canReplace 15 = .ok (.ifCond .ne 21, 3) := by decide +kernel
theorem dL_canReplace_18 : decode cL_canReplace 18 = .ok (.aload_n 3, 1) := by decide +kernel
theorem dL_canReplace_19 : decode cL_canReplace 19 = .ok (.iload 6, 2) := by decide +kernel
theorem dL_canReplace_21 : decode cL_canReplace 21 = .ok (.iaload, 1) := by decide +kernel
theorem dL_canReplace_22 : decode cL_canReplace 22 = .ok (.ifCond .ne 18, 3) := by decide +kernel
theorem dL_canReplace_25 : decode cL_canReplace 25 = .ok (.aload_n 0, 1) := by decide +kernel
theorem dL_canReplace_26 : decode cL_canReplace 26 = .ok (.iload_n 1, 1) := by decide +kernel
theorem dL_canReplace_27 : decode cL_canReplace 27 = .ok (.iload_n 2, 1) := by decide +kernel
theorem dL_canReplace_28 : decode cL_canReplace 28 = .ok (.iload 6, 2) := by decide +kernel
theorem dL_canReplace_30 : decode cL_canReplace 30 = .ok (.invokestatic 18, 3) := by decide +kernel
theorem dL_canReplace_33 : decode cL_canReplace 33 = .ok (.ifCond .ne 7, 3) := by decide +kernel
theorem dL_canReplace_36 : decode cL_canReplace 36 = .ok (.iconst 1, 1) := by decide +kernel
theorem dL_canReplace_37 : decode cL_canReplace 37 = .ok (.goto 4, 3) := by decide +kernel
theorem dL_canReplace_40 : decode cL_canReplace 40 = .ok (.iconst 0, 1) := by decide +kernel
theorem dL_canReplace_41 : decode cL_canReplace 41 = .ok (.istore 5, 2) := by decide +kernel
theorem dL_canReplace_43 : decode cL_canReplace 43 = .ok (.iinc 6 1, 3) := by decide +kernel
theorem dL_canReplace_46 : decode cL_canReplace 46 = .ok (.goto (-40), 3) := by decide +kernel
theorem dL_canReplace_49 : decode cL_canReplace 49 = .ok (.iload 5, 2) := by decide +kernel
theorem dL_canReplace_51 : decode cL_canReplace 51 = .ok (.ireturn, 1) := by decide +kernel
theorem dL_tale_0 : decode cL_tale 0 = .ok (.aload_n 0, 1) := by decide +kernel
theorem dL_tale_1 : decode cL_tale 1 = .ok (.invokevirtual 24, 3) := by decide +kernel
theorem dL_tale_4 : decode cL_tale 4 = .ok (.i2l, 1) := by decide +kernel
theorem dL_tale_5 : decode cL_tale 5 = .ok (.lstore_n 3, 1) := by decide +kernel
theorem dL_tale_6 : decode cL_tale 6 = .ok (.iconst 0, 1) := by decide +kernel
theorem dL_tale_7 : decode cL_tale 7 = .ok (.istore 5, 2) := by decide +kernel
theorem dL_tale_9 : decode cL_tale 9 = .ok (.iload 5, 2) := by decide +kernel
theorem dL_tale_11 : decode cL_tale 11 = .ok (.iload_n 1, 1) := by decide +kernel
theorem dL_tale_12 : decode cL_tale 12 = .ok (.if_icmp .ge 39, 3) := by decide +kernel
theorem dL_tale_15 : decode cL_tale 15 = .ok (.lload_n 3, 1) := by decide +kernel
theorem dL_tale_16 : decode cL_tale 16 = .ok (.ldc2_w 28, 3) := by decide +kernel
theorem dL_tale_19 : decode cL_tale 19 = .ok (.lmul, 1) := by decide +kernel
theorem dL_tale_20 : decode cL_tale 20 = .ok (.aload_n 0, 1) := by decide +kernel
theorem dL_tale_21 : decode cL_tale 21 = .ok (.iload 5, 2) := by decide +kernel
theorem dL_tale_23 : decode cL_tale 23 = .ok (.invokevirtual 30, 3) := by decide +kernel
theorem dL_tale_26 : decode cL_tale 26 = .ok (.i2l, 1) := by decide +kernel
theorem dL_tale_27 : decode cL_tale 27 = .ok (.ldc2_w 33, 3) := by decide +kernel
theorem dL_tale_30 : decode cL_tale 30 = .ok (.lmul, 1) := by decide +kernel
theorem dL_tale_31 : decode cL_tale 31 = .ok (.ladd, 1) := by decide +kernel
theorem dL_tale_32 : decode cL_tale 32 = .ok (.aload_n 0, 1) := by decide +kernel
theorem dL_tale_33 : decode cL_tale 33 = .ok (.iload 5, 2) := by decide +kernel
theorem dL_tale_35 : decode cL_tale 35 = .ok (.invokevirtual 35, 3) := by decide +kernel
theorem dL_tale_38 : decode cL_tale 38 = .ok (.i2l, 1) := by decide +kernel
theorem dL_tale_39 : decode cL_tale 39 = .ok (.ldc2_w 38, 3) := by decide +kernel
theorem dL_tale_42 : decode cL_tale 42 = .ok (.lmul, 1) := by decide +kernel
theorem dL_tale_43 : decode cL_tale 43 = .ok (.ladd, 1) := by decide +kernel
theorem dL_tale_44 : decode cL_tale 44 = .ok (.lstore_n 3, 1) := by decide +kernel
theorem dL_tale_45 : decode cL_tale 45 = .ok (.iinc 5 1, 3) := by decide +kernel
theorem dL_tale_48 : decode cL_tale 48 = .ok (.goto (-39), 3) := by decide +kernel
theorem dL_tale_51 : decode cL_tale 51 = .ok (.iconst 0, 1) := by decide +kernel
theorem dL_tale_52 : decode cL_tale 52 = .ok (.istore 5, 2) := by decide +kernel
theorem dL_tale_54 : decode cL_tale 54 = .ok (.iload 5, 2) := by decide +kernel
theorem dL_tale_56 : decode cL_tale 56 = .ok (.iload_n 2, 1) := by decide +kernel
theorem dL_tale_57 : decode cL_tale 57 = .ok (.if_icmp .ge 160, 3) := by decide +kernel
theorem dL_tale_60 : decode cL_tale 60 = .ok (.lload_n 3, 1) := by decide +kernel
theorem dL_tale_61 : decode cL_tale 61 = .ok (.ldc2_w 40, 3) := by decide +kernel
theorem dL_tale_64 : decode cL_tale 64 = .ok (.lmul, 1) := by decide +kernel
theorem dL_tale_65 : decode cL_tale 65 = .ok (.aload_n 0, 1) := by decide +kernel
theorem dL_tale_66 : decode cL_tale 66 = .ok (.iload 5, 2) := by decide +kernel
theorem dL_tale_68 : decode cL_tale 68 = .ok (.invokevirtual 42, 3) := by decide +kernel
theorem dL_tale_71 : decode cL_tale 71 = .ok (.i2l, 1) := by decide +kernel
theorem dL_tale_72 : decode cL_tale 72 = .ok (.ldc2_w 45, 3) := by decide +kernel
theorem dL_tale_75 : decode cL_tale 75 = .ok (.lmul, 1) := by decide +kernel
theorem dL_tale_76 : decode cL_tale 76 = .ok (.ladd, 1) := by decide +kernel
theorem dL_tale_77 : decode cL_tale 77 = .ok (.aload_n 0, 1) := by decide +kernel
theorem dL_tale_78 : decode cL_tale 78 = .ok (.iload 5, 2) := by decide +kernel
theorem dL_tale_80 : decode cL_tale 80 = .ok (.invokevirtual 47, 3) := by decide +kernel
theorem dL_tale_83 : decode cL_tale 83 = .ok (.i2l, 1) := by decide +kernel
theorem dL_tale_84 : decode cL_tale 84 = .ok (.ldc2_w 50, 3) := by decide +kernel
theorem dL_tale_87 : decode cL_tale 87 = .ok (.lmul, 1) := by decide +kernel
theorem dL_tale_88 : decode cL_tale 88 = .ok (.ladd, 1) := by decide +kernel
theorem dL_tale_89 : decode cL_tale 89 = .ok (.aload_n 0, 1) := by decide +kernel
theorem dL_tale_90 : decode cL_tale 90 = .ok (.iload 5, 2) := by decide +kernel
theorem dL_tale_92 : decode cL_tale 92 = .ok (.invokevirtual 52, 3) := by decide +kernel
theorem dL_tale_95 : decode cL_tale 95 = .ok (.i2l, 1) := by decide +kernel
theorem dL_tale_96 : decode cL_tale 96 = .ok (.ldc2_w 55, 3) := by decide +kernel
theorem dL_tale_99 : decode cL_tale 99 = .ok (.lmul, 1) := by decide +kernel
theorem dL_tale_100 : decode cL_tale 100 = .ok (.ladd, 1) := by decide +kernel
theorem dL_tale_101 : decode cL_tale 101 = .ok (.aload_n 0, 1) := by decide +kernel
theorem dL_tale_102 : decode cL_tale 102 = .ok (.iload 5, 2) := by decide +kernel
theorem dL_tale_104 : decode cL_tale 104 = .ok (.invokevirtual 57, 3) := by decide +kernel
theorem dL_tale_107 : decode cL_tale 107 = .ok (.i2l, 1) := by decide +kernel
theorem dL_tale_108 : decode cL_tale 108 = .ok (.ladd, 1) := by decide +kernel
theorem dL_tale_109 : decode cL_tale 109 = .ok (.aload_n 0, 1) := by decide +kernel
theorem dL_tale_110 : decode cL_tale 110 = .ok (.iload 5, 2) := by decide +kernel
theorem dL_tale_112 : decode cL_tale 112 = .ok (.invokevirtual 8, 3) := by decide +kernel
theorem dL_tale_115 : decode cL_tale 115 = .ok (.i2l, 1) := by decide +kernel
theorem dL_tale_116 : decode cL_tale 116 = .ok (.ldc2_w 60, 3) := by decide +kernel
theorem dL_tale_119 : decode cL_tale 119 = .ok (.lmul, 1) := by decide +kernel
theorem dL_tale_120 : decode cL_tale 120 = .ok (.ladd, 1) := by decide +kernel
theorem dL_tale_121 : decode cL_tale 121 = .ok (.lstore_n 3, 1) := by decide +kernel
theorem dL_tale_122 : decode cL_tale 122 = .ok (.iconst 0, 1) := by decide +kernel
theorem dL_tale_123 : decode cL_tale 123 = .ok (.istore 6, 2) := by decide +kernel
theorem dL_tale_125 : decode cL_tale 125 = .ok (.iload 6, 2) := by decide +kernel
theorem dL_tale_127 : decode cL_tale 127 = .ok (.aload_n 0, 1) := by decide +kernel
theorem dL_tale_128 : decode cL_tale 128 = .ok (.iload 5, 2) := by decide +kernel
theorem dL_tale_130 : decode cL_tale 130 = .ok (.invokevirtual 52, 3) := by decide +kernel
theorem dL_tale_133 : decode cL_tale 133 = .ok (.if_icmp .ge 39, 3) := by decide +kernel
theorem dL_tale_136 : decode cL_tale 136 = .ok (.lload_n 3, 1) := by decide +kernel
theorem dL_tale_137 : decode cL_tale 137 = .ok (.ldc2_w 62, 3) := by decide +kernel
theorem dL_tale_140 : decode cL_tale 140 = .ok (.lmul, 1) := by decide +kernel
theorem dL_tale_141 : decode cL_tale 141 = .ok (.aload_n 0, 1) := by decide +kernel
theorem dL_tale_142 : decode cL_tale 142 = .ok (.iload 5, 2) := by decide +kernel
theorem dL_tale_144 : decode cL_tale 144 = .ok (.iload 6, 2) := by decide +kernel
theorem dL_tale_146 : decode cL_tale 146 = .ok (.invokevirtual 64, 3) := by decide +kernel
theorem dL_tale_149 : decode cL_tale 149 = .ok (.i2l, 1) := by decide +kernel
theorem dL_tale_150 : decode cL_tale 150 = .ok (.ldc2_w 38, 3) := by decide +kernel
theorem dL_tale_153 : decode cL_tale 153 = .ok (.lmul, 1) := by decide +kernel
theorem dL_tale_154 : decode cL_tale 154 = .ok (.ladd, 1) := by decide +kernel
theorem dL_tale_155 : decode cL_tale 155 = .ok (.aload_n 0, 1) := by decide +kernel
theorem dL_tale_156 : decode cL_tale 156 = .ok (.iload 5, 2) := by decide +kernel
theorem dL_tale_158 : decode cL_tale 158 = .ok (.iload 6, 2) := by decide +kernel
theorem dL_tale_160 : decode cL_tale 160 = .ok (.invokevirtual 68, 3) := by decide +kernel
theorem dL_tale_163 : decode cL_tale 163 = .ok (.i2l, 1) := by decide +kernel
theorem dL_tale_164 : decode cL_tale 164 = .ok (.ladd, 1) := by decide +kernel
theorem dL_tale_165 : decode cL_tale 165 = .ok (.lstore_n 3, 1) := by decide +kernel
theorem dL_tale_166 : decode cL_tale 166 = .ok (.iinc 6 1, 3) := by decide +kernel
theorem dL_tale_169 : decode cL_tale 169 = .ok (.goto (-44), 3) := by decide +kernel
theorem dL_tale_172 : decode cL_tale 172 = .ok (.iconst 0, 1) := by decide +kernel
theorem dL_tale_173 : decode cL_tale 173 = .ok (.istore 6, 2) := by decide +kernel
theorem dL_tale_175 : decode cL_tale 175 = .ok (.iload 6, 2) := by decide +kernel
theorem dL_tale_177 : decode cL_tale 177 = .ok (.iload_n 1, 1) := by decide +kernel
theorem dL_tale_178 : decode cL_tale 178 = .ok (.if_icmp .ge 33, 3) := by decide +kernel
theorem dL_tale_181 : decode cL_tale 181 = .ok (.lload_n 3, 1) := by decide +kernel
theorem dL_tale_182 : decode cL_tale 182 = .ok (.ldc2_w 71, 3) := by decide +kernel
theorem dL_tale_185 : decode cL_tale 185 = .ok (.lmul, 1) := by decide +kernel
theorem dL_tale_186 : decode cL_tale 186 = .ok (.aload_n 0, 1) := by decide +kernel
theorem dL_tale_187 : decode cL_tale 187 = .ok (.iload 6, 2) := by decide +kernel
theorem dL_tale_189 : decode cL_tale 189 = .ok (.iload 5, 2) := by decide +kernel
theorem dL_tale_191 : decode cL_tale 191 = .ok (.invokevirtual 73, 3) := by decide +kernel
theorem dL_tale_194 : decode cL_tale 194 = .ok (.ifCond .eq 7, 3) := by decide +kernel
theorem dL_tale_197 : decode cL_tale 197 = .ok (.iconst 1, 1) := by decide +kernel
theorem dL_tale_198 : decode cL_tale 198 = .ok (.goto 4, 3) := by decide +kernel
theorem dL_tale_201 : decode cL_tale 201 = .ok (.iconst 0, 1) := by decide +kernel
theorem dL_tale_202 : decode cL_tale 202 = .ok (.i2l, 1) := by decide +kernel
theorem dL_tale_203 : decode cL_tale 203 = .ok (.ladd, 1) := by decide +kernel
theorem dL_tale_204 : decode cL_tale 204 = .ok (.lstore_n 3, 1) := by decide +kernel
theorem dL_tale_205 : decode cL_tale 205 = .ok (.iinc 6 1, 3) := by decide +kernel
theorem dL_tale_208 : decode cL_tale 208 = .ok (.goto (-33), 3) := by decide +kernel
theorem dL_tale_211 : decode cL_tale 211 = .ok (.iinc 5 1, 3) := by decide +kernel
theorem dL_tale_214 : decode cL_tale 214 = .ok (.goto (-160), 3) := by decide +kernel
theorem dL_tale_217 : decode cL_tale 217 = .ok (.lload_n 3, 1) := by decide +kernel
theorem dL_tale_218 : decode cL_tale 218 = .ok (.lreturn, 1) := by decide +kernel
theorem dL_law_0 : decode cL_law 0 = .ok (.new 9, 3) := by decide +kernel
theorem dL_law_3 : decode cL_law 3 = .ok (.dup, 1) := by decide +kernel
theorem dL_law_4 : decode cL_law 4 = .ok (.invokespecial 77, 3) := by decide +kernel
theorem dL_law_7 : decode cL_law 7 = .ok (.astore_n 1, 1) := by decide +kernel
theorem dL_law_8 : decode cL_law 8 = .ok (.iconst 2, 1) := by decide +kernel
theorem dL_law_9 : decode cL_law 9 = .ok (.aload_n 0, 1) := by decide +kernel
theorem dL_law_10 : decode cL_law 10 = .ok (.iconst 0, 1) := by decide +kernel
theorem dL_law_11 : decode cL_law 11 = .ok (.invokestatic 78, 3) := by decide +kernel
theorem dL_law_14 : decode cL_law 14 = .ok (.bipush 6, 2) := by decide +kernel
theorem dL_law_16 : decode cL_law 16 = .ok (.invokestatic 82, 3) := by decide +kernel
theorem dL_law_19 : decode cL_law 19 = .ok (.iadd, 1) := by decide +kernel
theorem dL_law_20 : decode cL_law 20 = .ok (.istore_n 2, 1) := by decide +kernel
theorem dL_law_21 : decode cL_law 21 = .ok (.iconst 0, 1) := by decide +kernel
theorem dL_law_22 : decode cL_law 22 = .ok (.istore_n 3, 1) := by decide +kernel
theorem dL_law_23 : decode cL_law 23 = .ok (.iload_n 3, 1) := by decide +kernel
theorem dL_law_24 : decode cL_law 24 = .ok (.iload_n 2, 1) := by decide +kernel
theorem dL_law_25 : decode cL_law 25 = .ok (.if_icmp .ge 19, 3) := by decide +kernel
theorem dL_law_28 : decode cL_law 28 = .ok (.aload_n 1, 1) := by decide +kernel
theorem dL_law_29 : decode cL_law 29 = .ok (.invokevirtual 85, 3) := by decide +kernel
theorem dL_law_32 : decode cL_law 32 = .ok (.iload_n 3, 1) := by decide +kernel
theorem dL_law_33 : decode cL_law 33 = .ok (.if_icmp .eq 5, 3) := by decide +kernel
theorem dL_law_36 : decode cL_law 36 = .ok (.iconst 0, 1) := by decide +kernel
theorem dL_law_37 : decode cL_law 37 = .ok (.ireturn, 1) := by decide +kernel
theorem dL_law_38 : decode cL_law 38 = .ok (.iinc 3 1, 3) := by decide +kernel
theorem dL_law_41 : decode cL_law 41 = .ok (.goto (-18), 3) := by decide +kernel
theorem dL_law_44 : decode cL_law 44 = .ok (.iconst 4, 1) := by decide +kernel
theorem dL_law_45 : decode cL_law 45 = .ok (.newarray .int, 2) := by decide +kernel
theorem dL_law_47 : decode cL_law 47 = .ok (.astore_n 3, 1) := by decide +kernel
theorem dL_law_48 : decode cL_law 48 = .ok (.iconst 4, 1) := by decide +kernel
theorem dL_law_49 : decode cL_law 49 = .ok (.newarray .int, 2) := by decide +kernel
theorem dL_law_51 : decode cL_law 51 = .ok (.astore 4, 2) := by decide +kernel
theorem dL_law_53 : decode cL_law 53 = .ok (.bipush 8, 2) := by decide +kernel
theorem dL_law_55 : decode cL_law 55 = .ok (.newarray .int, 2) := by decide +kernel
theorem dL_law_57 : decode cL_law 57 = .ok (.astore 5, 2) := by decide +kernel
theorem dL_law_59 : decode cL_law 59 = .ok (.iconst 0, 1) := by decide +kernel
theorem dL_law_60 : decode cL_law 60 = .ok (.istore 6, 2) := by decide +kernel
theorem dL_law_62 : decode cL_law 62 = .ok (.iload_n 2, 1) := by decide +kernel
theorem dL_law_63 : decode cL_law 63 = .ok (.iconst 4, 1) := by decide +kernel
theorem dL_law_64 : decode cL_law 64 = .ok (.if_icmp .le 7, 3) := by decide +kernel
theorem dL_law_67 : decode cL_law 67 = .ok (.iconst 4, 1) := by decide +kernel
theorem dL_law_68 : decode cL_law 68 = .ok (.goto 4, 3) := by decide +kernel
theorem dL_law_71 : decode cL_law 71 = .ok (.iload_n 2, 1) := by decide +kernel
theorem dL_law_72 : decode cL_law 72 = .ok (.istore 7, 2) := by decide +kernel
theorem dL_law_74 : decode cL_law 74 = .ok (.iconst 0, 1) := by decide +kernel
theorem dL_law_75 : decode cL_law 75 = .ok (.istore 8, 2) := by decide +kernel
theorem dL_law_77 : decode cL_law 77 = .ok (.iload 8, 2) := by decide +kernel
theorem dL_law_79 : decode cL_law 79 = .ok (.bipush 48, 2) := by decide +kernel
theorem dL_law_81 : decode cL_law 81 = .ok (.if_icmp .ge 674, 3) := by decide +kernel
theorem dL_law_84 : decode cL_law 84 = .ok (.aload_n 0, 1) := by decide +kernel
theorem dL_law_85 : decode cL_law 85 = .ok (.iconst 1, 1) := by decide +kernel
theorem dL_law_86 : decode cL_law 86 = .ok (.iload 8, 2) := by decide +kernel
theorem dL_law_88 : decode cL_law 88 = .ok (.iadd, 1) := by decide +kernel
theorem dL_law_89 : decode cL_law 89 = .ok (.invokestatic 78, 3) := by decide +kernel
theorem dL_law_92 : decode cL_law 92 = .ok (.istore 9, 2) := by decide +kernel
theorem dL_law_94 : decode cL_law 94 = .ok (.iload 9, 2) := by decide +kernel
theorem dL_law_96 : decode cL_law 96 = .ok (.iconst 4, 1) := by decide +kernel
theorem dL_law_97 : decode cL_law 97 = .ok (.ishr, 1) := by decide +kernel
theorem dL_law_98 : decode cL_law 98 = .ok (.iload_n 2, 1) := by decide +kernel
theorem dL_law_99 : decode cL_law 99 = .ok (.invokestatic 82, 3) := by decide +kernel
theorem dL_law_102 : decode cL_law 102 = .ok (.istore 10, 2) := by decide +kernel
theorem dL_law_104 : decode cL_law 104 = .ok (.iconst 0, 1) := by decide +kernel
theorem dL_law_105 : decode cL_law 105 = .ok (.istore 11, 2) := by decide +kernel
theorem dL_law_107 : decode cL_law 107 = .ok (.iconst 0, 1) := by decide +kernel
theorem dL_law_108 : decode cL_law 108 = .ok (.istore 12, 2) := by decide +kernel
theorem dL_law_110 : decode cL_law 110 = .ok (.iload 12, 2) := by decide +kernel
theorem dL_law_112 : decode cL_law 112 = .ok (.iload_n 2, 1) := by decide +kernel
theorem dL_law_113 : decode cL_law 113 = .ok (.if_icmp .ge 28, 3) := by decide +kernel
theorem dL_law_116 : decode cL_law 116 = .ok (.iload 11, 2) := by decide +kernel
theorem dL_law_118 : decode cL_law 118 = .ok (.aload 5, 2) := by decide +kernel
theorem dL_law_120 : decode cL_law 120 = .ok (.iload 12, 2) := by decide +kernel
theorem dL_law_122 : decode cL_law 122 = .ok (.iaload, 1) := by decide +kernel
theorem dL_law_123 : decode cL_law 123 = .ok (.iconst 1, 1) := by decide +kernel
theorem dL_law_124 : decode cL_law 124 = .ok (.if_icmp .ne 7, 3) := by decide +kernel
theorem dL_law_127 : decode cL_law 127 = .ok (.iconst 0, 1) := by decide +kernel
theorem dL_law_128 : decode cL_law 128 = .ok (.goto 4, 3) := by decide +kernel
theorem dL_law_131 : decode cL_law 131 = .ok (.iconst 1, 1) := by decide +kernel
theorem dL_law_132 : decode cL_law 132 = .ok (.iadd, 1) := by decide +kernel
theorem dL_law_133 : decode cL_law 133 = .ok (.istore 11, 2) := by decide +kernel
theorem dL_law_135 : decode cL_law 135 = .ok (.iinc 12 1, 3) := by decide +kernel
theorem dL_law_138 : decode cL_law 138 = .ok (.goto (-28), 3) := by decide +kernel
theorem dL_law_141 : decode cL_law 141 = .ok (.iload 6, 2) := by decide +kernel
theorem dL_law_143 : decode cL_law 143 = .ok (.ifCond .ne 7, 3) := by decide +kernel
theorem dL_law_146 : decode cL_law 146 = .ok (.iconst 0, 1) := by decide +kernel
theorem dL_law_147 : decode cL_law 147 = .ok (.goto 13, 3) := by decide +kernel
theorem dL_law_150 : decode cL_law 150 = .ok (.iload 9, 2) := by decide +kernel
theorem dL_law_152 : decode cL_law 152 = .ok (.bipush 8, 2) := by decide +kernel
theorem dL_law_154 : decode cL_law 154 = .ok (.ishr, 1) := by decide +kernel
theorem dL_law_155 : decode cL_law 155 = .ok (.iload 6, 2) := by decide +kernel
theorem dL_law_157 : decode cL_law 157 = .ok (.invokestatic 82, 3) := by decide +kernel
theorem dL_law_160 : decode cL_law 160 = .ok (.istore 12, 2) := by decide +kernel
theorem dL_law_162 : decode cL_law 162 = .ok (.aload_n 1, 1) := by decide +kernel
theorem dL_law_163 : decode cL_law 163 = .ok (.iload_n 2, 1) := by decide +kernel
theorem dL_law_164 : decode cL_law 164 = .ok (.iload 6, 2) := by decide +kernel
theorem dL_law_166 : decode cL_law 166 = .ok (.invokestatic 88, 3) := by decide +kernel
theorem dL_law_169 : decode cL_law 169 = .ok (.lstore 13, 2) := by decide +kernel
theorem dL_law_171 : decode cL_law 171 = .ok (.iload 9, 2) := by decide +kernel
theorem dL_law_173 : decode cL_law 173 = .ok (.bipush 15, 2) := by decide +kernel
theorem dL_law_175 : decode cL_law 175 = .ok (.iand, 1) := by decide +kernel
theorem dL_law_176 : decode cL_law 176 = .ok (.istore 15, 2) := by decide +kernel
theorem dL_law_178 : decode cL_law 178 = .ok (.iload 6, 2) := by decide +kernel
theorem dL_law_180 : decode cL_law 180 = .ok (.istore 16, 2) := by decide +kernel
theorem dL_law_182 : decode cL_law 182 = .ok (.aload 5, 2) := by decide +kernel
theorem dL_law_184 : decode cL_law 184 = .ok (.iload 10, 2) := by decide +kernel
theorem dL_law_186 : decode cL_law 186 = .ok (.iaload, 1) := by decide +kernel
theorem dL_law_187 : decode cL_law 187 = .ok (.istore 17, 2) := by decide +kernel
theorem dL_law_189 : decode cL_law 189 = .ok (.iconst 1, 1) := by decide +kernel
theorem dL_law_190 : decode cL_law 190 = .ok (.istore 18, 2) := by decide +kernel
theorem dL_law_192 : decode cL_law 192 = .ok (.iload 15, 2) := by decide +kernel
theorem dL_law_194 : decode cL_law 194 = .ok (.ifCond .eq 8, 3) := by decide +kernel
theorem dL_law_197 : decode cL_law 197 = .ok (.iload 6, 2) := by decide +kernel
theorem dL_law_199 : decode cL_law 199 = .ok (.ifCond .ne 109, 3) := by decide +kernel
theorem dL_law_202 : decode cL_law 202 = .ok (.iload 6, 2) := by decide +kernel
theorem dL_law_204 : decode cL_law 204 = .ok (.iconst 3, 1) := by decide +kernel
theorem dL_law_205 : decode cL_law 205 = .ok (.if_icmp .ge 103, 3) := by decide +kernel
theorem dL_law_208 : decode cL_law 208 = .ok (.iload 11, 2) := by decide +kernel
theorem dL_law_210 : decode cL_law 210 = .ok (.ifCond .le 98, 3) := by decide +kernel
theorem dL_law_213 : decode cL_law 213 = .ok (.aload_n 3, 1) := by decide +kernel
theorem dL_law_214 : decode cL_law 214 = .ok (.iload 6, 2) := by decide +kernel
theorem dL_law_216 : decode cL_law 216 = .ok (.iconst 1, 1) := by decide +kernel
theorem dL_law_217 : decode cL_law 217 = .ok (.iload 9, 2) := by decide +kernel
theorem dL_law_219 : decode cL_law 219 = .ok (.bipush 10, 2) := by decide +kernel
theorem dL_law_221 : decode cL_law 221 = .ok (.ishr, 1) := by decide +kernel
theorem dL_law_222 : decode cL_law 222 = .ok (.iload 11, 2) := by decide +kernel
theorem dL_law_224 : decode cL_law 224 = .ok (.iconst 5, 1) := by decide +kernel
theorem dL_law_225 : decode cL_law 225 = .ok (.if_icmp .ge 8, 3) := by decide +kernel
theorem dL_law_228 : decode cL_law 228 = .ok (.iload 11, 2) := by decide +kernel
theorem dL_law_230 : decode cL_law 230 = .ok (.goto 4, 3) := by decide +kernel
theorem dL_law_233 : decode cL_law 233 = .ok (.iconst 5, 1) := by decide +kernel
theorem dL_law_234 : decode cL_law 234 = .ok (.invokestatic 82, 3) := by decide +kernel
theorem dL_law_237 : decode cL_law 237 = .ok (.iadd, 1) := by decide +kernel
theorem dL_law_238 : decode cL_law 238 = .ok (.iastore, 1) := by decide +kernel
theorem dL_law_239 : decode cL_law 239 = .ok (.iconst 1, 1) := by decide +kernel
theorem dL_law_240 : decode cL_law 240 = .ok (.iload 9, 2) := by decide +kernel
theorem dL_law_242 : decode cL_law 242 = .ok (.bipush 13, 2) := by decide +kernel
theorem dL_law_244 : decode cL_law 244 = .ok (.ishr, 1) := by decide +kernel
theorem dL_law_245 : decode cL_law 245 = .ok (.aload_n 3, 1) := by decide +kernel
theorem dL_law_246 : decode cL_law 246 = .ok (.iload 6, 2) := by decide +kernel
theorem dL_law_248 : decode cL_law 248 = .ok (.iaload, 1) := by decide +kernel
theorem dL_law_249 : decode cL_law 249 = .ok (.invokestatic 82, 3) := by decide +kernel
theorem dL_law_252 : decode cL_law 252 = .ok (.iadd, 1) := by decide +kernel
theorem dL_law_253 : decode cL_law 253 = .ok (.istore 19, 2) := by decide +kernel
theorem dL_law_255 : decode cL_law 255 = .ok (.aload 4, 2) := by decide +kernel
theorem dL_law_257 : decode cL_law 257 = .ok (.iload 6, 2) := by decide +kernel
theorem dL_law_259 : decode cL_law 259 = .ok (.iconst (-1), 1) := by decide +kernel
theorem dL_law_260 : decode cL_law 260 = .ok (.iastore, 1) := by decide +kernel
theorem dL_law_261 : decode cL_law 261 = .ok (.aload_n 1, 1) := by decide +kernel
theorem dL_law_262 : decode cL_law 262 = .ok (.aload_n 3, 1) := by decide +kernel
theorem dL_law_263 : decode cL_law 263 = .ok (.iload 6, 2) := by decide +kernel
theorem dL_law_265 : decode cL_law 265 = .ok (.iaload, 1) := by decide +kernel
theorem dL_law_266 : decode cL_law 266 = .ok (.iload 19, 2) := by decide +kernel
theorem dL_law_268 : decode cL_law 268 = .ok (.iconst 1, 1) := by decide +kernel
theorem dL_law_269 : decode cL_law 269 = .ok (.iload 9, 2) := by decide +kernel
theorem dL_law_271 : decode cL_law 271 = .ok (.bipush 16, 2) := by decide +kernel
theorem dL_law_273 : decode cL_law 273 = .ok (.ishr, 1) := by decide +kernel
theorem dL_law_274 : decode cL_law 274 = .ok (.iload 19, 2) := by decide +kernel
theorem dL_law_276 : decode cL_law 276 = .ok (.invokestatic 82, 3) := by decide +kernel
theorem dL_law_279 : decode cL_law 279 = .ok (.iadd, 1) := by decide +kernel
theorem dL_law_280 : decode cL_law 280 = .ok (.invokevirtual 92, 3) := by decide +kernel
theorem dL_law_283 : decode cL_law 283 = .ok (.iload 6, 2) := by decide +kernel
theorem dL_law_285 : decode cL_law 285 = .ok (.if_icmp .ne 7, 3) := by decide +kernel
theorem dL_law_288 : decode cL_law 288 = .ok (.iconst 1, 1) := by decide +kernel
theorem dL_law_289 : decode cL_law 289 = .ok (.goto 4, 3) := by decide +kernel
theorem dL_law_292 : decode cL_law 292 = .ok (.iconst 0, 1) := by decide +kernel
theorem dL_law_293 : decode cL_law 293 = .ok (.istore 18, 2) := by decide +kernel
theorem dL_law_295 : decode cL_law 295 = .ok (.iinc 6 1, 3) := by decide +kernel
theorem dL_law_298 : decode cL_law 298 = .ok (.iload 18, 2) := by decide +kernel
theorem dL_law_300 : decode cL_law 300 = .ok (.ifCond .ne 5, 3) := by decide +kernel
theorem dL_law_303 : decode cL_law 303 = .ok (.iconst 0, 1) := by decide +kernel
theorem dL_law_304 : decode cL_law 304 = .ok (.ireturn, 1) := by decide +kernel
theorem dL_law_305 : decode cL_law 305 = .ok (.goto 280, 3) := by decide +kernel
theorem dL_law_308 : decode cL_law 308 = .ok (.iload 15, 2) := by decide +kernel
theorem dL_law_310 : decode cL_law 310 = .ok (.iconst 1, 1) := by decide +kernel
theorem dL_law_311 : decode cL_law 311 = .ok (.if_icmp .ne 27, 3) := by decide +kernel
theorem dL_law_314 : decode cL_law 314 = .ok (.aload 5, 2) := by decide +kernel
theorem dL_law_316 : decode cL_law 316 = .ok (.iload 10, 2) := by decide +kernel
theorem dL_law_318 : decode cL_law 318 = .ok (.iaload, 1) := by decide +kernel
theorem dL_law_319 : decode cL_law 319 = .ok (.ifCond .ne 19, 3) := by decide +kernel
theorem dL_law_322 : decode cL_law 322 = .ok (.aload_n 1, 1) := by decide +kernel
theorem dL_law_323 : decode cL_law 323 = .ok (.iload 10, 2) := by decide +kernel
theorem dL_law_325 : decode cL_law 325 = .ok (.invokevirtual 95, 3) := by decide +kernel
theorem dL_law_328 : decode cL_law 328 = .ok (.pop, 1) := by decide +kernel
theorem dL_law_329 : decode cL_law 329 = .ok (.aload 5, 2) := by decide +kernel
theorem dL_law_331 : decode cL_law 331 = .ok (.iload 10, 2) := by decide +kernel
theorem dL_law_333 : decode cL_law 333 = .ok (.iconst 1, 1) := by decide +kernel
theorem dL_law_334 : decode cL_law 334 = .ok (.iastore, 1) := by decide +kernel
theorem dL_law_335 : decode cL_law 335 = .ok (.goto 250, 3) := by decide +kernel
theorem dL_law_338 : decode cL_law 338 = .ok (.iload 15, 2) := by decide +kernel
theorem dL_law_340 : decode cL_law 340 = .ok (.iconst 4, 1) := by decide +kernel
theorem dL_law_341 : decode cL_law 341 = .ok (.if_icmp .ge 28, 3) := by decide +kernel
theorem dL_law_344 : decode cL_law 344 = .ok (.aload 5, 2) := by decide +kernel
theorem dL_law_346 : decode cL_law 346 = .ok (.iload 10, 2) := by decide +kernel
theorem dL_law_348 : decode cL_law 348 = .ok (.iaload, 1) := by decide +kernel
theorem dL_law_349 : decode cL_law 349 = .ok (.iconst 1, 1) := by decide +kernel
theorem dL_law_350 : decode cL_law 350 = .ok (.if_icmp .ne 19, 3) := by decide +kernel
theorem dL_law_353 : decode cL_law 353 = .ok (.aload_n 1, 1) := by decide +kernel
theorem dL_law_354 : decode cL_law 354 = .ok (.iload 10, 2) := by decide +kernel
theorem dL_law_356 : decode cL_law 356 = .ok (.invokevirtual 98, 3) := by decide +kernel
theorem dL_law_359 : decode cL_law 359 = .ok (.pop, 1) := by decide +kernel
theorem dL_law_360 : decode cL_law 360 = .ok (.aload 5, 2) := by decide +kernel
theorem dL_law_362 : decode cL_law 362 = .ok (.iload 10, 2) := by decide +kernel
theorem dL_law_364 : decode cL_law 364 = .ok (.iconst 0, 1) := by decide +kernel
theorem dL_law_365 : decode cL_law 365 = .ok (.iastore, 1) := by decide +kernel
theorem dL_law_366 : decode cL_law 366 = .ok (.goto 219, 3) := by decide +kernel
theorem dL_law_369 : decode cL_law 369 = .ok (.iload 15, 2) := by decide +kernel
theorem dL_law_371 : decode cL_law 371 = .ok (.bipush 7, 2) := by decide +kernel
theorem dL_law_373 : decode cL_law 373 = .ok (.if_icmp .ge 21, 3) := by decide +kernel
theorem dL_law_376 : decode cL_law 376 = .ok (.aload 5, 2) := by decide +kernel
theorem dL_law_378 : decode cL_law 378 = .ok (.iload 10, 2) := by decide +kernel
theorem dL_law_380 : decode cL_law 380 = .ok (.iaload, 1) := by decide +kernel
theorem dL_law_381 : decode cL_law 381 = .ok (.ifCond .ne 13, 3) := by decide +kernel
theorem dL_law_384 : decode cL_law 384 = .ok (.aload_n 1, 1) := by decide +kernel
theorem dL_law_385 : decode cL_law 385 = .ok (.iload 10, 2) := by decide +kernel
theorem dL_law_387 : decode cL_law 387 = .ok (.invokevirtual 101, 3) := by decide +kernel
theorem dL_law_390 : decode cL_law 390 = .ok (.pop, 1) := by decide +kernel
theorem dL_law_391 : decode cL_law 391 = .ok (.goto 194, 3) := by decide +kernel
theorem dL_law_394 : decode cL_law 394 = .ok (.iload 15, 2) := by decide +kernel
theorem dL_law_396 : decode cL_law 396 = .ok (.bipush 7, 2) := by decide +kernel
theorem dL_law_398 : decode cL_law 398 = .ok (.if_icmp .ne 55, 3) := by decide +kernel
theorem dL_law_401 : decode cL_law 401 = .ok (.iload 6, 2) := by decide +kernel
theorem dL_law_403 : decode cL_law 403 = .ok (.ifCond .le 50, 3) := by decide +kernel
theorem dL_law_406 : decode cL_law 406 = .ok (.aload_n 1, 1) := by decide +kernel
theorem dL_law_407 : decode cL_law 407 = .ok (.iload 12, 2) := by decide +kernel
theorem dL_law_409 : decode cL_law 409 = .ok (.invokevirtual 42, 3) := by decide +kernel
theorem dL_law_412 : decode cL_law 412 = .ok (.ifCond .ne 41, 3) := by decide +kernel
theorem dL_law_415 : decode cL_law 415 = .ok (.aload_n 1, 1) := by decide +kernel
theorem dL_law_416 : decode cL_law 416 = .ok (.iload 12, 2) := by decide +kernel
theorem dL_law_418 : decode cL_law 418 = .ok (.aload_n 3, 1) := by decide +kernel
theorem dL_law_419 : decode cL_law 419 = .ok (.iload 12, 2) := by decide +kernel
theorem dL_law_421 : decode cL_law 421 = .ok (.iaload, 1) := by decide +kernel
theorem dL_law_422 : decode cL_law 422 = .ok (.aload 5, 2) := by decide +kernel
theorem dL_law_424 : decode cL_law 424 = .ok (.iload_n 2, 1) := by decide +kernel
theorem dL_law_425 : decode cL_law 425 = .ok (.invokestatic 104, 3) := by decide +kernel
theorem dL_law_428 : decode cL_law 428 = .ok (.ifCond .eq 25, 3) := by decide +kernel
theorem dL_law_431 : decode cL_law 431 = .ok (.aload_n 1, 1) := by decide +kernel
theorem dL_law_432 : decode cL_law 432 = .ok (.iload 12, 2) := by decide +kernel
theorem dL_law_434 : decode cL_law 434 = .ok (.iload 9, 2) := by decide +kernel
theorem dL_law_436 : decode cL_law 436 = .ok (.bipush 10, 2) := by decide +kernel
theorem dL_law_438 : decode cL_law 438 = .ok (.ishr, 1) := by decide +kernel
theorem dL_law_439 : decode cL_law 439 = .ok (.aload_n 3, 1) := by decide +kernel
theorem dL_law_440 : decode cL_law 440 = .ok (.iload 12, 2) := by decide +kernel
theorem dL_law_442 : decode cL_law 442 = .ok (.iaload, 1) := by decide +kernel
theorem dL_law_443 : decode cL_law 443 = .ok (.invokestatic 82, 3) := by decide +kernel
theorem dL_law_446 : decode cL_law 446 = .ok (.invokevirtual 108, 3) := by decide +kernel
theorem dL_law_449 : decode cL_law 449 = .ok (.pop, 1) := by decide +kernel
theorem dL_law_450 : decode cL_law 450 = .ok (.goto 135, 3) := by decide +kernel
theorem dL_law_453 : decode cL_law 453 = .ok (.iload 15, 2) := by decide +kernel
theorem dL_law_455 : decode cL_law 455 = .ok (.bipush 8, 2) := by decide +kernel
theorem dL_law_457 : decode cL_law 457 = .ok (.if_icmp .ne 38, 3) := by decide +kernel
theorem dL_law_460 : decode cL_law 460 = .ok (.iload 6, 2) := by decide +kernel
theorem dL_law_462 : decode cL_law 462 = .ok (.ifCond .le 33, 3) := by decide +kernel
theorem dL_law_465 : decode cL_law 465 = .ok (.iload 9, 2) := by decide +kernel
theorem dL_law_467 : decode cL_law 467 = .ok (.bipush 10, 2) := by decide +kernel
theorem dL_law_469 : decode cL_law 469 = .ok (.ishr, 1) := by decide +kernel
theorem dL_law_470 : decode cL_law 470 = .ok (.iconst 3, 1) := by decide +kernel
theorem dL_law_471 : decode cL_law 471 = .ok (.iand, 1) := by decide +kernel
theorem dL_law_472 : decode cL_law 472 = .ok (.ifCond .ne 23, 3) := by decide +kernel
theorem dL_law_475 : decode cL_law 475 = .ok (.aload_n 1, 1) := by decide +kernel
theorem dL_law_476 : decode cL_law 476 = .ok (.iload 12, 2) := by decide +kernel
theorem dL_law_478 : decode cL_law 478 = .ok (.invokevirtual 42, 3) := by decide +kernel
theorem dL_law_481 : decode cL_law 481 = .ok (.iconst 2, 1) := by decide +kernel
theorem dL_law_482 : decode cL_law 482 = .ok (.if_icmp .eq 13, 3) := by decide +kernel
theorem dL_law_485 : decode cL_law 485 = .ok (.aload_n 1, 1) := by decide +kernel
theorem dL_law_486 : decode cL_law 486 = .ok (.iload 12, 2) := by decide +kernel
theorem dL_law_488 : decode cL_law 488 = .ok (.invokevirtual 111, 3) := by decide +kernel
theorem dL_law_491 : decode cL_law 491 = .ok (.pop, 1) := by decide +kernel
theorem dL_law_492 : decode cL_law 492 = .ok (.goto 93, 3) := by decide +kernel
theorem dL_law_495 : decode cL_law 495 = .ok (.iload 15, 2) := by decide +kernel
theorem dL_law_497 : decode cL_law 497 = .ok (.bipush 9, 2) := by decide +kernel
theorem dL_law_499 : decode cL_law 499 = .ok (.if_icmp .ne 28, 3) := by decide +kernel
theorem dL_law_502 : decode cL_law 502 = .ok (.iload 6, 2) := by decide +kernel
theorem dL_law_504 : decode cL_law 504 = .ok (.ifCond .le 23, 3) := by decide +kernel
theorem dL_law_507 : decode cL_law 507 = .ok (.aload_n 1, 1) := by decide +kernel
theorem dL_law_508 : decode cL_law 508 = .ok (.iload 12, 2) := by decide +kernel
theorem dL_law_510 : decode cL_law 510 = .ok (.invokevirtual 42, 3) := by decide +kernel
theorem dL_law_513 : decode cL_law 513 = .ok (.iconst 2, 1) := by decide +kernel
theorem dL_law_514 : decode cL_law 514 = .ok (.if_icmp .ne 13, 3) := by decide +kernel
theorem dL_law_517 : decode cL_law 517 = .ok (.aload_n 1, 1) := by decide +kernel
theorem dL_law_518 : decode cL_law 518 = .ok (.iload 12, 2) := by decide +kernel
theorem dL_law_520 : decode cL_law 520 = .ok (.invokevirtual 114, 3) := by decide +kernel
theorem dL_law_523 : decode cL_law 523 = .ok (.pop, 1) := by decide +kernel
theorem dL_law_524 : decode cL_law 524 = .ok (.goto 61, 3) := by decide +kernel
theorem dL_law_527 : decode cL_law 527 = .ok (.iload 15, 2) := by decide +kernel
theorem dL_law_529 : decode cL_law 529 = .ok (.bipush 10, 2) := by decide +kernel
theorem dL_law_531 : decode cL_law 531 = .ok (.if_icmp .le 49, 3) := by decide +kernel
theorem dL_law_534 : decode cL_law 534 = .ok (.iload 6, 2) := by decide +kernel
theorem dL_law_536 : decode cL_law 536 = .ok (.ifCond .le 44, 3) := by decide +kernel
theorem dL_law_539 : decode cL_law 539 = .ok (.aload_n 1, 1) := by decide +kernel
theorem dL_law_540 : decode cL_law 540 = .ok (.iload 12, 2) := by decide +kernel
theorem dL_law_542 : decode cL_law 542 = .ok (.invokevirtual 42, 3) := by decide +kernel
theorem dL_law_545 : decode cL_law 545 = .ok (.ifCond .ne 35, 3) := by decide +kernel
theorem dL_law_548 : decode cL_law 548 = .ok (.aload_n 1, 1) := by decide +kernel
theorem dL_law_549 : decode cL_law 549 = .ok (.iload 12, 2) := by decide +kernel
theorem dL_law_551 : decode cL_law 551 = .ok (.invokevirtual 52, 3) := by decide +kernel
theorem dL_law_554 : decode cL_law 554 = .ok (.bipush 40, 2) := by decide +kernel
theorem dL_law_556 : decode cL_law 556 = .ok (.if_icmp .ge 24, 3) := by decide +kernel
theorem dL_law_559 : decode cL_law 559 = .ok (.aload_n 1, 1) := by decide +kernel
theorem dL_law_560 : decode cL_law 560 = .ok (.iload 12, 2) := by decide +kernel
theorem dL_law_562 : decode cL_law 562 = .ok (.iload 9, 2) := by decide +kernel
theorem dL_law_564 : decode cL_law 564 = .ok (.bipush 10, 2) := by decide +kernel
theorem dL_law_566 : decode cL_law 566 = .ok (.ishr, 1) := by decide +kernel
theorem dL_law_567 : decode cL_law 567 = .ok (.sipush 1000, 3) := by decide +kernel
theorem dL_law_570 : decode cL_law 570 = .ok (.invokestatic 82, 3) := by decide +kernel
theorem dL_law_573 : decode cL_law 573 = .ok (.invokevirtual 117, 3) := by decide +kernel
theorem dL_law_576 : decode cL_law 576 = .ok (.pop, 1) := by decide +kernel
theorem dL_law_577 : decode cL_law 577 = .ok (.goto 8, 3) := by decide +kernel
theorem dL_law_580 : decode cL_law 580 = .ok (.aload_n 1, 1) := by decide +kernel
theorem dL_law_581 : decode cL_law 581 = .ok (.invokevirtual 120, 3) := by decide +kernel
theorem dL_law_584 : decode cL_law 584 = .ok (.pop, 1) := by decide +kernel
theorem dL_law_585 : decode cL_law 585 = .ok (.iload 7, 2) := by decide +kernel
theorem dL_law_587 : decode cL_law 587 = .ok (.iconst 4, 1) := by decide +kernel
theorem dL_law_588 : decode cL_law 588 = .ok (.if_icmp .ge 10, 3) := by decide +kernel
theorem dL_law_591 : decode cL_law 591 = .ok (.iload 7, 2) := by decide +kernel
theorem dL_law_593 : decode cL_law 593 = .ok (.iconst 1, 1) := by decide +kernel
theorem dL_law_594 : decode cL_law 594 = .ok (.iadd, 1) := by decide +kernel
theorem dL_law_595 : decode cL_law 595 = .ok (.goto 4, 3) := by decide +kernel
theorem dL_law_598 : decode cL_law 598 = .ok (.iconst 4, 1) := by decide +kernel
theorem dL_law_599 : decode cL_law 599 = .ok (.istore 7, 2) := by decide +kernel
theorem dL_law_601 : decode cL_law 601 = .ok (.iload 9, 2) := by decide +kernel
theorem dL_law_603 : decode cL_law 603 = .ok (.bipush 26, 2) := by decide +kernel
theorem dL_law_605 : decode cL_law 605 = .ok (.ishr, 1) := by decide +kernel
theorem dL_law_606 : decode cL_law 606 = .ok (.iconst 3, 1) := by decide +kernel
theorem dL_law_607 : decode cL_law 607 = .ok (.iand, 1) := by decide +kernel
theorem dL_law_608 : decode cL_law 608 = .ok (.ifCond .ne 43, 3) := by decide +kernel
theorem dL_law_611 : decode cL_law 611 = .ok (.iload 16, 2) := by decide +kernel
theorem dL_law_613 : decode cL_law 613 = .ok (.istore 6, 2) := by decide +kernel
theorem dL_law_615 : decode cL_law 615 = .ok (.aload 5, 2) := by decide +kernel
theorem dL_law_617 : decode cL_law 617 = .ok (.iload 10, 2) := by decide +kernel
theorem dL_law_619 : decode cL_law 619 = .ok (.iload 17, 2) := by decide +kernel
theorem dL_law_621 : decode cL_law 621 = .ok (.iastore, 1) := by decide +kernel
theorem dL_law_622 : decode cL_law 622 = .ok (.aload_n 1, 1) := by decide +kernel
theorem dL_law_623 : decode cL_law 623 = .ok (.invokevirtual 123, 3) := by decide +kernel
theorem dL_law_626 : decode cL_law 626 = .ok (.iload 7, 2) := by decide +kernel
theorem dL_law_628 : decode cL_law 628 = .ok (.iconst 1, 1) := by decide +kernel
theorem dL_law_629 : decode cL_law 629 = .ok (.isub, 1) := by decide +kernel
theorem dL_law_630 : decode cL_law 630 = .ok (.if_icmp .ne 16, 3) := by decide +kernel
theorem dL_law_633 : decode cL_law 633 = .ok (.aload_n 1, 1) := by decide +kernel
theorem dL_law_634 : decode cL_law 634 = .ok (.iload_n 2, 1) := by decide +kernel
theorem dL_law_635 : decode cL_law 635 = .ok (.iload 6, 2) := by decide +kernel
theorem dL_law_637 : decode cL_law 637 = .ok (.invokestatic 88, 3) := by decide +kernel
theorem dL_law_640 : decode cL_law 640 = .ok (.lload 13, 2) := by decide +kernel
theorem dL_law_642 : decode cL_law 642 = .ok (.lcmp, 1) := by decide +kernel
theorem dL_law_643 : decode cL_law 643 = .ok (.ifCond .eq 5, 3) := by decide +kernel
theorem dL_law_646 : decode cL_law 646 = .ok (.iconst 0, 1) := by decide +kernel
theorem dL_law_647 : decode cL_law 647 = .ok (.ireturn, 1) := by decide +kernel
theorem dL_law_648 : decode cL_law 648 = .ok (.iinc 7 (-1), 3) := by decide +kernel
theorem dL_law_651 : decode cL_law 651 = .ok (.iconst 0, 1) := by decide +kernel
theorem dL_law_652 : decode cL_law 652 = .ok (.istore 19, 2) := by decide +kernel
theorem dL_law_654 : decode cL_law 654 = .ok (.iload 19, 2) := by decide +kernel
theorem dL_law_656 : decode cL_law 656 = .ok (.iload 6, 2) := by decide +kernel
theorem dL_law_658 : decode cL_law 658 = .ok (.if_icmp .ge 91, 3) := by decide +kernel
theorem dL_law_661 : decode cL_law 661 = .ok (.aload_n 1, 1) := by decide +kernel
theorem dL_law_662 : decode cL_law 662 = .ok (.iload 19, 2) := by decide +kernel
theorem dL_law_664 : decode cL_law 664 = .ok (.invokevirtual 47, 3) := by decide +kernel
theorem dL_law_667 : decode cL_law 667 = .ok (.istore 20, 2) := by decide +kernel
theorem dL_law_669 : decode cL_law 669 = .ok (.aload_n 1, 1) := by decide +kernel
theorem dL_law_670 : decode cL_law 670 = .ok (.iload 19, 2) := by decide +kernel
theorem dL_law_672 : decode cL_law 672 = .ok (.invokevirtual 42, 3) := by decide +kernel
theorem dL_law_675 : decode cL_law 675 = .ok (.iconst 1, 1) := by decide +kernel
theorem dL_law_676 : decode cL_law 676 = .ok (.if_icmp .eq 13, 3) := by decide +kernel
theorem dL_law_679 : decode cL_law 679 = .ok (.iload 20, 2) := by decide +kernel
theorem dL_law_681 : decode cL_law 681 = .ok (.aload 4, 2) := by decide +kernel
theorem dL_law_683 : decode cL_law 683 = .ok (.iload 19, 2) := by decide +kernel
theorem dL_law_685 : decode cL_law 685 = .ok (.iaload, 1) := by decide +kernel
theorem dL_law_686 : decode cL_law 686 = .ok (.if_icmp .lt 30, 3) := by decide +kernel
theorem dL_law_689 : decode cL_law 689 = .ok (.aload_n 1, 1) := by decide +kernel
theorem dL_law_690 : decode cL_law 690 = .ok (.iload 19, 2) := by decide +kernel
theorem dL_law_692 : decode cL_law 692 = .ok (.invokevirtual 42, 3) := by decide +kernel
theorem dL_law_695 : decode cL_law 695 = .ok (.iconst 1, 1) := by decide +kernel
theorem dL_law_696 : decode cL_law 696 = .ok (.if_icmp .ne 9, 3) := by decide +kernel
theorem dL_law_699 : decode cL_law 699 = .ok (.iload 20, 2) := by decide +kernel
theorem dL_law_701 : decode cL_law 701 = .ok (.iconst (-1), 1) := by decide +kernel
theorem dL_law_702 : decode cL_law 702 = .ok (.if_icmp .ne 14, 3) := by decide +kernel
theorem dL_law_705 : decode cL_law 705 = .ok (.iload 20, 2) := by decide +kernel
theorem dL_law_707 : decode cL_law 707 = .ok (.aload_n 1, 1) := by decide +kernel
theorem dL_law_708 : decode cL_law 708 = .ok (.iload 19, 2) := by decide +kernel
theorem dL_law_710 : decode cL_law 710 = .ok (.invokevirtual 52, 3) := by decide +kernel
theorem dL_law_713 : decode cL_law 713 = .ok (.if_icmp .lt 5, 3) := by decide +kernel
theorem dL_law_716 : decode cL_law 716 = .ok (.iconst 0, 1) := by decide +kernel
theorem dL_law_717 : decode cL_law 717 = .ok (.ireturn, 1) := by decide +kernel
theorem dL_law_718 : decode cL_law 718 = .ok (.aload 4, 2) := by decide +kernel
theorem dL_law_720 : decode cL_law 720 = .ok (.iload 19, 2) := by decide +kernel
theorem dL_law_722 : decode cL_law 722 = .ok (.iload 20, 2) := by decide +kernel
theorem dL_law_724 : decode cL_law 724 = .ok (.aload 4, 2) := by decide +kernel
theorem dL_law_726 : decode cL_law 726 = .ok (.iload 19, 2) := by decide +kernel
theorem dL_law_728 : decode cL_law 728 = .ok (.iaload, 1) := by decide +kernel
theorem dL_law_729 : decode cL_law 729 = .ok (.if_icmp .le 8, 3) := by decide +kernel
theorem dL_law_732 : decode cL_law 732 = .ok (.iload 20, 2) := by decide +kernel
theorem dL_law_734 : decode cL_law 734 = .ok (.goto 8, 3) := by decide +kernel
theorem dL_law_737 : decode cL_law 737 = .ok (.aload 4, 2) := by decide +kernel
theorem dL_law_739 : decode cL_law 739 = .ok (.iload 19, 2) := by decide +kernel
theorem dL_law_741 : decode cL_law 741 = .ok (.iaload, 1) := by decide +kernel
theorem dL_law_742 : decode cL_law 742 = .ok (.iastore, 1) := by decide +kernel
theorem dL_law_743 : decode cL_law 743 = .ok (.iinc 19 1, 3) := by decide +kernel
theorem dL_law_746 : decode cL_law 746 = .ok (.goto (-92), 3) := by decide +kernel
theorem dL_law_749 : decode cL_law 749 = .ok (.iinc 8 1, 3) := by decide +kernel
theorem dL_law_752 : decode cL_law 752 = .ok (.goto (-675), 3) := by decide +kernel
theorem dL_law_755 : decode cL_law 755 = .ok (.aload_n 1, 1) := by decide +kernel
theorem dL_law_756 : decode cL_law 756 = .ok (.invokevirtual 24, 3) := by decide +kernel
theorem dL_law_759 : decode cL_law 759 = .ok (.ifCond .lt 7, 3) := by decide +kernel
theorem dL_law_762 : decode cL_law 762 = .ok (.iconst 1, 1) := by decide +kernel
theorem dL_law_763 : decode cL_law 763 = .ok (.goto 4, 3) := by decide +kernel
theorem dL_law_766 : decode cL_law 766 = .ok (.iconst 0, 1) := by decide +kernel
theorem dL_law_767 : decode cL_law 767 = .ok (.ireturn, 1) := by decide +kernel
