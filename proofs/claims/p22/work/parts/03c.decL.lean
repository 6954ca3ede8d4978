theorem dL_cell_0 : decode cL_cell 0 = .ok (.iload_n 1, 1) := by decide +kernel
theorem dL_cell_1 : decode cL_cell 1 = .ok (.aload_n 0, 1) := by decide +kernel
theorem dL_cell_2 : decode cL_cell 2 = .ok (.arraylength, 1) := by decide +kernel
theorem dL_cell_3 : decode cL_cell 3 = .ok (.if_icmp .ge 9, 3) := by decide +kernel
theorem dL_cell_6 : decode cL_cell 6 = .ok (.aload_n 0, 1) := by decide +kernel
theorem dL_cell_7 : decode cL_cell 7 = .ok (.iload_n 1, 1) := by decide +kernel
theorem dL_cell_8 : decode cL_cell 8 = .ok (.iaload, 1) := by decide +kernel
theorem dL_cell_9 : decode cL_cell 9 = .ok (.goto 18, 3) := by decide +kernel
theorem dL_cell_12 : decode cL_cell 12 = .ok (.sipush 7919, 3) := by decide +kernel
theorem dL_cell_15 : decode cL_cell 15 = .ok (.iload_n 1, 1) := by decide +kernel
theorem dL_cell_16 : decode cL_cell 16 = .ok (.sipush 347, 3) := by decide +kernel
theorem dL_cell_19 : decode cL_cell 19 = .ok (.iadd, 1) := by decide +kernel
theorem dL_cell_20 : decode cL_cell 20 = .ok (.imul, 1) := by decide +kernel
theorem dL_cell_21 : decode cL_cell 21 = .ok (.iload_n 1, 1) := by decide +kernel
theorem dL_cell_22 : decode cL_cell 22 = .ok (.sipush 2621, 3) := by decide +kernel
theorem dL_cell_25 : decode cL_cell 25 = .ok (.iadd, 1) := by decide +kernel
theorem dL_cell_26 : decode cL_cell 26 = .ok (.imul, 1) := by decide +kernel
theorem dL_cell_27 : decode cL_cell 27 = .ok (.ireturn, 1) := by decide +kernel
theorem dL_low_0 : decode cL_low 0 = .ok (.iload_n 0, 1) := by decide +kernel
theorem dL_low_1 : decode cL_low 1 = .ok (.ldc 7, 2) := by decide +kernel
theorem dL_low_3 : decode cL_low 3 = .ok (.iand, 1) := by decide +kernel
theorem dL_low_4 : decode cL_low 4 = .ok (.iload_n 1, 1) := by decide +kernel
theorem dL_low_5 : decode cL_low 5 = .ok (.irem, 1) := by decide +kernel
theorem dL_low_6 : decode cL_low 6 = .ok (.ireturn, 1) := by decide +kernel
theorem dL_does_0 : decode cL_does 0 = .ok (.iload_n 1, 1) := by decide +kernel
theorem dL_does_1 : decode cL_does 1 = .ok (.ifCond .ne 11, 3) := by decide +kernel
theorem dL_does_4 : decode cL_does 4 = .ok (.aload_n 0, 1) := by decide +kernel
theorem dL_does_5 : decode cL_does 5 = .ok (.iload_n 2, 1) := by decide +kernel
theorem dL_does_6 : decode cL_does 6 = .ok (.invokevirtual 8, 3) := by decide +kernel
theorem dL_does_9 : decode cL_does 9 = .ok (.goto 50, 3) := by decide +kernel
theorem dL_does_12 : decode cL_does 12 = .ok (.iload_n 1, 1) := by decide +kernel
theorem dL_does_13 : decode cL_does 13 = .ok (.iconst 1, 1) := by decide +kernel
theorem dL_does_14 : decode cL_does 14 = .ok (.if_icmp .ne 11, 3) := by decide +kernel
theorem dL_does_17 : decode cL_does 17 = .ok (.aload_n 0, 1) := by decide +kernel
theorem dL_does_18 : decode cL_does 18 = .ok (.iload_n 2, 1) := by decide +kernel
theorem dL_does_19 : decode cL_does 19 = .ok (.invokevirtual 14, 3) := by decide +kernel
theorem dL_does_22 : decode cL_does 22 = .ok (.goto 37, 3) := by decide +kernel
theorem dL_does_25 : decode cL_does 25 = .ok (.iload_n 1, 1) := by decide +kernel
theorem dL_does_26 : decode cL_does 26 = .ok (.iconst 2, 1) := by decide +kernel
theorem dL_does_27 : decode cL_does 27 = .ok (.if_icmp .ne 12, 3) := by decide +kernel
theorem dL_does_30 : decode cL_does 30 = .ok (.aload_n 0, 1) := by decide +kernel
theorem dL_does_31 : decode cL_does 31 = .ok (.iload_n 2, 1) := by decide +kernel
theorem dL_does_32 : decode cL_does 32 = .ok (.iload_n 3, 1) := by decide +kernel
theorem dL_does_33 : decode cL_does 33 = .ok (.invokevirtual 17, 3) := by decide +kernel
theorem dL_does_36 : decode cL_does 36 = .ok (.goto 23, 3) := by decide +kernel
theorem dL_does_39 : decode cL_does 39 = .ok (.iload_n 1, 1) := by decide +kernel
theorem dL_does_40 : decode cL_does 40 = .ok (.iconst 3, 1) := by decide +kernel
theorem dL_does_41 : decode cL_does 41 = .ok (.if_icmp .ne 12, 3) := by decide +kernel
theorem dL_does_44 : decode cL_does 44 = .ok (.aload_n 0, 1) := by decide +kernel
theorem dL_does_45 : decode cL_does 45 = .ok (.iload_n 2, 1) := by decide +kernel
theorem dL_does_46 : decode cL_does 46 = .ok (.iload_n 3, 1) := by decide +kernel
theorem dL_does_47 : decode cL_does 47 = .ok (.invokestatic 21, 3) := by decide +kernel
theorem dL_does_50 : decode cL_does 50 = .ok (.goto 9, 3) := by decide +kernel
theorem dL_does_53 : decode cL_does 53 = .ok (.aload_n 0, 1) := by decide +kernel
theorem dL_does_54 : decode cL_does 54 = .ok (.iload_n 2, 1) := by decide +kernel
theorem dL_does_55 : decode cL_does 55 = .ok (.iload_n 3, 1) := by decide +kernel
theorem dL_does_56 : decode cL_does 56 = .ok (.invokevirtual 27, 3) := by decide +kernel
theorem dL_does_59 : decode cL_does 59 = .ok (.ireturn, 1) := by decide +kernel
theorem dL_does_60 : decode cL_does 60 = .ok (.astore 4, 2) := by decide +kernel
theorem dL_does_62 : decode cL_does 62 = .ok (.ldc 32, 2) := by decide +kernel
theorem dL_does_64 : decode cL_does 64 = .ok (.ireturn, 1) := by decide +kernel
theorem dL_does_65 : decode cL_does 65 = .ok (.astore 4, 2) := by decide +kernel
theorem dL_does_67 : decode cL_does 67 = .ok (.ldc 32, 2) := by decide +kernel
theorem dL_does_69 : decode cL_does 69 = .ok (.ireturn, 1) := by decide +kernel
theorem dL_does_70 : decode cL_does 70 = .ok (.astore 4, 2) := by decide +kernel
theorem dL_does_72 : decode cL_does 72 = .ok (.ldc 32, 2) := by decide +kernel
theorem dL_does_74 : decode cL_does 74 = .ok (.ireturn, 1) := by decide +kernel
theorem dL_does_75 : decode cL_does 75 = .ok (.astore 4, 2) := by decide +kernel
theorem dL_does_77 : decode cL_does 77 = .ok (.ldc 32, 2) := by decide +kernel
theorem dL_does_79 : decode cL_does 79 = .ok (.ireturn, 1) := by decide +kernel
theorem dL_base_0 : decode cL_base 0 = .ok (.aload_n 0, 1) := by decide +kernel
theorem dL_base_1 : decode cL_base 1 = .ok (.iload_n 1, 1) := by decide +kernel
theorem dL_base_2 : decode cL_base 2 = .ok (.iload_n 2, 1) := by decide +kernel
theorem dL_base_3 : decode cL_base 3 = .ok (.invokevirtual 39, 3) := by decide +kernel
theorem dL_base_6 : decode cL_base 6 = .ok (.iconst 0, 1) := by decide +kernel
theorem dL_base_7 : decode cL_base 7 = .ok (.ireturn, 1) := by decide +kernel
theorem dL_cableAt_0 : decode cL_cableAt 0 = .ok (.aload_n 0, 1) := by decide +kernel
theorem dL_cableAt_1 : decode cL_cableAt 1 = .ok (.iload_n 1, 1) := by decide +kernel
theorem dL_cableAt_2 : decode cL_cableAt 2 = .ok (.invokevirtual 42, 3) := by decide +kernel
theorem dL_cableAt_5 : decode cL_cableAt 5 = .ok (.ireturn, 1) := by decide +kernel
theorem dL_cableAt_6 : decode cL_cableAt 6 = .ok (.astore_n 2, 1) := by decide +kernel
theorem dL_cableAt_7 : decode cL_cableAt 7 = .ok (.ldc 32, 2) := by decide +kernel
theorem dL_cableAt_9 : decode cL_cableAt 9 = .ok (.ireturn, 1) := by decide +kernel
theorem dL_letterAt_0 : decode cL_letterAt 0 = .ok (.aload_n 0, 1) := by decide +kernel
theorem dL_letterAt_1 : decode cL_letterAt 1 = .ok (.iload_n 1, 1) := by decide +kernel
theorem dL_letterAt_2 : decode cL_letterAt 2 = .ok (.invokevirtual 45, 3) := by decide +kernel
theorem dL_letterAt_5 : decode cL_letterAt 5 = .ok (.ireturn, 1) := by decide +kernel
theorem dL_letterAt_6 : decode cL_letterAt 6 = .ok (.astore_n 2, 1) := by decide +kernel
theorem dL_letterAt_7 : decode cL_letterAt 7 = .ok (.ldc 32, 2) := by decide +kernel
theorem dL_letterAt_9 : decode cL_letterAt 9 = .ok (.ireturn, 1) := by decide +kernel
theorem dL_act_0 : decode cL_act 0 = .ok (.iload_n 3, 1) := by decide +kernel
theorem dL_act_1 : decode cL_act 1 = .ok (.bipush 24, 2) := by decide +kernel
theorem dL_act_3 : decode cL_act 3 = .ok (.ishr, 1) := by decide +kernel
theorem dL_act_4 : decode cL_act 4 = .ok (.bipush 8, 2) := by decide +kernel
theorem dL_act_6 : decode cL_act 6 = .ok (.invokestatic 48, 3) := by decide +kernel
theorem dL_act_9 : decode cL_act 9 = .ok (.ifCond .ne 7, 3) := by decide +kernel
theorem dL_act_12 : decode cL_act 12 = .ok (.iconst 1, 1) := by decide +kernel
theorem dL_act_13 : decode cL_act 13 = .ok (.goto 4, 3) := by decide +kernel
theorem dL_act_16 : decode cL_act 16 = .ok (.iconst 0, 1) := by decide +kernel
theorem dL_act_17 : decode cL_act 17 = .ok (.istore 4, 2) := by decide +kernel
theorem dL_act_19 : decode cL_act 19 = .ok (.iload_n 3, 1) := by decide +kernel
theorem dL_act_20 : decode cL_act 20 = .ok (.bipush 20, 2) := by decide +kernel
theorem dL_act_22 : decode cL_act 22 = .ok (.invokestatic 48, 3) := by decide +kernel
theorem dL_act_25 : decode cL_act 25 = .ok (.istore 5, 2) := by decide +kernel
theorem dL_act_27 : decode cL_act 27 = .ok (.iload_n 3, 1) := by decide +kernel
theorem dL_act_28 : decode cL_act 28 = .ok (.iconst 4, 1) := by decide +kernel
theorem dL_act_29 : decode cL_act 29 = .ok (.ishr, 1) := by decide +kernel
theorem dL_act_30 : decode cL_act 30 = .ok (.iload 4, 2) := by decide +kernel
theorem dL_act_32 : decode cL_act 32 = .ok (.ifCond .eq 8, 3) := by decide +kernel
theorem dL_act_35 : decode cL_act 35 = .ok (.bipush 10, 2) := by decide +kernel
theorem dL_act_37 : decode cL_act 37 = .ok (.goto 4, 3) := by decide +kernel
theorem dL_act_40 : decode cL_act 40 = .ok (.iload_n 1, 1) := by decide +kernel
theorem dL_act_41 : decode cL_act 41 = .ok (.invokestatic 48, 3) := by decide +kernel
theorem dL_act_44 : decode cL_act 44 = .ok (.iload 4, 2) := by decide +kernel
theorem dL_act_46 : decode cL_act 46 = .ok (.ifCond .eq 7, 3) := by decide +kernel
theorem dL_act_49 : decode cL_act 49 = .ok (.iconst 1, 1) := by decide +kernel
theorem dL_act_50 : decode cL_act 50 = .ok (.goto 4, 3) := by decide +kernel
theorem dL_act_53 : decode cL_act 53 = .ok (.iconst 0, 1) := by decide +kernel
theorem dL_act_54 : decode cL_act 54 = .ok (.isub, 1) := by decide +kernel
theorem dL_act_55 : decode cL_act 55 = .ok (.istore 6, 2) := by decide +kernel
theorem dL_act_57 : decode cL_act 57 = .ok (.iload_n 3, 1) := by decide +kernel
theorem dL_act_58 : decode cL_act 58 = .ok (.bipush 8, 2) := by decide +kernel
theorem dL_act_60 : decode cL_act 60 = .ok (.ishr, 1) := by decide +kernel
theorem dL_act_61 : decode cL_act 61 = .ok (.iload 4, 2) := by decide +kernel
theorem dL_act_63 : decode cL_act 63 = .ok (.ifCond .eq 8, 3) := by decide +kernel
theorem dL_act_66 : decode cL_act 66 = .ok (.bipush 10, 2) := by decide +kernel
theorem dL_act_68 : decode cL_act 68 = .ok (.goto 4, 3) := by decide +kernel
theorem dL_act_71 : decode cL_act 71 = .ok (.iload_n 2, 1) := by decide +kernel
theorem dL_act_72 : decode cL_act 72 = .ok (.invokestatic 48, 3) := by decide +kernel
theorem dL_act_75 : decode cL_act 75 = .ok (.iload 4, 2) := by decide +kernel
theorem dL_act_77 : decode cL_act 77 = .ok (.ifCond .eq 7, 3) := by decide +kernel
theorem dL_act_80 : decode cL_act 80 = .ok (.iconst 1, 1) := by decide +kernel
theorem dL_act_81 : decode cL_act 81 = .ok (.goto 4, 3) := by decide +kernel
theorem dL_act_84 : decode cL_act 84 = .ok (.iconst 0, 1) := by decide +kernel
theorem dL_act_85 : decode cL_act 85 = .ok (.isub, 1) := by decide +kernel
theorem dL_act_86 : decode cL_act 86 = .ok (.istore 7, 2) := by decide +kernel
theorem dL_act_88 : decode cL_act 88 = .ok (.iload 5, 2) := by decide +kernel
theorem dL_act_90 : decode cL_act 90 = .ok (.bipush 11, 2) := by decide +kernel
theorem dL_act_92 : decode cL_act 92 = .ok (.if_icmp .ge 35, 3) := by decide +kernel
theorem dL_act_95 : decode cL_act 95 = .ok (.aload_n 0, 1) := by decide +kernel
theorem dL_act_96 : decode cL_act 96 = .ok (.iconst 0, 1) := by decide +kernel
theorem dL_act_97 : decode cL_act 97 = .ok (.iload 4, 2) := by decide +kernel
theorem dL_act_99 : decode cL_act 99 = .ok (.ifCond .eq 16, 3) := by decide +kernel
theorem dL_act_102 : decode cL_act 102 = .ok (.iload_n 3, 1) := by decide +kernel
theorem dL_act_103 : decode cL_act 103 = .ok (.iconst 4, 1) := by decide +kernel
theorem dL_act_104 : decode cL_act 104 = .ok (.ishr, 1) := by decide +kernel
theorem dL_act_105 : decode cL_act 105 = .ok (.bipush 8, 2) := by decide +kernel
theorem dL_act_107 : decode cL_act 107 = .ok (.invokestatic 48, 3) := by decide +kernel
theorem dL_act_110 : decode cL_act 110 = .ok (.iconst 2, 1) := by decide +kernel
theorem dL_act_111 : decode cL_act 111 = .ok (.isub, 1) := by decide +kernel
theorem dL_act_112 : decode cL_act 112 = .ok (.goto 10, 3) := by decide +kernel
theorem dL_act_115 : decode cL_act 115 = .ok (.iload_n 3, 1) := by decide +kernel
theorem dL_act_116 : decode cL_act 116 = .ok (.iconst 4, 1) := by decide +kernel
theorem dL_act_117 : decode cL_act 117 = .ok (.ishr, 1) := by decide +kernel
theorem dL_act_118 : decode cL_act 118 = .ok (.iconst 4, 1) := by decide +kernel
theorem dL_act_119 : decode cL_act 119 = .ok (.invokestatic 48, 3) := by decide +kernel
theorem dL_act_122 : decode cL_act 122 = .ok (.iconst 0, 1) := by decide +kernel
theorem dL_act_123 : decode cL_act 123 = .ok (.invokestatic 51, 3) := by decide +kernel
theorem dL_act_126 : decode cL_act 126 = .ok (.ireturn, 1) := by decide +kernel
theorem dL_act_127 : decode cL_act 127 = .ok (.iload 5, 2) := by decide +kernel
theorem dL_act_129 : decode cL_act 129 = .ok (.bipush 14, 2) := by decide +kernel
theorem dL_act_131 : decode cL_act 131 = .ok (.if_icmp .ge 13, 3) := by decide +kernel
theorem dL_act_134 : decode cL_act 134 = .ok (.aload_n 0, 1) := by decide +kernel
theorem dL_act_135 : decode cL_act 135 = .ok (.iconst 4, 1) := by decide +kernel
theorem dL_act_136 : decode cL_act 136 = .ok (.iload 6, 2) := by decide +kernel
theorem dL_act_138 : decode cL_act 138 = .ok (.iload 7, 2) := by decide +kernel
theorem dL_act_140 : decode cL_act 140 = .ok (.invokestatic 51, 3) := by decide +kernel
theorem dL_act_143 : decode cL_act 143 = .ok (.ireturn, 1) := by decide +kernel
theorem dL_act_144 : decode cL_act 144 = .ok (.iload 5, 2) := by decide +kernel
theorem dL_act_146 : decode cL_act 146 = .ok (.bipush 16, 2) := by decide +kernel
theorem dL_act_148 : decode cL_act 148 = .ok (.if_icmp .ge 38, 3) := by decide +kernel
theorem dL_act_151 : decode cL_act 151 = .ok (.aload_n 0, 1) := by decide +kernel
theorem dL_act_152 : decode cL_act 152 = .ok (.iconst 1, 1) := by decide +kernel
theorem dL_act_153 : decode cL_act 153 = .ok (.iload 4, 2) := by decide +kernel
theorem dL_act_155 : decode cL_act 155 = .ok (.ifCond .eq 16, 3) := by decide +kernel
theorem dL_act_158 : decode cL_act 158 = .ok (.iload_n 3, 1) := by decide +kernel
theorem dL_act_159 : decode cL_act 159 = .ok (.iconst 5, 1) := by decide +kernel
theorem dL_act_160 : decode cL_act 160 = .ok (.ishr, 1) := by decide +kernel
theorem dL_act_161 : decode cL_act 161 = .ok (.bipush 80, 2) := by decide +kernel
theorem dL_act_163 : decode cL_act 163 = .ok (.invokestatic 48, 3) := by decide +kernel
theorem dL_act_166 : decode cL_act 166 = .ok (.iconst 5, 1) := by decide +kernel
theorem dL_act_167 : decode cL_act 167 = .ok (.isub, 1) := by decide +kernel
theorem dL_act_168 : decode cL_act 168 = .ok (.goto 13, 3) := by decide +kernel
theorem dL_act_171 : decode cL_act 171 = .ok (.iconst 1, 1) := by decide +kernel
theorem dL_act_172 : decode cL_act 172 = .ok (.iload_n 3, 1) := by decide +kernel
theorem dL_act_173 : decode cL_act 173 = .ok (.iconst 5, 1) := by decide +kernel
theorem dL_act_174 : decode cL_act 174 = .ok (.ishr, 1) := by decide +kernel
theorem dL_act_175 : decode cL_act 175 = .ok (.bipush 9, 2) := by decide +kernel
theorem dL_act_177 : decode cL_act 177 = .ok (.invokestatic 48, 3) := by decide +kernel
theorem dL_act_180 : decode cL_act 180 = .ok (.iadd, 1) := by decide +kernel
theorem dL_act_181 : decode cL_act 181 = .ok (.iconst 0, 1) := by decide +kernel
theorem dL_act_182 : decode cL_act 182 = .ok (.invokestatic 51, 3) := by decide +kernel
theorem dL_act_185 : decode cL_act 185 = .ok (.ireturn, 1) := by decide +kernel
theorem dL_act_186 : decode cL_act 186 = .ok (.iload 5, 2) := by decide +kernel
theorem dL_act_188 : decode cL_act 188 = .ok (.bipush 16, 2) := by decide +kernel
theorem dL_act_190 : decode cL_act 190 = .ok (.if_icmp .ne 14, 3) := by decide +kernel
theorem dL_act_193 : decode cL_act 193 = .ok (.aload_n 0, 1) := by decide +kernel
theorem dL_act_194 : decode cL_act 194 = .ok (.iconst 1, 1) := by decide +kernel
theorem dL_act_195 : decode cL_act 195 = .ok (.bipush 60, 2) := by decide +kernel
theorem dL_act_197 : decode cL_act 197 = .ok (.iconst 0, 1) := by decide +kernel
theorem dL_act_198 : decode cL_act 198 = .ok (.invokestatic 51, 3) := by decide +kernel
theorem dL_act_201 : decode cL_act 201 = .ok (.goto 23, 3) := by decide +kernel
theorem dL_act_204 : decode cL_act 204 = .ok (.aload_n 0, 1) := by decide +kernel
theorem dL_act_205 : decode cL_act 205 = .ok (.iload 5, 2) := by decide +kernel
theorem dL_act_207 : decode cL_act 207 = .ok (.bipush 17, 2) := by decide +kernel
theorem dL_act_209 : decode cL_act 209 = .ok (.if_icmp .ne 7, 3) := by decide +kernel
theorem dL_act_212 : decode cL_act 212 = .ok (.iconst 3, 1) := by decide +kernel
theorem dL_act_213 : decode cL_act 213 = .ok (.goto 4, 3) := by decide +kernel
theorem dL_act_216 : decode cL_act 216 = .ok (.iconst 2, 1) := by decide +kernel
theorem dL_act_217 : decode cL_act 217 = .ok (.iload 6, 2) := by decide +kernel
theorem dL_act_219 : decode cL_act 219 = .ok (.iload 7, 2) := by decide +kernel
theorem dL_act_221 : decode cL_act 221 = .ok (.invokestatic 51, 3) := by decide +kernel
theorem dL_act_224 : decode cL_act 224 = .ok (.ireturn, 1) := by decide +kernel
theorem dL_areAlike_0 : decode cL_areAlike 0 = .ok (.aload_n 0, 1) := by decide +kernel
theorem dL_areAlike_1 : decode cL_areAlike 1 = .ok (.invokevirtual 55, 3) := by decide +kernel
theorem dL_areAlike_4 : decode cL_areAlike 4 = .ok (.aload_n 1, 1) := by decide +kernel
theorem dL_areAlike_5 : decode cL_areAlike 5 = .ok (.invokevirtual 55, 3) := by decide +kernel
theorem dL_areAlike_8 : decode cL_areAlike 8 = .ok (.if_icmp .ne 84, 3) := by decide +kernel
theorem dL_areAlike_11 : decode cL_areAlike 11 = .ok (.aload_n 0, 1) := by decide +kernel
theorem dL_areAlike_12 : decode cL_areAlike 12 = .ok (.invokevirtual 59, 3) := by decide +kernel
theorem dL_areAlike_15 : decode cL_areAlike 15 = .ok (.aload_n 1, 1) := by decide +kernel
theorem dL_areAlike_16 : decode cL_areAlike 16 = .ok (.invokevirtual 59, 3) := by decide +kernel
theorem dL_areAlike_19 : decode cL_areAlike 19 = .ok (.if_icmp .ne 73, 3) := by decide +kernel
theorem dL_areAlike_22 : decode cL_areAlike 22 = .ok (.aload_n 0, 1) := by decide +kernel
theorem dL_areAlike_23 : decode cL_areAlike 23 = .ok (.invokevirtual 62, 3) := by decide +kernel
theorem dL_areAlike_26 : decode cL_areAlike 26 = .ok (.aload_n 1, 1) := by decide +kernel
theorem dL_areAlike_27 : decode cL_areAlike 27 = .ok (.invokevirtual 62, 3) := by decide +kernel
theorem dL_areAlike_30 : decode cL_areAlike 30 = .ok (.if_icmp .ne 62, 3) := by decide +kernel
theorem dL_areAlike_33 : decode cL_areAlike 33 = .ok (.aload_n 0, 1) := by decide +kernel
theorem dL_areAlike_34 : decode cL_areAlike 34 = .ok (.invokevirtual 65, 3) := by decide +kernel
theorem dL_areAlike_37 : decode cL_areAlike 37 = .ok (.aload_n 1, 1) := by decide +kernel
theorem dL_areAlike_38 : decode cL_areAlike 38 = .ok (.invokevirtual 65, 3) := by decide +kernel
theorem dL_areAlike_41 : decode cL_areAlike 41 = .ok (.if_icmp .ne 51, 3) := by decide +kernel
theorem dL_areAlike_44 : decode cL_areAlike 44 = .ok (.aload_n 0, 1) := by decide +kernel
theorem dL_areAlike_45 : decode cL_areAlike 45 = .ok (.invokevirtual 68, 3) := by decide +kernel
theorem dL_areAlike_48 : decode cL_areAlike 48 = .ok (.aload_n 1, 1) := by decide +kernel
theorem dL_areAlike_49 : decode cL_areAlike 49 = .ok (.invokevirtual 68, 3) := by decide +kernel
theorem dL_areAlike_52 : decode cL_areAlike 52 = .ok (.if_icmp .ne 40, 3) := by decide +kernel
theorem dL_areAlike_55 : decode cL_areAlike 55 = .ok (.aload_n 0, 1) := by decide +kernel
theorem dL_areAlike_56 : decode cL_areAlike 56 = .ok (.invokevirtual 71, 3) := by decide +kernel
theorem dL_areAlike_59 : decode cL_areAlike 59 = .ok (.aload_n 1, 1) := by decide +kernel
theorem dL_areAlike_60 : decode cL_areAlike 60 = .ok (.invokevirtual 71, 3) := by decide +kernel
theorem dL_areAlike_63 : decode cL_areAlike 63 = .ok (.if_icmp .ne 29, 3) := by decide +kernel
theorem dL_areAlike_66 : decode cL_areAlike 66 = .ok (.aload_n 0, 1) := by decide +kernel
theorem dL_areAlike_67 : decode cL_areAlike 67 = .ok (.invokevirtual 74, 3) := by decide +kernel
theorem dL_areAlike_70 : decode cL_areAlike 70 = .ok (.aload_n 1, 1) := by decide +kernel
theorem dL_areAlike_71 : decode cL_areAlike 71 = .ok (.invokevirtual 74, 3) := by decide +kernel
theorem dL_areAlike_74 : decode cL_areAlike 74 = .ok (.if_icmp .ne 18, 3) := by decide +kernel
theorem dL_areAlike_77 : decode cL_areAlike 77 = .ok (.aload_n 0, 1) := by decide +kernel
theorem dL_areAlike_78 : decode cL_areAlike 78 = .ok (.invokevirtual 77, 3) := by decide +kernel
theorem dL_areAlike_81 : decode cL_areAlike 81 = .ok (.aload_n 1, 1) := by decide +kernel
theorem dL_areAlike_82 : decode cL_areAlike 82 = .ok (.invokevirtual 77, 3) := by decide +kernel
theorem dL_areAlike_85 : decode cL_areAlike 85 = .ok (.if_icmp .ne 7, 3) := by decide +kernel
theorem dL_areAlike_88 : decode cL_areAlike 88 = .ok (.iconst 1, 1) := by decide +kernel
theorem dL_areAlike_89 : decode cL_areAlike 89 = .ok (.goto 4, 3) := by decide +kernel
theorem dL_areAlike_92 : decode cL_areAlike 92 = .ok (.iconst 0, 1) := by decide +kernel
theorem dL_areAlike_93 : decode cL_areAlike 93 = .ok (.istore_n 2, 1) := by decide +kernel
theorem dL_areAlike_94 : decode cL_areAlike 94 = .ok (.iconst 0, 1) := by decide +kernel
theorem dL_areAlike_95 : decode cL_areAlike 95 = .ok (.istore_n 3, 1) := by decide +kernel
theorem dL_areAlike_96 : decode cL_areAlike 96 = .ok (.iload_n 3, 1) := by decide +kernel
theorem dL_areAlike_97 : decode cL_areAlike 97 = .ok (.iconst 4, 1) := by decide +kernel
theorem dL_areAlike_98 : decode cL_areAlike 98 = .ok (.if_icmp .ge 45, 3) := by decide +kernel
theorem dL_areAlike_101 : decode cL_areAlike 101 = .ok (.iload_n 2, 1) := by decide +kernel
theorem dL_areAlike_102 : decode cL_areAlike 102 = .ok (.ifCond .eq 41, 3) := by decide +kernel
theorem dL_areAlike_105 : decode cL_areAlike 105 = .ok (.aload_n 0, 1) := by decide +kernel
theorem dL_areAlike_106 : decode cL_areAlike 106 = .ok (.iload_n 3, 1) := by decide +kernel
theorem dL_areAlike_107 : decode cL_areAlike 107 = .ok (.invokestatic 80, 3) := by decide +kernel
theorem dL_areAlike_110 : decode cL_areAlike 110 = .ok (.aload_n 1, 1) := by decide +kernel
theorem dL_areAlike_111 : decode cL_areAlike 111 = .ok (.iload_n 3, 1) := by decide +kernel
theorem dL_areAlike_112 : decode cL_areAlike 112 = .ok (.invokestatic 80, 3) := by decide +kernel
theorem dL_areAlike_115 : decode cL_areAlike 115 = .ok (.if_icmp .ne 20, 3) := by decide +kernel
theorem dL_areAlike_118 : decode cL_areAlike 118 = .ok (.aload_n 0, 1) := by decide +kernel
theorem dL_areAlike_119 : decode cL_areAlike 119 = .ok (.iload_n 3, 1) := by decide +kernel
theorem dL_areAlike_120 : decode cL_areAlike 120 = .ok (.invokestatic 83, 3) := by decide +kernel
theorem dL_areAlike_123 : decode cL_areAlike 123 = .ok (.aload_n 1, 1) := by decide +kernel
theorem dL_areAlike_124 : decode cL_areAlike 124 = .ok (.iload_n 3, 1) := by decide +kernel
theorem dL_areAlike_125 : decode cL_areAlike 125 = .ok (.invokestatic 83, 3) := by decide +kernel
theorem dL_areAlike_128 : decode cL_areAlike 128 = .ok (.if_icmp .ne 7, 3) := by decide +kernel
theorem dL_areAlike_131 : decode cL_areAlike 131 = .ok (.iconst 1, 1) := by decide +kernel
theorem dL_areAlike_132 : decode cL_areAlike 132 = .ok (.goto 4, 3) := by decide +kernel
theorem dL_areAlike_135 : decode cL_areAlike 135 = .ok (.iconst 0, 1) := by decide +kernel
theorem dL_areAlike_136 : decode cL_areAlike 136 = .ok (.istore_n 2, 1) := by decide +kernel
theorem dL_areAlike_137 : decode cL_areAlike 137 = .ok (.iinc 3 1, 3) := by decide +kernel
theorem dL_areAlike_140 : decode cL_areAlike 140 = .ok (.goto (-44), 3) := by decide +kernel
theorem dL_areAlike_143 : decode cL_areAlike 143 = .ok (.iload_n 2, 1) := by decide +kernel
theorem dL_areAlike_144 : decode cL_areAlike 144 = .ok (.ireturn, 1) := by decide +kernel
theorem dL_isPlaceSo_0 : decode cL_isPlaceSo 0 = .ok (.aload_n 0, 1) := by decide +kernel
theorem dL_isPlaceSo_1 : decode cL_isPlaceSo 1 = .ok (.invokevirtual 65, 3) := by decide +kernel
theorem dL_isPlaceSo_4 : decode cL_isPlaceSo 4 = .ok (.istore_n 1, 1) := by decide +kernel
theorem dL_isPlaceSo_5 : decode cL_isPlaceSo 5 = .ok (.aload_n 0, 1) := by decide +kernel
theorem dL_isPlaceSo_6 : decode cL_isPlaceSo 6 = .ok (.invokevirtual 62, 3) := by decide +kernel
theorem dL_isPlaceSo_9 : decode cL_isPlaceSo 9 = .ok (.istore_n 2, 1) := by decide +kernel
theorem dL_isPlaceSo_10 : decode cL_isPlaceSo 10 = .ok (.iconst 0, 1) := by decide +kernel
theorem dL_isPlaceSo_11 : decode cL_isPlaceSo 11 = .ok (.istore_n 3, 1) := by decide +kernel
theorem dL_isPlaceSo_12 : decode cL_isPlaceSo 12 = .ok (.iconst 0, 1) := by decide +kernel
theorem dL_isPlaceSo_13 : decode cL_isPlaceSo 13 = .ok (.istore 4, 2) := by decide +kernel
theorem dL_isPlaceSo_15 : decode cL_isPlaceSo 15 = .ok (.iload_n 1, 1) := by decide +kernel
theorem dL_isPlaceSo_16 : decode cL_isPlaceSo 16 = .ok (.ifCond .lt 104, 3) := by decide +kernel
theorem dL_isPlaceSo_19 : decode cL_isPlaceSo 19 = .ok (.aload_n 0, 1) := by decide +kernel
theorem dL_isPlaceSo_20 : decode cL_isPlaceSo 20 = .ok (.invokevirtual 68, 3) := by decide +kernel
theorem dL_isPlaceSo_23 : decode cL_isPlaceSo 23 = .ok (.ifCond .lt 97, 3) := by decide +kernel
theorem dL_isPlaceSo_26 : decode cL_isPlaceSo 26 = .ok (.iload_n 2, 1) := by decide +kernel
theorem dL_isPlaceSo_27 : decode cL_isPlaceSo 27 = .ok (.ifCond .lt 93, 3) := by decide +kernel
theorem dL_isPlaceSo_30 : decode cL_isPlaceSo 30 = .ok (.iload_n 2, 1) := by decide +kernel
theorem dL_isPlaceSo_31 : decode cL_isPlaceSo 31 = .ok (.iconst 3, 1) := by decide +kernel
theorem dL_isPlaceSo_32 : decode cL_isPlaceSo 32 = .ok (.if_icmp .gt 88, 3) := by decide +kernel
theorem dL_isPlaceSo_35 : decode cL_isPlaceSo 35 = .ok (.aload_n 0, 1) := by decide +kernel
theorem dL_isPlaceSo_36 : decode cL_isPlaceSo 36 = .ok (.iload_n 2, 1) := by decide +kernel
theorem dL_isPlaceSo_37 : decode cL_isPlaceSo 37 = .ok (.invokestatic 80, 3) := by decide +kernel
theorem dL_isPlaceSo_40 : decode cL_isPlaceSo 40 = .ok (.ldc 32, 2) := by decide +kernel
theorem dL_isPlaceSo_42 : decode cL_isPlaceSo 42 = .ok (.if_icmp .ne 78, 3) := by decide +kernel
theorem dL_isPlaceSo_45 : decode cL_isPlaceSo 45 = .ok (.aload_n 0, 1) := by decide +kernel
theorem dL_isPlaceSo_46 : decode cL_isPlaceSo 46 = .ok (.iconst (-1), 1) := by decide +kernel
theorem dL_isPlaceSo_47 : decode cL_isPlaceSo 47 = .ok (.invokestatic 80, 3) := by decide +kernel
theorem dL_isPlaceSo_50 : decode cL_isPlaceSo 50 = .ok (.ldc 32, 2) := by decide +kernel
theorem dL_isPlaceSo_52 : decode cL_isPlaceSo 52 = .ok (.if_icmp .ne 68, 3) := by decide +kernel
theorem dL_isPlaceSo_55 : decode cL_isPlaceSo 55 = .ok (.aload_n 0, 1) := by decide +kernel
theorem dL_isPlaceSo_56 : decode cL_isPlaceSo 56 = .ok (.iload_n 1, 1) := by decide +kernel
theorem dL_isPlaceSo_57 : decode cL_isPlaceSo 57 = .ok (.iconst 1, 1) := by decide +kernel
theorem dL_isPlaceSo_58 : decode cL_isPlaceSo 58 = .ok (.iadd, 1) := by decide +kernel
theorem dL_isPlaceSo_59 : decode cL_isPlaceSo 59 = .ok (.invokestatic 83, 3) := by decide +kernel
theorem dL_isPlaceSo_62 : decode cL_isPlaceSo 62 = .ok (.ldc 32, 2) := by decide +kernel
theorem dL_isPlaceSo_64 : decode cL_isPlaceSo 64 = .ok (.if_icmp .ne 56, 3) := by decide +kernel
theorem dL_isPlaceSo_67 : decode cL_isPlaceSo 67 = .ok (.aload_n 0, 1) := by decide +kernel
theorem dL_isPlaceSo_68 : decode cL_isPlaceSo 68 = .ok (.iconst (-1), 1) := by decide +kernel
theorem dL_isPlaceSo_69 : decode cL_isPlaceSo 69 = .ok (.invokestatic 83, 3) := by decide +kernel
theorem dL_isPlaceSo_72 : decode cL_isPlaceSo 72 = .ok (.ldc 32, 2) := by decide +kernel
theorem dL_isPlaceSo_74 : decode cL_isPlaceSo 74 = .ok (.if_icmp .ne 46, 3) := by decide +kernel
theorem dL_isPlaceSo_77 : decode cL_isPlaceSo 77 = .ok (.aload_n 0, 1) := by decide +kernel
theorem dL_isPlaceSo_78 : decode cL_isPlaceSo 78 = .ok (.invokevirtual 71, 3) := by decide +kernel
theorem dL_isPlaceSo_81 : decode cL_isPlaceSo 81 = .ok (.iload_n 1, 1) := by decide +kernel
theorem dL_isPlaceSo_82 : decode cL_isPlaceSo 82 = .ok (.if_icmp .lt 38, 3) := by decide +kernel
theorem dL_isPlaceSo_85 : decode cL_isPlaceSo 85 = .ok (.aload_n 0, 1) := by decide +kernel
theorem dL_isPlaceSo_86 : decode cL_isPlaceSo 86 = .ok (.invokevirtual 71, 3) := by decide +kernel
theorem dL_isPlaceSo_89 : decode cL_isPlaceSo 89 = .ok (.iload_n 1, 1) := by decide +kernel
theorem dL_isPlaceSo_90 : decode cL_isPlaceSo 90 = .ok (.isub, 1) := by decide +kernel
theorem dL_isPlaceSo_91 : decode cL_isPlaceSo 91 = .ok (.iconst 2, 1) := by decide +kernel
theorem dL_isPlaceSo_92 : decode cL_isPlaceSo 92 = .ok (.irem, 1) := by decide +kernel
theorem dL_isPlaceSo_93 : decode cL_isPlaceSo 93 = .ok (.ifCond .ne 27, 3) := by decide +kernel
theorem dL_isPlaceSo_96 : decode cL_isPlaceSo 96 = .ok (.aload_n 0, 1) := by decide +kernel
theorem dL_isPlaceSo_97 : decode cL_isPlaceSo 97 = .ok (.iconst 0, 1) := by decide +kernel
theorem dL_isPlaceSo_98 : decode cL_isPlaceSo 98 = .ok (.invokestatic 83, 3) := by decide +kernel
theorem dL_isPlaceSo_101 : decode cL_isPlaceSo 101 = .ok (.bipush 10, 2) := by decide +kernel
theorem dL_isPlaceSo_103 : decode cL_isPlaceSo 103 = .ok (.aload_n 0, 1) := by decide +kernel
theorem dL_isPlaceSo_104 : decode cL_isPlaceSo 104 = .ok (.invokevirtual 55, 3) := by decide +kernel
theorem dL_isPlaceSo_107 : decode cL_isPlaceSo 107 = .ok (.imul, 1) := by decide +kernel
theorem dL_isPlaceSo_108 : decode cL_isPlaceSo 108 = .ok (.aload_n 0, 1) := by decide +kernel
theorem dL_isPlaceSo_109 : decode cL_isPlaceSo 109 = .ok (.invokevirtual 59, 3) := by decide +kernel
theorem dL_isPlaceSo_112 : decode cL_isPlaceSo 112 = .ok (.iadd, 1) := by decide +kernel
theorem dL_isPlaceSo_113 : decode cL_isPlaceSo 113 = .ok (.if_icmp .ne 7, 3) := by decide +kernel
theorem dL_isPlaceSo_116 : decode cL_isPlaceSo 116 = .ok (.iconst 1, 1) := by decide +kernel
theorem dL_isPlaceSo_117 : decode cL_isPlaceSo 117 = .ok (.goto 4, 3) := by decide +kernel
theorem dL_isPlaceSo_120 : decode cL_isPlaceSo 120 = .ok (.iconst 0, 1) := by decide +kernel
theorem dL_isPlaceSo_121 : decode cL_isPlaceSo 121 = .ok (.istore 5, 2) := by decide +kernel
theorem dL_isPlaceSo_123 : decode cL_isPlaceSo 123 = .ok (.iconst 0, 1) := by decide +kernel
theorem dL_isPlaceSo_124 : decode cL_isPlaceSo 124 = .ok (.istore 6, 2) := by decide +kernel
theorem dL_isPlaceSo_126 : decode cL_isPlaceSo 126 = .ok (.iload 6, 2) := by decide +kernel
theorem dL_isPlaceSo_128 : decode cL_isPlaceSo 128 = .ok (.iload_n 2, 1) := by decide +kernel
theorem dL_isPlaceSo_129 : decode cL_isPlaceSo 129 = .ok (.if_icmp .ge 61, 3) := by decide +kernel
theorem dL_isPlaceSo_132 : decode cL_isPlaceSo 132 = .ok (.iload 5, 2) := by decide +kernel
theorem dL_isPlaceSo_134 : decode cL_isPlaceSo 134 = .ok (.ifCond .eq 56, 3) := by decide +kernel
theorem dL_isPlaceSo_137 : decode cL_isPlaceSo 137 = .ok (.aload_n 0, 1) := by decide +kernel
theorem dL_isPlaceSo_138 : decode cL_isPlaceSo 138 = .ok (.iload 6, 2) := by decide +kernel
theorem dL_isPlaceSo_140 : decode cL_isPlaceSo 140 = .ok (.invokevirtual 45, 3) := by decide +kernel
theorem dL_isPlaceSo_143 : decode cL_isPlaceSo 143 = .ok (.istore 7, 2) := by decide +kernel
theorem dL_isPlaceSo_145 : decode cL_isPlaceSo 145 = .ok (.iload 7, 2) := by decide +kernel
theorem dL_isPlaceSo_147 : decode cL_isPlaceSo 147 = .ok (.ifCond .lt 34, 3) := by decide +kernel
theorem dL_isPlaceSo_150 : decode cL_isPlaceSo 150 = .ok (.iload 7, 2) := by decide +kernel
theorem dL_isPlaceSo_152 : decode cL_isPlaceSo 152 = .ok (.bipush 6, 2) := by decide +kernel
theorem dL_isPlaceSo_154 : decode cL_isPlaceSo 154 = .ok (.if_icmp .ge 27, 3) := by decide +kernel
theorem dL_isPlaceSo_157 : decode cL_isPlaceSo 157 = .ok (.iload 6, 2) := by decide +kernel
theorem dL_isPlaceSo_159 : decode cL_isPlaceSo 159 = .ok (.ifCond .eq 18, 3) := by decide +kernel
theorem dL_isPlaceSo_162 : decode cL_isPlaceSo 162 = .ok (.aload_n 0, 1) := by decide +kernel
theorem dL_isPlaceSo_163 : decode cL_isPlaceSo 163 = .ok (.iload 6, 2) := by decide +kernel
theorem dL_isPlaceSo_165 : decode cL_isPlaceSo 165 = .ok (.iconst 1, 1) := by decide +kernel
theorem dL_isPlaceSo_166 : decode cL_isPlaceSo 166 = .ok (.isub, 1) := by decide +kernel
theorem dL_isPlaceSo_167 : decode cL_isPlaceSo 167 = .ok (.invokevirtual 45, 3) := by decide +kernel
theorem dL_isPlaceSo_170 : decode cL_isPlaceSo 170 = .ok (.iconst 1, 1) := by decide +kernel
theorem dL_isPlaceSo_171 : decode cL_isPlaceSo 171 = .ok (.ixor, 1) := by decide +kernel
theorem dL_isPlaceSo_172 : decode cL_isPlaceSo 172 = .ok (.iload 7, 2) := by decide +kernel
theorem dL_isPlaceSo_174 : decode cL_isPlaceSo 174 = .ok (.if_icmp .eq 7, 3) := by decide +kernel
theorem dL_isPlaceSo_177 : decode cL_isPlaceSo 177 = .ok (.iconst 1, 1) := by decide +kernel
theorem dL_isPlaceSo_178 : decode cL_isPlaceSo 178 = .ok (.goto 4, 3) := by decide +kernel
theorem dL_isPlaceSo_181 : decode cL_isPlaceSo 181 = .ok (.iconst 0, 1) := by decide +kernel
theorem dL_isPlaceSo_182 : decode cL_isPlaceSo 182 = .ok (.istore 5, 2) := by decide +kernel
theorem dL_isPlaceSo_184 : decode cL_isPlaceSo 184 = .ok (.iinc 6 1, 3) := by decide +kernel
theorem dL_isPlaceSo_187 : decode cL_isPlaceSo 187 = .ok (.goto (-61), 3) := by decide +kernel
theorem dL_isPlaceSo_190 : decode cL_isPlaceSo 190 = .ok (.iconst 1, 1) := by decide +kernel
theorem dL_isPlaceSo_191 : decode cL_isPlaceSo 191 = .ok (.istore 6, 2) := by decide +kernel
theorem dL_isPlaceSo_193 : decode cL_isPlaceSo 193 = .ok (.iload 6, 2) := by decide +kernel
theorem dL_isPlaceSo_195 : decode cL_isPlaceSo 195 = .ok (.iload_n 1, 1) := by decide +kernel
theorem dL_isPlaceSo_196 : decode cL_isPlaceSo 196 = .ok (.if_icmp .gt 89, 3) := by decide +kernel
theorem dL_isPlaceSo_199 : decode cL_isPlaceSo 199 = .ok (.iload 5, 2) := by decide +kernel
theorem dL_isPlaceSo_201 : decode cL_isPlaceSo 201 = .ok (.ifCond .eq 84, 3) := by decide +kernel
theorem dL_isPlaceSo_204 : decode cL_isPlaceSo 204 = .ok (.aload_n 0, 1) := by decide +kernel
theorem dL_isPlaceSo_205 : decode cL_isPlaceSo 205 = .ok (.iload 6, 2) := by decide +kernel
theorem dL_isPlaceSo_207 : decode cL_isPlaceSo 207 = .ok (.invokevirtual 42, 3) := by decide +kernel
theorem dL_isPlaceSo_210 : decode cL_isPlaceSo 210 = .ok (.aload_n 0, 1) := by decide +kernel
theorem dL_isPlaceSo_211 : decode cL_isPlaceSo 211 = .ok (.iload 6, 2) := by decide +kernel
theorem dL_isPlaceSo_213 : decode cL_isPlaceSo 213 = .ok (.iconst 1, 1) := by decide +kernel
theorem dL_isPlaceSo_214 : decode cL_isPlaceSo 214 = .ok (.isub, 1) := by decide +kernel
theorem dL_isPlaceSo_215 : decode cL_isPlaceSo 215 = .ok (.invokevirtual 42, 3) := by decide +kernel
theorem dL_isPlaceSo_218 : decode cL_isPlaceSo 218 = .ok (.isub, 1) := by decide +kernel
theorem dL_isPlaceSo_219 : decode cL_isPlaceSo 219 = .ok (.istore 7, 2) := by decide +kernel
theorem dL_isPlaceSo_221 : decode cL_isPlaceSo 221 = .ok (.iload_n 3, 1) := by decide +kernel
theorem dL_isPlaceSo_222 : decode cL_isPlaceSo 222 = .ok (.iload 6, 2) := by decide +kernel
theorem dL_isPlaceSo_224 : decode cL_isPlaceSo 224 = .ok (.iconst 1, 1) := by decide +kernel
theorem dL_isPlaceSo_225 : decode cL_isPlaceSo 225 = .ok (.if_icmp .le 14, 3) := by decide +kernel
theorem dL_isPlaceSo_228 : decode cL_isPlaceSo 228 = .ok (.iload 7, 2) := by decide +kernel
theorem dL_isPlaceSo_230 : decode cL_isPlaceSo 230 = .ok (.iload 4, 2) := by decide +kernel
theorem dL_isPlaceSo_232 : decode cL_isPlaceSo 232 = .ok (.if_icmp .eq 7, 3) := by decide +kernel
theorem dL_isPlaceSo_235 : decode cL_isPlaceSo 235 = .ok (.iconst 1, 1) := by decide +kernel
theorem dL_isPlaceSo_236 : decode cL_isPlaceSo 236 = .ok (.goto 4, 3) := by decide +kernel
theorem dL_isPlaceSo_239 : decode cL_isPlaceSo 239 = .ok (.iconst 0, 1) := by decide +kernel
theorem dL_isPlaceSo_240 : decode cL_isPlaceSo 240 = .ok (.iadd, 1) := by decide +kernel
theorem dL_isPlaceSo_241 : decode cL_isPlaceSo 241 = .ok (.istore_n 3, 1) := by decide +kernel
theorem dL_isPlaceSo_242 : decode cL_isPlaceSo 242 = .ok (.iload 7, 2) := by decide +kernel
theorem dL_isPlaceSo_244 : decode cL_isPlaceSo 244 = .ok (.istore 4, 2) := by decide +kernel
theorem dL_isPlaceSo_246 : decode cL_isPlaceSo 246 = .ok (.iload 7, 2) := by decide +kernel
theorem dL_isPlaceSo_248 : decode cL_isPlaceSo 248 = .ok (.iconst 1, 1) := by decide +kernel
theorem dL_isPlaceSo_249 : decode cL_isPlaceSo 249 = .ok (.if_icmp .eq 23, 3) := by decide +kernel
theorem dL_isPlaceSo_252 : decode cL_isPlaceSo 252 = .ok (.iload 7, 2) := by decide +kernel
theorem dL_isPlaceSo_254 : decode cL_isPlaceSo 254 = .ok (.iconst (-1), 1) := by decide +kernel
theorem dL_isPlaceSo_255 : decode cL_isPlaceSo 255 = .ok (.if_icmp .eq 17, 3) := by decide +kernel
theorem dL_isPlaceSo_258 : decode cL_isPlaceSo 258 = .ok (.iload 7, 2) := by decide +kernel
theorem dL_isPlaceSo_260 : decode cL_isPlaceSo 260 = .ok (.bipush 10, 2) := by decide +kernel
theorem dL_isPlaceSo_262 : decode cL_isPlaceSo 262 = .ok (.if_icmp .eq 10, 3) := by decide +kernel
theorem dL_isPlaceSo_265 : decode cL_isPlaceSo 265 = .ok (.iload 7, 2) := by decide +kernel
theorem dL_isPlaceSo_267 : decode cL_isPlaceSo 267 = .ok (.bipush (-10), 2) := by decide +kernel
theorem dL_isPlaceSo_269 : decode cL_isPlaceSo 269 = .ok (.if_icmp .ne 7, 3) := by decide +kernel
theorem dL_isPlaceSo_272 : decode cL_isPlaceSo 272 = .ok (.iconst 1, 1) := by decide +kernel
theorem dL_isPlaceSo_273 : decode cL_isPlaceSo 273 = .ok (.goto 4, 3) := by decide +kernel
theorem dL_isPlaceSo_276 : decode cL_isPlaceSo 276 = .ok (.iconst 0, 1) := by decide +kernel
theorem dL_isPlaceSo_277 : decode cL_isPlaceSo 277 = .ok (.istore 5, 2) := by decide +kernel
theorem dL_isPlaceSo_279 : decode cL_isPlaceSo 279 = .ok (.iinc 6 1, 3) := by decide +kernel
theorem dL_isPlaceSo_282 : decode cL_isPlaceSo 282 = .ok (.goto (-89), 3) := by decide +kernel
theorem dL_isPlaceSo_285 : decode cL_isPlaceSo 285 = .ok (.iload 5, 2) := by decide +kernel
theorem dL_isPlaceSo_287 : decode cL_isPlaceSo 287 = .ok (.ifCond .eq 50, 3) := by decide +kernel
theorem dL_isPlaceSo_290 : decode cL_isPlaceSo 290 = .ok (.aload_n 0, 1) := by decide +kernel
theorem dL_isPlaceSo_291 : decode cL_isPlaceSo 291 = .ok (.invokevirtual 74, 3) := by decide +kernel
theorem dL_isPlaceSo_294 : decode cL_isPlaceSo 294 = .ok (.iload_n 3, 1) := by decide +kernel
theorem dL_isPlaceSo_295 : decode cL_isPlaceSo 295 = .ok (.if_icmp .ne 42, 3) := by decide +kernel
theorem dL_isPlaceSo_298 : decode cL_isPlaceSo 298 = .ok (.aload_n 0, 1) := by decide +kernel
theorem dL_isPlaceSo_299 : decode cL_isPlaceSo 299 = .ok (.iconst 4, 1) := by decide +kernel
theorem dL_isPlaceSo_300 : decode cL_isPlaceSo 300 = .ok (.invokevirtual 85, 3) := by decide +kernel
theorem dL_isPlaceSo_303 : decode cL_isPlaceSo 303 = .ok (.iload_n 1, 1) := by decide +kernel
theorem dL_isPlaceSo_304 : decode cL_isPlaceSo 304 = .ok (.iconst 4, 1) := by decide +kernel
theorem dL_isPlaceSo_305 : decode cL_isPlaceSo 305 = .ok (.if_icmp .gt 7, 3) := by decide +kernel
theorem dL_isPlaceSo_308 : decode cL_isPlaceSo 308 = .ok (.iload_n 1, 1) := by decide +kernel
theorem dL_isPlaceSo_309 : decode cL_isPlaceSo 309 = .ok (.goto 4, 3) := by decide +kernel
theorem dL_isPlaceSo_312 : decode cL_isPlaceSo 312 = .ok (.iconst (-1), 1) := by decide +kernel
theorem dL_isPlaceSo_313 : decode cL_isPlaceSo 313 = .ok (.if_icmp .ne 24, 3) := by decide +kernel
theorem dL_isPlaceSo_316 : decode cL_isPlaceSo 316 = .ok (.aload_n 0, 1) := by decide +kernel
theorem dL_isPlaceSo_317 : decode cL_isPlaceSo 317 = .ok (.iconst 0, 1) := by decide +kernel
theorem dL_isPlaceSo_318 : decode cL_isPlaceSo 318 = .ok (.invokevirtual 85, 3) := by decide +kernel
theorem dL_isPlaceSo_321 : decode cL_isPlaceSo 321 = .ok (.iload_n 1, 1) := by decide +kernel
theorem dL_isPlaceSo_322 : decode cL_isPlaceSo 322 = .ok (.ifCond .ne 7, 3) := by decide +kernel
theorem dL_isPlaceSo_325 : decode cL_isPlaceSo 325 = .ok (.iconst 0, 1) := by decide +kernel
theorem dL_isPlaceSo_326 : decode cL_isPlaceSo 326 = .ok (.goto 4, 3) := by decide +kernel
theorem dL_isPlaceSo_329 : decode cL_isPlaceSo 329 = .ok (.iconst (-1), 1) := by decide +kernel
theorem dL_isPlaceSo_330 : decode cL_isPlaceSo 330 = .ok (.if_icmp .ne 7, 3) := by decide +kernel
theorem dL_isPlaceSo_333 : decode cL_isPlaceSo 333 = .ok (.iconst 1, 1) := by decide +kernel
theorem dL_isPlaceSo_334 : decode cL_isPlaceSo 334 = .ok (.goto 4, 3) := by decide +kernel
theorem dL_isPlaceSo_337 : decode cL_isPlaceSo 337 = .ok (.iconst 0, 1) := by decide +kernel
theorem dL_isPlaceSo_338 : decode cL_isPlaceSo 338 = .ok (.ireturn, 1) := by decide +kernel
theorem dL_areGoalsSo_0 : decode cL_areGoalsSo 0 = .ok (.iconst 0, 1) := by decide +kernel
theorem dL_areGoalsSo_1 : decode cL_areGoalsSo 1 = .ok (.istore_n 3, 1) := by decide +kernel
theorem dL_areGoalsSo_2 : decode cL_areGoalsSo 2 = .ok (.aload_n 0, 1) := by decide +kernel
theorem dL_areGoalsSo_3 : decode cL_areGoalsSo 3 = .ok (.invokevirtual 68, 3) := by decide +kernel
theorem dL_areGoalsSo_6 : decode cL_areGoalsSo 6 = .ok (.aload_n 0, 1) := by decide +kernel
theorem dL_areGoalsSo_7 : decode cL_areGoalsSo 7 = .ok (.invokevirtual 65, 3) := by decide +kernel
theorem dL_areGoalsSo_10 : decode cL_areGoalsSo 10 = .ok (.iadd, 1) := by decide +kernel
theorem dL_areGoalsSo_11 : decode cL_areGoalsSo 11 = .ok (.istore 4, 2) := by decide +kernel
theorem dL_areGoalsSo_13 : decode cL_areGoalsSo 13 = .ok (.aload_n 0, 1) := by decide +kernel
theorem dL_areGoalsSo_14 : decode cL_areGoalsSo 14 = .ok (.aload_n 0, 1) := by decide +kernel
theorem dL_areGoalsSo_15 : decode cL_areGoalsSo 15 = .ok (.invokevirtual 65, 3) := by decide +kernel
theorem dL_areGoalsSo_18 : decode cL_areGoalsSo 18 = .ok (.invokevirtual 42, 3) := by decide +kernel
theorem dL_areGoalsSo_21 : decode cL_areGoalsSo 21 = .ok (.istore 5, 2) := by decide +kernel
theorem dL_areGoalsSo_23 : decode cL_areGoalsSo 23 = .ok (.iconst 1, 1) := by decide +kernel
theorem dL_areGoalsSo_24 : decode cL_areGoalsSo 24 = .ok (.istore 6, 2) := by decide +kernel
theorem dL_areGoalsSo_26 : decode cL_areGoalsSo 26 = .ok (.iconst 0, 1) := by decide +kernel
theorem dL_areGoalsSo_27 : decode cL_areGoalsSo 27 = .ok (.istore 7, 2) := by decide +kernel
theorem dL_areGoalsSo_29 : decode cL_areGoalsSo 29 = .ok (.iload 7, 2) := by decide +kernel
theorem dL_areGoalsSo_31 : decode cL_areGoalsSo 31 = .ok (.iload_n 1, 1) := by decide +kernel
theorem dL_areGoalsSo_32 : decode cL_areGoalsSo 32 = .ok (.iload_n 2, 1) := by decide +kernel
theorem dL_areGoalsSo_33 : decode cL_areGoalsSo 33 = .ok (.imul, 1) := by decide +kernel
theorem dL_areGoalsSo_34 : decode cL_areGoalsSo 34 = .ok (.if_icmp .ge 219, 3) := by decide +kernel
theorem dL_areGoalsSo_37 : decode cL_areGoalsSo 37 = .ok (.iload 6, 2) := by decide +kernel
theorem dL_areGoalsSo_39 : decode cL_areGoalsSo 39 = .ok (.ifCond .eq 214, 3) := by decide +kernel
theorem dL_areGoalsSo_42 : decode cL_areGoalsSo 42 = .ok (.iload 7, 2) := by decide +kernel
theorem dL_areGoalsSo_44 : decode cL_areGoalsSo 44 = .ok (.iload_n 1, 1) := by decide +kernel
theorem dL_areGoalsSo_45 : decode cL_areGoalsSo 45 = .ok (.irem, 1) := by decide +kernel
theorem dL_areGoalsSo_46 : decode cL_areGoalsSo 46 = .ok (.istore 8, 2) := by decide +kernel
theorem dL_areGoalsSo_48 : decode cL_areGoalsSo 48 = .ok (.iload 7, 2) := by decide +kernel
theorem dL_areGoalsSo_50 : decode cL_areGoalsSo 50 = .ok (.iload_n 1, 1) := by decide +kernel
theorem dL_areGoalsSo_51 : decode cL_areGoalsSo 51 = .ok (.idiv, 1) := by decide +kernel
theorem dL_areGoalsSo_52 : decode cL_areGoalsSo 52 = .ok (.istore 9, 2) := by decide +kernel
theorem dL_areGoalsSo_54 : decode cL_areGoalsSo 54 = .ok (.aload_n 0, 1) := by decide +kernel
theorem dL_areGoalsSo_55 : decode cL_areGoalsSo 55 = .ok (.iload 8, 2) := by decide +kernel
theorem dL_areGoalsSo_57 : decode cL_areGoalsSo 57 = .ok (.iload 9, 2) := by decide +kernel
theorem dL_areGoalsSo_59 : decode cL_areGoalsSo 59 = .ok (.invokevirtual 88, 3) := by decide +kernel
theorem dL_areGoalsSo_62 : decode cL_areGoalsSo 62 = .ok (.istore 10, 2) := by decide +kernel
theorem dL_areGoalsSo_64 : decode cL_areGoalsSo 64 = .ok (.aload_n 0, 1) := by decide +kernel
theorem dL_areGoalsSo_65 : decode cL_areGoalsSo 65 = .ok (.iload 8, 2) := by decide +kernel
theorem dL_areGoalsSo_67 : decode cL_areGoalsSo 67 = .ok (.iload 9, 2) := by decide +kernel
theorem dL_areGoalsSo_69 : decode cL_areGoalsSo 69 = .ok (.invokevirtual 91, 3) := by decide +kernel
theorem dL_areGoalsSo_72 : decode cL_areGoalsSo 72 = .ok (.istore 11, 2) := by decide +kernel
theorem dL_areGoalsSo_74 : decode cL_areGoalsSo 74 = .ok (.iload 8, 2) := by decide +kernel
theorem dL_areGoalsSo_76 : decode cL_areGoalsSo 76 = .ok (.iload 5, 2) := by decide +kernel
theorem dL_areGoalsSo_78 : decode cL_areGoalsSo 78 = .ok (.bipush 10, 2) := by decide +kernel
theorem dL_areGoalsSo_80 : decode cL_areGoalsSo 80 = .ok (.idiv, 1) := by decide +kernel
theorem dL_areGoalsSo_81 : decode cL_areGoalsSo 81 = .ok (.isub, 1) := by decide +kernel
theorem dL_areGoalsSo_82 : decode cL_areGoalsSo 82 = .ok (.istore 12, 2) := by decide +kernel
theorem dL_areGoalsSo_84 : decode cL_areGoalsSo 84 = .ok (.iload 9, 2) := by decide +kernel
theorem dL_areGoalsSo_86 : decode cL_areGoalsSo 86 = .ok (.iload 5, 2) := by decide +kernel
theorem dL_areGoalsSo_88 : decode cL_areGoalsSo 88 = .ok (.bipush 10, 2) := by decide +kernel
theorem dL_areGoalsSo_90 : decode cL_areGoalsSo 90 = .ok (.irem, 1) := by decide +kernel
theorem dL_areGoalsSo_91 : decode cL_areGoalsSo 91 = .ok (.isub, 1) := by decide +kernel
theorem dL_areGoalsSo_92 : decode cL_areGoalsSo 92 = .ok (.istore 13, 2) := by decide +kernel
theorem dL_areGoalsSo_94 : decode cL_areGoalsSo 94 = .ok (.iload 12, 2) := by decide +kernel
theorem dL_areGoalsSo_96 : decode cL_areGoalsSo 96 = .ok (.ifCond .ge 9, 3) := by decide +kernel
theorem dL_areGoalsSo_99 : decode cL_areGoalsSo 99 = .ok (.iload 12, 2) := by decide +kernel
theorem dL_areGoalsSo_101 : decode cL_areGoalsSo 101 = .ok (.ineg, 1) := by decide +kernel
theorem dL_areGoalsSo_102 : decode cL_areGoalsSo 102 = .ok (.goto 5, 3) := by decide +kernel
theorem dL_areGoalsSo_105 : decode cL_areGoalsSo 105 = .ok (.iload 12, 2) := by decide +kernel
theorem dL_areGoalsSo_107 : decode cL_areGoalsSo 107 = .ok (.iload 13, 2) := by decide +kernel
theorem dL_areGoalsSo_109 : decode cL_areGoalsSo 109 = .ok (.ifCond .ge 9, 3) := by decide +kernel
theorem dL_areGoalsSo_112 : decode cL_areGoalsSo 112 = .ok (.iload 13, 2) := by decide +kernel
theorem dL_areGoalsSo_114 : decode cL_areGoalsSo 114 = .ok (.ineg, 1) := by decide +kernel
theorem dL_areGoalsSo_115 : decode cL_areGoalsSo 115 = .ok (.goto 5, 3) := by decide +kernel
theorem dL_areGoalsSo_118 : decode cL_areGoalsSo 118 = .ok (.iload 13, 2) := by decide +kernel
theorem dL_areGoalsSo_120 : decode cL_areGoalsSo 120 = .ok (.iadd, 1) := by decide +kernel
theorem dL_areGoalsSo_121 : decode cL_areGoalsSo 121 = .ok (.istore 14, 2) := by decide +kernel
theorem dL_areGoalsSo_123 : decode cL_areGoalsSo 123 = .ok (.iload_n 3, 1) := by decide +kernel
theorem dL_areGoalsSo_124 : decode cL_areGoalsSo 124 = .ok (.iload 11, 2) := by decide +kernel
theorem dL_areGoalsSo_126 : decode cL_areGoalsSo 126 = .ok (.ifCond .le 7, 3) := by decide +kernel
theorem dL_areGoalsSo_129 : decode cL_areGoalsSo 129 = .ok (.iconst 1, 1) := by decide +kernel
theorem dL_areGoalsSo_130 : decode cL_areGoalsSo 130 = .ok (.goto 4, 3) := by decide +kernel
theorem dL_areGoalsSo_133 : decode cL_areGoalsSo 133 = .ok (.iconst 0, 1) := by decide +kernel
theorem dL_areGoalsSo_134 : decode cL_areGoalsSo 134 = .ok (.iadd, 1) := by decide +kernel
theorem dL_areGoalsSo_135 : decode cL_areGoalsSo 135 = .ok (.istore_n 3, 1) := by decide +kernel
theorem dL_areGoalsSo_136 : decode cL_areGoalsSo 136 = .ok (.iload 10, 2) := by decide +kernel
theorem dL_areGoalsSo_138 : decode cL_areGoalsSo 138 = .ok (.iconst (-1), 1) := by decide +kernel
theorem dL_areGoalsSo_139 : decode cL_areGoalsSo 139 = .ok (.if_icmp .lt 105, 3) := by decide +kernel
theorem dL_areGoalsSo_142 : decode cL_areGoalsSo 142 = .ok (.iload 11, 2) := by decide +kernel
theorem dL_areGoalsSo_144 : decode cL_areGoalsSo 144 = .ok (.ifCond .le 7, 3) := by decide +kernel
theorem dL_areGoalsSo_147 : decode cL_areGoalsSo 147 = .ok (.iconst 1, 1) := by decide +kernel
theorem dL_areGoalsSo_148 : decode cL_areGoalsSo 148 = .ok (.goto 4, 3) := by decide +kernel
theorem dL_areGoalsSo_151 : decode cL_areGoalsSo 151 = .ok (.iconst 0, 1) := by decide +kernel
theorem dL_areGoalsSo_152 : decode cL_areGoalsSo 152 = .ok (.iload 10, 2) := by decide +kernel
theorem dL_areGoalsSo_154 : decode cL_areGoalsSo 154 = .ok (.ifCond .lt 14, 3) := by decide +kernel
theorem dL_areGoalsSo_157 : decode cL_areGoalsSo 157 = .ok (.iload 10, 2) := by decide +kernel
theorem dL_areGoalsSo_159 : decode cL_areGoalsSo 159 = .ok (.iload 4, 2) := by decide +kernel
theorem dL_areGoalsSo_161 : decode cL_areGoalsSo 161 = .ok (.if_icmp .gt 7, 3) := by decide +kernel
theorem dL_areGoalsSo_164 : decode cL_areGoalsSo 164 = .ok (.iconst 1, 1) := by decide +kernel
theorem dL_areGoalsSo_165 : decode cL_areGoalsSo 165 = .ok (.goto 4, 3) := by decide +kernel
theorem dL_areGoalsSo_168 : decode cL_areGoalsSo 168 = .ok (.iconst 0, 1) := by decide +kernel
theorem dL_areGoalsSo_169 : decode cL_areGoalsSo 169 = .ok (.if_icmp .ne 75, 3) := by decide +kernel
theorem dL_areGoalsSo_172 : decode cL_areGoalsSo 172 = .ok (.aload_n 0, 1) := by decide +kernel
theorem dL_areGoalsSo_173 : decode cL_areGoalsSo 173 = .ok (.iload 8, 2) := by decide +kernel
theorem dL_areGoalsSo_175 : decode cL_areGoalsSo 175 = .ok (.iload 9, 2) := by decide +kernel
theorem dL_areGoalsSo_177 : decode cL_areGoalsSo 177 = .ok (.invokevirtual 94, 3) := by decide +kernel
theorem dL_areGoalsSo_180 : decode cL_areGoalsSo 180 = .ok (.iload 10, 2) := by decide +kernel
theorem dL_areGoalsSo_182 : decode cL_areGoalsSo 182 = .ok (.ifCond .ge 7, 3) := by decide +kernel
theorem dL_areGoalsSo_185 : decode cL_areGoalsSo 185 = .ok (.iconst (-1), 1) := by decide +kernel
theorem dL_areGoalsSo_186 : decode cL_areGoalsSo 186 = .ok (.goto 19, 3) := by decide +kernel
theorem dL_areGoalsSo_189 : decode cL_areGoalsSo 189 = .ok (.iload 10, 2) := by decide +kernel
theorem dL_areGoalsSo_191 : decode cL_areGoalsSo 191 = .ok (.iload 4, 2) := by decide +kernel
theorem dL_areGoalsSo_193 : decode cL_areGoalsSo 193 = .ok (.if_icmp .le 11, 3) := by decide +kernel
theorem dL_areGoalsSo_196 : decode cL_areGoalsSo 196 = .ok (.iload 10, 2) := by decide +kernel
theorem dL_areGoalsSo_198 : decode cL_areGoalsSo 198 = .ok (.iload 4, 2) := by decide +kernel
theorem dL_areGoalsSo_200 : decode cL_areGoalsSo 200 = .ok (.isub, 1) := by decide +kernel
theorem dL_areGoalsSo_201 : decode cL_areGoalsSo 201 = .ok (.goto 4, 3) := by decide +kernel
theorem dL_areGoalsSo_204 : decode cL_areGoalsSo 204 = .ok (.iconst 0, 1) := by decide +kernel
theorem dL_areGoalsSo_205 : decode cL_areGoalsSo 205 = .ok (.if_icmp .ne 39, 3) := by decide +kernel
theorem dL_areGoalsSo_208 : decode cL_areGoalsSo 208 = .ok (.iload 10, 2) := by decide +kernel
theorem dL_areGoalsSo_210 : decode cL_areGoalsSo 210 = .ok (.ifCond .lt 20, 3) := by decide +kernel
theorem dL_areGoalsSo_213 : decode cL_areGoalsSo 213 = .ok (.iload 10, 2) := by decide +kernel
theorem dL_areGoalsSo_215 : decode cL_areGoalsSo 215 = .ok (.iload 14, 2) := by decide +kernel
theorem dL_areGoalsSo_217 : decode cL_areGoalsSo 217 = .ok (.if_icmp .lt 27, 3) := by decide +kernel
theorem dL_areGoalsSo_220 : decode cL_areGoalsSo 220 = .ok (.iload 10, 2) := by decide +kernel
theorem dL_areGoalsSo_222 : decode cL_areGoalsSo 222 = .ok (.iload 14, 2) := by decide +kernel
theorem dL_areGoalsSo_224 : decode cL_areGoalsSo 224 = .ok (.isub, 1) := by decide +kernel
theorem dL_areGoalsSo_225 : decode cL_areGoalsSo 225 = .ok (.iconst 2, 1) := by decide +kernel
theorem dL_areGoalsSo_226 : decode cL_areGoalsSo 226 = .ok (.irem, 1) := by decide +kernel
theorem dL_areGoalsSo_227 : decode cL_areGoalsSo 227 = .ok (.ifCond .ne 17, 3) := by decide +kernel
theorem dL_areGoalsSo_230 : decode cL_areGoalsSo 230 = .ok (.iload 14, 2) := by decide +kernel
theorem dL_areGoalsSo_232 : decode cL_areGoalsSo 232 = .ok (.ifCond .gt 8, 3) := by decide +kernel
theorem dL_areGoalsSo_235 : decode cL_areGoalsSo 235 = .ok (.iload 10, 2) := by decide +kernel
theorem dL_areGoalsSo_237 : decode cL_areGoalsSo 237 = .ok (.ifCond .ne 7, 3) := by decide +kernel
theorem dL_areGoalsSo_240 : decode cL_areGoalsSo 240 = .ok (.iconst 1, 1) := by decide +kernel
theorem dL_areGoalsSo_241 : decode cL_areGoalsSo 241 = .ok (.goto 4, 3) := by decide +kernel
theorem dL_areGoalsSo_244 : decode cL_areGoalsSo 244 = .ok (.iconst 0, 1) := by decide +kernel
theorem dL_areGoalsSo_245 : decode cL_areGoalsSo 245 = .ok (.istore 6, 2) := by decide +kernel
theorem dL_areGoalsSo_247 : decode cL_areGoalsSo 247 = .ok (.iinc 7 1, 3) := by decide +kernel
theorem dL_areGoalsSo_250 : decode cL_areGoalsSo 250 = .ok (.goto (-221), 3) := by decide +kernel
theorem dL_areGoalsSo_253 : decode cL_areGoalsSo 253 = .ok (.iload 6, 2) := by decide +kernel
theorem dL_areGoalsSo_255 : decode cL_areGoalsSo 255 = .ok (.ifCond .eq 49, 3) := by decide +kernel
theorem dL_areGoalsSo_258 : decode cL_areGoalsSo 258 = .ok (.aload_n 0, 1) := by decide +kernel
theorem dL_areGoalsSo_259 : decode cL_areGoalsSo 259 = .ok (.invokevirtual 77, 3) := by decide +kernel
theorem dL_areGoalsSo_262 : decode cL_areGoalsSo 262 = .ok (.iload_n 3, 1) := by decide +kernel
theorem dL_areGoalsSo_263 : decode cL_areGoalsSo 263 = .ok (.if_icmp .ne 41, 3) := by decide +kernel
theorem dL_areGoalsSo_266 : decode cL_areGoalsSo 266 = .ok (.aload_n 0, 1) := by decide +kernel
theorem dL_areGoalsSo_267 : decode cL_areGoalsSo 267 = .ok (.aload_n 0, 1) := by decide +kernel
theorem dL_areGoalsSo_268 : decode cL_areGoalsSo 268 = .ok (.invokevirtual 55, 3) := by decide +kernel
theorem dL_areGoalsSo_271 : decode cL_areGoalsSo 271 = .ok (.aload_n 0, 1) := by decide +kernel
theorem dL_areGoalsSo_272 : decode cL_areGoalsSo 272 = .ok (.invokevirtual 59, 3) := by decide +kernel
theorem dL_areGoalsSo_275 : decode cL_areGoalsSo 275 = .ok (.invokevirtual 91, 3) := by decide +kernel
theorem dL_areGoalsSo_278 : decode cL_areGoalsSo 278 = .ok (.ifCond .le 26, 3) := by decide +kernel
theorem dL_areGoalsSo_281 : decode cL_areGoalsSo 281 = .ok (.aload_n 0, 1) := by decide +kernel
theorem dL_areGoalsSo_282 : decode cL_areGoalsSo 282 = .ok (.aload_n 0, 1) := by decide +kernel
theorem dL_areGoalsSo_283 : decode cL_areGoalsSo 283 = .ok (.invokevirtual 55, 3) := by decide +kernel
theorem dL_areGoalsSo_286 : decode cL_areGoalsSo 286 = .ok (.aload_n 0, 1) := by decide +kernel
theorem dL_areGoalsSo_287 : decode cL_areGoalsSo 287 = .ok (.invokevirtual 59, 3) := by decide +kernel
theorem dL_areGoalsSo_290 : decode cL_areGoalsSo 290 = .ok (.invokevirtual 88, 3) := by decide +kernel
theorem dL_areGoalsSo_293 : decode cL_areGoalsSo 293 = .ok (.aload_n 0, 1) := by decide +kernel
theorem dL_areGoalsSo_294 : decode cL_areGoalsSo 294 = .ok (.invokevirtual 65, 3) := by decide +kernel
theorem dL_areGoalsSo_297 : decode cL_areGoalsSo 297 = .ok (.if_icmp .gt 7, 3) := by decide +kernel
theorem dL_areGoalsSo_300 : decode cL_areGoalsSo 300 = .ok (.iconst 1, 1) := by decide +kernel
theorem dL_areGoalsSo_301 : decode cL_areGoalsSo 301 = .ok (.goto 4, 3) := by decide +kernel
theorem dL_areGoalsSo_304 : decode cL_areGoalsSo 304 = .ok (.iconst 0, 1) := by decide +kernel
theorem dL_areGoalsSo_305 : decode cL_areGoalsSo 305 = .ok (.ireturn, 1) := by decide +kernel
theorem dL_isReturnedSo_0 : decode cL_isReturnedSo 0 = .ok (.aload_n 0, 1) := by decide +kernel
theorem dL_isReturnedSo_1 : decode cL_isReturnedSo 1 = .ok (.invokevirtual 55, 3) := by decide +kernel
theorem dL_isReturnedSo_4 : decode cL_isReturnedSo 4 = .ok (.istore_n 3, 1) := by decide +kernel
theorem dL_isReturnedSo_5 : decode cL_isReturnedSo 5 = .ok (.aload_n 0, 1) := by decide +kernel
theorem dL_isReturnedSo_6 : decode cL_isReturnedSo 6 = .ok (.invokevirtual 59, 3) := by decide +kernel
theorem dL_isReturnedSo_9 : decode cL_isReturnedSo 9 = .ok (.istore 4, 2) := by decide +kernel
theorem dL_isReturnedSo_11 : decode cL_isReturnedSo 11 = .ok (.aload_n 0, 1) := by decide +kernel
theorem dL_isReturnedSo_12 : decode cL_isReturnedSo 12 = .ok (.invokevirtual 65, 3) := by decide +kernel
theorem dL_isReturnedSo_15 : decode cL_isReturnedSo 15 = .ok (.istore 5, 2) := by decide +kernel
theorem dL_isReturnedSo_17 : decode cL_isReturnedSo 17 = .ok (.aload_n 0, 1) := by decide +kernel
theorem dL_isReturnedSo_18 : decode cL_isReturnedSo 18 = .ok (.invokevirtual 62, 3) := by decide +kernel
theorem dL_isReturnedSo_21 : decode cL_isReturnedSo 21 = .ok (.istore 6, 2) := by decide +kernel
theorem dL_isReturnedSo_23 : decode cL_isReturnedSo 23 = .ok (.aload_n 0, 1) := by decide +kernel
theorem dL_isReturnedSo_24 : decode cL_isReturnedSo 24 = .ok (.invokevirtual 71, 3) := by decide +kernel
theorem dL_isReturnedSo_27 : decode cL_isReturnedSo 27 = .ok (.istore 7, 2) := by decide +kernel
theorem dL_isReturnedSo_29 : decode cL_isReturnedSo 29 = .ok (.aload_n 0, 1) := by decide +kernel
theorem dL_isReturnedSo_30 : decode cL_isReturnedSo 30 = .ok (.iconst 0, 1) := by decide +kernel
theorem dL_isReturnedSo_31 : decode cL_isReturnedSo 31 = .ok (.iload_n 2, 1) := by decide +kernel
theorem dL_isReturnedSo_32 : decode cL_isReturnedSo 32 = .ok (.iconst 0, 1) := by decide +kernel
theorem dL_isReturnedSo_33 : decode cL_isReturnedSo 33 = .ok (.invokestatic 51, 3) := by decide +kernel
theorem dL_isReturnedSo_36 : decode cL_isReturnedSo 36 = .ok (.istore 8, 2) := by decide +kernel
theorem dL_isReturnedSo_38 : decode cL_isReturnedSo 38 = .ok (.aload_n 1, 1) := by decide +kernel
theorem dL_isReturnedSo_39 : decode cL_isReturnedSo 39 = .ok (.iconst 0, 1) := by decide +kernel
theorem dL_isReturnedSo_40 : decode cL_isReturnedSo 40 = .ok (.iload_n 2, 1) := by decide +kernel
theorem dL_isReturnedSo_41 : decode cL_isReturnedSo 41 = .ok (.iconst 0, 1) := by decide +kernel
theorem dL_isReturnedSo_42 : decode cL_isReturnedSo 42 = .ok (.invokestatic 51, 3) := by decide +kernel
theorem dL_isReturnedSo_45 : decode cL_isReturnedSo 45 = .ok (.iload 8, 2) := by decide +kernel
theorem dL_isReturnedSo_47 : decode cL_isReturnedSo 47 = .ok (.if_icmp .ne 7, 3) := by decide +kernel
theorem dL_isReturnedSo_50 : decode cL_isReturnedSo 50 = .ok (.iconst 1, 1) := by decide +kernel
theorem dL_isReturnedSo_51 : decode cL_isReturnedSo 51 = .ok (.goto 4, 3) := by decide +kernel
theorem dL_isReturnedSo_54 : decode cL_isReturnedSo 54 = .ok (.iconst 0, 1) := by decide +kernel
theorem dL_isReturnedSo_55 : decode cL_isReturnedSo 55 = .ok (.istore 9, 2) := by decide +kernel
theorem dL_isReturnedSo_57 : decode cL_isReturnedSo 57 = .ok (.iload 8, 2) := by decide +kernel
theorem dL_isReturnedSo_59 : decode cL_isReturnedSo 59 = .ok (.ldc 32, 2) := by decide +kernel
theorem dL_isReturnedSo_61 : decode cL_isReturnedSo 61 = .ok (.if_icmp .eq 72, 3) := by decide +kernel
theorem dL_isReturnedSo_64 : decode cL_isReturnedSo 64 = .ok (.iload 9, 2) := by decide +kernel
theorem dL_isReturnedSo_66 : decode cL_isReturnedSo 66 = .ok (.ifCond .eq 64, 3) := by decide +kernel
theorem dL_isReturnedSo_69 : decode cL_isReturnedSo 69 = .ok (.iload 8, 2) := by decide +kernel
theorem dL_isReturnedSo_71 : decode cL_isReturnedSo 71 = .ok (.iload 5, 2) := by decide +kernel
theorem dL_isReturnedSo_73 : decode cL_isReturnedSo 73 = .ok (.iconst 1, 1) := by decide +kernel
theorem dL_isReturnedSo_74 : decode cL_isReturnedSo 74 = .ok (.iadd, 1) := by decide +kernel
theorem dL_isReturnedSo_75 : decode cL_isReturnedSo 75 = .ok (.if_icmp .eq 12, 3) := by decide +kernel
theorem dL_isReturnedSo_78 : decode cL_isReturnedSo 78 = .ok (.iload 8, 2) := by decide +kernel
theorem dL_isReturnedSo_80 : decode cL_isReturnedSo 80 = .ok (.iload 5, 2) := by decide +kernel
theorem dL_isReturnedSo_82 : decode cL_isReturnedSo 82 = .ok (.iconst 1, 1) := by decide +kernel
theorem dL_isReturnedSo_83 : decode cL_isReturnedSo 83 = .ok (.isub, 1) := by decide +kernel
theorem dL_isReturnedSo_84 : decode cL_isReturnedSo 84 = .ok (.if_icmp .ne 46, 3) := by decide +kernel
theorem dL_isReturnedSo_87 : decode cL_isReturnedSo 87 = .ok (.aload_n 0, 1) := by decide +kernel
theorem dL_isReturnedSo_88 : decode cL_isReturnedSo 88 = .ok (.iload_n 2, 1) := by decide +kernel
theorem dL_isReturnedSo_89 : decode cL_isReturnedSo 89 = .ok (.iconst 2, 1) := by decide +kernel
theorem dL_isReturnedSo_90 : decode cL_isReturnedSo 90 = .ok (.iadd, 1) := by decide +kernel
theorem dL_isReturnedSo_91 : decode cL_isReturnedSo 91 = .ok (.iconst 4, 1) := by decide +kernel
theorem dL_isReturnedSo_92 : decode cL_isReturnedSo 92 = .ok (.irem, 1) := by decide +kernel
theorem dL_isReturnedSo_93 : decode cL_isReturnedSo 93 = .ok (.invokevirtual 8, 3) := by decide +kernel
theorem dL_isReturnedSo_96 : decode cL_isReturnedSo 96 = .ok (.iload 5, 2) := by decide +kernel
theorem dL_isReturnedSo_98 : decode cL_isReturnedSo 98 = .ok (.if_icmp .ne 32, 3) := by decide +kernel
theorem dL_isReturnedSo_101 : decode cL_isReturnedSo 101 = .ok (.aload_n 1, 1) := by decide +kernel
theorem dL_isReturnedSo_102 : decode cL_isReturnedSo 102 = .ok (.iload_n 2, 1) := by decide +kernel
theorem dL_isReturnedSo_103 : decode cL_isReturnedSo 103 = .ok (.iconst 2, 1) := by decide +kernel
theorem dL_isReturnedSo_104 : decode cL_isReturnedSo 104 = .ok (.iadd, 1) := by decide +kernel
theorem dL_isReturnedSo_105 : decode cL_isReturnedSo 105 = .ok (.iconst 4, 1) := by decide +kernel
theorem dL_isReturnedSo_106 : decode cL_isReturnedSo 106 = .ok (.irem, 1) := by decide +kernel
theorem dL_isReturnedSo_107 : decode cL_isReturnedSo 107 = .ok (.invokevirtual 8, 3) := by decide +kernel
theorem dL_isReturnedSo_110 : decode cL_isReturnedSo 110 = .ok (.iload 5, 2) := by decide +kernel
theorem dL_isReturnedSo_112 : decode cL_isReturnedSo 112 = .ok (.if_icmp .ne 18, 3) := by decide +kernel
theorem dL_isReturnedSo_115 : decode cL_isReturnedSo 115 = .ok (.aload_n 0, 1) := by decide +kernel
theorem dL_isReturnedSo_116 : decode cL_isReturnedSo 116 = .ok (.invokevirtual 71, 3) := by decide +kernel
theorem dL_isReturnedSo_119 : decode cL_isReturnedSo 119 = .ok (.iload 7, 2) := by decide +kernel
theorem dL_isReturnedSo_121 : decode cL_isReturnedSo 121 = .ok (.iconst 2, 1) := by decide +kernel
theorem dL_isReturnedSo_122 : decode cL_isReturnedSo 122 = .ok (.iadd, 1) := by decide +kernel
theorem dL_isReturnedSo_123 : decode cL_isReturnedSo 123 = .ok (.if_icmp .ne 7, 3) := by decide +kernel
theorem dL_isReturnedSo_126 : decode cL_isReturnedSo 126 = .ok (.iconst 1, 1) := by decide +kernel
theorem dL_isReturnedSo_127 : decode cL_isReturnedSo 127 = .ok (.goto 4, 3) := by decide +kernel
theorem dL_isReturnedSo_130 : decode cL_isReturnedSo 130 = .ok (.iconst 0, 1) := by decide +kernel
theorem dL_isReturnedSo_131 : decode cL_isReturnedSo 131 = .ok (.istore 9, 2) := by decide +kernel
theorem dL_isReturnedSo_133 : decode cL_isReturnedSo 133 = .ok (.iload 9, 2) := by decide +kernel
theorem dL_isReturnedSo_135 : decode cL_isReturnedSo 135 = .ok (.ifCond .eq 42, 3) := by decide +kernel
theorem dL_isReturnedSo_138 : decode cL_isReturnedSo 138 = .ok (.aload_n 0, 1) := by decide +kernel
theorem dL_isReturnedSo_139 : decode cL_isReturnedSo 139 = .ok (.invokevirtual 55, 3) := by decide +kernel
theorem dL_isReturnedSo_142 : decode cL_isReturnedSo 142 = .ok (.iload_n 3, 1) := by decide +kernel
theorem dL_isReturnedSo_143 : decode cL_isReturnedSo 143 = .ok (.if_icmp .ne 34, 3) := by decide +kernel
theorem dL_isReturnedSo_146 : decode cL_isReturnedSo 146 = .ok (.aload_n 0, 1) := by decide +kernel
theorem dL_isReturnedSo_147 : decode cL_isReturnedSo 147 = .ok (.invokevirtual 59, 3) := by decide +kernel
theorem dL_isReturnedSo_150 : decode cL_isReturnedSo 150 = .ok (.iload 4, 2) := by decide +kernel
theorem dL_isReturnedSo_152 : decode cL_isReturnedSo 152 = .ok (.if_icmp .ne 25, 3) := by decide +kernel
theorem dL_isReturnedSo_155 : decode cL_isReturnedSo 155 = .ok (.aload_n 0, 1) := by decide +kernel
theorem dL_isReturnedSo_156 : decode cL_isReturnedSo 156 = .ok (.invokevirtual 62, 3) := by decide +kernel
theorem dL_isReturnedSo_159 : decode cL_isReturnedSo 159 = .ok (.iload 6, 2) := by decide +kernel
theorem dL_isReturnedSo_161 : decode cL_isReturnedSo 161 = .ok (.if_icmp .ne 16, 3) := by decide +kernel
theorem dL_isReturnedSo_164 : decode cL_isReturnedSo 164 = .ok (.aload_n 0, 1) := by decide +kernel
theorem dL_isReturnedSo_165 : decode cL_isReturnedSo 165 = .ok (.invokevirtual 65, 3) := by decide +kernel
theorem dL_isReturnedSo_168 : decode cL_isReturnedSo 168 = .ok (.iload 5, 2) := by decide +kernel
theorem dL_isReturnedSo_170 : decode cL_isReturnedSo 170 = .ok (.if_icmp .ne 7, 3) := by decide +kernel
theorem dL_isReturnedSo_173 : decode cL_isReturnedSo 173 = .ok (.iconst 1, 1) := by decide +kernel
theorem dL_isReturnedSo_174 : decode cL_isReturnedSo 174 = .ok (.goto 4, 3) := by decide +kernel
theorem dL_isReturnedSo_177 : decode cL_isReturnedSo 177 = .ok (.iconst 0, 1) := by decide +kernel
theorem dL_isReturnedSo_178 : decode cL_isReturnedSo 178 = .ok (.istore 9, 2) := by decide +kernel
theorem dL_isReturnedSo_180 : decode cL_isReturnedSo 180 = .ok (.iload 9, 2) := by decide +kernel
theorem dL_isReturnedSo_182 : decode cL_isReturnedSo 182 = .ok (.ifCond .eq 67, 3) := by decide +kernel
theorem dL_isReturnedSo_185 : decode cL_isReturnedSo 185 = .ok (.aload_n 0, 1) := by decide +kernel
theorem dL_isReturnedSo_186 : decode cL_isReturnedSo 186 = .ok (.bipush 60, 2) := by decide +kernel
theorem dL_isReturnedSo_188 : decode cL_isReturnedSo 188 = .ok (.invokevirtual 14, 3) := by decide +kernel
theorem dL_isReturnedSo_191 : decode cL_isReturnedSo 191 = .ok (.iload 5, 2) := by decide +kernel
theorem dL_isReturnedSo_193 : decode cL_isReturnedSo 193 = .ok (.bipush 60, 2) := by decide +kernel
theorem dL_isReturnedSo_195 : decode cL_isReturnedSo 195 = .ok (.if_icmp .le 8, 3) := by decide +kernel
theorem dL_isReturnedSo_198 : decode cL_isReturnedSo 198 = .ok (.bipush 60, 2) := by decide +kernel
theorem dL_isReturnedSo_200 : decode cL_isReturnedSo 200 = .ok (.goto 5, 3) := by decide +kernel
theorem dL_isReturnedSo_203 : decode cL_isReturnedSo 203 = .ok (.iload 5, 2) := by decide +kernel
theorem dL_isReturnedSo_205 : decode cL_isReturnedSo 205 = .ok (.if_icmp .ne 44, 3) := by decide +kernel
theorem dL_isReturnedSo_208 : decode cL_isReturnedSo 208 = .ok (.aload_n 0, 1) := by decide +kernel
theorem dL_isReturnedSo_209 : decode cL_isReturnedSo 209 = .ok (.invokevirtual 65, 3) := by decide +kernel
theorem dL_isReturnedSo_212 : decode cL_isReturnedSo 212 = .ok (.ifCond .ne 37, 3) := by decide +kernel
theorem dL_isReturnedSo_215 : decode cL_isReturnedSo 215 = .ok (.aload_n 0, 1) := by decide +kernel
theorem dL_isReturnedSo_216 : decode cL_isReturnedSo 216 = .ok (.invokevirtual 62, 3) := by decide +kernel
theorem dL_isReturnedSo_219 : decode cL_isReturnedSo 219 = .ok (.ifCond .ne 30, 3) := by decide +kernel
theorem dL_isReturnedSo_222 : decode cL_isReturnedSo 222 = .ok (.aload_n 1, 1) := by decide +kernel
theorem dL_isReturnedSo_223 : decode cL_isReturnedSo 223 = .ok (.bipush 60, 2) := by decide +kernel
theorem dL_isReturnedSo_225 : decode cL_isReturnedSo 225 = .ok (.invokevirtual 14, 3) := by decide +kernel
theorem dL_isReturnedSo_228 : decode cL_isReturnedSo 228 = .ok (.iload 5, 2) := by decide +kernel
theorem dL_isReturnedSo_230 : decode cL_isReturnedSo 230 = .ok (.bipush 60, 2) := by decide +kernel
theorem dL_isReturnedSo_232 : decode cL_isReturnedSo 232 = .ok (.if_icmp .le 8, 3) := by decide +kernel
theorem dL_isReturnedSo_235 : decode cL_isReturnedSo 235 = .ok (.bipush 60, 2) := by decide +kernel
theorem dL_isReturnedSo_237 : decode cL_isReturnedSo 237 = .ok (.goto 5, 3) := by decide +kernel
theorem dL_isReturnedSo_240 : decode cL_isReturnedSo 240 = .ok (.iload 5, 2) := by decide +kernel
theorem dL_isReturnedSo_242 : decode cL_isReturnedSo 242 = .ok (.if_icmp .ne 7, 3) := by decide +kernel
theorem dL_isReturnedSo_245 : decode cL_isReturnedSo 245 = .ok (.iconst 1, 1) := by decide +kernel
theorem dL_isReturnedSo_246 : decode cL_isReturnedSo 246 = .ok (.goto 4, 3) := by decide +kernel
theorem dL_isReturnedSo_249 : decode cL_isReturnedSo 249 = .ok (.iconst 0, 1) := by decide +kernel
theorem dL_isReturnedSo_250 : decode cL_isReturnedSo 250 = .ok (.istore 9, 2) := by decide +kernel
theorem dL_isReturnedSo_252 : decode cL_isReturnedSo 252 = .ok (.aload_n 0, 1) := by decide +kernel
theorem dL_isReturnedSo_253 : decode cL_isReturnedSo 253 = .ok (.iload_n 3, 1) := by decide +kernel
theorem dL_isReturnedSo_254 : decode cL_isReturnedSo 254 = .ok (.iload 4, 2) := by decide +kernel
theorem dL_isReturnedSo_256 : decode cL_isReturnedSo 256 = .ok (.invokevirtual 88, 3) := by decide +kernel
theorem dL_isReturnedSo_259 : decode cL_isReturnedSo 259 = .ok (.istore 10, 2) := by decide +kernel
theorem dL_isReturnedSo_261 : decode cL_isReturnedSo 261 = .ok (.iload 9, 2) := by decide +kernel
theorem dL_isReturnedSo_263 : decode cL_isReturnedSo 263 = .ok (.ifCond .eq 40, 3) := by decide +kernel
theorem dL_isReturnedSo_266 : decode cL_isReturnedSo 266 = .ok (.aload_n 0, 1) := by decide +kernel
theorem dL_isReturnedSo_267 : decode cL_isReturnedSo 267 = .ok (.iload_n 3, 1) := by decide +kernel
theorem dL_isReturnedSo_268 : decode cL_isReturnedSo 268 = .ok (.iload 4, 2) := by decide +kernel
theorem dL_isReturnedSo_270 : decode cL_isReturnedSo 270 = .ok (.invokevirtual 27, 3) := by decide +kernel
theorem dL_isReturnedSo_273 : decode cL_isReturnedSo 273 = .ok (.iload 10, 2) := by decide +kernel
theorem dL_isReturnedSo_275 : decode cL_isReturnedSo 275 = .ok (.if_icmp .ne 28, 3) := by decide +kernel
theorem dL_isReturnedSo_278 : decode cL_isReturnedSo 278 = .ok (.aload_n 1, 1) := by decide +kernel
theorem dL_isReturnedSo_279 : decode cL_isReturnedSo 279 = .ok (.iload_n 3, 1) := by decide +kernel
theorem dL_isReturnedSo_280 : decode cL_isReturnedSo 280 = .ok (.iload 4, 2) := by decide +kernel
theorem dL_isReturnedSo_282 : decode cL_isReturnedSo 282 = .ok (.invokevirtual 27, 3) := by decide +kernel
theorem dL_isReturnedSo_285 : decode cL_isReturnedSo 285 = .ok (.iload 10, 2) := by decide +kernel
theorem dL_isReturnedSo_287 : decode cL_isReturnedSo 287 = .ok (.if_icmp .ne 16, 3) := by decide +kernel
theorem dL_isReturnedSo_290 : decode cL_isReturnedSo 290 = .ok (.aload_n 0, 1) := by decide +kernel
theorem dL_isReturnedSo_291 : decode cL_isReturnedSo 291 = .ok (.invokevirtual 65, 3) := by decide +kernel
theorem dL_isReturnedSo_294 : decode cL_isReturnedSo 294 = .ok (.iload 10, 2) := by decide +kernel
theorem dL_isReturnedSo_296 : decode cL_isReturnedSo 296 = .ok (.if_icmp .ne 7, 3) := by decide +kernel
theorem dL_isReturnedSo_299 : decode cL_isReturnedSo 299 = .ok (.iconst 1, 1) := by decide +kernel
theorem dL_isReturnedSo_300 : decode cL_isReturnedSo 300 = .ok (.goto 4, 3) := by decide +kernel
theorem dL_isReturnedSo_303 : decode cL_isReturnedSo 303 = .ok (.iconst 0, 1) := by decide +kernel
theorem dL_isReturnedSo_304 : decode cL_isReturnedSo 304 = .ok (.ireturn, 1) := by decide +kernel
theorem dL_law_0 : decode cL_law 0 = .ok (.iconst 3, 1) := by decide +kernel
theorem dL_law_1 : decode cL_law 1 = .ok (.aload_n 0, 1) := by decide +kernel
theorem dL_law_2 : decode cL_law 2 = .ok (.iconst 0, 1) := by decide +kernel
theorem dL_law_3 : decode cL_law 3 = .ok (.invokestatic 97, 3) := by decide +kernel
theorem dL_law_6 : decode cL_law 6 = .ok (.iconst 5, 1) := by decide +kernel
theorem dL_law_7 : decode cL_law 7 = .ok (.invokestatic 48, 3) := by decide +kernel
theorem dL_law_10 : decode cL_law 10 = .ok (.iadd, 1) := by decide +kernel
theorem dL_law_11 : decode cL_law 11 = .ok (.istore_n 1, 1) := by decide +kernel
theorem dL_law_12 : decode cL_law 12 = .ok (.iconst 3, 1) := by decide +kernel
theorem dL_law_13 : decode cL_law 13 = .ok (.aload_n 0, 1) := by decide +kernel
theorem dL_law_14 : decode cL_law 14 = .ok (.iconst 0, 1) := by decide +kernel
theorem dL_law_15 : decode cL_law 15 = .ok (.invokestatic 97, 3) := by decide +kernel
theorem dL_law_18 : decode cL_law 18 = .ok (.iconst 4, 1) := by decide +kernel
theorem dL_law_19 : decode cL_law 19 = .ok (.ishr, 1) := by decide +kernel
theorem dL_law_20 : decode cL_law 20 = .ok (.iconst 5, 1) := by decide +kernel
theorem dL_law_21 : decode cL_law 21 = .ok (.invokestatic 48, 3) := by decide +kernel
theorem dL_law_24 : decode cL_law 24 = .ok (.iadd, 1) := by decide +kernel
theorem dL_law_25 : decode cL_law 25 = .ok (.istore_n 2, 1) := by decide +kernel
theorem dL_law_26 : decode cL_law 26 = .ok (.iconst 2, 1) := by decide +kernel
theorem dL_law_27 : decode cL_law 27 = .ok (.aload_n 0, 1) := by decide +kernel
theorem dL_law_28 : decode cL_law 28 = .ok (.iconst 0, 1) := by decide +kernel
theorem dL_law_29 : decode cL_law 29 = .ok (.invokestatic 97, 3) := by decide +kernel
theorem dL_law_32 : decode cL_law 32 = .ok (.bipush 8, 2) := by decide +kernel
theorem dL_law_34 : decode cL_law 34 = .ok (.ishr, 1) := by decide +kernel
theorem dL_law_35 : decode cL_law 35 = .ok (.bipush 58, 2) := by decide +kernel
theorem dL_law_37 : decode cL_law 37 = .ok (.invokestatic 48, 3) := by decide +kernel
theorem dL_law_40 : decode cL_law 40 = .ok (.iadd, 1) := by decide +kernel
theorem dL_law_41 : decode cL_law 41 = .ok (.istore_n 3, 1) := by decide +kernel
theorem dL_law_42 : decode cL_law 42 = .ok (.new 9, 3) := by decide +kernel
theorem dL_law_45 : decode cL_law 45 = .ok (.dup, 1) := by decide +kernel
theorem dL_law_46 : decode cL_law 46 = .ok (.iload_n 1, 1) := by decide +kernel
theorem dL_law_47 : decode cL_law 47 = .ok (.iload_n 2, 1) := by decide +kernel
theorem dL_law_48 : decode cL_law 48 = .ok (.iload_n 3, 1) := by decide +kernel
theorem dL_law_49 : decode cL_law 49 = .ok (.invokespecial 101, 3) := by decide +kernel
theorem dL_law_52 : decode cL_law 52 = .ok (.astore 4, 2) := by decide +kernel
theorem dL_law_54 : decode cL_law 54 = .ok (.new 9, 3) := by decide +kernel
theorem dL_law_57 : decode cL_law 57 = .ok (.dup, 1) := by decide +kernel
theorem dL_law_58 : decode cL_law 58 = .ok (.iload_n 1, 1) := by decide +kernel
theorem dL_law_59 : decode cL_law 59 = .ok (.iload_n 2, 1) := by decide +kernel
theorem dL_law_60 : decode cL_law 60 = .ok (.iload_n 3, 1) := by decide +kernel
theorem dL_law_61 : decode cL_law 61 = .ok (.invokespecial 101, 3) := by decide +kernel
theorem dL_law_64 : decode cL_law 64 = .ok (.astore 5, 2) := by decide +kernel
theorem dL_law_66 : decode cL_law 66 = .ok (.iconst 1, 1) := by decide +kernel
theorem dL_law_67 : decode cL_law 67 = .ok (.istore 6, 2) := by decide +kernel
theorem dL_law_69 : decode cL_law 69 = .ok (.iload 6, 2) := by decide +kernel
theorem dL_law_71 : decode cL_law 71 = .ok (.iconst 4, 1) := by decide +kernel
theorem dL_law_72 : decode cL_law 72 = .ok (.if_icmp .ge 62, 3) := by decide +kernel
theorem dL_law_75 : decode cL_law 75 = .ok (.aload_n 0, 1) := by decide +kernel
theorem dL_law_76 : decode cL_law 76 = .ok (.iload 6, 2) := by decide +kernel
theorem dL_law_78 : decode cL_law 78 = .ok (.invokestatic 97, 3) := by decide +kernel
theorem dL_law_81 : decode cL_law 81 = .ok (.istore 7, 2) := by decide +kernel
theorem dL_law_83 : decode cL_law 83 = .ok (.aload 4, 2) := by decide +kernel
theorem dL_law_85 : decode cL_law 85 = .ok (.iconst 2, 1) := by decide +kernel
theorem dL_law_86 : decode cL_law 86 = .ok (.iload 7, 2) := by decide +kernel
theorem dL_law_88 : decode cL_law 88 = .ok (.iload_n 1, 1) := by decide +kernel
theorem dL_law_89 : decode cL_law 89 = .ok (.invokestatic 48, 3) := by decide +kernel
theorem dL_law_92 : decode cL_law 92 = .ok (.iload 7, 2) := by decide +kernel
theorem dL_law_94 : decode cL_law 94 = .ok (.iconst 4, 1) := by decide +kernel
theorem dL_law_95 : decode cL_law 95 = .ok (.ishr, 1) := by decide +kernel
theorem dL_law_96 : decode cL_law 96 = .ok (.iload_n 2, 1) := by decide +kernel
theorem dL_law_97 : decode cL_law 97 = .ok (.invokestatic 48, 3) := by decide +kernel
theorem dL_law_100 : decode cL_law 100 = .ok (.invokestatic 51, 3) := by decide +kernel
theorem dL_law_103 : decode cL_law 103 = .ok (.aload 5, 2) := by decide +kernel
theorem dL_law_105 : decode cL_law 105 = .ok (.iconst 2, 1) := by decide +kernel
theorem dL_law_106 : decode cL_law 106 = .ok (.iload 7, 2) := by decide +kernel
theorem dL_law_108 : decode cL_law 108 = .ok (.iload_n 1, 1) := by decide +kernel
theorem dL_law_109 : decode cL_law 109 = .ok (.invokestatic 48, 3) := by decide +kernel
theorem dL_law_112 : decode cL_law 112 = .ok (.iload 7, 2) := by decide +kernel
theorem dL_law_114 : decode cL_law 114 = .ok (.iconst 4, 1) := by decide +kernel
theorem dL_law_115 : decode cL_law 115 = .ok (.ishr, 1) := by decide +kernel
theorem dL_law_116 : decode cL_law 116 = .ok (.iload_n 2, 1) := by decide +kernel
theorem dL_law_117 : decode cL_law 117 = .ok (.invokestatic 48, 3) := by decide +kernel
theorem dL_law_120 : decode cL_law 120 = .ok (.invokestatic 51, 3) := by decide +kernel
theorem dL_law_123 : decode cL_law 123 = .ok (.if_icmp .eq 5, 3) := by decide +kernel
theorem dL_law_126 : decode cL_law 126 = .ok (.iconst 0, 1) := by decide +kernel
theorem dL_law_127 : decode cL_law 127 = .ok (.ireturn, 1) := by decide +kernel
theorem dL_law_128 : decode cL_law 128 = .ok (.iinc 6 1, 3) := by decide +kernel
theorem dL_law_131 : decode cL_law 131 = .ok (.goto (-62), 3) := by decide +kernel
theorem dL_law_134 : decode cL_law 134 = .ok (.iconst 4, 1) := by decide +kernel
theorem dL_law_135 : decode cL_law 135 = .ok (.istore 6, 2) := by decide +kernel
theorem dL_law_137 : decode cL_law 137 = .ok (.iload 6, 2) := by decide +kernel
theorem dL_law_139 : decode cL_law 139 = .ok (.bipush 50, 2) := by decide +kernel
theorem dL_law_141 : decode cL_law 141 = .ok (.if_icmp .ge 126, 3) := by decide +kernel
theorem dL_law_144 : decode cL_law 144 = .ok (.aload_n 0, 1) := by decide +kernel
theorem dL_law_145 : decode cL_law 145 = .ok (.iload 6, 2) := by decide +kernel
theorem dL_law_147 : decode cL_law 147 = .ok (.invokestatic 97, 3) := by decide +kernel
theorem dL_law_150 : decode cL_law 150 = .ok (.istore 7, 2) := by decide +kernel
theorem dL_law_152 : decode cL_law 152 = .ok (.aload 4, 2) := by decide +kernel
theorem dL_law_154 : decode cL_law 154 = .ok (.iload_n 1, 1) := by decide +kernel
theorem dL_law_155 : decode cL_law 155 = .ok (.iload_n 2, 1) := by decide +kernel
theorem dL_law_156 : decode cL_law 156 = .ok (.iload 7, 2) := by decide +kernel
theorem dL_law_158 : decode cL_law 158 = .ok (.invokestatic 104, 3) := by decide +kernel
theorem dL_law_161 : decode cL_law 161 = .ok (.istore 8, 2) := by decide +kernel
theorem dL_law_163 : decode cL_law 163 = .ok (.iload 8, 2) := by decide +kernel
theorem dL_law_165 : decode cL_law 165 = .ok (.ldc 32, 2) := by decide +kernel
theorem dL_law_167 : decode cL_law 167 = .ok (.if_icmp .eq 17, 3) := by decide +kernel
theorem dL_law_170 : decode cL_law 170 = .ok (.aload 5, 2) := by decide +kernel
theorem dL_law_172 : decode cL_law 172 = .ok (.iload_n 1, 1) := by decide +kernel
theorem dL_law_173 : decode cL_law 173 = .ok (.iload_n 2, 1) := by decide +kernel
theorem dL_law_174 : decode cL_law 174 = .ok (.iload 7, 2) := by decide +kernel
theorem dL_law_176 : decode cL_law 176 = .ok (.invokestatic 104, 3) := by decide +kernel
theorem dL_law_179 : decode cL_law 179 = .ok (.iload 8, 2) := by decide +kernel
theorem dL_law_181 : decode cL_law 181 = .ok (.if_icmp .ne 48, 3) := by decide +kernel
theorem dL_law_184 : decode cL_law 184 = .ok (.iload 6, 2) := by decide +kernel
theorem dL_law_186 : decode cL_law 186 = .ok (.iconst 4, 1) := by decide +kernel
theorem dL_law_187 : decode cL_law 187 = .ok (.irem, 1) := by decide +kernel
theorem dL_law_188 : decode cL_law 188 = .ok (.iconst 3, 1) := by decide +kernel
theorem dL_law_189 : decode cL_law 189 = .ok (.if_icmp .ne 13, 3) := by decide +kernel
theorem dL_law_192 : decode cL_law 192 = .ok (.aload 4, 2) := by decide +kernel
theorem dL_law_194 : decode cL_law 194 = .ok (.aload 5, 2) := by decide +kernel
theorem dL_law_196 : decode cL_law 196 = .ok (.invokestatic 107, 3) := by decide +kernel
theorem dL_law_199 : decode cL_law 199 = .ok (.ifCond .eq 30, 3) := by decide +kernel
theorem dL_law_202 : decode cL_law 202 = .ok (.aload 4, 2) := by decide +kernel
theorem dL_law_204 : decode cL_law 204 = .ok (.invokestatic 111, 3) := by decide +kernel
theorem dL_law_207 : decode cL_law 207 = .ok (.ifCond .eq 22, 3) := by decide +kernel
theorem dL_law_210 : decode cL_law 210 = .ok (.iload 6, 2) := by decide +kernel
theorem dL_law_212 : decode cL_law 212 = .ok (.bipush 8, 2) := by decide +kernel
theorem dL_law_214 : decode cL_law 214 = .ok (.irem, 1) := by decide +kernel
theorem dL_law_215 : decode cL_law 215 = .ok (.iconst 5, 1) := by decide +kernel
theorem dL_law_216 : decode cL_law 216 = .ok (.if_icmp .ne 15, 3) := by decide +kernel
theorem dL_law_219 : decode cL_law 219 = .ok (.aload 4, 2) := by decide +kernel
theorem dL_law_221 : decode cL_law 221 = .ok (.iload_n 1, 1) := by decide +kernel
theorem dL_law_222 : decode cL_law 222 = .ok (.iload_n 2, 1) := by decide +kernel
theorem dL_law_223 : decode cL_law 223 = .ok (.invokestatic 115, 3) := by decide +kernel
theorem dL_law_226 : decode cL_law 226 = .ok (.ifCond .ne 5, 3) := by decide +kernel
theorem dL_law_229 : decode cL_law 229 = .ok (.iconst 0, 1) := by decide +kernel
theorem dL_law_230 : decode cL_law 230 = .ok (.ireturn, 1) := by decide +kernel
theorem dL_law_231 : decode cL_law 231 = .ok (.iload 6, 2) := by decide +kernel
theorem dL_law_233 : decode cL_law 233 = .ok (.bipush 7, 2) := by decide +kernel
theorem dL_law_235 : decode cL_law 235 = .ok (.irem, 1) := by decide +kernel
theorem dL_law_236 : decode cL_law 236 = .ok (.bipush 6, 2) := by decide +kernel
theorem dL_law_238 : decode cL_law 238 = .ok (.if_icmp .ne 23, 3) := by decide +kernel
theorem dL_law_241 : decode cL_law 241 = .ok (.aload 4, 2) := by decide +kernel
theorem dL_law_243 : decode cL_law 243 = .ok (.aload 5, 2) := by decide +kernel
theorem dL_law_245 : decode cL_law 245 = .ok (.iload 7, 2) := by decide +kernel
theorem dL_law_247 : decode cL_law 247 = .ok (.iconst 5, 1) := by decide +kernel
theorem dL_law_248 : decode cL_law 248 = .ok (.ishr, 1) := by decide +kernel
theorem dL_law_249 : decode cL_law 249 = .ok (.iconst 4, 1) := by decide +kernel
theorem dL_law_250 : decode cL_law 250 = .ok (.invokestatic 48, 3) := by decide +kernel
theorem dL_law_253 : decode cL_law 253 = .ok (.invokestatic 119, 3) := by decide +kernel
theorem dL_law_256 : decode cL_law 256 = .ok (.ifCond .ne 5, 3) := by decide +kernel
theorem dL_law_259 : decode cL_law 259 = .ok (.iconst 0, 1) := by decide +kernel
theorem dL_law_260 : decode cL_law 260 = .ok (.ireturn, 1) := by decide +kernel
theorem dL_law_261 : decode cL_law 261 = .ok (.iinc 6 1, 3) := by decide +kernel
theorem dL_law_264 : decode cL_law 264 = .ok (.goto (-127), 3) := by decide +kernel
theorem dL_law_267 : decode cL_law 267 = .ok (.aload 4, 2) := by decide +kernel
theorem dL_law_269 : decode cL_law 269 = .ok (.aload 5, 2) := by decide +kernel
theorem dL_law_271 : decode cL_law 271 = .ok (.invokestatic 107, 3) := by decide +kernel
theorem dL_law_274 : decode cL_law 274 = .ok (.ifCond .eq 17, 3) := by decide +kernel
theorem dL_law_277 : decode cL_law 277 = .ok (.aload 4, 2) := by decide +kernel
theorem dL_law_279 : decode cL_law 279 = .ok (.iload_n 1, 1) := by decide +kernel
theorem dL_law_280 : decode cL_law 280 = .ok (.iload_n 2, 1) := by decide +kernel
theorem dL_law_281 : decode cL_law 281 = .ok (.invokestatic 115, 3) := by decide +kernel
theorem dL_law_284 : decode cL_law 284 = .ok (.ifCond .eq 7, 3) := by decide +kernel
theorem dL_law_287 : decode cL_law 287 = .ok (.iconst 1, 1) := by decide +kernel
theorem dL_law_288 : decode cL_law 288 = .ok (.goto 4, 3) := by decide +kernel
theorem dL_law_291 : decode cL_law 291 = .ok (.iconst 0, 1) := by decide +kernel
theorem dL_law_292 : decode cL_law 292 = .ok (.ireturn, 1) := by decide +kernel
