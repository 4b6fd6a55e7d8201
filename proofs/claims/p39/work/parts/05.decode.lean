theorem dL_cell_0 : decode cL_cell 0 = .ok (.iload_n 1, 1) := by decide +kernel
theorem dL_cell_1 : decode cL_cell 1 = .ok (.aload_n 0, 1) := by decide +kernel
theorem dL_cell_2 : decode cL_cell 2 = .ok (.arraylength, 1) := by decide +kernel
theorem dL_cell_3 : decode cL_cell 3 = .ok (.if_icmp .ge 9, 3) := by decide +kernel
theorem dL_cell_6 : decode cL_cell 6 = .ok (.aload_n 0, 1) := by decide +kernel
theorem dL_cell_7 : decode cL_cell 7 = .ok (.iload_n 1, 1) := by decide +kernel
theorem dL_cell_8 : decode cL_cell 8 = .ok (.iaload, 1) := by decide +kernel
theorem dL_cell_9 : decode cL_cell 9 = .ok (.goto 11, 3) := by decide +kernel
theorem dL_cell_12 : decode cL_cell 12 = .ok (.ldc 7, 2) := by decide +kernel
theorem dL_cell_14 : decode cL_cell 14 = .ok (.iload_n 1, 1) := by decide +kernel
theorem dL_cell_15 : decode cL_cell 15 = .ok (.imul, 1) := by decide +kernel
theorem dL_cell_16 : decode cL_cell 16 = .ok (.sipush 1889, 3) := by decide +kernel
theorem dL_cell_19 : decode cL_cell 19 = .ok (.iadd, 1) := by decide +kernel
theorem dL_cell_20 : decode cL_cell 20 = .ok (.ireturn, 1) := by decide +kernel
theorem dL_low_0 : decode cL_low 0 = .ok (.iload_n 0, 1) := by decide +kernel
theorem dL_low_1 : decode cL_low 1 = .ok (.ldc 8, 2) := by decide +kernel
theorem dL_low_3 : decode cL_low 3 = .ok (.iand, 1) := by decide +kernel
theorem dL_low_4 : decode cL_low 4 = .ok (.iload_n 1, 1) := by decide +kernel
theorem dL_low_5 : decode cL_low 5 = .ok (.irem, 1) := by decide +kernel
theorem dL_low_6 : decode cL_low 6 = .ok (.ireturn, 1) := by decide +kernel
theorem dL_tell_0 : decode cL_tell 0 = .ok (.bipush 64, 2) := by decide +kernel
theorem dL_tell_2 : decode cL_tell 2 = .ok (.newarray .int, 2) := by decide +kernel
theorem dL_tell_4 : decode cL_tell 4 = .ok (.astore_n 1, 1) := by decide +kernel
theorem dL_tell_5 : decode cL_tell 5 = .ok (.iconst 0, 1) := by decide +kernel
theorem dL_tell_6 : decode cL_tell 6 = .ok (.istore_n 2, 1) := by decide +kernel
theorem dL_tell_7 : decode cL_tell 7 = .ok (.iload_n 2, 1) := by decide +kernel
theorem dL_tell_8 : decode cL_tell 8 = .ok (.bipush 11, 2) := by decide +kernel
theorem dL_tell_10 : decode cL_tell 10 = .ok (.if_icmp .ge 17, 3) := by decide +kernel
theorem dL_tell_13 : decode cL_tell 13 = .ok (.aload_n 1, 1) := by decide +kernel
theorem dL_tell_14 : decode cL_tell 14 = .ok (.iload_n 2, 1) := by decide +kernel
theorem dL_tell_15 : decode cL_tell 15 = .ok (.aload_n 0, 1) := by decide +kernel
theorem dL_tell_16 : decode cL_tell 16 = .ok (.iload_n 2, 1) := by decide +kernel
theorem dL_tell_17 : decode cL_tell 17 = .ok (.invokevirtual 9, 3) := by decide +kernel
theorem dL_tell_20 : decode cL_tell 20 = .ok (.iastore, 1) := by decide +kernel
theorem dL_tell_21 : decode cL_tell 21 = .ok (.iinc 2 1, 3) := by decide +kernel
theorem dL_tell_24 : decode cL_tell 24 = .ok (.goto (-17), 3) := by decide +kernel
theorem dL_tell_27 : decode cL_tell 27 = .ok (.iconst 0, 1) := by decide +kernel
theorem dL_tell_28 : decode cL_tell 28 = .ok (.istore_n 2, 1) := by decide +kernel
theorem dL_tell_29 : decode cL_tell 29 = .ok (.iload_n 2, 1) := by decide +kernel
theorem dL_tell_30 : decode cL_tell 30 = .ok (.bipush 50, 2) := by decide +kernel
theorem dL_tell_32 : decode cL_tell 32 = .ok (.if_icmp .ge 31, 3) := by decide +kernel
theorem dL_tell_35 : decode cL_tell 35 = .ok (.aload_n 1, 1) := by decide +kernel
theorem dL_tell_36 : decode cL_tell 36 = .ok (.bipush 11, 2) := by decide +kernel
theorem dL_tell_38 : decode cL_tell 38 = .ok (.iload_n 2, 1) := by decide +kernel
theorem dL_tell_39 : decode cL_tell 39 = .ok (.iadd, 1) := by decide +kernel
theorem dL_tell_40 : decode cL_tell 40 = .ok (.bipush 100, 2) := by decide +kernel
theorem dL_tell_42 : decode cL_tell 42 = .ok (.aload_n 0, 1) := by decide +kernel
theorem dL_tell_43 : decode cL_tell 43 = .ok (.iload_n 2, 1) := by decide +kernel
theorem dL_tell_44 : decode cL_tell 44 = .ok (.iconst 0, 1) := by decide +kernel
theorem dL_tell_45 : decode cL_tell 45 = .ok (.invokevirtual 15, 3) := by decide +kernel
theorem dL_tell_48 : decode cL_tell 48 = .ok (.imul, 1) := by decide +kernel
theorem dL_tell_49 : decode cL_tell 49 = .ok (.aload_n 0, 1) := by decide +kernel
theorem dL_tell_50 : decode cL_tell 50 = .ok (.iload_n 2, 1) := by decide +kernel
theorem dL_tell_51 : decode cL_tell 51 = .ok (.iconst 2, 1) := by decide +kernel
theorem dL_tell_52 : decode cL_tell 52 = .ok (.invokevirtual 15, 3) := by decide +kernel
theorem dL_tell_55 : decode cL_tell 55 = .ok (.iadd, 1) := by decide +kernel
theorem dL_tell_56 : decode cL_tell 56 = .ok (.iastore, 1) := by decide +kernel
theorem dL_tell_57 : decode cL_tell 57 = .ok (.iinc 2 1, 3) := by decide +kernel
theorem dL_tell_60 : decode cL_tell 60 = .ok (.goto (-31), 3) := by decide +kernel
theorem dL_tell_63 : decode cL_tell 63 = .ok (.aload_n 1, 1) := by decide +kernel
theorem dL_tell_64 : decode cL_tell 64 = .ok (.areturn, 1) := by decide +kernel
theorem dL_same_0 : decode cL_same 0 = .ok (.iconst 0, 1) := by decide +kernel
theorem dL_same_1 : decode cL_same 1 = .ok (.istore_n 2, 1) := by decide +kernel
theorem dL_same_2 : decode cL_same 2 = .ok (.iload_n 2, 1) := by decide +kernel
theorem dL_same_3 : decode cL_same 3 = .ok (.bipush 64, 2) := by decide +kernel
theorem dL_same_5 : decode cL_same 5 = .ok (.if_icmp .ge 20, 3) := by decide +kernel
theorem dL_same_8 : decode cL_same 8 = .ok (.aload_n 0, 1) := by decide +kernel
theorem dL_same_9 : decode cL_same 9 = .ok (.iload_n 2, 1) := by decide +kernel
theorem dL_same_10 : decode cL_same 10 = .ok (.iaload, 1) := by decide +kernel
theorem dL_same_11 : decode cL_same 11 = .ok (.aload_n 1, 1) := by decide +kernel
theorem dL_same_12 : decode cL_same 12 = .ok (.iload_n 2, 1) := by decide +kernel
theorem dL_same_13 : decode cL_same 13 = .ok (.iaload, 1) := by decide +kernel
theorem dL_same_14 : decode cL_same 14 = .ok (.if_icmp .eq 5, 3) := by decide +kernel
theorem dL_same_17 : decode cL_same 17 = .ok (.iconst 0, 1) := by decide +kernel
theorem dL_same_18 : decode cL_same 18 = .ok (.ireturn, 1) := by decide +kernel
theorem dL_same_19 : decode cL_same 19 = .ok (.iinc 2 1, 3) := by decide +kernel
theorem dL_same_22 : decode cL_same 22 = .ok (.goto (-20), 3) := by decide +kernel
theorem dL_same_25 : decode cL_same 25 = .ok (.iconst 1, 1) := by decide +kernel
theorem dL_same_26 : decode cL_same 26 = .ok (.ireturn, 1) := by decide +kernel
theorem dL_place_0 : decode cL_place 0 = .ok (.aload_n 0, 1) := by decide +kernel
theorem dL_place_1 : decode cL_place 1 = .ok (.iload_n 1, 1) := by decide +kernel
theorem dL_place_2 : decode cL_place 2 = .ok (.iconst 2, 1) := by decide +kernel
theorem dL_place_3 : decode cL_place 3 = .ok (.invokevirtual 19, 3) := by decide +kernel
theorem dL_place_6 : decode cL_place 6 = .ok (.istore_n 2, 1) := by decide +kernel
theorem dL_place_7 : decode cL_place 7 = .ok (.iconst (-1), 1) := by decide +kernel
theorem dL_place_8 : decode cL_place 8 = .ok (.istore_n 3, 1) := by decide +kernel
theorem dL_place_9 : decode cL_place 9 = .ok (.iconst (-1), 1) := by decide +kernel
theorem dL_place_10 : decode cL_place 10 = .ok (.istore 4, 2) := by decide +kernel
theorem dL_place_12 : decode cL_place 12 = .ok (.iconst 0, 1) := by decide +kernel
theorem dL_place_13 : decode cL_place 13 = .ok (.istore 5, 2) := by decide +kernel
theorem dL_place_15 : decode cL_place 15 = .ok (.iconst 0, 1) := by decide +kernel
theorem dL_place_16 : decode cL_place 16 = .ok (.istore 6, 2) := by decide +kernel
theorem dL_place_18 : decode cL_place 18 = .ok (.iconst 0, 1) := by decide +kernel
theorem dL_place_19 : decode cL_place 19 = .ok (.istore 7, 2) := by decide +kernel
theorem dL_place_21 : decode cL_place 21 = .ok (.iload 7, 2) := by decide +kernel
theorem dL_place_23 : decode cL_place 23 = .ok (.iload_n 2, 1) := by decide +kernel
theorem dL_place_24 : decode cL_place 24 = .ok (.if_icmp .ge 155, 3) := by decide +kernel
theorem dL_place_27 : decode cL_place 27 = .ok (.aload_n 0, 1) := by decide +kernel
theorem dL_place_28 : decode cL_place 28 = .ok (.iload_n 1, 1) := by decide +kernel
theorem dL_place_29 : decode cL_place 29 = .ok (.iload 7, 2) := by decide +kernel
theorem dL_place_31 : decode cL_place 31 = .ok (.invokevirtual 22, 3) := by decide +kernel
theorem dL_place_34 : decode cL_place 34 = .ok (.istore 8, 2) := by decide +kernel
theorem dL_place_36 : decode cL_place 36 = .ok (.aload_n 0, 1) := by decide +kernel
theorem dL_place_37 : decode cL_place 37 = .ok (.iload 8, 2) := by decide +kernel
theorem dL_place_39 : decode cL_place 39 = .ok (.iconst 0, 1) := by decide +kernel
theorem dL_place_40 : decode cL_place 40 = .ok (.invokevirtual 15, 3) := by decide +kernel
theorem dL_place_43 : decode cL_place 43 = .ok (.istore 9, 2) := by decide +kernel
theorem dL_place_45 : decode cL_place 45 = .ok (.aload_n 0, 1) := by decide +kernel
theorem dL_place_46 : decode cL_place 46 = .ok (.iload 8, 2) := by decide +kernel
theorem dL_place_48 : decode cL_place 48 = .ok (.iconst 2, 1) := by decide +kernel
theorem dL_place_49 : decode cL_place 49 = .ok (.invokevirtual 15, 3) := by decide +kernel
theorem dL_place_52 : decode cL_place 52 = .ok (.iload_n 1, 1) := by decide +kernel
theorem dL_place_53 : decode cL_place 53 = .ok (.if_icmp .ne 22, 3) := by decide +kernel
theorem dL_place_56 : decode cL_place 56 = .ok (.iload 9, 2) := by decide +kernel
theorem dL_place_58 : decode cL_place 58 = .ok (.iload_n 3, 1) := by decide +kernel
theorem dL_place_59 : decode cL_place 59 = .ok (.if_icmp .lt 16, 3) := by decide +kernel
theorem dL_place_62 : decode cL_place 62 = .ok (.iload 9, 2) := by decide +kernel
theorem dL_place_64 : decode cL_place 64 = .ok (.iload_n 3, 1) := by decide +kernel
theorem dL_place_65 : decode cL_place 65 = .ok (.if_icmp .ne 12, 3) := by decide +kernel
theorem dL_place_68 : decode cL_place 68 = .ok (.iload 8, 2) := by decide +kernel
theorem dL_place_70 : decode cL_place 70 = .ok (.iload 4, 2) := by decide +kernel
theorem dL_place_72 : decode cL_place 72 = .ok (.if_icmp .ge 5, 3) := by decide +kernel
theorem dL_place_75 : decode cL_place 75 = .ok (.iconst 0, 1) := by decide +kernel
theorem dL_place_76 : decode cL_place 76 = .ok (.ireturn, 1) := by decide +kernel
theorem dL_place_77 : decode cL_place 77 = .ok (.iload_n 1, 1) := by decide +kernel
theorem dL_place_78 : decode cL_place 78 = .ok (.bipush 61, 2) := by decide +kernel
theorem dL_place_80 : decode cL_place 80 = .ok (.if_icmp .ge 18, 3) := by decide +kernel
theorem dL_place_83 : decode cL_place 83 = .ok (.aload_n 0, 1) := by decide +kernel
theorem dL_place_84 : decode cL_place 84 = .ok (.iload 8, 2) := by decide +kernel
theorem dL_place_86 : decode cL_place 86 = .ok (.iconst 3, 1) := by decide +kernel
theorem dL_place_87 : decode cL_place 87 = .ok (.invokevirtual 15, 3) := by decide +kernel
theorem dL_place_90 : decode cL_place 90 = .ok (.iload_n 1, 1) := by decide +kernel
theorem dL_place_91 : decode cL_place 91 = .ok (.if_icmp .eq 7, 3) := by decide +kernel
theorem dL_place_94 : decode cL_place 94 = .ok (.iconst 1, 1) := by decide +kernel
theorem dL_place_95 : decode cL_place 95 = .ok (.goto 4, 3) := by decide +kernel
theorem dL_place_98 : decode cL_place 98 = .ok (.iconst 0, 1) := by decide +kernel
theorem dL_place_99 : decode cL_place 99 = .ok (.istore 10, 2) := by decide +kernel
theorem dL_place_101 : decode cL_place 101 = .ok (.aload_n 0, 1) := by decide +kernel
theorem dL_place_102 : decode cL_place 102 = .ok (.iload 8, 2) := by decide +kernel
theorem dL_place_104 : decode cL_place 104 = .ok (.iconst 4, 1) := by decide +kernel
theorem dL_place_105 : decode cL_place 105 = .ok (.invokevirtual 15, 3) := by decide +kernel
theorem dL_place_108 : decode cL_place 108 = .ok (.iload 10, 2) := by decide +kernel
theorem dL_place_110 : decode cL_place 110 = .ok (.ifCond .eq 7, 3) := by decide +kernel
theorem dL_place_113 : decode cL_place 113 = .ok (.iconst 1, 1) := by decide +kernel
theorem dL_place_114 : decode cL_place 114 = .ok (.goto 4, 3) := by decide +kernel
theorem dL_place_117 : decode cL_place 117 = .ok (.iconst 0, 1) := by decide +kernel
theorem dL_place_118 : decode cL_place 118 = .ok (.if_icmp .ne 19, 3) := by decide +kernel
theorem dL_place_121 : decode cL_place 121 = .ok (.aload_n 0, 1) := by decide +kernel
theorem dL_place_122 : decode cL_place 122 = .ok (.iload 8, 2) := by decide +kernel
theorem dL_place_124 : decode cL_place 124 = .ok (.iconst 3, 1) := by decide +kernel
theorem dL_place_125 : decode cL_place 125 = .ok (.invokevirtual 15, 3) := by decide +kernel
theorem dL_place_128 : decode cL_place 128 = .ok (.aload_n 0, 1) := by decide +kernel
theorem dL_place_129 : decode cL_place 129 = .ok (.iload 9, 2) := by decide +kernel
theorem dL_place_131 : decode cL_place 131 = .ok (.invokevirtual 25, 3) := by decide +kernel
theorem dL_place_134 : decode cL_place 134 = .ok (.if_icmp .eq 5, 3) := by decide +kernel
theorem dL_place_137 : decode cL_place 137 = .ok (.iconst 0, 1) := by decide +kernel
theorem dL_place_138 : decode cL_place 138 = .ok (.ireturn, 1) := by decide +kernel
theorem dL_place_139 : decode cL_place 139 = .ok (.iload 6, 2) := by decide +kernel
theorem dL_place_141 : decode cL_place 141 = .ok (.iload 10, 2) := by decide +kernel
theorem dL_place_143 : decode cL_place 143 = .ok (.ifCond .eq 7, 3) := by decide +kernel
theorem dL_place_146 : decode cL_place 146 = .ok (.iconst 1, 1) := by decide +kernel
theorem dL_place_147 : decode cL_place 147 = .ok (.goto 4, 3) := by decide +kernel
theorem dL_place_150 : decode cL_place 150 = .ok (.iconst 0, 1) := by decide +kernel
theorem dL_place_151 : decode cL_place 151 = .ok (.iadd, 1) := by decide +kernel
theorem dL_place_152 : decode cL_place 152 = .ok (.istore 6, 2) := by decide +kernel
theorem dL_place_154 : decode cL_place 154 = .ok (.iload 5, 2) := by decide +kernel
theorem dL_place_156 : decode cL_place 156 = .ok (.aload_n 0, 1) := by decide +kernel
theorem dL_place_157 : decode cL_place 157 = .ok (.iload 8, 2) := by decide +kernel
theorem dL_place_159 : decode cL_place 159 = .ok (.iconst 1, 1) := by decide +kernel
theorem dL_place_160 : decode cL_place 160 = .ok (.invokevirtual 15, 3) := by decide +kernel
theorem dL_place_163 : decode cL_place 163 = .ok (.iadd, 1) := by decide +kernel
theorem dL_place_164 : decode cL_place 164 = .ok (.istore 5, 2) := by decide +kernel
theorem dL_place_166 : decode cL_place 166 = .ok (.iload 9, 2) := by decide +kernel
theorem dL_place_168 : decode cL_place 168 = .ok (.istore_n 3, 1) := by decide +kernel
theorem dL_place_169 : decode cL_place 169 = .ok (.iload 8, 2) := by decide +kernel
theorem dL_place_171 : decode cL_place 171 = .ok (.istore 4, 2) := by decide +kernel
theorem dL_place_173 : decode cL_place 173 = .ok (.iinc 7 1, 3) := by decide +kernel
theorem dL_place_176 : decode cL_place 176 = .ok (.goto (-155), 3) := by decide +kernel
theorem dL_place_179 : decode cL_place 179 = .ok (.iload_n 2, 1) := by decide +kernel
theorem dL_place_180 : decode cL_place 180 = .ok (.ifCond .ne 9, 3) := by decide +kernel
theorem dL_place_183 : decode cL_place 183 = .ok (.sipush (-1005), 3) := by decide +kernel
theorem dL_place_186 : decode cL_place 186 = .ok (.goto 14, 3) := by decide +kernel
theorem dL_place_189 : decode cL_place 189 = .ok (.aload_n 0, 1) := by decide +kernel
theorem dL_place_190 : decode cL_place 190 = .ok (.aload_n 0, 1) := by decide +kernel
theorem dL_place_191 : decode cL_place 191 = .ok (.iload_n 1, 1) := by decide +kernel
theorem dL_place_192 : decode cL_place 192 = .ok (.iconst 0, 1) := by decide +kernel
theorem dL_place_193 : decode cL_place 193 = .ok (.invokevirtual 22, 3) := by decide +kernel
theorem dL_place_196 : decode cL_place 196 = .ok (.iconst 0, 1) := by decide +kernel
theorem dL_place_197 : decode cL_place 197 = .ok (.invokevirtual 15, 3) := by decide +kernel
theorem dL_place_200 : decode cL_place 200 = .ok (.istore 7, 2) := by decide +kernel
theorem dL_place_202 : decode cL_place 202 = .ok (.aload_n 0, 1) := by decide +kernel
theorem dL_place_203 : decode cL_place 203 = .ok (.iload_n 1, 1) := by decide +kernel
theorem dL_place_204 : decode cL_place 204 = .ok (.iload_n 2, 1) := by decide +kernel
theorem dL_place_205 : decode cL_place 205 = .ok (.invokevirtual 22, 3) := by decide +kernel
theorem dL_place_208 : decode cL_place 208 = .ok (.sipush (-1005), 3) := by decide +kernel
theorem dL_place_211 : decode cL_place 211 = .ok (.if_icmp .ne 61, 3) := by decide +kernel
theorem dL_place_214 : decode cL_place 214 = .ok (.aload_n 0, 1) := by decide +kernel
theorem dL_place_215 : decode cL_place 215 = .ok (.iload_n 1, 1) := by decide +kernel
theorem dL_place_216 : decode cL_place 216 = .ok (.iconst 3, 1) := by decide +kernel
theorem dL_place_217 : decode cL_place 217 = .ok (.invokevirtual 19, 3) := by decide +kernel
theorem dL_place_220 : decode cL_place 220 = .ok (.iload 7, 2) := by decide +kernel
theorem dL_place_222 : decode cL_place 222 = .ok (.if_icmp .ne 50, 3) := by decide +kernel
theorem dL_place_225 : decode cL_place 225 = .ok (.aload_n 0, 1) := by decide +kernel
theorem dL_place_226 : decode cL_place 226 = .ok (.iload_n 1, 1) := by decide +kernel
theorem dL_place_227 : decode cL_place 227 = .ok (.iconst 4, 1) := by decide +kernel
theorem dL_place_228 : decode cL_place 228 = .ok (.invokevirtual 19, 3) := by decide +kernel
theorem dL_place_231 : decode cL_place 231 = .ok (.iload_n 2, 1) := by decide +kernel
theorem dL_place_232 : decode cL_place 232 = .ok (.ifCond .ne 9, 3) := by decide +kernel
theorem dL_place_235 : decode cL_place 235 = .ok (.sipush (-1005), 3) := by decide +kernel
theorem dL_place_238 : decode cL_place 238 = .ok (.goto 4, 3) := by decide +kernel
theorem dL_place_241 : decode cL_place 241 = .ok (.iload_n 3, 1) := by decide +kernel
theorem dL_place_242 : decode cL_place 242 = .ok (.if_icmp .ne 30, 3) := by decide +kernel
theorem dL_place_245 : decode cL_place 245 = .ok (.aload_n 0, 1) := by decide +kernel
theorem dL_place_246 : decode cL_place 246 = .ok (.iload_n 1, 1) := by decide +kernel
theorem dL_place_247 : decode cL_place 247 = .ok (.iconst 5, 1) := by decide +kernel
theorem dL_place_248 : decode cL_place 248 = .ok (.invokevirtual 19, 3) := by decide +kernel
theorem dL_place_251 : decode cL_place 251 = .ok (.iload 5, 2) := by decide +kernel
theorem dL_place_253 : decode cL_place 253 = .ok (.if_icmp .ne 19, 3) := by decide +kernel
theorem dL_place_256 : decode cL_place 256 = .ok (.aload_n 0, 1) := by decide +kernel
theorem dL_place_257 : decode cL_place 257 = .ok (.iload_n 1, 1) := by decide +kernel
theorem dL_place_258 : decode cL_place 258 = .ok (.bipush 6, 2) := by decide +kernel
theorem dL_place_260 : decode cL_place 260 = .ok (.invokevirtual 19, 3) := by decide +kernel
theorem dL_place_263 : decode cL_place 263 = .ok (.iload 6, 2) := by decide +kernel
theorem dL_place_265 : decode cL_place 265 = .ok (.if_icmp .ne 7, 3) := by decide +kernel
theorem dL_place_268 : decode cL_place 268 = .ok (.iconst 1, 1) := by decide +kernel
theorem dL_place_269 : decode cL_place 269 = .ok (.goto 4, 3) := by decide +kernel
theorem dL_place_272 : decode cL_place 272 = .ok (.iconst 0, 1) := by decide +kernel
theorem dL_place_273 : decode cL_place 273 = .ok (.ireturn, 1) := by decide +kernel
theorem dL_sums_0 : decode cL_sums 0 = .ok (.aload_n 0, 1) := by decide +kernel
theorem dL_sums_1 : decode cL_sums 1 = .ok (.bipush 60, 2) := by decide +kernel
theorem dL_sums_3 : decode cL_sums 3 = .ok (.iconst 2, 1) := by decide +kernel
theorem dL_sums_4 : decode cL_sums 4 = .ok (.invokevirtual 19, 3) := by decide +kernel
theorem dL_sums_7 : decode cL_sums 7 = .ok (.istore_n 1, 1) := by decide +kernel
theorem dL_sums_8 : decode cL_sums 8 = .ok (.iconst 0, 1) := by decide +kernel
theorem dL_sums_9 : decode cL_sums 9 = .ok (.istore_n 2, 1) := by decide +kernel
theorem dL_sums_10 : decode cL_sums 10 = .ok (.iconst 0, 1) := by decide +kernel
theorem dL_sums_11 : decode cL_sums 11 = .ok (.istore_n 3, 1) := by decide +kernel
theorem dL_sums_12 : decode cL_sums 12 = .ok (.iconst 0, 1) := by decide +kernel
theorem dL_sums_13 : decode cL_sums 13 = .ok (.istore 4, 2) := by decide +kernel
theorem dL_sums_15 : decode cL_sums 15 = .ok (.iconst 0, 1) := by decide +kernel
theorem dL_sums_16 : decode cL_sums 16 = .ok (.istore 5, 2) := by decide +kernel
theorem dL_sums_18 : decode cL_sums 18 = .ok (.sipush (-1005), 3) := by decide +kernel
theorem dL_sums_21 : decode cL_sums 21 = .ok (.istore 6, 2) := by decide +kernel
theorem dL_sums_23 : decode cL_sums 23 = .ok (.iconst 0, 1) := by decide +kernel
theorem dL_sums_24 : decode cL_sums 24 = .ok (.istore 7, 2) := by decide +kernel
theorem dL_sums_26 : decode cL_sums 26 = .ok (.iload 7, 2) := by decide +kernel
theorem dL_sums_28 : decode cL_sums 28 = .ok (.aload_n 0, 1) := by decide +kernel
theorem dL_sums_29 : decode cL_sums 29 = .ok (.iconst 0, 1) := by decide +kernel
theorem dL_sums_30 : decode cL_sums 30 = .ok (.invokevirtual 9, 3) := by decide +kernel
theorem dL_sums_33 : decode cL_sums 33 = .ok (.if_icmp .ge 229, 3) := by decide +kernel
theorem dL_sums_36 : decode cL_sums 36 = .ok (.aload_n 0, 1) := by decide +kernel
theorem dL_sums_37 : decode cL_sums 37 = .ok (.iload 7, 2) := by decide +kernel
theorem dL_sums_39 : decode cL_sums 39 = .ok (.invokevirtual 28, 3) := by decide +kernel
theorem dL_sums_42 : decode cL_sums 42 = .ok (.istore 8, 2) := by decide +kernel
theorem dL_sums_44 : decode cL_sums 44 = .ok (.aload_n 0, 1) := by decide +kernel
theorem dL_sums_45 : decode cL_sums 45 = .ok (.iload 8, 2) := by decide +kernel
theorem dL_sums_47 : decode cL_sums 47 = .ok (.iconst 0, 1) := by decide +kernel
theorem dL_sums_48 : decode cL_sums 48 = .ok (.invokevirtual 19, 3) := by decide +kernel
theorem dL_sums_51 : decode cL_sums 51 = .ok (.iload 4, 2) := by decide +kernel
theorem dL_sums_53 : decode cL_sums 53 = .ok (.if_icmp .lt 29, 3) := by decide +kernel
theorem dL_sums_56 : decode cL_sums 56 = .ok (.aload_n 0, 1) := by decide +kernel
theorem dL_sums_57 : decode cL_sums 57 = .ok (.iload 8, 2) := by decide +kernel
theorem dL_sums_59 : decode cL_sums 59 = .ok (.iconst 1, 1) := by decide +kernel
theorem dL_sums_60 : decode cL_sums 60 = .ok (.invokevirtual 19, 3) := by decide +kernel
theorem dL_sums_63 : decode cL_sums 63 = .ok (.aload_n 0, 1) := by decide +kernel
theorem dL_sums_64 : decode cL_sums 64 = .ok (.iload 8, 2) := by decide +kernel
theorem dL_sums_66 : decode cL_sums 66 = .ok (.iconst 0, 1) := by decide +kernel
theorem dL_sums_67 : decode cL_sums 67 = .ok (.invokevirtual 19, 3) := by decide +kernel
theorem dL_sums_70 : decode cL_sums 70 = .ok (.if_icmp .le 12, 3) := by decide +kernel
theorem dL_sums_73 : decode cL_sums 73 = .ok (.aload_n 0, 1) := by decide +kernel
theorem dL_sums_74 : decode cL_sums 74 = .ok (.iload 8, 2) := by decide +kernel
theorem dL_sums_76 : decode cL_sums 76 = .ok (.invokestatic 31, 3) := by decide +kernel
theorem dL_sums_79 : decode cL_sums 79 = .ok (.ifCond .ne 5, 3) := by decide +kernel
theorem dL_sums_82 : decode cL_sums 82 = .ok (.iconst 0, 1) := by decide +kernel
theorem dL_sums_83 : decode cL_sums 83 = .ok (.ireturn, 1) := by decide +kernel
theorem dL_sums_84 : decode cL_sums 84 = .ok (.iload 5, 2) := by decide +kernel
theorem dL_sums_86 : decode cL_sums 86 = .ok (.aload_n 0, 1) := by decide +kernel
theorem dL_sums_87 : decode cL_sums 87 = .ok (.iload 8, 2) := by decide +kernel
theorem dL_sums_89 : decode cL_sums 89 = .ok (.iconst 0, 1) := by decide +kernel
theorem dL_sums_90 : decode cL_sums 90 = .ok (.invokevirtual 19, 3) := by decide +kernel
theorem dL_sums_93 : decode cL_sums 93 = .ok (.iload 4, 2) := by decide +kernel
theorem dL_sums_95 : decode cL_sums 95 = .ok (.if_icmp .le 7, 3) := by decide +kernel
theorem dL_sums_98 : decode cL_sums 98 = .ok (.iconst 1, 1) := by decide +kernel
theorem dL_sums_99 : decode cL_sums 99 = .ok (.goto 4, 3) := by decide +kernel
theorem dL_sums_102 : decode cL_sums 102 = .ok (.iconst 0, 1) := by decide +kernel
theorem dL_sums_103 : decode cL_sums 103 = .ok (.iadd, 1) := by decide +kernel
theorem dL_sums_104 : decode cL_sums 104 = .ok (.istore 5, 2) := by decide +kernel
theorem dL_sums_106 : decode cL_sums 106 = .ok (.aload_n 0, 1) := by decide +kernel
theorem dL_sums_107 : decode cL_sums 107 = .ok (.iload 8, 2) := by decide +kernel
theorem dL_sums_109 : decode cL_sums 109 = .ok (.iconst 0, 1) := by decide +kernel
theorem dL_sums_110 : decode cL_sums 110 = .ok (.invokevirtual 19, 3) := by decide +kernel
theorem dL_sums_113 : decode cL_sums 113 = .ok (.iload 4, 2) := by decide +kernel
theorem dL_sums_115 : decode cL_sums 115 = .ok (.if_icmp .le 40, 3) := by decide +kernel
theorem dL_sums_118 : decode cL_sums 118 = .ok (.aload_n 0, 1) := by decide +kernel
theorem dL_sums_119 : decode cL_sums 119 = .ok (.iload 5, 2) := by decide +kernel
theorem dL_sums_121 : decode cL_sums 121 = .ok (.iconst 1, 1) := by decide +kernel
theorem dL_sums_122 : decode cL_sums 122 = .ok (.isub, 1) := by decide +kernel
theorem dL_sums_123 : decode cL_sums 123 = .ok (.iconst 0, 1) := by decide +kernel
theorem dL_sums_124 : decode cL_sums 124 = .ok (.invokevirtual 37, 3) := by decide +kernel
theorem dL_sums_127 : decode cL_sums 127 = .ok (.iload 4, 2) := by decide +kernel
theorem dL_sums_129 : decode cL_sums 129 = .ok (.if_icmp .ne 24, 3) := by decide +kernel
theorem dL_sums_132 : decode cL_sums 132 = .ok (.aload_n 0, 1) := by decide +kernel
theorem dL_sums_133 : decode cL_sums 133 = .ok (.iload 5, 2) := by decide +kernel
theorem dL_sums_135 : decode cL_sums 135 = .ok (.iconst 1, 1) := by decide +kernel
theorem dL_sums_136 : decode cL_sums 136 = .ok (.isub, 1) := by decide +kernel
theorem dL_sums_137 : decode cL_sums 137 = .ok (.iconst 1, 1) := by decide +kernel
theorem dL_sums_138 : decode cL_sums 138 = .ok (.invokevirtual 37, 3) := by decide +kernel
theorem dL_sums_141 : decode cL_sums 141 = .ok (.aload_n 0, 1) := by decide +kernel
theorem dL_sums_142 : decode cL_sums 142 = .ok (.iload 8, 2) := by decide +kernel
theorem dL_sums_144 : decode cL_sums 144 = .ok (.iconst 0, 1) := by decide +kernel
theorem dL_sums_145 : decode cL_sums 145 = .ok (.invokevirtual 19, 3) := by decide +kernel
theorem dL_sums_148 : decode cL_sums 148 = .ok (.iconst 1, 1) := by decide +kernel
theorem dL_sums_149 : decode cL_sums 149 = .ok (.isub, 1) := by decide +kernel
theorem dL_sums_150 : decode cL_sums 150 = .ok (.if_icmp .eq 5, 3) := by decide +kernel
theorem dL_sums_153 : decode cL_sums 153 = .ok (.iconst 0, 1) := by decide +kernel
theorem dL_sums_154 : decode cL_sums 154 = .ok (.ireturn, 1) := by decide +kernel
theorem dL_sums_155 : decode cL_sums 155 = .ok (.aload_n 0, 1) := by decide +kernel
theorem dL_sums_156 : decode cL_sums 156 = .ok (.iload 8, 2) := by decide +kernel
theorem dL_sums_158 : decode cL_sums 158 = .ok (.iconst 1, 1) := by decide +kernel
theorem dL_sums_159 : decode cL_sums 159 = .ok (.invokevirtual 19, 3) := by decide +kernel
theorem dL_sums_162 : decode cL_sums 162 = .ok (.istore 4, 2) := by decide +kernel
theorem dL_sums_164 : decode cL_sums 164 = .ok (.iload_n 3, 1) := by decide +kernel
theorem dL_sums_165 : decode cL_sums 165 = .ok (.iload 4, 2) := by decide +kernel
theorem dL_sums_167 : decode cL_sums 167 = .ok (.aload_n 0, 1) := by decide +kernel
theorem dL_sums_168 : decode cL_sums 168 = .ok (.iload 8, 2) := by decide +kernel
theorem dL_sums_170 : decode cL_sums 170 = .ok (.iconst 0, 1) := by decide +kernel
theorem dL_sums_171 : decode cL_sums 171 = .ok (.invokevirtual 19, 3) := by decide +kernel
theorem dL_sums_174 : decode cL_sums 174 = .ok (.isub, 1) := by decide +kernel
theorem dL_sums_175 : decode cL_sums 175 = .ok (.iadd, 1) := by decide +kernel
theorem dL_sums_176 : decode cL_sums 176 = .ok (.istore_n 3, 1) := by decide +kernel
theorem dL_sums_177 : decode cL_sums 177 = .ok (.iload_n 1, 1) := by decide +kernel
theorem dL_sums_178 : decode cL_sums 178 = .ok (.aload_n 0, 1) := by decide +kernel
theorem dL_sums_179 : decode cL_sums 179 = .ok (.iload 8, 2) := by decide +kernel
theorem dL_sums_181 : decode cL_sums 181 = .ok (.iconst 2, 1) := by decide +kernel
theorem dL_sums_182 : decode cL_sums 182 = .ok (.invokevirtual 19, 3) := by decide +kernel
theorem dL_sums_185 : decode cL_sums 185 = .ok (.iadd, 1) := by decide +kernel
theorem dL_sums_186 : decode cL_sums 186 = .ok (.istore_n 1, 1) := by decide +kernel
theorem dL_sums_187 : decode cL_sums 187 = .ok (.iload_n 2, 1) := by decide +kernel
theorem dL_sums_188 : decode cL_sums 188 = .ok (.aload_n 0, 1) := by decide +kernel
theorem dL_sums_189 : decode cL_sums 189 = .ok (.iload 8, 2) := by decide +kernel
theorem dL_sums_191 : decode cL_sums 191 = .ok (.bipush 6, 2) := by decide +kernel
theorem dL_sums_193 : decode cL_sums 193 = .ok (.invokevirtual 19, 3) := by decide +kernel
theorem dL_sums_196 : decode cL_sums 196 = .ok (.iadd, 1) := by decide +kernel
theorem dL_sums_197 : decode cL_sums 197 = .ok (.istore_n 2, 1) := by decide +kernel
theorem dL_sums_198 : decode cL_sums 198 = .ok (.iload 6, 2) := by decide +kernel
theorem dL_sums_200 : decode cL_sums 200 = .ok (.ifCond .ge 7, 3) := by decide +kernel
theorem dL_sums_203 : decode cL_sums 203 = .ok (.iconst (-1), 1) := by decide +kernel
theorem dL_sums_204 : decode cL_sums 204 = .ok (.goto 10, 3) := by decide +kernel
theorem dL_sums_207 : decode cL_sums 207 = .ok (.aload_n 0, 1) := by decide +kernel
theorem dL_sums_208 : decode cL_sums 208 = .ok (.iload 6, 2) := by decide +kernel
theorem dL_sums_210 : decode cL_sums 210 = .ok (.iconst 2, 1) := by decide +kernel
theorem dL_sums_211 : decode cL_sums 211 = .ok (.invokevirtual 19, 3) := by decide +kernel
theorem dL_sums_214 : decode cL_sums 214 = .ok (.istore 9, 2) := by decide +kernel
theorem dL_sums_216 : decode cL_sums 216 = .ok (.aload_n 0, 1) := by decide +kernel
theorem dL_sums_217 : decode cL_sums 217 = .ok (.iload 8, 2) := by decide +kernel
theorem dL_sums_219 : decode cL_sums 219 = .ok (.iconst 2, 1) := by decide +kernel
theorem dL_sums_220 : decode cL_sums 220 = .ok (.invokevirtual 19, 3) := by decide +kernel
theorem dL_sums_223 : decode cL_sums 223 = .ok (.iload 9, 2) := by decide +kernel
theorem dL_sums_225 : decode cL_sums 225 = .ok (.if_icmp .gt 22, 3) := by decide +kernel
theorem dL_sums_228 : decode cL_sums 228 = .ok (.aload_n 0, 1) := by decide +kernel
theorem dL_sums_229 : decode cL_sums 229 = .ok (.iload 8, 2) := by decide +kernel
theorem dL_sums_231 : decode cL_sums 231 = .ok (.iconst 2, 1) := by decide +kernel
theorem dL_sums_232 : decode cL_sums 232 = .ok (.invokevirtual 19, 3) := by decide +kernel
theorem dL_sums_235 : decode cL_sums 235 = .ok (.iload 9, 2) := by decide +kernel
theorem dL_sums_237 : decode cL_sums 237 = .ok (.if_icmp .ne 15, 3) := by decide +kernel
theorem dL_sums_240 : decode cL_sums 240 = .ok (.iload 8, 2) := by decide +kernel
theorem dL_sums_242 : decode cL_sums 242 = .ok (.iload 6, 2) := by decide +kernel
theorem dL_sums_244 : decode cL_sums 244 = .ok (.if_icmp .ge 8, 3) := by decide +kernel
theorem dL_sums_247 : decode cL_sums 247 = .ok (.iload 8, 2) := by decide +kernel
theorem dL_sums_249 : decode cL_sums 249 = .ok (.goto 5, 3) := by decide +kernel
theorem dL_sums_252 : decode cL_sums 252 = .ok (.iload 6, 2) := by decide +kernel
theorem dL_sums_254 : decode cL_sums 254 = .ok (.istore 6, 2) := by decide +kernel
theorem dL_sums_256 : decode cL_sums 256 = .ok (.iinc 7 1, 3) := by decide +kernel
theorem dL_sums_259 : decode cL_sums 259 = .ok (.goto (-233), 3) := by decide +kernel
theorem dL_sums_262 : decode cL_sums 262 = .ok (.iload 5, 2) := by decide +kernel
theorem dL_sums_264 : decode cL_sums 264 = .ok (.iload 4, 2) := by decide +kernel
theorem dL_sums_266 : decode cL_sums 266 = .ok (.sipush 1000, 3) := by decide +kernel
theorem dL_sums_269 : decode cL_sums 269 = .ok (.if_icmp .ge 7, 3) := by decide +kernel
theorem dL_sums_272 : decode cL_sums 272 = .ok (.iconst 1, 1) := by decide +kernel
theorem dL_sums_273 : decode cL_sums 273 = .ok (.goto 4, 3) := by decide +kernel
theorem dL_sums_276 : decode cL_sums 276 = .ok (.iconst 0, 1) := by decide +kernel
theorem dL_sums_277 : decode cL_sums 277 = .ok (.iadd, 1) := by decide +kernel
theorem dL_sums_278 : decode cL_sums 278 = .ok (.istore 5, 2) := by decide +kernel
theorem dL_sums_280 : decode cL_sums 280 = .ok (.iload 4, 2) := by decide +kernel
theorem dL_sums_282 : decode cL_sums 282 = .ok (.sipush 1000, 3) := by decide +kernel
theorem dL_sums_285 : decode cL_sums 285 = .ok (.if_icmp .eq 32, 3) := by decide +kernel
theorem dL_sums_288 : decode cL_sums 288 = .ok (.aload_n 0, 1) := by decide +kernel
theorem dL_sums_289 : decode cL_sums 289 = .ok (.iload 5, 2) := by decide +kernel
theorem dL_sums_291 : decode cL_sums 291 = .ok (.iconst 1, 1) := by decide +kernel
theorem dL_sums_292 : decode cL_sums 292 = .ok (.isub, 1) := by decide +kernel
theorem dL_sums_293 : decode cL_sums 293 = .ok (.iconst 0, 1) := by decide +kernel
theorem dL_sums_294 : decode cL_sums 294 = .ok (.invokevirtual 37, 3) := by decide +kernel
theorem dL_sums_297 : decode cL_sums 297 = .ok (.iload 4, 2) := by decide +kernel
theorem dL_sums_299 : decode cL_sums 299 = .ok (.if_icmp .ne 22, 3) := by decide +kernel
theorem dL_sums_302 : decode cL_sums 302 = .ok (.aload_n 0, 1) := by decide +kernel
theorem dL_sums_303 : decode cL_sums 303 = .ok (.iload 5, 2) := by decide +kernel
theorem dL_sums_305 : decode cL_sums 305 = .ok (.iconst 1, 1) := by decide +kernel
theorem dL_sums_306 : decode cL_sums 306 = .ok (.isub, 1) := by decide +kernel
theorem dL_sums_307 : decode cL_sums 307 = .ok (.iconst 1, 1) := by decide +kernel
theorem dL_sums_308 : decode cL_sums 308 = .ok (.invokevirtual 37, 3) := by decide +kernel
theorem dL_sums_311 : decode cL_sums 311 = .ok (.sipush 999, 3) := by decide +kernel
theorem dL_sums_314 : decode cL_sums 314 = .ok (.if_icmp .ne 7, 3) := by decide +kernel
theorem dL_sums_317 : decode cL_sums 317 = .ok (.iconst 1, 1) := by decide +kernel
theorem dL_sums_318 : decode cL_sums 318 = .ok (.goto 4, 3) := by decide +kernel
theorem dL_sums_321 : decode cL_sums 321 = .ok (.iconst 0, 1) := by decide +kernel
theorem dL_sums_322 : decode cL_sums 322 = .ok (.istore 7, 2) := by decide +kernel
theorem dL_sums_324 : decode cL_sums 324 = .ok (.iload 7, 2) := by decide +kernel
theorem dL_sums_326 : decode cL_sums 326 = .ok (.ifCond .eq 163, 3) := by decide +kernel
theorem dL_sums_329 : decode cL_sums 329 = .ok (.aload_n 0, 1) := by decide +kernel
theorem dL_sums_330 : decode cL_sums 330 = .ok (.bipush 60, 2) := by decide +kernel
theorem dL_sums_332 : decode cL_sums 332 = .ok (.invokestatic 31, 3) := by decide +kernel
theorem dL_sums_335 : decode cL_sums 335 = .ok (.ifCond .eq 154, 3) := by decide +kernel
theorem dL_sums_338 : decode cL_sums 338 = .ok (.aload_n 0, 1) := by decide +kernel
theorem dL_sums_339 : decode cL_sums 339 = .ok (.bipush 61, 2) := by decide +kernel
theorem dL_sums_341 : decode cL_sums 341 = .ok (.invokestatic 31, 3) := by decide +kernel
theorem dL_sums_344 : decode cL_sums 344 = .ok (.ifCond .eq 145, 3) := by decide +kernel
theorem dL_sums_347 : decode cL_sums 347 = .ok (.aload_n 0, 1) := by decide +kernel
theorem dL_sums_348 : decode cL_sums 348 = .ok (.bipush 60, 2) := by decide +kernel
theorem dL_sums_350 : decode cL_sums 350 = .ok (.bipush 6, 2) := by decide +kernel
theorem dL_sums_352 : decode cL_sums 352 = .ok (.invokevirtual 19, 3) := by decide +kernel
theorem dL_sums_355 : decode cL_sums 355 = .ok (.ifCond .ne 134, 3) := by decide +kernel
theorem dL_sums_358 : decode cL_sums 358 = .ok (.aload_n 0, 1) := by decide +kernel
theorem dL_sums_359 : decode cL_sums 359 = .ok (.aload_n 0, 1) := by decide +kernel
theorem dL_sums_360 : decode cL_sums 360 = .ok (.iconst 0, 1) := by decide +kernel
theorem dL_sums_361 : decode cL_sums 361 = .ok (.invokevirtual 9, 3) := by decide +kernel
theorem dL_sums_364 : decode cL_sums 364 = .ok (.invokevirtual 28, 3) := by decide +kernel
theorem dL_sums_367 : decode cL_sums 367 = .ok (.sipush (-1005), 3) := by decide +kernel
theorem dL_sums_370 : decode cL_sums 370 = .ok (.if_icmp .ne 119, 3) := by decide +kernel
theorem dL_sums_373 : decode cL_sums 373 = .ok (.iload_n 1, 1) := by decide +kernel
theorem dL_sums_374 : decode cL_sums 374 = .ok (.aload_n 0, 1) := by decide +kernel
theorem dL_sums_375 : decode cL_sums 375 = .ok (.iconst 2, 1) := by decide +kernel
theorem dL_sums_376 : decode cL_sums 376 = .ok (.invokevirtual 9, 3) := by decide +kernel
theorem dL_sums_379 : decode cL_sums 379 = .ok (.if_icmp .ne 110, 3) := by decide +kernel
theorem dL_sums_382 : decode cL_sums 382 = .ok (.iload_n 2, 1) := by decide +kernel
theorem dL_sums_383 : decode cL_sums 383 = .ok (.aload_n 0, 1) := by decide +kernel
theorem dL_sums_384 : decode cL_sums 384 = .ok (.iconst 5, 1) := by decide +kernel
theorem dL_sums_385 : decode cL_sums 385 = .ok (.invokevirtual 9, 3) := by decide +kernel
theorem dL_sums_388 : decode cL_sums 388 = .ok (.if_icmp .ne 101, 3) := by decide +kernel
theorem dL_sums_391 : decode cL_sums 391 = .ok (.iload_n 3, 1) := by decide +kernel
theorem dL_sums_392 : decode cL_sums 392 = .ok (.aload_n 0, 1) := by decide +kernel
theorem dL_sums_393 : decode cL_sums 393 = .ok (.bipush 8, 2) := by decide +kernel
theorem dL_sums_395 : decode cL_sums 395 = .ok (.invokevirtual 9, 3) := by decide +kernel
theorem dL_sums_398 : decode cL_sums 398 = .ok (.iadd, 1) := by decide +kernel
theorem dL_sums_399 : decode cL_sums 399 = .ok (.sipush 1000, 3) := by decide +kernel
theorem dL_sums_402 : decode cL_sums 402 = .ok (.if_icmp .ne 87, 3) := by decide +kernel
theorem dL_sums_405 : decode cL_sums 405 = .ok (.iload 5, 2) := by decide +kernel
theorem dL_sums_407 : decode cL_sums 407 = .ok (.aload_n 0, 1) := by decide +kernel
theorem dL_sums_408 : decode cL_sums 408 = .ok (.bipush 7, 2) := by decide +kernel
theorem dL_sums_410 : decode cL_sums 410 = .ok (.invokevirtual 9, 3) := by decide +kernel
theorem dL_sums_413 : decode cL_sums 413 = .ok (.if_icmp .ne 76, 3) := by decide +kernel
theorem dL_sums_416 : decode cL_sums 416 = .ok (.aload_n 0, 1) := by decide +kernel
theorem dL_sums_417 : decode cL_sums 417 = .ok (.iload 5, 2) := by decide +kernel
theorem dL_sums_419 : decode cL_sums 419 = .ok (.iconst 0, 1) := by decide +kernel
theorem dL_sums_420 : decode cL_sums 420 = .ok (.invokevirtual 37, 3) := by decide +kernel
theorem dL_sums_423 : decode cL_sums 423 = .ok (.sipush (-1005), 3) := by decide +kernel
theorem dL_sums_426 : decode cL_sums 426 = .ok (.if_icmp .ne 63, 3) := by decide +kernel
theorem dL_sums_429 : decode cL_sums 429 = .ok (.iload 6, 2) := by decide +kernel
theorem dL_sums_431 : decode cL_sums 431 = .ok (.aload_n 0, 1) := by decide +kernel
theorem dL_sums_432 : decode cL_sums 432 = .ok (.invokevirtual 40, 3) := by decide +kernel
theorem dL_sums_435 : decode cL_sums 435 = .ok (.if_icmp .ne 54, 3) := by decide +kernel
theorem dL_sums_438 : decode cL_sums 438 = .ok (.aload_n 0, 1) := by decide +kernel
theorem dL_sums_439 : decode cL_sums 439 = .ok (.bipush 61, 2) := by decide +kernel
theorem dL_sums_441 : decode cL_sums 441 = .ok (.iconst 2, 1) := by decide +kernel
theorem dL_sums_442 : decode cL_sums 442 = .ok (.invokevirtual 19, 3) := by decide +kernel
theorem dL_sums_445 : decode cL_sums 445 = .ok (.aload_n 0, 1) := by decide +kernel
theorem dL_sums_446 : decode cL_sums 446 = .ok (.iconst 3, 1) := by decide +kernel
theorem dL_sums_447 : decode cL_sums 447 = .ok (.invokevirtual 9, 3) := by decide +kernel
theorem dL_sums_450 : decode cL_sums 450 = .ok (.if_icmp .ne 39, 3) := by decide +kernel
theorem dL_sums_453 : decode cL_sums 453 = .ok (.iload_n 2, 1) := by decide +kernel
theorem dL_sums_454 : decode cL_sums 454 = .ok (.ifCond .ne 17, 3) := by decide +kernel
theorem dL_sums_457 : decode cL_sums 457 = .ok (.aload_n 0, 1) := by decide +kernel
theorem dL_sums_458 : decode cL_sums 458 = .ok (.iconst 0, 1) := by decide +kernel
theorem dL_sums_459 : decode cL_sums 459 = .ok (.invokevirtual 44, 3) := by decide +kernel
theorem dL_sums_462 : decode cL_sums 462 = .ok (.sipush (-1005), 3) := by decide +kernel
theorem dL_sums_465 : decode cL_sums 465 = .ok (.if_icmp .ne 24, 3) := by decide +kernel
theorem dL_sums_468 : decode cL_sums 468 = .ok (.goto 17, 3) := by decide +kernel
theorem dL_sums_471 : decode cL_sums 471 = .ok (.aload_n 0, 1) := by decide +kernel
theorem dL_sums_472 : decode cL_sums 472 = .ok (.aload_n 0, 1) := by decide +kernel
theorem dL_sums_473 : decode cL_sums 473 = .ok (.iconst 0, 1) := by decide +kernel
theorem dL_sums_474 : decode cL_sums 474 = .ok (.invokevirtual 44, 3) := by decide +kernel
theorem dL_sums_477 : decode cL_sums 477 = .ok (.iconst 4, 1) := by decide +kernel
theorem dL_sums_478 : decode cL_sums 478 = .ok (.invokevirtual 15, 3) := by decide +kernel
theorem dL_sums_481 : decode cL_sums 481 = .ok (.iconst 1, 1) := by decide +kernel
theorem dL_sums_482 : decode cL_sums 482 = .ok (.if_icmp .ne 7, 3) := by decide +kernel
theorem dL_sums_485 : decode cL_sums 485 = .ok (.iconst 1, 1) := by decide +kernel
theorem dL_sums_486 : decode cL_sums 486 = .ok (.goto 4, 3) := by decide +kernel
theorem dL_sums_489 : decode cL_sums 489 = .ok (.iconst 0, 1) := by decide +kernel
theorem dL_sums_490 : decode cL_sums 490 = .ok (.ireturn, 1) := by decide +kernel
theorem dL_act_0 : decode cL_act 0 = .ok (.iload_n 1, 1) := by decide +kernel
theorem dL_act_1 : decode cL_act 1 = .ok (.iconst 3, 1) := by decide +kernel
theorem dL_act_2 : decode cL_act 2 = .ok (.ishr, 1) := by decide +kernel
theorem dL_act_3 : decode cL_act 3 = .ok (.bipush 16, 2) := by decide +kernel
theorem dL_act_5 : decode cL_act 5 = .ok (.invokestatic 47, 3) := by decide +kernel
theorem dL_act_8 : decode cL_act 8 = .ok (.istore_n 3, 1) := by decide +kernel
theorem dL_act_9 : decode cL_act 9 = .ok (.iload_n 1, 1) := by decide +kernel
theorem dL_act_10 : decode cL_act 10 = .ok (.bipush 8, 2) := by decide +kernel
theorem dL_act_12 : decode cL_act 12 = .ok (.ishr, 1) := by decide +kernel
theorem dL_act_13 : decode cL_act 13 = .ok (.aload_n 0, 1) := by decide +kernel
theorem dL_act_14 : decode cL_act 14 = .ok (.iconst 1, 1) := by decide +kernel
theorem dL_act_15 : decode cL_act 15 = .ok (.invokevirtual 9, 3) := by decide +kernel
theorem dL_act_18 : decode cL_act 18 = .ok (.iconst 1, 1) := by decide +kernel
theorem dL_act_19 : decode cL_act 19 = .ok (.iadd, 1) := by decide +kernel
theorem dL_act_20 : decode cL_act 20 = .ok (.invokestatic 47, 3) := by decide +kernel
theorem dL_act_23 : decode cL_act 23 = .ok (.istore 4, 2) := by decide +kernel
theorem dL_act_25 : decode cL_act 25 = .ok (.iload_n 2, 1) := by decide +kernel
theorem dL_act_26 : decode cL_act 26 = .ok (.sipush 990, 3) := by decide +kernel
theorem dL_act_29 : decode cL_act 29 = .ok (.invokestatic 47, 3) := by decide +kernel
theorem dL_act_32 : decode cL_act 32 = .ok (.istore 5, 2) := by decide +kernel
theorem dL_act_34 : decode cL_act 34 = .ok (.iload_n 3, 1) := by decide +kernel
theorem dL_act_35 : decode cL_act 35 = .ok (.iconst 5, 1) := by decide +kernel
theorem dL_act_36 : decode cL_act 36 = .ok (.if_icmp .ge 24, 3) := by decide +kernel
theorem dL_act_39 : decode cL_act 39 = .ok (.aload_n 0, 1) := by decide +kernel
theorem dL_act_40 : decode cL_act 40 = .ok (.iload_n 2, 1) := by decide +kernel
theorem dL_act_41 : decode cL_act 41 = .ok (.sipush 1000, 3) := by decide +kernel
theorem dL_act_44 : decode cL_act 44 = .ok (.invokestatic 47, 3) := by decide +kernel
theorem dL_act_47 : decode cL_act 47 = .ok (.iload_n 2, 1) := by decide +kernel
theorem dL_act_48 : decode cL_act 48 = .ok (.bipush 10, 2) := by decide +kernel
theorem dL_act_50 : decode cL_act 50 = .ok (.ishr, 1) := by decide +kernel
theorem dL_act_51 : decode cL_act 51 = .ok (.bipush 100, 2) := by decide +kernel
theorem dL_act_53 : decode cL_act 53 = .ok (.invokestatic 47, 3) := by decide +kernel
theorem dL_act_56 : decode cL_act 56 = .ok (.invokevirtual 50, 3) := by decide +kernel
theorem dL_act_59 : decode cL_act 59 = .ok (.ireturn, 1) := by decide +kernel
theorem dL_act_60 : decode cL_act 60 = .ok (.iload_n 3, 1) := by decide +kernel
theorem dL_act_61 : decode cL_act 61 = .ok (.iconst 5, 1) := by decide +kernel
theorem dL_act_62 : decode cL_act 62 = .ok (.if_icmp .ne 24, 3) := by decide +kernel
theorem dL_act_65 : decode cL_act 65 = .ok (.aload_n 0, 1) := by decide +kernel
theorem dL_act_66 : decode cL_act 66 = .ok (.iload_n 2, 1) := by decide +kernel
theorem dL_act_67 : decode cL_act 67 = .ok (.sipush 1000, 3) := by decide +kernel
theorem dL_act_70 : decode cL_act 70 = .ok (.invokestatic 47, 3) := by decide +kernel
theorem dL_act_73 : decode cL_act 73 = .ok (.iload_n 2, 1) := by decide +kernel
theorem dL_act_74 : decode cL_act 74 = .ok (.bipush 10, 2) := by decide +kernel
theorem dL_act_76 : decode cL_act 76 = .ok (.ishr, 1) := by decide +kernel
theorem dL_act_77 : decode cL_act 77 = .ok (.bipush 100, 2) := by decide +kernel
theorem dL_act_79 : decode cL_act 79 = .ok (.invokestatic 47, 3) := by decide +kernel
theorem dL_act_82 : decode cL_act 82 = .ok (.invokevirtual 53, 3) := by decide +kernel
theorem dL_act_85 : decode cL_act 85 = .ok (.ireturn, 1) := by decide +kernel
theorem dL_act_86 : decode cL_act 86 = .ok (.iload_n 3, 1) := by decide +kernel
theorem dL_act_87 : decode cL_act 87 = .ok (.bipush 8, 2) := by decide +kernel
theorem dL_act_89 : decode cL_act 89 = .ok (.if_icmp .ge 33, 3) := by decide +kernel
theorem dL_act_92 : decode cL_act 92 = .ok (.aload_n 0, 1) := by decide +kernel
theorem dL_act_93 : decode cL_act 93 = .ok (.iload 5, 2) := by decide +kernel
theorem dL_act_95 : decode cL_act 95 = .ok (.iload 5, 2) := by decide +kernel
theorem dL_act_97 : decode cL_act 97 = .ok (.iconst 1, 1) := by decide +kernel
theorem dL_act_98 : decode cL_act 98 = .ok (.iadd, 1) := by decide +kernel
theorem dL_act_99 : decode cL_act 99 = .ok (.iload_n 2, 1) := by decide +kernel
theorem dL_act_100 : decode cL_act 100 = .ok (.bipush 9, 2) := by decide +kernel
theorem dL_act_102 : decode cL_act 102 = .ok (.ishr, 1) := by decide +kernel
theorem dL_act_103 : decode cL_act 103 = .ok (.bipush 10, 2) := by decide +kernel
theorem dL_act_105 : decode cL_act 105 = .ok (.sipush 990, 3) := by decide +kernel
theorem dL_act_108 : decode cL_act 108 = .ok (.iload 5, 2) := by decide +kernel
theorem dL_act_110 : decode cL_act 110 = .ok (.isub, 1) := by decide +kernel
theorem dL_act_111 : decode cL_act 111 = .ok (.iconst 2, 1) := by decide +kernel
theorem dL_act_112 : decode cL_act 112 = .ok (.idiv, 1) := by decide +kernel
theorem dL_act_113 : decode cL_act 113 = .ok (.iadd, 1) := by decide +kernel
theorem dL_act_114 : decode cL_act 114 = .ok (.invokestatic 47, 3) := by decide +kernel
theorem dL_act_117 : decode cL_act 117 = .ok (.iadd, 1) := by decide +kernel
theorem dL_act_118 : decode cL_act 118 = .ok (.invokevirtual 56, 3) := by decide +kernel
theorem dL_act_121 : decode cL_act 121 = .ok (.ireturn, 1) := by decide +kernel
theorem dL_act_122 : decode cL_act 122 = .ok (.iload_n 3, 1) := by decide +kernel
theorem dL_act_123 : decode cL_act 123 = .ok (.bipush 8, 2) := by decide +kernel
theorem dL_act_125 : decode cL_act 125 = .ok (.if_icmp .ne 59, 3) := by decide +kernel
theorem dL_act_128 : decode cL_act 128 = .ok (.iload_n 2, 1) := by decide +kernel
theorem dL_act_129 : decode cL_act 129 = .ok (.iconst 2, 1) := by decide +kernel
theorem dL_act_130 : decode cL_act 130 = .ok (.invokestatic 47, 3) := by decide +kernel
theorem dL_act_133 : decode cL_act 133 = .ok (.ifCond .ne 23, 3) := by decide +kernel
theorem dL_act_136 : decode cL_act 136 = .ok (.aload_n 0, 1) := by decide +kernel
theorem dL_act_137 : decode cL_act 137 = .ok (.iload_n 2, 1) := by decide +kernel
theorem dL_act_138 : decode cL_act 138 = .ok (.iconst 1, 1) := by decide +kernel
theorem dL_act_139 : decode cL_act 139 = .ok (.ishr, 1) := by decide +kernel
theorem dL_act_140 : decode cL_act 140 = .ok (.aload_n 0, 1) := by decide +kernel
theorem dL_act_141 : decode cL_act 141 = .ok (.iconst 4, 1) := by decide +kernel
theorem dL_act_142 : decode cL_act 142 = .ok (.invokevirtual 9, 3) := by decide +kernel
theorem dL_act_145 : decode cL_act 145 = .ok (.iconst 1, 1) := by decide +kernel
theorem dL_act_146 : decode cL_act 146 = .ok (.iadd, 1) := by decide +kernel
theorem dL_act_147 : decode cL_act 147 = .ok (.invokestatic 47, 3) := by decide +kernel
theorem dL_act_150 : decode cL_act 150 = .ok (.invokevirtual 59, 3) := by decide +kernel
theorem dL_act_153 : decode cL_act 153 = .ok (.goto 30, 3) := by decide +kernel
theorem dL_act_156 : decode cL_act 156 = .ok (.aload_n 0, 1) := by decide +kernel
theorem dL_act_157 : decode cL_act 157 = .ok (.iload_n 2, 1) := by decide +kernel
theorem dL_act_158 : decode cL_act 158 = .ok (.iconst 1, 1) := by decide +kernel
theorem dL_act_159 : decode cL_act 159 = .ok (.ishr, 1) := by decide +kernel
theorem dL_act_160 : decode cL_act 160 = .ok (.aload_n 0, 1) := by decide +kernel
theorem dL_act_161 : decode cL_act 161 = .ok (.iconst 4, 1) := by decide +kernel
theorem dL_act_162 : decode cL_act 162 = .ok (.invokevirtual 9, 3) := by decide +kernel
theorem dL_act_165 : decode cL_act 165 = .ok (.iconst 1, 1) := by decide +kernel
theorem dL_act_166 : decode cL_act 166 = .ok (.iadd, 1) := by decide +kernel
theorem dL_act_167 : decode cL_act 167 = .ok (.invokestatic 47, 3) := by decide +kernel
theorem dL_act_170 : decode cL_act 170 = .ok (.iload_n 2, 1) := by decide +kernel
theorem dL_act_171 : decode cL_act 171 = .ok (.bipush 7, 2) := by decide +kernel
theorem dL_act_173 : decode cL_act 173 = .ok (.ishr, 1) := by decide +kernel
theorem dL_act_174 : decode cL_act 174 = .ok (.sipush 1000, 3) := by decide +kernel
theorem dL_act_177 : decode cL_act 177 = .ok (.invokestatic 47, 3) := by decide +kernel
theorem dL_act_180 : decode cL_act 180 = .ok (.invokevirtual 62, 3) := by decide +kernel
theorem dL_act_183 : decode cL_act 183 = .ok (.ireturn, 1) := by decide +kernel
theorem dL_act_184 : decode cL_act 184 = .ok (.iload_n 3, 1) := by decide +kernel
theorem dL_act_185 : decode cL_act 185 = .ok (.bipush 9, 2) := by decide +kernel
theorem dL_act_187 : decode cL_act 187 = .ok (.if_icmp .ne 24, 3) := by decide +kernel
theorem dL_act_190 : decode cL_act 190 = .ok (.aload_n 0, 1) := by decide +kernel
theorem dL_act_191 : decode cL_act 191 = .ok (.iload 4, 2) := by decide +kernel
theorem dL_act_193 : decode cL_act 193 = .ok (.aload_n 0, 1) := by decide +kernel
theorem dL_act_194 : decode cL_act 194 = .ok (.iload 4, 2) := by decide +kernel
theorem dL_act_196 : decode cL_act 196 = .ok (.iconst 0, 1) := by decide +kernel
theorem dL_act_197 : decode cL_act 197 = .ok (.invokevirtual 19, 3) := by decide +kernel
theorem dL_act_200 : decode cL_act 200 = .ok (.iload_n 2, 1) := by decide +kernel
theorem dL_act_201 : decode cL_act 201 = .ok (.bipush 60, 2) := by decide +kernel
theorem dL_act_203 : decode cL_act 203 = .ok (.invokestatic 47, 3) := by decide +kernel
theorem dL_act_206 : decode cL_act 206 = .ok (.iadd, 1) := by decide +kernel
theorem dL_act_207 : decode cL_act 207 = .ok (.invokevirtual 65, 3) := by decide +kernel
theorem dL_act_210 : decode cL_act 210 = .ok (.ireturn, 1) := by decide +kernel
theorem dL_act_211 : decode cL_act 211 = .ok (.iload_n 3, 1) := by decide +kernel
theorem dL_act_212 : decode cL_act 212 = .ok (.bipush 10, 2) := by decide +kernel
theorem dL_act_214 : decode cL_act 214 = .ok (.if_icmp .ne 21, 3) := by decide +kernel
theorem dL_act_217 : decode cL_act 217 = .ok (.aload_n 0, 1) := by decide +kernel
theorem dL_act_218 : decode cL_act 218 = .ok (.iload 4, 2) := by decide +kernel
theorem dL_act_220 : decode cL_act 220 = .ok (.iload_n 2, 1) := by decide +kernel
theorem dL_act_221 : decode cL_act 221 = .ok (.aload_n 0, 1) := by decide +kernel
theorem dL_act_222 : decode cL_act 222 = .ok (.iconst 1, 1) := by decide +kernel
theorem dL_act_223 : decode cL_act 223 = .ok (.invokevirtual 9, 3) := by decide +kernel
theorem dL_act_226 : decode cL_act 226 = .ok (.iconst 1, 1) := by decide +kernel
theorem dL_act_227 : decode cL_act 227 = .ok (.iadd, 1) := by decide +kernel
theorem dL_act_228 : decode cL_act 228 = .ok (.invokestatic 47, 3) := by decide +kernel
theorem dL_act_231 : decode cL_act 231 = .ok (.invokevirtual 68, 3) := by decide +kernel
theorem dL_act_234 : decode cL_act 234 = .ok (.ireturn, 1) := by decide +kernel
theorem dL_act_235 : decode cL_act 235 = .ok (.iload_n 3, 1) := by decide +kernel
theorem dL_act_236 : decode cL_act 236 = .ok (.bipush 11, 2) := by decide +kernel
theorem dL_act_238 : decode cL_act 238 = .ok (.if_icmp .ne 49, 3) := by decide +kernel
theorem dL_act_241 : decode cL_act 241 = .ok (.iload_n 2, 1) := by decide +kernel
theorem dL_act_242 : decode cL_act 242 = .ok (.iconst 2, 1) := by decide +kernel
theorem dL_act_243 : decode cL_act 243 = .ok (.invokestatic 47, 3) := by decide +kernel
theorem dL_act_246 : decode cL_act 246 = .ok (.ifCond .ne 12, 3) := by decide +kernel
theorem dL_act_249 : decode cL_act 249 = .ok (.aload_n 0, 1) := by decide +kernel
theorem dL_act_250 : decode cL_act 250 = .ok (.iload 4, 2) := by decide +kernel
theorem dL_act_252 : decode cL_act 252 = .ok (.invokevirtual 71, 3) := by decide +kernel
theorem dL_act_255 : decode cL_act 255 = .ok (.goto 31, 3) := by decide +kernel
theorem dL_act_258 : decode cL_act 258 = .ok (.aload_n 0, 1) := by decide +kernel
theorem dL_act_259 : decode cL_act 259 = .ok (.iload 5, 2) := by decide +kernel
theorem dL_act_261 : decode cL_act 261 = .ok (.iload 5, 2) := by decide +kernel
theorem dL_act_263 : decode cL_act 263 = .ok (.bipush 10, 2) := by decide +kernel
theorem dL_act_265 : decode cL_act 265 = .ok (.iadd, 1) := by decide +kernel
theorem dL_act_266 : decode cL_act 266 = .ok (.iload_n 2, 1) := by decide +kernel
theorem dL_act_267 : decode cL_act 267 = .ok (.iconst 3, 1) := by decide +kernel
theorem dL_act_268 : decode cL_act 268 = .ok (.ishr, 1) := by decide +kernel
theorem dL_act_269 : decode cL_act 269 = .ok (.sipush 900, 3) := by decide +kernel
theorem dL_act_272 : decode cL_act 272 = .ok (.invokestatic 47, 3) := by decide +kernel
theorem dL_act_275 : decode cL_act 275 = .ok (.sipush 991, 3) := by decide +kernel
theorem dL_act_278 : decode cL_act 278 = .ok (.iload 5, 2) := by decide +kernel
theorem dL_act_280 : decode cL_act 280 = .ok (.isub, 1) := by decide +kernel
theorem dL_act_281 : decode cL_act 281 = .ok (.irem, 1) := by decide +kernel
theorem dL_act_282 : decode cL_act 282 = .ok (.iadd, 1) := by decide +kernel
theorem dL_act_283 : decode cL_act 283 = .ok (.invokevirtual 74, 3) := by decide +kernel
theorem dL_act_286 : decode cL_act 286 = .ok (.ireturn, 1) := by decide +kernel
theorem dL_act_287 : decode cL_act 287 = .ok (.iload_n 3, 1) := by decide +kernel
theorem dL_act_288 : decode cL_act 288 = .ok (.bipush 12, 2) := by decide +kernel
theorem dL_act_290 : decode cL_act 290 = .ok (.if_icmp .ne 23, 3) := by decide +kernel
theorem dL_act_293 : decode cL_act 293 = .ok (.aload_n 0, 1) := by decide +kernel
theorem dL_act_294 : decode cL_act 294 = .ok (.iload 4, 2) := by decide +kernel
theorem dL_act_296 : decode cL_act 296 = .ok (.iload_n 2, 1) := by decide +kernel
theorem dL_act_297 : decode cL_act 297 = .ok (.iconst 2, 1) := by decide +kernel
theorem dL_act_298 : decode cL_act 298 = .ok (.invokestatic 47, 3) := by decide +kernel
theorem dL_act_301 : decode cL_act 301 = .ok (.ifCond .ne 7, 3) := by decide +kernel
theorem dL_act_304 : decode cL_act 304 = .ok (.iconst 1, 1) := by decide +kernel
theorem dL_act_305 : decode cL_act 305 = .ok (.goto 4, 3) := by decide +kernel
theorem dL_act_308 : decode cL_act 308 = .ok (.iconst 0, 1) := by decide +kernel
theorem dL_act_309 : decode cL_act 309 = .ok (.invokevirtual 77, 3) := by decide +kernel
theorem dL_act_312 : decode cL_act 312 = .ok (.ireturn, 1) := by decide +kernel
theorem dL_act_313 : decode cL_act 313 = .ok (.iload_n 3, 1) := by decide +kernel
theorem dL_act_314 : decode cL_act 314 = .ok (.bipush 13, 2) := by decide +kernel
theorem dL_act_316 : decode cL_act 316 = .ok (.if_icmp .ne 8, 3) := by decide +kernel
theorem dL_act_319 : decode cL_act 319 = .ok (.aload_n 0, 1) := by decide +kernel
theorem dL_act_320 : decode cL_act 320 = .ok (.invokevirtual 81, 3) := by decide +kernel
theorem dL_act_323 : decode cL_act 323 = .ok (.ireturn, 1) := by decide +kernel
theorem dL_act_324 : decode cL_act 324 = .ok (.iload_n 3, 1) := by decide +kernel
theorem dL_act_325 : decode cL_act 325 = .ok (.bipush 14, 2) := by decide +kernel
theorem dL_act_327 : decode cL_act 327 = .ok (.if_icmp .ne 20, 3) := by decide +kernel
theorem dL_act_330 : decode cL_act 330 = .ok (.aload_n 0, 1) := by decide +kernel
theorem dL_act_331 : decode cL_act 331 = .ok (.iload_n 2, 1) := by decide +kernel
theorem dL_act_332 : decode cL_act 332 = .ok (.iconst 2, 1) := by decide +kernel
theorem dL_act_333 : decode cL_act 333 = .ok (.invokestatic 47, 3) := by decide +kernel
theorem dL_act_336 : decode cL_act 336 = .ok (.iload_n 2, 1) := by decide +kernel
theorem dL_act_337 : decode cL_act 337 = .ok (.iconst 1, 1) := by decide +kernel
theorem dL_act_338 : decode cL_act 338 = .ok (.ishr, 1) := by decide +kernel
theorem dL_act_339 : decode cL_act 339 = .ok (.iconst 2, 1) := by decide +kernel
theorem dL_act_340 : decode cL_act 340 = .ok (.invokestatic 47, 3) := by decide +kernel
theorem dL_act_343 : decode cL_act 343 = .ok (.invokevirtual 84, 3) := by decide +kernel
theorem dL_act_346 : decode cL_act 346 = .ok (.ireturn, 1) := by decide +kernel
theorem dL_act_347 : decode cL_act 347 = .ok (.iload_n 2, 1) := by decide +kernel
theorem dL_act_348 : decode cL_act 348 = .ok (.iconst 3, 1) := by decide +kernel
theorem dL_act_349 : decode cL_act 349 = .ok (.invokestatic 47, 3) := by decide +kernel
theorem dL_act_352 : decode cL_act 352 = .ok (.ifCond .ne 25, 3) := by decide +kernel
theorem dL_act_355 : decode cL_act 355 = .ok (.aload_n 0, 1) := by decide +kernel
theorem dL_act_356 : decode cL_act 356 = .ok (.iload_n 2, 1) := by decide +kernel
theorem dL_act_357 : decode cL_act 357 = .ok (.iconst 2, 1) := by decide +kernel
theorem dL_act_358 : decode cL_act 358 = .ok (.ishr, 1) := by decide +kernel
theorem dL_act_359 : decode cL_act 359 = .ok (.iconst 2, 1) := by decide +kernel
theorem dL_act_360 : decode cL_act 360 = .ok (.invokestatic 47, 3) := by decide +kernel
theorem dL_act_363 : decode cL_act 363 = .ok (.ifCond .ne 7, 3) := by decide +kernel
theorem dL_act_366 : decode cL_act 366 = .ok (.iconst 1, 1) := by decide +kernel
theorem dL_act_367 : decode cL_act 367 = .ok (.goto 4, 3) := by decide +kernel
theorem dL_act_370 : decode cL_act 370 = .ok (.iconst 0, 1) := by decide +kernel
theorem dL_act_371 : decode cL_act 371 = .ok (.invokevirtual 87, 3) := by decide +kernel
theorem dL_act_374 : decode cL_act 374 = .ok (.goto 28, 3) := by decide +kernel
theorem dL_act_377 : decode cL_act 377 = .ok (.iload_n 2, 1) := by decide +kernel
theorem dL_act_378 : decode cL_act 378 = .ok (.iconst 3, 1) := by decide +kernel
theorem dL_act_379 : decode cL_act 379 = .ok (.invokestatic 47, 3) := by decide +kernel
theorem dL_act_382 : decode cL_act 382 = .ok (.iconst 1, 1) := by decide +kernel
theorem dL_act_383 : decode cL_act 383 = .ok (.if_icmp .ne 12, 3) := by decide +kernel
theorem dL_act_386 : decode cL_act 386 = .ok (.aload_n 0, 1) := by decide +kernel
theorem dL_act_387 : decode cL_act 387 = .ok (.iload 4, 2) := by decide +kernel
theorem dL_act_389 : decode cL_act 389 = .ok (.invokevirtual 91, 3) := by decide +kernel
theorem dL_act_392 : decode cL_act 392 = .ok (.goto 10, 3) := by decide +kernel
theorem dL_act_395 : decode cL_act 395 = .ok (.aload_n 0, 1) := by decide +kernel
theorem dL_act_396 : decode cL_act 396 = .ok (.iload 5, 2) := by decide +kernel
theorem dL_act_398 : decode cL_act 398 = .ok (.iconst 1, 1) := by decide +kernel
theorem dL_act_399 : decode cL_act 399 = .ok (.invokevirtual 50, 3) := by decide +kernel
theorem dL_act_402 : decode cL_act 402 = .ok (.ireturn, 1) := by decide +kernel
theorem dL_back_0 : decode cL_back 0 = .ok (.iload_n 1, 1) := by decide +kernel
theorem dL_back_1 : decode cL_back 1 = .ok (.aload_n 0, 1) := by decide +kernel
theorem dL_back_2 : decode cL_back 2 = .ok (.iconst 1, 1) := by decide +kernel
theorem dL_back_3 : decode cL_back 3 = .ok (.invokevirtual 9, 3) := by decide +kernel
theorem dL_back_6 : decode cL_back 6 = .ok (.iconst 1, 1) := by decide +kernel
theorem dL_back_7 : decode cL_back 7 = .ok (.iadd, 1) := by decide +kernel
theorem dL_back_8 : decode cL_back 8 = .ok (.invokestatic 47, 3) := by decide +kernel
theorem dL_back_11 : decode cL_back 11 = .ok (.istore_n 3, 1) := by decide +kernel
theorem dL_back_12 : decode cL_back 12 = .ok (.aload_n 0, 1) := by decide +kernel
theorem dL_back_13 : decode cL_back 13 = .ok (.iload_n 3, 1) := by decide +kernel
theorem dL_back_14 : decode cL_back 14 = .ok (.iconst 2, 1) := by decide +kernel
theorem dL_back_15 : decode cL_back 15 = .ok (.invokevirtual 19, 3) := by decide +kernel
theorem dL_back_18 : decode cL_back 18 = .ok (.ifCond .lt 9, 3) := by decide +kernel
theorem dL_back_21 : decode cL_back 21 = .ok (.iload_n 3, 1) := by decide +kernel
theorem dL_back_22 : decode cL_back 22 = .ok (.bipush 59, 2) := by decide +kernel
theorem dL_back_24 : decode cL_back 24 = .ok (.if_icmp .le 5, 3) := by decide +kernel
theorem dL_back_27 : decode cL_back 27 = .ok (.iconst 1, 1) := by decide +kernel
theorem dL_back_28 : decode cL_back 28 = .ok (.ireturn, 1) := by decide +kernel
theorem dL_back_29 : decode cL_back 29 = .ok (.aload_n 0, 1) := by decide +kernel
theorem dL_back_30 : decode cL_back 30 = .ok (.iload_n 3, 1) := by decide +kernel
theorem dL_back_31 : decode cL_back 31 = .ok (.iconst 0, 1) := by decide +kernel
theorem dL_back_32 : decode cL_back 32 = .ok (.invokevirtual 19, 3) := by decide +kernel
theorem dL_back_35 : decode cL_back 35 = .ok (.istore 4, 2) := by decide +kernel
theorem dL_back_37 : decode cL_back 37 = .ok (.aload_n 0, 1) := by decide +kernel
theorem dL_back_38 : decode cL_back 38 = .ok (.iload_n 3, 1) := by decide +kernel
theorem dL_back_39 : decode cL_back 39 = .ok (.iconst 1, 1) := by decide +kernel
theorem dL_back_40 : decode cL_back 40 = .ok (.invokevirtual 19, 3) := by decide +kernel
theorem dL_back_43 : decode cL_back 43 = .ok (.istore 5, 2) := by decide +kernel
theorem dL_back_45 : decode cL_back 45 = .ok (.aload_n 0, 1) := by decide +kernel
theorem dL_back_46 : decode cL_back 46 = .ok (.iload_n 3, 1) := by decide +kernel
theorem dL_back_47 : decode cL_back 47 = .ok (.iconst 2, 1) := by decide +kernel
theorem dL_back_48 : decode cL_back 48 = .ok (.invokevirtual 19, 3) := by decide +kernel
theorem dL_back_51 : decode cL_back 51 = .ok (.istore 6, 2) := by decide +kernel
theorem dL_back_53 : decode cL_back 53 = .ok (.aload_n 0, 1) := by decide +kernel
theorem dL_back_54 : decode cL_back 54 = .ok (.iload_n 3, 1) := by decide +kernel
theorem dL_back_55 : decode cL_back 55 = .ok (.iconst 5, 1) := by decide +kernel
theorem dL_back_56 : decode cL_back 56 = .ok (.invokevirtual 19, 3) := by decide +kernel
theorem dL_back_59 : decode cL_back 59 = .ok (.istore 7, 2) := by decide +kernel
theorem dL_back_61 : decode cL_back 61 = .ok (.aload_n 0, 1) := by decide +kernel
theorem dL_back_62 : decode cL_back 62 = .ok (.iload_n 3, 1) := by decide +kernel
theorem dL_back_63 : decode cL_back 63 = .ok (.bipush 6, 2) := by decide +kernel
theorem dL_back_65 : decode cL_back 65 = .ok (.invokevirtual 19, 3) := by decide +kernel
theorem dL_back_68 : decode cL_back 68 = .ok (.istore 8, 2) := by decide +kernel
theorem dL_back_70 : decode cL_back 70 = .ok (.aload_n 0, 1) := by decide +kernel
theorem dL_back_71 : decode cL_back 71 = .ok (.iload_n 3, 1) := by decide +kernel
theorem dL_back_72 : decode cL_back 72 = .ok (.invokevirtual 94, 3) := by decide +kernel
theorem dL_back_75 : decode cL_back 75 = .ok (.istore 9, 2) := by decide +kernel
theorem dL_back_77 : decode cL_back 77 = .ok (.iload 9, 2) := by decide +kernel
theorem dL_back_79 : decode cL_back 79 = .ok (.sipush (-1005), 3) := by decide +kernel
theorem dL_back_82 : decode cL_back 82 = .ok (.if_icmp .ne 15, 3) := by decide +kernel
theorem dL_back_85 : decode cL_back 85 = .ok (.iload 5, 2) := by decide +kernel
theorem dL_back_87 : decode cL_back 87 = .ok (.iload 4, 2) := by decide +kernel
theorem dL_back_89 : decode cL_back 89 = .ok (.iconst 1, 1) := by decide +kernel
theorem dL_back_90 : decode cL_back 90 = .ok (.iadd, 1) := by decide +kernel
theorem dL_back_91 : decode cL_back 91 = .ok (.if_icmp .eq 22, 3) := by decide +kernel
theorem dL_back_94 : decode cL_back 94 = .ok (.goto 17, 3) := by decide +kernel
theorem dL_back_97 : decode cL_back 97 = .ok (.iload 9, 2) := by decide +kernel
theorem dL_back_99 : decode cL_back 99 = .ok (.iload 4, 2) := by decide +kernel
theorem dL_back_101 : decode cL_back 101 = .ok (.if_icmp .le 10, 3) := by decide +kernel
theorem dL_back_104 : decode cL_back 104 = .ok (.iload 9, 2) := by decide +kernel
theorem dL_back_106 : decode cL_back 106 = .ok (.iload 5, 2) := by decide +kernel
theorem dL_back_108 : decode cL_back 108 = .ok (.if_icmp .lt 5, 3) := by decide +kernel
theorem dL_back_111 : decode cL_back 111 = .ok (.iconst 0, 1) := by decide +kernel
theorem dL_back_112 : decode cL_back 112 = .ok (.ireturn, 1) := by decide +kernel
theorem dL_back_113 : decode cL_back 113 = .ok (.iload 9, 2) := by decide +kernel
theorem dL_back_115 : decode cL_back 115 = .ok (.ifCond .lt 142, 3) := by decide +kernel
theorem dL_back_118 : decode cL_back 118 = .ok (.aload_n 0, 1) := by decide +kernel
theorem dL_back_119 : decode cL_back 119 = .ok (.iload_n 3, 1) := by decide +kernel
theorem dL_back_120 : decode cL_back 120 = .ok (.iload 9, 2) := by decide +kernel
theorem dL_back_122 : decode cL_back 122 = .ok (.invokevirtual 65, 3) := by decide +kernel
theorem dL_back_125 : decode cL_back 125 = .ok (.istore 10, 2) := by decide +kernel
theorem dL_back_127 : decode cL_back 127 = .ok (.iload 10, 2) := by decide +kernel
theorem dL_back_129 : decode cL_back 129 = .ok (.ifCond .lt 128, 3) := by decide +kernel
theorem dL_back_132 : decode cL_back 132 = .ok (.aload_n 0, 1) := by decide +kernel
theorem dL_back_133 : decode cL_back 133 = .ok (.iload_n 3, 1) := by decide +kernel
theorem dL_back_134 : decode cL_back 134 = .ok (.iconst 1, 1) := by decide +kernel
theorem dL_back_135 : decode cL_back 135 = .ok (.invokevirtual 19, 3) := by decide +kernel
theorem dL_back_138 : decode cL_back 138 = .ok (.iload 9, 2) := by decide +kernel
theorem dL_back_140 : decode cL_back 140 = .ok (.if_icmp .ne 46, 3) := by decide +kernel
theorem dL_back_143 : decode cL_back 143 = .ok (.aload_n 0, 1) := by decide +kernel
theorem dL_back_144 : decode cL_back 144 = .ok (.iload 10, 2) := by decide +kernel
theorem dL_back_146 : decode cL_back 146 = .ok (.iconst 0, 1) := by decide +kernel
theorem dL_back_147 : decode cL_back 147 = .ok (.invokevirtual 19, 3) := by decide +kernel
theorem dL_back_150 : decode cL_back 150 = .ok (.iload 9, 2) := by decide +kernel
theorem dL_back_152 : decode cL_back 152 = .ok (.if_icmp .ne 34, 3) := by decide +kernel
theorem dL_back_155 : decode cL_back 155 = .ok (.aload_n 0, 1) := by decide +kernel
theorem dL_back_156 : decode cL_back 156 = .ok (.iload 10, 2) := by decide +kernel
theorem dL_back_158 : decode cL_back 158 = .ok (.iconst 1, 1) := by decide +kernel
theorem dL_back_159 : decode cL_back 159 = .ok (.invokevirtual 19, 3) := by decide +kernel
theorem dL_back_162 : decode cL_back 162 = .ok (.iload 5, 2) := by decide +kernel
theorem dL_back_164 : decode cL_back 164 = .ok (.if_icmp .ne 22, 3) := by decide +kernel
theorem dL_back_167 : decode cL_back 167 = .ok (.aload_n 0, 1) := by decide +kernel
theorem dL_back_168 : decode cL_back 168 = .ok (.iload_n 3, 1) := by decide +kernel
theorem dL_back_169 : decode cL_back 169 = .ok (.iconst 2, 1) := by decide +kernel
theorem dL_back_170 : decode cL_back 170 = .ok (.invokevirtual 19, 3) := by decide +kernel
theorem dL_back_173 : decode cL_back 173 = .ok (.aload_n 0, 1) := by decide +kernel
theorem dL_back_174 : decode cL_back 174 = .ok (.iload 10, 2) := by decide +kernel
theorem dL_back_176 : decode cL_back 176 = .ok (.iconst 2, 1) := by decide +kernel
theorem dL_back_177 : decode cL_back 177 = .ok (.invokevirtual 19, 3) := by decide +kernel
theorem dL_back_180 : decode cL_back 180 = .ok (.iadd, 1) := by decide +kernel
theorem dL_back_181 : decode cL_back 181 = .ok (.iload 6, 2) := by decide +kernel
theorem dL_back_183 : decode cL_back 183 = .ok (.if_icmp .eq 5, 3) := by decide +kernel
theorem dL_back_186 : decode cL_back 186 = .ok (.iconst 0, 1) := by decide +kernel
theorem dL_back_187 : decode cL_back 187 = .ok (.ireturn, 1) := by decide +kernel
theorem dL_back_188 : decode cL_back 188 = .ok (.aload_n 0, 1) := by decide +kernel
theorem dL_back_189 : decode cL_back 189 = .ok (.iload 10, 2) := by decide +kernel
theorem dL_back_191 : decode cL_back 191 = .ok (.iload_n 3, 1) := by decide +kernel
theorem dL_back_192 : decode cL_back 192 = .ok (.invokevirtual 68, 3) := by decide +kernel
theorem dL_back_195 : decode cL_back 195 = .ok (.iload 6, 2) := by decide +kernel
theorem dL_back_197 : decode cL_back 197 = .ok (.if_icmp .ne 48, 3) := by decide +kernel
theorem dL_back_200 : decode cL_back 200 = .ok (.aload_n 0, 1) := by decide +kernel
theorem dL_back_201 : decode cL_back 201 = .ok (.iload_n 3, 1) := by decide +kernel
theorem dL_back_202 : decode cL_back 202 = .ok (.iconst 0, 1) := by decide +kernel
theorem dL_back_203 : decode cL_back 203 = .ok (.invokevirtual 19, 3) := by decide +kernel
theorem dL_back_206 : decode cL_back 206 = .ok (.iload 4, 2) := by decide +kernel
theorem dL_back_208 : decode cL_back 208 = .ok (.if_icmp .ne 37, 3) := by decide +kernel
theorem dL_back_211 : decode cL_back 211 = .ok (.aload_n 0, 1) := by decide +kernel
theorem dL_back_212 : decode cL_back 212 = .ok (.iload_n 3, 1) := by decide +kernel
theorem dL_back_213 : decode cL_back 213 = .ok (.iconst 1, 1) := by decide +kernel
theorem dL_back_214 : decode cL_back 214 = .ok (.invokevirtual 19, 3) := by decide +kernel
theorem dL_back_217 : decode cL_back 217 = .ok (.iload 5, 2) := by decide +kernel
theorem dL_back_219 : decode cL_back 219 = .ok (.if_icmp .ne 26, 3) := by decide +kernel
theorem dL_back_222 : decode cL_back 222 = .ok (.aload_n 0, 1) := by decide +kernel
theorem dL_back_223 : decode cL_back 223 = .ok (.iload_n 3, 1) := by decide +kernel
theorem dL_back_224 : decode cL_back 224 = .ok (.iconst 5, 1) := by decide +kernel
theorem dL_back_225 : decode cL_back 225 = .ok (.invokevirtual 19, 3) := by decide +kernel
theorem dL_back_228 : decode cL_back 228 = .ok (.iload 7, 2) := by decide +kernel
theorem dL_back_230 : decode cL_back 230 = .ok (.if_icmp .ne 15, 3) := by decide +kernel
theorem dL_back_233 : decode cL_back 233 = .ok (.aload_n 0, 1) := by decide +kernel
theorem dL_back_234 : decode cL_back 234 = .ok (.iload_n 3, 1) := by decide +kernel
theorem dL_back_235 : decode cL_back 235 = .ok (.bipush 6, 2) := by decide +kernel
theorem dL_back_237 : decode cL_back 237 = .ok (.invokevirtual 19, 3) := by decide +kernel
theorem dL_back_240 : decode cL_back 240 = .ok (.iload 8, 2) := by decide +kernel
theorem dL_back_242 : decode cL_back 242 = .ok (.if_icmp .eq 5, 3) := by decide +kernel
theorem dL_back_245 : decode cL_back 245 = .ok (.iconst 0, 1) := by decide +kernel
theorem dL_back_246 : decode cL_back 246 = .ok (.ireturn, 1) := by decide +kernel
theorem dL_back_247 : decode cL_back 247 = .ok (.aload_n 0, 1) := by decide +kernel
theorem dL_back_248 : decode cL_back 248 = .ok (.invokevirtual 97, 3) := by decide +kernel
theorem dL_back_251 : decode cL_back 251 = .ok (.pop, 1) := by decide +kernel
theorem dL_back_252 : decode cL_back 252 = .ok (.aload_n 0, 1) := by decide +kernel
theorem dL_back_253 : decode cL_back 253 = .ok (.invokevirtual 97, 3) := by decide +kernel
theorem dL_back_256 : decode cL_back 256 = .ok (.pop, 1) := by decide +kernel
theorem dL_back_257 : decode cL_back 257 = .ok (.aload_n 0, 1) := by decide +kernel
theorem dL_back_258 : decode cL_back 258 = .ok (.iconst 3, 1) := by decide +kernel
theorem dL_back_259 : decode cL_back 259 = .ok (.invokevirtual 9, 3) := by decide +kernel
theorem dL_back_262 : decode cL_back 262 = .ok (.istore 10, 2) := by decide +kernel
theorem dL_back_264 : decode cL_back 264 = .ok (.aload_n 0, 1) := by decide +kernel
theorem dL_back_265 : decode cL_back 265 = .ok (.iload_n 3, 1) := by decide +kernel
theorem dL_back_266 : decode cL_back 266 = .ok (.invokevirtual 100, 3) := by decide +kernel
theorem dL_back_269 : decode cL_back 269 = .ok (.istore 11, 2) := by decide +kernel
theorem dL_back_271 : decode cL_back 271 = .ok (.iload 6, 2) := by decide +kernel
theorem dL_back_273 : decode cL_back 273 = .ok (.bipush 20, 2) := by decide +kernel
theorem dL_back_275 : decode cL_back 275 = .ok (.if_icmp .gt 128, 3) := by decide +kernel
theorem dL_back_278 : decode cL_back 278 = .ok (.aload_n 0, 1) := by decide +kernel
theorem dL_back_279 : decode cL_back 279 = .ok (.aload_n 0, 1) := by decide +kernel
theorem dL_back_280 : decode cL_back 280 = .ok (.iload_n 3, 1) := by decide +kernel
theorem dL_back_281 : decode cL_back 281 = .ok (.iconst 0, 1) := by decide +kernel
theorem dL_back_282 : decode cL_back 282 = .ok (.invokevirtual 22, 3) := by decide +kernel
theorem dL_back_285 : decode cL_back 285 = .ok (.iconst 0, 1) := by decide +kernel
theorem dL_back_286 : decode cL_back 286 = .ok (.invokevirtual 15, 3) := by decide +kernel
theorem dL_back_289 : decode cL_back 289 = .ok (.istore 12, 2) := by decide +kernel
theorem dL_back_291 : decode cL_back 291 = .ok (.aload_n 0, 1) := by decide +kernel
theorem dL_back_292 : decode cL_back 292 = .ok (.iload_n 3, 1) := by decide +kernel
theorem dL_back_293 : decode cL_back 293 = .ok (.iconst 1, 1) := by decide +kernel
theorem dL_back_294 : decode cL_back 294 = .ok (.invokevirtual 77, 3) := by decide +kernel
theorem dL_back_297 : decode cL_back 297 = .ok (.iload 11, 2) := by decide +kernel
theorem dL_back_299 : decode cL_back 299 = .ok (.ifCond .le 9, 3) := by decide +kernel
theorem dL_back_302 : decode cL_back 302 = .ok (.sipush (-1004), 3) := by decide +kernel
theorem dL_back_305 : decode cL_back 305 = .ok (.goto 5, 3) := by decide +kernel
theorem dL_back_308 : decode cL_back 308 = .ok (.iload 10, 2) := by decide +kernel
theorem dL_back_310 : decode cL_back 310 = .ok (.if_icmp .ne 19, 3) := by decide +kernel
theorem dL_back_313 : decode cL_back 313 = .ok (.iload 11, 2) := by decide +kernel
theorem dL_back_315 : decode cL_back 315 = .ok (.ifCond .le 16, 3) := by decide +kernel
theorem dL_back_318 : decode cL_back 318 = .ok (.aload_n 0, 1) := by decide +kernel
theorem dL_back_319 : decode cL_back 319 = .ok (.iload_n 3, 1) := by decide +kernel
theorem dL_back_320 : decode cL_back 320 = .ok (.iconst 0, 1) := by decide +kernel
theorem dL_back_321 : decode cL_back 321 = .ok (.invokevirtual 77, 3) := by decide +kernel
theorem dL_back_324 : decode cL_back 324 = .ok (.iload 10, 2) := by decide +kernel
theorem dL_back_326 : decode cL_back 326 = .ok (.if_icmp .eq 5, 3) := by decide +kernel
theorem dL_back_329 : decode cL_back 329 = .ok (.iconst 0, 1) := by decide +kernel
theorem dL_back_330 : decode cL_back 330 = .ok (.ireturn, 1) := by decide +kernel
theorem dL_back_331 : decode cL_back 331 = .ok (.aload_n 0, 1) := by decide +kernel
theorem dL_back_332 : decode cL_back 332 = .ok (.iconst 3, 1) := by decide +kernel
theorem dL_back_333 : decode cL_back 333 = .ok (.invokevirtual 9, 3) := by decide +kernel
theorem dL_back_336 : decode cL_back 336 = .ok (.iload 6, 2) := by decide +kernel
theorem dL_back_338 : decode cL_back 338 = .ok (.if_icmp .ne 53, 3) := by decide +kernel
theorem dL_back_341 : decode cL_back 341 = .ok (.aload_n 0, 1) := by decide +kernel
theorem dL_back_342 : decode cL_back 342 = .ok (.iload_n 3, 1) := by decide +kernel
theorem dL_back_343 : decode cL_back 343 = .ok (.bipush 6, 2) := by decide +kernel
theorem dL_back_345 : decode cL_back 345 = .ok (.invokevirtual 19, 3) := by decide +kernel
theorem dL_back_348 : decode cL_back 348 = .ok (.iload 11, 2) := by decide +kernel
theorem dL_back_350 : decode cL_back 350 = .ok (.if_icmp .ne 41, 3) := by decide +kernel
theorem dL_back_353 : decode cL_back 353 = .ok (.aload_n 0, 1) := by decide +kernel
theorem dL_back_354 : decode cL_back 354 = .ok (.iload_n 3, 1) := by decide +kernel
theorem dL_back_355 : decode cL_back 355 = .ok (.iconst 0, 1) := by decide +kernel
theorem dL_back_356 : decode cL_back 356 = .ok (.invokevirtual 77, 3) := by decide +kernel
theorem dL_back_359 : decode cL_back 359 = .ok (.iload 6, 2) := by decide +kernel
theorem dL_back_361 : decode cL_back 361 = .ok (.if_icmp .ne 30, 3) := by decide +kernel
theorem dL_back_364 : decode cL_back 364 = .ok (.aload_n 0, 1) := by decide +kernel
theorem dL_back_365 : decode cL_back 365 = .ok (.iload_n 3, 1) := by decide +kernel
theorem dL_back_366 : decode cL_back 366 = .ok (.iconst 5, 1) := by decide +kernel
theorem dL_back_367 : decode cL_back 367 = .ok (.invokevirtual 19, 3) := by decide +kernel
theorem dL_back_370 : decode cL_back 370 = .ok (.iload 7, 2) := by decide +kernel
theorem dL_back_372 : decode cL_back 372 = .ok (.if_icmp .ne 19, 3) := by decide +kernel
theorem dL_back_375 : decode cL_back 375 = .ok (.aload_n 0, 1) := by decide +kernel
theorem dL_back_376 : decode cL_back 376 = .ok (.aload_n 0, 1) := by decide +kernel
theorem dL_back_377 : decode cL_back 377 = .ok (.iload_n 3, 1) := by decide +kernel
theorem dL_back_378 : decode cL_back 378 = .ok (.iconst 0, 1) := by decide +kernel
theorem dL_back_379 : decode cL_back 379 = .ok (.invokevirtual 22, 3) := by decide +kernel
theorem dL_back_382 : decode cL_back 382 = .ok (.iconst 0, 1) := by decide +kernel
theorem dL_back_383 : decode cL_back 383 = .ok (.invokevirtual 15, 3) := by decide +kernel
theorem dL_back_386 : decode cL_back 386 = .ok (.iload 12, 2) := by decide +kernel
theorem dL_back_388 : decode cL_back 388 = .ok (.if_icmp .eq 5, 3) := by decide +kernel
theorem dL_back_391 : decode cL_back 391 = .ok (.iconst 0, 1) := by decide +kernel
theorem dL_back_392 : decode cL_back 392 = .ok (.ireturn, 1) := by decide +kernel
theorem dL_back_393 : decode cL_back 393 = .ok (.aload_n 0, 1) := by decide +kernel
theorem dL_back_394 : decode cL_back 394 = .ok (.invokevirtual 97, 3) := by decide +kernel
theorem dL_back_397 : decode cL_back 397 = .ok (.pop, 1) := by decide +kernel
theorem dL_back_398 : decode cL_back 398 = .ok (.aload_n 0, 1) := by decide +kernel
theorem dL_back_399 : decode cL_back 399 = .ok (.invokevirtual 97, 3) := by decide +kernel
theorem dL_back_402 : decode cL_back 402 = .ok (.pop, 1) := by decide +kernel
theorem dL_back_403 : decode cL_back 403 = .ok (.iload 6, 2) := by decide +kernel
theorem dL_back_405 : decode cL_back 405 = .ok (.bipush 20, 2) := by decide +kernel
theorem dL_back_407 : decode cL_back 407 = .ok (.if_icmp .gt 111, 3) := by decide +kernel
theorem dL_back_410 : decode cL_back 410 = .ok (.iload 10, 2) := by decide +kernel
theorem dL_back_412 : decode cL_back 412 = .ok (.ifCond .ne 106, 3) := by decide +kernel
theorem dL_back_415 : decode cL_back 415 = .ok (.iload 8, 2) := by decide +kernel
theorem dL_back_417 : decode cL_back 417 = .ok (.ifCond .ne 101, 3) := by decide +kernel
theorem dL_back_420 : decode cL_back 420 = .ok (.aload_n 0, 1) := by decide +kernel
theorem dL_back_421 : decode cL_back 421 = .ok (.iload_n 3, 1) := by decide +kernel
theorem dL_back_422 : decode cL_back 422 = .ok (.invokevirtual 71, 3) := by decide +kernel
theorem dL_back_425 : decode cL_back 425 = .ok (.iload 6, 2) := by decide +kernel
theorem dL_back_427 : decode cL_back 427 = .ok (.if_icmp .ne 25, 3) := by decide +kernel
theorem dL_back_430 : decode cL_back 430 = .ok (.aload_n 0, 1) := by decide +kernel
theorem dL_back_431 : decode cL_back 431 = .ok (.iconst 3, 1) := by decide +kernel
theorem dL_back_432 : decode cL_back 432 = .ok (.invokevirtual 9, 3) := by decide +kernel
theorem dL_back_435 : decode cL_back 435 = .ok (.iload 6, 2) := by decide +kernel
theorem dL_back_437 : decode cL_back 437 = .ok (.if_icmp .ne 15, 3) := by decide +kernel
theorem dL_back_440 : decode cL_back 440 = .ok (.aload_n 0, 1) := by decide +kernel
theorem dL_back_441 : decode cL_back 441 = .ok (.iload_n 3, 1) := by decide +kernel
theorem dL_back_442 : decode cL_back 442 = .ok (.iconst 0, 1) := by decide +kernel
theorem dL_back_443 : decode cL_back 443 = .ok (.invokevirtual 19, 3) := by decide +kernel
theorem dL_back_446 : decode cL_back 446 = .ok (.sipush (-1001), 3) := by decide +kernel
theorem dL_back_449 : decode cL_back 449 = .ok (.if_icmp .eq 5, 3) := by decide +kernel
theorem dL_back_452 : decode cL_back 452 = .ok (.iconst 0, 1) := by decide +kernel
theorem dL_back_453 : decode cL_back 453 = .ok (.ireturn, 1) := by decide +kernel
theorem dL_back_454 : decode cL_back 454 = .ok (.aload_n 0, 1) := by decide +kernel
theorem dL_back_455 : decode cL_back 455 = .ok (.iload 4, 2) := by decide +kernel
theorem dL_back_457 : decode cL_back 457 = .ok (.iload 5, 2) := by decide +kernel
theorem dL_back_459 : decode cL_back 459 = .ok (.invokevirtual 74, 3) := by decide +kernel
theorem dL_back_462 : decode cL_back 462 = .ok (.istore 12, 2) := by decide +kernel
theorem dL_back_464 : decode cL_back 464 = .ok (.iload 12, 2) := by decide +kernel
theorem dL_back_466 : decode cL_back 466 = .ok (.ifCond .lt 37, 3) := by decide +kernel
theorem dL_back_469 : decode cL_back 469 = .ok (.aload_n 0, 1) := by decide +kernel
theorem dL_back_470 : decode cL_back 470 = .ok (.iload 12, 2) := by decide +kernel
theorem dL_back_472 : decode cL_back 472 = .ok (.iconst 2, 1) := by decide +kernel
theorem dL_back_473 : decode cL_back 473 = .ok (.invokevirtual 19, 3) := by decide +kernel
theorem dL_back_476 : decode cL_back 476 = .ok (.iload 6, 2) := by decide +kernel
theorem dL_back_478 : decode cL_back 478 = .ok (.if_icmp .ne 23, 3) := by decide +kernel
theorem dL_back_481 : decode cL_back 481 = .ok (.aload_n 0, 1) := by decide +kernel
theorem dL_back_482 : decode cL_back 482 = .ok (.iload 12, 2) := by decide +kernel
theorem dL_back_484 : decode cL_back 484 = .ok (.iconst 5, 1) := by decide +kernel
theorem dL_back_485 : decode cL_back 485 = .ok (.invokevirtual 19, 3) := by decide +kernel
theorem dL_back_488 : decode cL_back 488 = .ok (.iload 7, 2) := by decide +kernel
theorem dL_back_490 : decode cL_back 490 = .ok (.if_icmp .ne 11, 3) := by decide +kernel
theorem dL_back_493 : decode cL_back 493 = .ok (.aload_n 0, 1) := by decide +kernel
theorem dL_back_494 : decode cL_back 494 = .ok (.iconst 3, 1) := by decide +kernel
theorem dL_back_495 : decode cL_back 495 = .ok (.invokevirtual 9, 3) := by decide +kernel
theorem dL_back_498 : decode cL_back 498 = .ok (.ifCond .eq 5, 3) := by decide +kernel
theorem dL_back_501 : decode cL_back 501 = .ok (.iconst 0, 1) := by decide +kernel
theorem dL_back_502 : decode cL_back 502 = .ok (.ireturn, 1) := by decide +kernel
theorem dL_back_503 : decode cL_back 503 = .ok (.aload_n 0, 1) := by decide +kernel
theorem dL_back_504 : decode cL_back 504 = .ok (.invokevirtual 97, 3) := by decide +kernel
theorem dL_back_507 : decode cL_back 507 = .ok (.pop, 1) := by decide +kernel
theorem dL_back_508 : decode cL_back 508 = .ok (.iload 12, 2) := by decide +kernel
theorem dL_back_510 : decode cL_back 510 = .ok (.ifCond .lt 8, 3) := by decide +kernel
theorem dL_back_513 : decode cL_back 513 = .ok (.aload_n 0, 1) := by decide +kernel
theorem dL_back_514 : decode cL_back 514 = .ok (.invokevirtual 97, 3) := by decide +kernel
theorem dL_back_517 : decode cL_back 517 = .ok (.pop, 1) := by decide +kernel
theorem dL_back_518 : decode cL_back 518 = .ok (.aload_n 0, 1) := by decide +kernel
theorem dL_back_519 : decode cL_back 519 = .ok (.iload_n 3, 1) := by decide +kernel
theorem dL_back_520 : decode cL_back 520 = .ok (.iconst 0, 1) := by decide +kernel
theorem dL_back_521 : decode cL_back 521 = .ok (.invokevirtual 19, 3) := by decide +kernel
theorem dL_back_524 : decode cL_back 524 = .ok (.iload 4, 2) := by decide +kernel
theorem dL_back_526 : decode cL_back 526 = .ok (.if_icmp .ne 40, 3) := by decide +kernel
theorem dL_back_529 : decode cL_back 529 = .ok (.aload_n 0, 1) := by decide +kernel
theorem dL_back_530 : decode cL_back 530 = .ok (.iload_n 3, 1) := by decide +kernel
theorem dL_back_531 : decode cL_back 531 = .ok (.iconst 1, 1) := by decide +kernel
theorem dL_back_532 : decode cL_back 532 = .ok (.invokevirtual 19, 3) := by decide +kernel
theorem dL_back_535 : decode cL_back 535 = .ok (.iload 5, 2) := by decide +kernel
theorem dL_back_537 : decode cL_back 537 = .ok (.if_icmp .ne 29, 3) := by decide +kernel
theorem dL_back_540 : decode cL_back 540 = .ok (.aload_n 0, 1) := by decide +kernel
theorem dL_back_541 : decode cL_back 541 = .ok (.iload_n 3, 1) := by decide +kernel
theorem dL_back_542 : decode cL_back 542 = .ok (.iconst 2, 1) := by decide +kernel
theorem dL_back_543 : decode cL_back 543 = .ok (.invokevirtual 19, 3) := by decide +kernel
theorem dL_back_546 : decode cL_back 546 = .ok (.iload 6, 2) := by decide +kernel
theorem dL_back_548 : decode cL_back 548 = .ok (.if_icmp .ne 18, 3) := by decide +kernel
theorem dL_back_551 : decode cL_back 551 = .ok (.aload_n 0, 1) := by decide +kernel
theorem dL_back_552 : decode cL_back 552 = .ok (.iload_n 3, 1) := by decide +kernel
theorem dL_back_553 : decode cL_back 553 = .ok (.iconst 5, 1) := by decide +kernel
theorem dL_back_554 : decode cL_back 554 = .ok (.invokevirtual 19, 3) := by decide +kernel
theorem dL_back_557 : decode cL_back 557 = .ok (.iload 7, 2) := by decide +kernel
theorem dL_back_559 : decode cL_back 559 = .ok (.if_icmp .ne 7, 3) := by decide +kernel
theorem dL_back_562 : decode cL_back 562 = .ok (.iconst 1, 1) := by decide +kernel
theorem dL_back_563 : decode cL_back 563 = .ok (.goto 4, 3) := by decide +kernel
theorem dL_back_566 : decode cL_back 566 = .ok (.iconst 0, 1) := by decide +kernel
theorem dL_back_567 : decode cL_back 567 = .ok (.ireturn, 1) := by decide +kernel
theorem dL_turned_0 : decode cL_turned 0 = .ok (.bipush 64, 2) := by decide +kernel
theorem dL_turned_2 : decode cL_turned 2 = .ok (.newarray .int, 2) := by decide +kernel
theorem dL_turned_4 : decode cL_turned 4 = .ok (.astore_n 2, 1) := by decide +kernel
theorem dL_turned_5 : decode cL_turned 5 = .ok (.iload_n 1, 1) := by decide +kernel
theorem dL_turned_6 : decode cL_turned 6 = .ok (.iconst 4, 1) := by decide +kernel
theorem dL_turned_7 : decode cL_turned 7 = .ok (.invokestatic 47, 3) := by decide +kernel
theorem dL_turned_10 : decode cL_turned 10 = .ok (.istore_n 3, 1) := by decide +kernel
theorem dL_turned_11 : decode cL_turned 11 = .ok (.iconst 0, 1) := by decide +kernel
theorem dL_turned_12 : decode cL_turned 12 = .ok (.istore 4, 2) := by decide +kernel
theorem dL_turned_14 : decode cL_turned 14 = .ok (.iload 4, 2) := by decide +kernel
theorem dL_turned_16 : decode cL_turned 16 = .ok (.iconst 2, 1) := by decide +kernel
theorem dL_turned_17 : decode cL_turned 17 = .ok (.if_icmp .ge 439, 3) := by decide +kernel
theorem dL_turned_20 : decode cL_turned 20 = .ok (.aload_n 0, 1) := by decide +kernel
theorem dL_turned_21 : decode cL_turned 21 = .ok (.invokevirtual 103, 3) := by decide +kernel
theorem dL_turned_24 : decode cL_turned 24 = .ok (.pop, 1) := by decide +kernel
theorem dL_turned_25 : decode cL_turned 25 = .ok (.iload 4, 2) := by decide +kernel
theorem dL_turned_27 : decode cL_turned 27 = .ok (.iconst 1, 1) := by decide +kernel
theorem dL_turned_28 : decode cL_turned 28 = .ok (.if_icmp .ne 17, 3) := by decide +kernel
theorem dL_turned_31 : decode cL_turned 31 = .ok (.aload_n 0, 1) := by decide +kernel
theorem dL_turned_32 : decode cL_turned 32 = .ok (.bipush 33, 2) := by decide +kernel
theorem dL_turned_34 : decode cL_turned 34 = .ok (.invokevirtual 106, 3) := by decide +kernel
theorem dL_turned_37 : decode cL_turned 37 = .ok (.pop, 1) := by decide +kernel
theorem dL_turned_38 : decode cL_turned 38 = .ok (.aload_n 0, 1) := by decide +kernel
theorem dL_turned_39 : decode cL_turned 39 = .ok (.bipush 40, 2) := by decide +kernel
theorem dL_turned_41 : decode cL_turned 41 = .ok (.invokevirtual 106, 3) := by decide +kernel
theorem dL_turned_44 : decode cL_turned 44 = .ok (.pop, 1) := by decide +kernel
theorem dL_turned_45 : decode cL_turned 45 = .ok (.aload_n 0, 1) := by decide +kernel
theorem dL_turned_46 : decode cL_turned 46 = .ok (.iload_n 1, 1) := by decide +kernel
theorem dL_turned_47 : decode cL_turned 47 = .ok (.iconst 2, 1) := by decide +kernel
theorem dL_turned_48 : decode cL_turned 48 = .ok (.ishr, 1) := by decide +kernel
theorem dL_turned_49 : decode cL_turned 49 = .ok (.iconst 2, 1) := by decide +kernel
theorem dL_turned_50 : decode cL_turned 50 = .ok (.invokestatic 47, 3) := by decide +kernel
theorem dL_turned_53 : decode cL_turned 53 = .ok (.ifCond .ne 8, 3) := by decide +kernel
theorem dL_turned_56 : decode cL_turned 56 = .ok (.bipush 107, 2) := by decide +kernel
theorem dL_turned_58 : decode cL_turned 58 = .ok (.goto 5, 3) := by decide +kernel
theorem dL_turned_61 : decode cL_turned 61 = .ok (.bipush 118, 2) := by decide +kernel
theorem dL_turned_63 : decode cL_turned 63 = .ok (.invokevirtual 106, 3) := by decide +kernel
theorem dL_turned_66 : decode cL_turned 66 = .ok (.pop, 1) := by decide +kernel
theorem dL_turned_67 : decode cL_turned 67 = .ok (.aload_n 0, 1) := by decide +kernel
theorem dL_turned_68 : decode cL_turned 68 = .ok (.iload_n 3, 1) := by decide +kernel
theorem dL_turned_69 : decode cL_turned 69 = .ok (.ifCond .ne 8, 3) := by decide +kernel
theorem dL_turned_72 : decode cL_turned 72 = .ok (.bipush 60, 2) := by decide +kernel
theorem dL_turned_74 : decode cL_turned 74 = .ok (.goto 25, 3) := by decide +kernel
theorem dL_turned_77 : decode cL_turned 77 = .ok (.iload_n 3, 1) := by decide +kernel
theorem dL_turned_78 : decode cL_turned 78 = .ok (.iconst 1, 1) := by decide +kernel
theorem dL_turned_79 : decode cL_turned 79 = .ok (.if_icmp .ne 8, 3) := by decide +kernel
theorem dL_turned_82 : decode cL_turned 82 = .ok (.bipush 62, 2) := by decide +kernel
theorem dL_turned_84 : decode cL_turned 84 = .ok (.goto 15, 3) := by decide +kernel
theorem dL_turned_87 : decode cL_turned 87 = .ok (.iload_n 3, 1) := by decide +kernel
theorem dL_turned_88 : decode cL_turned 88 = .ok (.iconst 2, 1) := by decide +kernel
theorem dL_turned_89 : decode cL_turned 89 = .ok (.if_icmp .ne 8, 3) := by decide +kernel
theorem dL_turned_92 : decode cL_turned 92 = .ok (.bipush 61, 2) := by decide +kernel
theorem dL_turned_94 : decode cL_turned 94 = .ok (.goto 5, 3) := by decide +kernel
theorem dL_turned_97 : decode cL_turned 97 = .ok (.bipush 35, 2) := by decide +kernel
theorem dL_turned_99 : decode cL_turned 99 = .ok (.invokevirtual 106, 3) := by decide +kernel
theorem dL_turned_102 : decode cL_turned 102 = .ok (.pop, 1) := by decide +kernel
theorem dL_turned_103 : decode cL_turned 103 = .ok (.aload_n 0, 1) := by decide +kernel
theorem dL_turned_104 : decode cL_turned 104 = .ok (.bipush 49, 2) := by decide +kernel
theorem dL_turned_106 : decode cL_turned 106 = .ok (.iload_n 1, 1) := by decide +kernel
theorem dL_turned_107 : decode cL_turned 107 = .ok (.iconst 3, 1) := by decide +kernel
theorem dL_turned_108 : decode cL_turned 108 = .ok (.ishr, 1) := by decide +kernel
theorem dL_turned_109 : decode cL_turned 109 = .ok (.bipush 9, 2) := by decide +kernel
theorem dL_turned_111 : decode cL_turned 111 = .ok (.invokestatic 47, 3) := by decide +kernel
theorem dL_turned_114 : decode cL_turned 114 = .ok (.iadd, 1) := by decide +kernel
theorem dL_turned_115 : decode cL_turned 115 = .ok (.i2c, 1) := by decide +kernel
theorem dL_turned_116 : decode cL_turned 116 = .ok (.invokevirtual 106, 3) := by decide +kernel
theorem dL_turned_119 : decode cL_turned 119 = .ok (.pop, 1) := by decide +kernel
theorem dL_turned_120 : decode cL_turned 120 = .ok (.aload_n 0, 1) := by decide +kernel
theorem dL_turned_121 : decode cL_turned 121 = .ok (.bipush 48, 2) := by decide +kernel
theorem dL_turned_123 : decode cL_turned 123 = .ok (.iload_n 1, 1) := by decide +kernel
theorem dL_turned_124 : decode cL_turned 124 = .ok (.bipush 7, 2) := by decide +kernel
theorem dL_turned_126 : decode cL_turned 126 = .ok (.ishr, 1) := by decide +kernel
theorem dL_turned_127 : decode cL_turned 127 = .ok (.bipush 10, 2) := by decide +kernel
theorem dL_turned_129 : decode cL_turned 129 = .ok (.invokestatic 47, 3) := by decide +kernel
theorem dL_turned_132 : decode cL_turned 132 = .ok (.iadd, 1) := by decide +kernel
theorem dL_turned_133 : decode cL_turned 133 = .ok (.i2c, 1) := by decide +kernel
theorem dL_turned_134 : decode cL_turned 134 = .ok (.invokevirtual 106, 3) := by decide +kernel
theorem dL_turned_137 : decode cL_turned 137 = .ok (.pop, 1) := by decide +kernel
theorem dL_turned_138 : decode cL_turned 138 = .ok (.aload_n 0, 1) := by decide +kernel
theorem dL_turned_139 : decode cL_turned 139 = .ok (.iload_n 1, 1) := by decide +kernel
theorem dL_turned_140 : decode cL_turned 140 = .ok (.bipush 11, 2) := by decide +kernel
theorem dL_turned_142 : decode cL_turned 142 = .ok (.ishr, 1) := by decide +kernel
theorem dL_turned_143 : decode cL_turned 143 = .ok (.iconst 2, 1) := by decide +kernel
theorem dL_turned_144 : decode cL_turned 144 = .ok (.invokestatic 47, 3) := by decide +kernel
theorem dL_turned_147 : decode cL_turned 147 = .ok (.ifCond .ne 8, 3) := by decide +kernel
theorem dL_turned_150 : decode cL_turned 150 = .ok (.bipush 38, 2) := by decide +kernel
theorem dL_turned_152 : decode cL_turned 152 = .ok (.goto 5, 3) := by decide +kernel
theorem dL_turned_155 : decode cL_turned 155 = .ok (.bipush 124, 2) := by decide +kernel
theorem dL_turned_157 : decode cL_turned 157 = .ok (.invokevirtual 106, 3) := by decide +kernel
theorem dL_turned_160 : decode cL_turned 160 = .ok (.pop, 1) := by decide +kernel
theorem dL_turned_161 : decode cL_turned 161 = .ok (.aload_n 0, 1) := by decide +kernel
theorem dL_turned_162 : decode cL_turned 162 = .ok (.bipush 107, 2) := by decide +kernel
theorem dL_turned_164 : decode cL_turned 164 = .ok (.invokevirtual 106, 3) := by decide +kernel
theorem dL_turned_167 : decode cL_turned 167 = .ok (.pop, 1) := by decide +kernel
theorem dL_turned_168 : decode cL_turned 168 = .ok (.aload_n 0, 1) := by decide +kernel
theorem dL_turned_169 : decode cL_turned 169 = .ok (.bipush 62, 2) := by decide +kernel
theorem dL_turned_171 : decode cL_turned 171 = .ok (.invokevirtual 106, 3) := by decide +kernel
theorem dL_turned_174 : decode cL_turned 174 = .ok (.pop, 1) := by decide +kernel
theorem dL_turned_175 : decode cL_turned 175 = .ok (.aload_n 0, 1) := by decide +kernel
theorem dL_turned_176 : decode cL_turned 176 = .ok (.bipush 49, 2) := by decide +kernel
theorem dL_turned_178 : decode cL_turned 178 = .ok (.iload_n 1, 1) := by decide +kernel
theorem dL_turned_179 : decode cL_turned 179 = .ok (.bipush 12, 2) := by decide +kernel
theorem dL_turned_181 : decode cL_turned 181 = .ok (.ishr, 1) := by decide +kernel
theorem dL_turned_182 : decode cL_turned 182 = .ok (.bipush 9, 2) := by decide +kernel
theorem dL_turned_184 : decode cL_turned 184 = .ok (.invokestatic 47, 3) := by decide +kernel
theorem dL_turned_187 : decode cL_turned 187 = .ok (.iadd, 1) := by decide +kernel
theorem dL_turned_188 : decode cL_turned 188 = .ok (.i2c, 1) := by decide +kernel
theorem dL_turned_189 : decode cL_turned 189 = .ok (.invokevirtual 106, 3) := by decide +kernel
theorem dL_turned_192 : decode cL_turned 192 = .ok (.pop, 1) := by decide +kernel
theorem dL_turned_193 : decode cL_turned 193 = .ok (.aload_n 0, 1) := by decide +kernel
theorem dL_turned_194 : decode cL_turned 194 = .ok (.bipush 48, 2) := by decide +kernel
theorem dL_turned_196 : decode cL_turned 196 = .ok (.invokevirtual 106, 3) := by decide +kernel
theorem dL_turned_199 : decode cL_turned 199 = .ok (.pop, 1) := by decide +kernel
theorem dL_turned_200 : decode cL_turned 200 = .ok (.aload_n 0, 1) := by decide +kernel
theorem dL_turned_201 : decode cL_turned 201 = .ok (.bipush 48, 2) := by decide +kernel
theorem dL_turned_203 : decode cL_turned 203 = .ok (.invokevirtual 106, 3) := by decide +kernel
theorem dL_turned_206 : decode cL_turned 206 = .ok (.pop, 1) := by decide +kernel
theorem dL_turned_207 : decode cL_turned 207 = .ok (.iload 4, 2) := by decide +kernel
theorem dL_turned_209 : decode cL_turned 209 = .ok (.iconst 1, 1) := by decide +kernel
theorem dL_turned_210 : decode cL_turned 210 = .ok (.if_icmp .ne 10, 3) := by decide +kernel
theorem dL_turned_213 : decode cL_turned 213 = .ok (.aload_n 0, 1) := by decide +kernel
theorem dL_turned_214 : decode cL_turned 214 = .ok (.bipush 41, 2) := by decide +kernel
theorem dL_turned_216 : decode cL_turned 216 = .ok (.invokevirtual 106, 3) := by decide +kernel
theorem dL_turned_219 : decode cL_turned 219 = .ok (.pop, 1) := by decide +kernel
theorem dL_turned_220 : decode cL_turned 220 = .ok (.iconst 0, 1) := by decide +kernel
theorem dL_turned_221 : decode cL_turned 221 = .ok (.istore 5, 2) := by decide +kernel
theorem dL_turned_223 : decode cL_turned 223 = .ok (.iload 5, 2) := by decide +kernel
theorem dL_turned_225 : decode cL_turned 225 = .ok (.bipush 64, 2) := by decide +kernel
theorem dL_turned_227 : decode cL_turned 227 = .ok (.if_icmp .ge 57, 3) := by decide +kernel
theorem dL_turned_230 : decode cL_turned 230 = .ok (.aload_n 0, 1) := by decide +kernel
theorem dL_turned_231 : decode cL_turned 231 = .ok (.iload 5, 2) := by decide +kernel
theorem dL_turned_233 : decode cL_turned 233 = .ok (.invokevirtual 110, 3) := by decide +kernel
theorem dL_turned_236 : decode cL_turned 236 = .ok (.istore 6, 2) := by decide +kernel
theorem dL_turned_238 : decode cL_turned 238 = .ok (.iload 5, 2) := by decide +kernel
theorem dL_turned_240 : decode cL_turned 240 = .ok (.aload_n 0, 1) := by decide +kernel
theorem dL_turned_241 : decode cL_turned 241 = .ok (.iconst 4, 1) := by decide +kernel
theorem dL_turned_242 : decode cL_turned 242 = .ok (.invokevirtual 9, 3) := by decide +kernel
theorem dL_turned_245 : decode cL_turned 245 = .ok (.if_icmp .ge 27, 3) := by decide +kernel
theorem dL_turned_248 : decode cL_turned 248 = .ok (.iload 6, 2) := by decide +kernel
theorem dL_turned_250 : decode cL_turned 250 = .ok (.ifCond .lt 22, 3) := by decide +kernel
theorem dL_turned_253 : decode cL_turned 253 = .ok (.iload 4, 2) := by decide +kernel
theorem dL_turned_255 : decode cL_turned 255 = .ok (.iconst 1, 1) := by decide +kernel
theorem dL_turned_256 : decode cL_turned 256 = .ok (.if_icmp .ne 16, 3) := by decide +kernel
theorem dL_turned_259 : decode cL_turned 259 = .ok (.aload_n 2, 1) := by decide +kernel
theorem dL_turned_260 : decode cL_turned 260 = .ok (.iload 5, 2) := by decide +kernel
theorem dL_turned_262 : decode cL_turned 262 = .ok (.iaload, 1) := by decide +kernel
theorem dL_turned_263 : decode cL_turned 263 = .ok (.iload 6, 2) := by decide +kernel
theorem dL_turned_265 : decode cL_turned 265 = .ok (.iadd, 1) := by decide +kernel
theorem dL_turned_266 : decode cL_turned 266 = .ok (.iconst 1, 1) := by decide +kernel
theorem dL_turned_267 : decode cL_turned 267 = .ok (.if_icmp .eq 5, 3) := by decide +kernel
theorem dL_turned_270 : decode cL_turned 270 = .ok (.iconst 0, 1) := by decide +kernel
theorem dL_turned_271 : decode cL_turned 271 = .ok (.ireturn, 1) := by decide +kernel
theorem dL_turned_272 : decode cL_turned 272 = .ok (.aload_n 2, 1) := by decide +kernel
theorem dL_turned_273 : decode cL_turned 273 = .ok (.iload 5, 2) := by decide +kernel
theorem dL_turned_275 : decode cL_turned 275 = .ok (.iload 6, 2) := by decide +kernel
theorem dL_turned_277 : decode cL_turned 277 = .ok (.iastore, 1) := by decide +kernel
theorem dL_turned_278 : decode cL_turned 278 = .ok (.iinc 5 1, 3) := by decide +kernel
theorem dL_turned_281 : decode cL_turned 281 = .ok (.goto (-58), 3) := by decide +kernel
theorem dL_turned_284 : decode cL_turned 284 = .ok (.aload_n 0, 1) := by decide +kernel
theorem dL_turned_285 : decode cL_turned 285 = .ok (.iconst 0, 1) := by decide +kernel
theorem dL_turned_286 : decode cL_turned 286 = .ok (.invokevirtual 113, 3) := by decide +kernel
theorem dL_turned_289 : decode cL_turned 289 = .ok (.istore 5, 2) := by decide +kernel
theorem dL_turned_291 : decode cL_turned 291 = .ok (.iload 5, 2) := by decide +kernel
theorem dL_turned_293 : decode cL_turned 293 = .ok (.aload_n 0, 1) := by decide +kernel
theorem dL_turned_294 : decode cL_turned 294 = .ok (.iconst 4, 1) := by decide +kernel
theorem dL_turned_295 : decode cL_turned 295 = .ok (.invokevirtual 113, 3) := by decide +kernel
theorem dL_turned_298 : decode cL_turned 298 = .ok (.if_icmp .gt 58, 3) := by decide +kernel
theorem dL_turned_301 : decode cL_turned 301 = .ok (.aload_n 0, 1) := by decide +kernel
theorem dL_turned_302 : decode cL_turned 302 = .ok (.iconst 5, 1) := by decide +kernel
theorem dL_turned_303 : decode cL_turned 303 = .ok (.invokevirtual 113, 3) := by decide +kernel
theorem dL_turned_306 : decode cL_turned 306 = .ok (.aload_n 0, 1) := by decide +kernel
theorem dL_turned_307 : decode cL_turned 307 = .ok (.iconst 4, 1) := by decide +kernel
theorem dL_turned_308 : decode cL_turned 308 = .ok (.invokevirtual 113, 3) := by decide +kernel
theorem dL_turned_311 : decode cL_turned 311 = .ok (.iload 5, 2) := by decide +kernel
theorem dL_turned_313 : decode cL_turned 313 = .ok (.isub, 1) := by decide +kernel
theorem dL_turned_314 : decode cL_turned 314 = .ok (.if_icmp .ne 42, 3) := by decide +kernel
theorem dL_turned_317 : decode cL_turned 317 = .ok (.aload_n 0, 1) := by decide +kernel
theorem dL_turned_318 : decode cL_turned 318 = .ok (.iconst 3, 1) := by decide +kernel
theorem dL_turned_319 : decode cL_turned 319 = .ok (.invokevirtual 113, 3) := by decide +kernel
theorem dL_turned_322 : decode cL_turned 322 = .ok (.iload 5, 2) := by decide +kernel
theorem dL_turned_324 : decode cL_turned 324 = .ok (.if_icmp .lt 32, 3) := by decide +kernel
theorem dL_turned_327 : decode cL_turned 327 = .ok (.aload_n 0, 1) := by decide +kernel
theorem dL_turned_328 : decode cL_turned 328 = .ok (.iconst 3, 1) := by decide +kernel
theorem dL_turned_329 : decode cL_turned 329 = .ok (.invokevirtual 113, 3) := by decide +kernel
theorem dL_turned_332 : decode cL_turned 332 = .ok (.aload_n 0, 1) := by decide +kernel
theorem dL_turned_333 : decode cL_turned 333 = .ok (.iconst 2, 1) := by decide +kernel
theorem dL_turned_334 : decode cL_turned 334 = .ok (.invokevirtual 9, 3) := by decide +kernel
theorem dL_turned_337 : decode cL_turned 337 = .ok (.if_icmp .gt 19, 3) := by decide +kernel
theorem dL_turned_340 : decode cL_turned 340 = .ok (.aload_n 0, 1) := by decide +kernel
theorem dL_turned_341 : decode cL_turned 341 = .ok (.iconst 5, 1) := by decide +kernel
theorem dL_turned_342 : decode cL_turned 342 = .ok (.invokevirtual 9, 3) := by decide +kernel
theorem dL_turned_345 : decode cL_turned 345 = .ok (.ifCond .ne 13, 3) := by decide +kernel
theorem dL_turned_348 : decode cL_turned 348 = .ok (.aload_n 0, 1) := by decide +kernel
theorem dL_turned_349 : decode cL_turned 349 = .ok (.iconst 5, 1) := by decide +kernel
theorem dL_turned_350 : decode cL_turned 350 = .ok (.invokevirtual 113, 3) := by decide +kernel
theorem dL_turned_353 : decode cL_turned 353 = .ok (.ifCond .eq 5, 3) := by decide +kernel
theorem dL_turned_356 : decode cL_turned 356 = .ok (.iconst 0, 1) := by decide +kernel
theorem dL_turned_357 : decode cL_turned 357 = .ok (.ireturn, 1) := by decide +kernel
theorem dL_turned_358 : decode cL_turned 358 = .ok (.iconst 0, 1) := by decide +kernel
theorem dL_turned_359 : decode cL_turned 359 = .ok (.istore 6, 2) := by decide +kernel
theorem dL_turned_361 : decode cL_turned 361 = .ok (.iload 6, 2) := by decide +kernel
theorem dL_turned_363 : decode cL_turned 363 = .ok (.iload 5, 2) := by decide +kernel
theorem dL_turned_365 : decode cL_turned 365 = .ok (.if_icmp .ge 47, 3) := by decide +kernel
theorem dL_turned_368 : decode cL_turned 368 = .ok (.aload_n 0, 1) := by decide +kernel
theorem dL_turned_369 : decode cL_turned 369 = .ok (.aload_n 0, 1) := by decide +kernel
theorem dL_turned_370 : decode cL_turned 370 = .ok (.iload 6, 2) := by decide +kernel
theorem dL_turned_372 : decode cL_turned 372 = .ok (.invokevirtual 116, 3) := by decide +kernel
theorem dL_turned_375 : decode cL_turned 375 = .ok (.invokevirtual 110, 3) := by decide +kernel
theorem dL_turned_378 : decode cL_turned 378 = .ok (.iconst 1, 1) := by decide +kernel
theorem dL_turned_379 : decode cL_turned 379 = .ok (.if_icmp .ne 25, 3) := by decide +kernel
theorem dL_turned_382 : decode cL_turned 382 = .ok (.iload 6, 2) := by decide +kernel
theorem dL_turned_384 : decode cL_turned 384 = .ok (.ifCond .le 22, 3) := by decide +kernel
theorem dL_turned_387 : decode cL_turned 387 = .ok (.aload_n 0, 1) := by decide +kernel
theorem dL_turned_388 : decode cL_turned 388 = .ok (.iload 6, 2) := by decide +kernel
theorem dL_turned_390 : decode cL_turned 390 = .ok (.invokevirtual 116, 3) := by decide +kernel
theorem dL_turned_393 : decode cL_turned 393 = .ok (.aload_n 0, 1) := by decide +kernel
theorem dL_turned_394 : decode cL_turned 394 = .ok (.iload 6, 2) := by decide +kernel
theorem dL_turned_396 : decode cL_turned 396 = .ok (.iconst 1, 1) := by decide +kernel
theorem dL_turned_397 : decode cL_turned 397 = .ok (.isub, 1) := by decide +kernel
theorem dL_turned_398 : decode cL_turned 398 = .ok (.invokevirtual 116, 3) := by decide +kernel
theorem dL_turned_401 : decode cL_turned 401 = .ok (.if_icmp .gt 5, 3) := by decide +kernel
theorem dL_turned_404 : decode cL_turned 404 = .ok (.iconst 0, 1) := by decide +kernel
theorem dL_turned_405 : decode cL_turned 405 = .ok (.ireturn, 1) := by decide +kernel
theorem dL_turned_406 : decode cL_turned 406 = .ok (.iinc 6 1, 3) := by decide +kernel
theorem dL_turned_409 : decode cL_turned 409 = .ok (.goto (-48), 3) := by decide +kernel
theorem dL_turned_412 : decode cL_turned 412 = .ok (.aload_n 0, 1) := by decide +kernel
theorem dL_turned_413 : decode cL_turned 413 = .ok (.invokevirtual 119, 3) := by decide +kernel
theorem dL_turned_416 : decode cL_turned 416 = .ok (.dconst 0, 1) := by decide +kernel
theorem dL_turned_417 : decode cL_turned 417 = .ok (.dcmp .g, 1) := by decide +kernel
theorem dL_turned_418 : decode cL_turned 418 = .ok (.ifCond .lt 30, 3) := by decide +kernel
theorem dL_turned_421 : decode cL_turned 421 = .ok (.aload_n 0, 1) := by decide +kernel
theorem dL_turned_422 : decode cL_turned 422 = .ok (.invokevirtual 119, 3) := by decide +kernel
theorem dL_turned_425 : decode cL_turned 425 = .ok (.dconst 1, 1) := by decide +kernel
theorem dL_turned_426 : decode cL_turned 426 = .ok (.dcmp .l, 1) := by decide +kernel
theorem dL_turned_427 : decode cL_turned 427 = .ok (.ifCond .gt 21, 3) := by decide +kernel
theorem dL_turned_430 : decode cL_turned 430 = .ok (.aload_n 0, 1) := by decide +kernel
theorem dL_turned_431 : decode cL_turned 431 = .ok (.bipush 9, 2) := by decide +kernel
theorem dL_turned_433 : decode cL_turned 433 = .ok (.invokevirtual 9, 3) := by decide +kernel
theorem dL_turned_436 : decode cL_turned 436 = .ok (.ifCond .ne 14, 3) := by decide +kernel
theorem dL_turned_439 : decode cL_turned 439 = .ok (.aload_n 0, 1) := by decide +kernel
theorem dL_turned_440 : decode cL_turned 440 = .ok (.invokevirtual 119, 3) := by decide +kernel
theorem dL_turned_443 : decode cL_turned 443 = .ok (.dconst 0, 1) := by decide +kernel
theorem dL_turned_444 : decode cL_turned 444 = .ok (.dcmp .l, 1) := by decide +kernel
theorem dL_turned_445 : decode cL_turned 445 = .ok (.ifCond .eq 5, 3) := by decide +kernel
theorem dL_turned_448 : decode cL_turned 448 = .ok (.iconst 0, 1) := by decide +kernel
theorem dL_turned_449 : decode cL_turned 449 = .ok (.ireturn, 1) := by decide +kernel
theorem dL_turned_450 : decode cL_turned 450 = .ok (.iinc 4 1, 3) := by decide +kernel
theorem dL_turned_453 : decode cL_turned 453 = .ok (.goto (-439), 3) := by decide +kernel
theorem dL_turned_456 : decode cL_turned 456 = .ok (.iconst 1, 1) := by decide +kernel
theorem dL_turned_457 : decode cL_turned 457 = .ok (.ireturn, 1) := by decide +kernel
theorem dL_law_0 : decode cL_law 0 = .ok (.new 10, 3) := by decide +kernel
theorem dL_law_3 : decode cL_law 3 = .ok (.dup, 1) := by decide +kernel
theorem dL_law_4 : decode cL_law 4 = .ok (.invokespecial 123, 3) := by decide +kernel
theorem dL_law_7 : decode cL_law 7 = .ok (.astore_n 1, 1) := by decide +kernel
theorem dL_law_8 : decode cL_law 8 = .ok (.iconst 0, 1) := by decide +kernel
theorem dL_law_9 : decode cL_law 9 = .ok (.istore_n 2, 1) := by decide +kernel
theorem dL_law_10 : decode cL_law 10 = .ok (.iload_n 2, 1) := by decide +kernel
theorem dL_law_11 : decode cL_law 11 = .ok (.bipush 28, 2) := by decide +kernel
theorem dL_law_13 : decode cL_law 13 = .ok (.if_icmp .ge 226, 3) := by decide +kernel
theorem dL_law_16 : decode cL_law 16 = .ok (.aload_n 0, 1) := by decide +kernel
theorem dL_law_17 : decode cL_law 17 = .ok (.iconst 2, 1) := by decide +kernel
theorem dL_law_18 : decode cL_law 18 = .ok (.iload_n 2, 1) := by decide +kernel
theorem dL_law_19 : decode cL_law 19 = .ok (.imul, 1) := by decide +kernel
theorem dL_law_20 : decode cL_law 20 = .ok (.invokestatic 124, 3) := by decide +kernel
theorem dL_law_23 : decode cL_law 23 = .ok (.istore_n 3, 1) := by decide +kernel
theorem dL_law_24 : decode cL_law 24 = .ok (.aload_n 0, 1) := by decide +kernel
theorem dL_law_25 : decode cL_law 25 = .ok (.iconst 2, 1) := by decide +kernel
theorem dL_law_26 : decode cL_law 26 = .ok (.iload_n 2, 1) := by decide +kernel
theorem dL_law_27 : decode cL_law 27 = .ok (.imul, 1) := by decide +kernel
theorem dL_law_28 : decode cL_law 28 = .ok (.iconst 1, 1) := by decide +kernel
theorem dL_law_29 : decode cL_law 29 = .ok (.iadd, 1) := by decide +kernel
theorem dL_law_30 : decode cL_law 30 = .ok (.invokestatic 124, 3) := by decide +kernel
theorem dL_law_33 : decode cL_law 33 = .ok (.istore 4, 2) := by decide +kernel
theorem dL_law_35 : decode cL_law 35 = .ok (.aload_n 1, 1) := by decide +kernel
theorem dL_law_36 : decode cL_law 36 = .ok (.invokestatic 128, 3) := by decide +kernel
theorem dL_law_39 : decode cL_law 39 = .ok (.astore 5, 2) := by decide +kernel
theorem dL_law_41 : decode cL_law 41 = .ok (.aload_n 1, 1) := by decide +kernel
theorem dL_law_42 : decode cL_law 42 = .ok (.bipush 11, 2) := by decide +kernel
theorem dL_law_44 : decode cL_law 44 = .ok (.invokevirtual 9, 3) := by decide +kernel
theorem dL_law_47 : decode cL_law 47 = .ok (.istore 6, 2) := by decide +kernel
theorem dL_law_49 : decode cL_law 49 = .ok (.aload_n 1, 1) := by decide +kernel
theorem dL_law_50 : decode cL_law 50 = .ok (.iload_n 3, 1) := by decide +kernel
theorem dL_law_51 : decode cL_law 51 = .ok (.iload 4, 2) := by decide +kernel
theorem dL_law_53 : decode cL_law 53 = .ok (.invokestatic 132, 3) := by decide +kernel
theorem dL_law_56 : decode cL_law 56 = .ok (.istore 7, 2) := by decide +kernel
theorem dL_law_58 : decode cL_law 58 = .ok (.aload_n 1, 1) := by decide +kernel
theorem dL_law_59 : decode cL_law 59 = .ok (.invokestatic 128, 3) := by decide +kernel
theorem dL_law_62 : decode cL_law 62 = .ok (.astore 8, 2) := by decide +kernel
theorem dL_law_64 : decode cL_law 64 = .ok (.iload 7, 2) := by decide +kernel
theorem dL_law_66 : decode cL_law 66 = .ok (.ifCond .ge 26, 3) := by decide +kernel
theorem dL_law_69 : decode cL_law 69 = .ok (.aload 5, 2) := by decide +kernel
theorem dL_law_71 : decode cL_law 71 = .ok (.aload 8, 2) := by decide +kernel
theorem dL_law_73 : decode cL_law 73 = .ok (.invokestatic 136, 3) := by decide +kernel
theorem dL_law_76 : decode cL_law 76 = .ok (.ifCond .eq 14, 3) := by decide +kernel
theorem dL_law_79 : decode cL_law 79 = .ok (.aload_n 1, 1) := by decide +kernel
theorem dL_law_80 : decode cL_law 80 = .ok (.bipush 11, 2) := by decide +kernel
theorem dL_law_82 : decode cL_law 82 = .ok (.invokevirtual 9, 3) := by decide +kernel
theorem dL_law_85 : decode cL_law 85 = .ok (.iload 6, 2) := by decide +kernel
theorem dL_law_87 : decode cL_law 87 = .ok (.if_icmp .eq 5, 3) := by decide +kernel
theorem dL_law_90 : decode cL_law 90 = .ok (.iconst 0, 1) := by decide +kernel
theorem dL_law_91 : decode cL_law 91 = .ok (.ireturn, 1) := by decide +kernel
theorem dL_law_92 : decode cL_law 92 = .ok (.iload 7, 2) := by decide +kernel
theorem dL_law_94 : decode cL_law 94 = .ok (.ifCond .lt 72, 3) := by decide +kernel
theorem dL_law_97 : decode cL_law 97 = .ok (.iload_n 3, 1) := by decide +kernel
theorem dL_law_98 : decode cL_law 98 = .ok (.iconst 4, 1) := by decide +kernel
theorem dL_law_99 : decode cL_law 99 = .ok (.invokestatic 47, 3) := by decide +kernel
theorem dL_law_102 : decode cL_law 102 = .ok (.ifCond .ne 64, 3) := by decide +kernel
theorem dL_law_105 : decode cL_law 105 = .ok (.aload_n 1, 1) := by decide +kernel
theorem dL_law_106 : decode cL_law 106 = .ok (.invokevirtual 97, 3) := by decide +kernel
theorem dL_law_109 : decode cL_law 109 = .ok (.istore 9, 2) := by decide +kernel
theorem dL_law_111 : decode cL_law 111 = .ok (.aload_n 1, 1) := by decide +kernel
theorem dL_law_112 : decode cL_law 112 = .ok (.invokestatic 128, 3) := by decide +kernel
theorem dL_law_115 : decode cL_law 115 = .ok (.aload 5, 2) := by decide +kernel
theorem dL_law_117 : decode cL_law 117 = .ok (.invokestatic 136, 3) := by decide +kernel
theorem dL_law_120 : decode cL_law 120 = .ok (.ifCond .eq 44, 3) := by decide +kernel
theorem dL_law_123 : decode cL_law 123 = .ok (.iload 9, 2) := by decide +kernel
theorem dL_law_125 : decode cL_law 125 = .ok (.iload 6, 2) := by decide +kernel
theorem dL_law_127 : decode cL_law 127 = .ok (.iconst 4, 1) := by decide +kernel
theorem dL_law_128 : decode cL_law 128 = .ok (.if_icmp .ne 7, 3) := by decide +kernel
theorem dL_law_131 : decode cL_law 131 = .ok (.iconst 3, 1) := by decide +kernel
theorem dL_law_132 : decode cL_law 132 = .ok (.goto 5, 3) := by decide +kernel
theorem dL_law_135 : decode cL_law 135 = .ok (.iload 6, 2) := by decide +kernel
theorem dL_law_137 : decode cL_law 137 = .ok (.if_icmp .ne 27, 3) := by decide +kernel
theorem dL_law_140 : decode cL_law 140 = .ok (.aload_n 1, 1) := by decide +kernel
theorem dL_law_141 : decode cL_law 141 = .ok (.iload_n 3, 1) := by decide +kernel
theorem dL_law_142 : decode cL_law 142 = .ok (.iload 4, 2) := by decide +kernel
theorem dL_law_144 : decode cL_law 144 = .ok (.invokestatic 132, 3) := by decide +kernel
theorem dL_law_147 : decode cL_law 147 = .ok (.iload 7, 2) := by decide +kernel
theorem dL_law_149 : decode cL_law 149 = .ok (.if_icmp .ne 15, 3) := by decide +kernel
theorem dL_law_152 : decode cL_law 152 = .ok (.aload_n 1, 1) := by decide +kernel
theorem dL_law_153 : decode cL_law 153 = .ok (.invokestatic 128, 3) := by decide +kernel
theorem dL_law_156 : decode cL_law 156 = .ok (.aload 8, 2) := by decide +kernel
theorem dL_law_158 : decode cL_law 158 = .ok (.invokestatic 136, 3) := by decide +kernel
theorem dL_law_161 : decode cL_law 161 = .ok (.ifCond .ne 5, 3) := by decide +kernel
theorem dL_law_164 : decode cL_law 164 = .ok (.iconst 0, 1) := by decide +kernel
theorem dL_law_165 : decode cL_law 165 = .ok (.ireturn, 1) := by decide +kernel
theorem dL_law_166 : decode cL_law 166 = .ok (.iload_n 3, 1) := by decide +kernel
theorem dL_law_167 : decode cL_law 167 = .ok (.iconst 3, 1) := by decide +kernel
theorem dL_law_168 : decode cL_law 168 = .ok (.ishr, 1) := by decide +kernel
theorem dL_law_169 : decode cL_law 169 = .ok (.bipush 16, 2) := by decide +kernel
theorem dL_law_171 : decode cL_law 171 = .ok (.invokestatic 47, 3) := by decide +kernel
theorem dL_law_174 : decode cL_law 174 = .ok (.bipush 13, 2) := by decide +kernel
theorem dL_law_176 : decode cL_law 176 = .ok (.if_icmp .ne 18, 3) := by decide +kernel
theorem dL_law_179 : decode cL_law 179 = .ok (.iload 7, 2) := by decide +kernel
theorem dL_law_181 : decode cL_law 181 = .ok (.ifCond .lt 13, 3) := by decide +kernel
theorem dL_law_184 : decode cL_law 184 = .ok (.aload_n 1, 1) := by decide +kernel
theorem dL_law_185 : decode cL_law 185 = .ok (.iconst 5, 1) := by decide +kernel
theorem dL_law_186 : decode cL_law 186 = .ok (.invokevirtual 9, 3) := by decide +kernel
theorem dL_law_189 : decode cL_law 189 = .ok (.ifCond .eq 5, 3) := by decide +kernel
theorem dL_law_192 : decode cL_law 192 = .ok (.iconst 0, 1) := by decide +kernel
theorem dL_law_193 : decode cL_law 193 = .ok (.ireturn, 1) := by decide +kernel
theorem dL_law_194 : decode cL_law 194 = .ok (.aload_n 1, 1) := by decide +kernel
theorem dL_law_195 : decode cL_law 195 = .ok (.invokestatic 140, 3) := by decide +kernel
theorem dL_law_198 : decode cL_law 198 = .ok (.ifCond .eq 33, 3) := by decide +kernel
theorem dL_law_201 : decode cL_law 201 = .ok (.iload_n 2, 1) := by decide +kernel
theorem dL_law_202 : decode cL_law 202 = .ok (.iconst 3, 1) := by decide +kernel
theorem dL_law_203 : decode cL_law 203 = .ok (.irem, 1) := by decide +kernel
theorem dL_law_204 : decode cL_law 204 = .ok (.iconst 2, 1) := by decide +kernel
theorem dL_law_205 : decode cL_law 205 = .ok (.if_icmp .ne 28, 3) := by decide +kernel
theorem dL_law_208 : decode cL_law 208 = .ok (.aload_n 1, 1) := by decide +kernel
theorem dL_law_209 : decode cL_law 209 = .ok (.iload_n 3, 1) := by decide +kernel
theorem dL_law_210 : decode cL_law 210 = .ok (.iconst 5, 1) := by decide +kernel
theorem dL_law_211 : decode cL_law 211 = .ok (.ishr, 1) := by decide +kernel
theorem dL_law_212 : decode cL_law 212 = .ok (.iload 4, 2) := by decide +kernel
theorem dL_law_214 : decode cL_law 214 = .ok (.invokestatic 144, 3) := by decide +kernel
theorem dL_law_217 : decode cL_law 217 = .ok (.ifCond .eq 14, 3) := by decide +kernel
theorem dL_law_220 : decode cL_law 220 = .ok (.aload_n 1, 1) := by decide +kernel
theorem dL_law_221 : decode cL_law 221 = .ok (.iload 4, 2) := by decide +kernel
theorem dL_law_223 : decode cL_law 223 = .ok (.iconst 1, 1) := by decide +kernel
theorem dL_law_224 : decode cL_law 224 = .ok (.ishr, 1) := by decide +kernel
theorem dL_law_225 : decode cL_law 225 = .ok (.invokestatic 148, 3) := by decide +kernel
theorem dL_law_228 : decode cL_law 228 = .ok (.ifCond .ne 5, 3) := by decide +kernel
theorem dL_law_231 : decode cL_law 231 = .ok (.iconst 0, 1) := by decide +kernel
theorem dL_law_232 : decode cL_law 232 = .ok (.ireturn, 1) := by decide +kernel
theorem dL_law_233 : decode cL_law 233 = .ok (.iinc 2 1, 3) := by decide +kernel
theorem dL_law_236 : decode cL_law 236 = .ok (.goto (-226), 3) := by decide +kernel
theorem dL_law_239 : decode cL_law 239 = .ok (.iconst 1, 1) := by decide +kernel
theorem dL_law_240 : decode cL_law 240 = .ok (.ireturn, 1) := by decide +kernel
