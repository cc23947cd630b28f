abbrev M_X9_best : am_M := ((⟨"SignCellarModel", "best", "(III)I"⟩ : MethodName), prog_11_method_59_code, 9, (some .int), 6, 152)
theorem dX9_best_0 : decode prog_11_method_59_code 0 = .ok (.aload_n 0, 1) := by decide +kernel
theorem dX9_best_1 : decode prog_11_method_59_code 1 = .ok (.iload_n 1, 1) := by decide +kernel
theorem dX9_best_2 : decode prog_11_method_59_code 2 = .ok (.invokevirtual 154, 3) := by decide +kernel
theorem dX9_best_5 : decode prog_11_method_59_code 5 = .ok (.ifCond .eq 6, 3) := by decide +kernel
theorem dX9_best_8 : decode prog_11_method_59_code 8 = .ok (.ldc 164, 2) := by decide +kernel
theorem dX9_best_10 : decode prog_11_method_59_code 10 = .ok (.ireturn, 1) := by decide +kernel
theorem dX9_best_11 : decode prog_11_method_59_code 11 = .ok (.iload_n 2, 1) := by decide +kernel
theorem dX9_best_12 : decode prog_11_method_59_code 12 = .ok (.i2l, 1) := by decide +kernel
theorem dX9_best_13 : decode prog_11_method_59_code 13 = .ok (.lconst 0, 1) := by decide +kernel
theorem dX9_best_14 : decode prog_11_method_59_code 14 = .ok (.ldc2_w 284, 3) := by decide +kernel
theorem dX9_best_17 : decode prog_11_method_59_code 17 = .ok (.invokestatic 96, 3) := by decide +kernel
theorem dX9_best_20 : decode prog_11_method_59_code 20 = .ok (.ifCond .eq 9, 3) := by decide +kernel
theorem dX9_best_23 : decode prog_11_method_59_code 23 = .ok (.iload_n 3, 1) := by decide +kernel
theorem dX9_best_24 : decode prog_11_method_59_code 24 = .ok (.bipush (-2), 2) := by decide +kernel
theorem dX9_best_26 : decode prog_11_method_59_code 26 = .ok (.if_icmp .ge 6, 3) := by decide +kernel
theorem dX9_best_29 : decode prog_11_method_59_code 29 = .ok (.ldc 105, 2) := by decide +kernel
theorem dX9_best_31 : decode prog_11_method_59_code 31 = .ok (.ireturn, 1) := by decide +kernel
theorem dX9_best_32 : decode prog_11_method_59_code 32 = .ok (.aload_n 0, 1) := by decide +kernel
theorem dX9_best_33 : decode prog_11_method_59_code 33 = .ok (.iload_n 1, 1) := by decide +kernel
theorem dX9_best_34 : decode prog_11_method_59_code 34 = .ok (.invokevirtual 165, 3) := by decide +kernel
theorem dX9_best_37 : decode prog_11_method_59_code 37 = .ok (.ifCond .le 6, 3) := by decide +kernel
theorem dX9_best_40 : decode prog_11_method_59_code 40 = .ok (.ldc 168, 2) := by decide +kernel
theorem dX9_best_42 : decode prog_11_method_59_code 42 = .ok (.ireturn, 1) := by decide +kernel
theorem dX9_best_43 : decode prog_11_method_59_code 43 = .ok (.aload_n 0, 1) := by decide +kernel
theorem dX9_best_44 : decode prog_11_method_59_code 44 = .ok (.iload_n 1, 1) := by decide +kernel
theorem dX9_best_45 : decode prog_11_method_59_code 45 = .ok (.invokevirtual 286, 3) := by decide +kernel
theorem dX9_best_48 : decode prog_11_method_59_code 48 = .ok (.iload_n 2, 1) := by decide +kernel
theorem dX9_best_49 : decode prog_11_method_59_code 49 = .ok (.sipush 1200, 3) := by decide +kernel
theorem dX9_best_52 : decode prog_11_method_59_code 52 = .ok (.if_icmp .le 9, 3) := by decide +kernel
theorem dX9_best_55 : decode prog_11_method_59_code 55 = .ok (.sipush 1200, 3) := by decide +kernel
theorem dX9_best_58 : decode prog_11_method_59_code 58 = .ok (.goto 4, 3) := by decide +kernel
theorem dX9_best_61 : decode prog_11_method_59_code 61 = .ok (.iload_n 2, 1) := by decide +kernel
theorem dX9_best_62 : decode prog_11_method_59_code 62 = .ok (.istore 4, 2) := by decide +kernel
theorem dX9_best_64 : decode prog_11_method_59_code 64 = .ok (.aload_n 0, 1) := by decide +kernel
theorem dX9_best_65 : decode prog_11_method_59_code 65 = .ok (.getfield 77, 3) := by decide +kernel
theorem dX9_best_68 : decode prog_11_method_59_code 68 = .ok (.iconst 0, 1) := by decide +kernel
theorem dX9_best_69 : decode prog_11_method_59_code 69 = .ok (.iload 4, 2) := by decide +kernel
theorem dX9_best_71 : decode prog_11_method_59_code 71 = .ok (.invokestatic 280, 3) := by decide +kernel
theorem dX9_best_74 : decode prog_11_method_59_code 74 = .ok (.iaload, 1) := by decide +kernel
theorem dX9_best_75 : decode prog_11_method_59_code 75 = .ok (.ldc_w 283, 3) := by decide +kernel
theorem dX9_best_78 : decode prog_11_method_59_code 78 = .ok (.if_icmp .lt 6, 3) := by decide +kernel
theorem dX9_best_81 : decode prog_11_method_59_code 81 = .ok (.ldc 127, 2) := by decide +kernel
theorem dX9_best_83 : decode prog_11_method_59_code 83 = .ok (.ireturn, 1) := by decide +kernel
theorem dX9_best_84 : decode prog_11_method_59_code 84 = .ok (.iload_n 3, 1) := by decide +kernel
theorem dX9_best_85 : decode prog_11_method_59_code 85 = .ok (.iconst (-1), 1) := by decide +kernel
theorem dX9_best_86 : decode prog_11_method_59_code 86 = .ok (.if_icmp .ne 15, 3) := by decide +kernel
theorem dX9_best_89 : decode prog_11_method_59_code 89 = .ok (.aload_n 0, 1) := by decide +kernel
theorem dX9_best_90 : decode prog_11_method_59_code 90 = .ok (.getfield 77, 3) := by decide +kernel
theorem dX9_best_93 : decode prog_11_method_59_code 93 = .ok (.iconst 0, 1) := by decide +kernel
theorem dX9_best_94 : decode prog_11_method_59_code 94 = .ok (.iload 4, 2) := by decide +kernel
theorem dX9_best_96 : decode prog_11_method_59_code 96 = .ok (.invokestatic 280, 3) := by decide +kernel
theorem dX9_best_99 : decode prog_11_method_59_code 99 = .ok (.iaload, 1) := by decide +kernel
theorem dX9_best_100 : decode prog_11_method_59_code 100 = .ok (.ireturn, 1) := by decide +kernel
theorem dX9_best_101 : decode prog_11_method_59_code 101 = .ok (.iconst 0, 1) := by decide +kernel
theorem dX9_best_102 : decode prog_11_method_59_code 102 = .ok (.istore 5, 2) := by decide +kernel
theorem dX9_best_104 : decode prog_11_method_59_code 104 = .ok (.iconst (-1), 1) := by decide +kernel
theorem dX9_best_105 : decode prog_11_method_59_code 105 = .ok (.istore 6, 2) := by decide +kernel
theorem dX9_best_107 : decode prog_11_method_59_code 107 = .ok (.iconst 0, 1) := by decide +kernel
theorem dX9_best_108 : decode prog_11_method_59_code 108 = .ok (.istore 7, 2) := by decide +kernel
theorem dX9_best_110 : decode prog_11_method_59_code 110 = .ok (.iload 7, 2) := by decide +kernel
theorem dX9_best_112 : decode prog_11_method_59_code 112 = .ok (.aload_n 0, 1) := by decide +kernel
theorem dX9_best_113 : decode prog_11_method_59_code 113 = .ok (.getfield 23, 3) := by decide +kernel
theorem dX9_best_116 : decode prog_11_method_59_code 116 = .ok (.iload_n 1, 1) := by decide +kernel
theorem dX9_best_117 : decode prog_11_method_59_code 117 = .ok (.iaload, 1) := by decide +kernel
theorem dX9_best_118 : decode prog_11_method_59_code 118 = .ok (.if_icmp .ge 139, 3) := by decide +kernel
theorem dX9_best_121 : decode prog_11_method_59_code 121 = .ok (.iconst 0, 1) := by decide +kernel
theorem dX9_best_122 : decode prog_11_method_59_code 122 = .ok (.istore 8, 2) := by decide +kernel
theorem dX9_best_124 : decode prog_11_method_59_code 124 = .ok (.iload 4, 2) := by decide +kernel
theorem dX9_best_126 : decode prog_11_method_59_code 126 = .ok (.aload_n 0, 1) := by decide +kernel
theorem dX9_best_127 : decode prog_11_method_59_code 127 = .ok (.getfield 83, 3) := by decide +kernel
theorem dX9_best_130 : decode prog_11_method_59_code 130 = .ok (.iconst 5, 1) := by decide +kernel
theorem dX9_best_131 : decode prog_11_method_59_code 131 = .ok (.iload 7, 2) := by decide +kernel
theorem dX9_best_133 : decode prog_11_method_59_code 133 = .ok (.imul, 1) := by decide +kernel
theorem dX9_best_134 : decode prog_11_method_59_code 134 = .ok (.iload 8, 2) := by decide +kernel
theorem dX9_best_136 : decode prog_11_method_59_code 136 = .ok (.iadd, 1) := by decide +kernel
theorem dX9_best_137 : decode prog_11_method_59_code 137 = .ok (.iaload, 1) := by decide +kernel
theorem dX9_best_138 : decode prog_11_method_59_code 138 = .ok (.if_icmp .lt 58, 3) := by decide +kernel
theorem dX9_best_141 : decode prog_11_method_59_code 141 = .ok (.aload_n 0, 1) := by decide +kernel
theorem dX9_best_142 : decode prog_11_method_59_code 142 = .ok (.getfield 80, 3) := by decide +kernel
theorem dX9_best_145 : decode prog_11_method_59_code 145 = .ok (.iconst 5, 1) := by decide +kernel
theorem dX9_best_146 : decode prog_11_method_59_code 146 = .ok (.iload 7, 2) := by decide +kernel
theorem dX9_best_148 : decode prog_11_method_59_code 148 = .ok (.imul, 1) := by decide +kernel
theorem dX9_best_149 : decode prog_11_method_59_code 149 = .ok (.iload 8, 2) := by decide +kernel
theorem dX9_best_151 : decode prog_11_method_59_code 151 = .ok (.iadd, 1) := by decide +kernel
theorem dX9_best_152 : decode prog_11_method_59_code 152 = .ok (.iaload, 1) := by decide +kernel
theorem dX9_best_153 : decode prog_11_method_59_code 153 = .ok (.aload_n 0, 1) := by decide +kernel
theorem dX9_best_154 : decode prog_11_method_59_code 154 = .ok (.getfield 77, 3) := by decide +kernel
theorem dX9_best_157 : decode prog_11_method_59_code 157 = .ok (.iload 7, 2) := by decide +kernel
theorem dX9_best_159 : decode prog_11_method_59_code 159 = .ok (.iconst 1, 1) := by decide +kernel
theorem dX9_best_160 : decode prog_11_method_59_code 160 = .ok (.iadd, 1) := by decide +kernel
theorem dX9_best_161 : decode prog_11_method_59_code 161 = .ok (.iload 4, 2) := by decide +kernel
theorem dX9_best_163 : decode prog_11_method_59_code 163 = .ok (.aload_n 0, 1) := by decide +kernel
theorem dX9_best_164 : decode prog_11_method_59_code 164 = .ok (.getfield 83, 3) := by decide +kernel
theorem dX9_best_167 : decode prog_11_method_59_code 167 = .ok (.iconst 5, 1) := by decide +kernel
theorem dX9_best_168 : decode prog_11_method_59_code 168 = .ok (.iload 7, 2) := by decide +kernel
theorem dX9_best_170 : decode prog_11_method_59_code 170 = .ok (.imul, 1) := by decide +kernel
theorem dX9_best_171 : decode prog_11_method_59_code 171 = .ok (.iload 8, 2) := by decide +kernel
theorem dX9_best_173 : decode prog_11_method_59_code 173 = .ok (.iadd, 1) := by decide +kernel
theorem dX9_best_174 : decode prog_11_method_59_code 174 = .ok (.iaload, 1) := by decide +kernel
theorem dX9_best_175 : decode prog_11_method_59_code 175 = .ok (.isub, 1) := by decide +kernel
theorem dX9_best_176 : decode prog_11_method_59_code 176 = .ok (.invokestatic 280, 3) := by decide +kernel
theorem dX9_best_179 : decode prog_11_method_59_code 179 = .ok (.iaload, 1) := by decide +kernel
theorem dX9_best_180 : decode prog_11_method_59_code 180 = .ok (.iadd, 1) := by decide +kernel
theorem dX9_best_181 : decode prog_11_method_59_code 181 = .ok (.aload_n 0, 1) := by decide +kernel
theorem dX9_best_182 : decode prog_11_method_59_code 182 = .ok (.getfield 77, 3) := by decide +kernel
theorem dX9_best_185 : decode prog_11_method_59_code 185 = .ok (.iload 7, 2) := by decide +kernel
theorem dX9_best_187 : decode prog_11_method_59_code 187 = .ok (.iload 4, 2) := by decide +kernel
theorem dX9_best_189 : decode prog_11_method_59_code 189 = .ok (.invokestatic 280, 3) := by decide +kernel
theorem dX9_best_192 : decode prog_11_method_59_code 192 = .ok (.iaload, 1) := by decide +kernel
theorem dX9_best_193 : decode prog_11_method_59_code 193 = .ok (.if_icmp .eq 9, 3) := by decide +kernel
theorem dX9_best_196 : decode prog_11_method_59_code 196 = .ok (.iinc 8 1, 3) := by decide +kernel
theorem dX9_best_199 : decode prog_11_method_59_code 199 = .ok (.goto (-75), 3) := by decide +kernel
theorem dX9_best_202 : decode prog_11_method_59_code 202 = .ok (.iload 4, 2) := by decide +kernel
theorem dX9_best_204 : decode prog_11_method_59_code 204 = .ok (.aload_n 0, 1) := by decide +kernel
theorem dX9_best_205 : decode prog_11_method_59_code 205 = .ok (.getfield 83, 3) := by decide +kernel
theorem dX9_best_208 : decode prog_11_method_59_code 208 = .ok (.iconst 5, 1) := by decide +kernel
theorem dX9_best_209 : decode prog_11_method_59_code 209 = .ok (.iload 7, 2) := by decide +kernel
theorem dX9_best_211 : decode prog_11_method_59_code 211 = .ok (.imul, 1) := by decide +kernel
theorem dX9_best_212 : decode prog_11_method_59_code 212 = .ok (.iload 8, 2) := by decide +kernel
theorem dX9_best_214 : decode prog_11_method_59_code 214 = .ok (.iadd, 1) := by decide +kernel
theorem dX9_best_215 : decode prog_11_method_59_code 215 = .ok (.iaload, 1) := by decide +kernel
theorem dX9_best_216 : decode prog_11_method_59_code 216 = .ok (.isub, 1) := by decide +kernel
theorem dX9_best_217 : decode prog_11_method_59_code 217 = .ok (.istore 4, 2) := by decide +kernel
theorem dX9_best_219 : decode prog_11_method_59_code 219 = .ok (.iload 5, 2) := by decide +kernel
theorem dX9_best_221 : decode prog_11_method_59_code 221 = .ok (.aload_n 0, 1) := by decide +kernel
theorem dX9_best_222 : decode prog_11_method_59_code 222 = .ok (.getfield 83, 3) := by decide +kernel
theorem dX9_best_225 : decode prog_11_method_59_code 225 = .ok (.iconst 5, 1) := by decide +kernel
theorem dX9_best_226 : decode prog_11_method_59_code 226 = .ok (.iload 7, 2) := by decide +kernel
theorem dX9_best_228 : decode prog_11_method_59_code 228 = .ok (.imul, 1) := by decide +kernel
theorem dX9_best_229 : decode prog_11_method_59_code 229 = .ok (.iload 8, 2) := by decide +kernel
theorem dX9_best_231 : decode prog_11_method_59_code 231 = .ok (.iadd, 1) := by decide +kernel
theorem dX9_best_232 : decode prog_11_method_59_code 232 = .ok (.iaload, 1) := by decide +kernel
theorem dX9_best_233 : decode prog_11_method_59_code 233 = .ok (.iadd, 1) := by decide +kernel
theorem dX9_best_234 : decode prog_11_method_59_code 234 = .ok (.istore 5, 2) := by decide +kernel
theorem dX9_best_236 : decode prog_11_method_59_code 236 = .ok (.iload 7, 2) := by decide +kernel
theorem dX9_best_238 : decode prog_11_method_59_code 238 = .ok (.iload_n 3, 1) := by decide +kernel
theorem dX9_best_239 : decode prog_11_method_59_code 239 = .ok (.if_icmp .ne 8, 3) := by decide +kernel
theorem dX9_best_242 : decode prog_11_method_59_code 242 = .ok (.iload 8, 2) := by decide +kernel
theorem dX9_best_244 : decode prog_11_method_59_code 244 = .ok (.goto 5, 3) := by decide +kernel
theorem dX9_best_247 : decode prog_11_method_59_code 247 = .ok (.iload 6, 2) := by decide +kernel
theorem dX9_best_249 : decode prog_11_method_59_code 249 = .ok (.istore 6, 2) := by decide +kernel
theorem dX9_best_251 : decode prog_11_method_59_code 251 = .ok (.iinc 7 1, 3) := by decide +kernel
theorem dX9_best_254 : decode prog_11_method_59_code 254 = .ok (.goto (-144), 3) := by decide +kernel
theorem dX9_best_257 : decode prog_11_method_59_code 257 = .ok (.iload_n 3, 1) := by decide +kernel
theorem dX9_best_258 : decode prog_11_method_59_code 258 = .ok (.bipush (-2), 2) := by decide +kernel
theorem dX9_best_260 : decode prog_11_method_59_code 260 = .ok (.if_icmp .ne 8, 3) := by decide +kernel
theorem dX9_best_263 : decode prog_11_method_59_code 263 = .ok (.iload 5, 2) := by decide +kernel
theorem dX9_best_265 : decode prog_11_method_59_code 265 = .ok (.goto 5, 3) := by decide +kernel
theorem dX9_best_268 : decode prog_11_method_59_code 268 = .ok (.iload 6, 2) := by decide +kernel
theorem dX9_best_270 : decode prog_11_method_59_code 270 = .ok (.ireturn, 1) := by decide +kernel
abbrev M_X8_sign : am_M := ((⟨"SignCellar", "sign", "(I)I"⟩ : MethodName), prog_1_method_20_code, 2, (some .int), 1, 21)
theorem dX8_sign_0 : decode prog_1_method_20_code 0 = .ok (.iload_n 1, 1) := by decide +kernel
theorem dX8_sign_1 : decode prog_1_method_20_code 1 = .ok (.iconst 1, 1) := by decide +kernel
theorem dX8_sign_2 : decode prog_1_method_20_code 2 = .ok (.if_icmp .lt 10, 3) := by decide +kernel
theorem dX8_sign_5 : decode prog_1_method_20_code 5 = .ok (.iload_n 1, 1) := by decide +kernel
theorem dX8_sign_6 : decode prog_1_method_20_code 6 = .ok (.ldc_w 271, 3) := by decide +kernel
theorem dX8_sign_9 : decode prog_1_method_20_code 9 = .ok (.if_icmp .le 6, 3) := by decide +kernel
theorem dX8_sign_12 : decode prog_1_method_20_code 12 = .ok (.ldc 92, 2) := by decide +kernel
theorem dX8_sign_14 : decode prog_1_method_20_code 14 = .ok (.ireturn, 1) := by decide +kernel
theorem dX8_sign_15 : decode prog_1_method_20_code 15 = .ok (.aload_n 0, 1) := by decide +kernel
theorem dX8_sign_16 : decode prog_1_method_20_code 16 = .ok (.getfield 18, 3) := by decide +kernel
theorem dX8_sign_19 : decode prog_1_method_20_code 19 = .ok (.invokevirtual 93, 3) := by decide +kernel
theorem dX8_sign_22 : decode prog_1_method_20_code 22 = .ok (.bipush 12, 2) := by decide +kernel
theorem dX8_sign_24 : decode prog_1_method_20_code 24 = .ok (.if_icmp .ne 6, 3) := by decide +kernel
theorem dX8_sign_27 : decode prog_1_method_20_code 27 = .ok (.ldc 97, 2) := by decide +kernel
theorem dX8_sign_29 : decode prog_1_method_20_code 29 = .ok (.ireturn, 1) := by decide +kernel
theorem dX8_sign_30 : decode prog_1_method_20_code 30 = .ok (.aload_n 0, 1) := by decide +kernel
theorem dX8_sign_31 : decode prog_1_method_20_code 31 = .ok (.getfield 18, 3) := by decide +kernel
theorem dX8_sign_34 : decode prog_1_method_20_code 34 = .ok (.iload_n 1, 1) := by decide +kernel
theorem dX8_sign_35 : decode prog_1_method_20_code 35 = .ok (.invokevirtual 98, 3) := by decide +kernel
theorem dX8_sign_38 : decode prog_1_method_20_code 38 = .ok (.aload_n 0, 1) := by decide +kernel
theorem dX8_sign_39 : decode prog_1_method_20_code 39 = .ok (.getfield 18, 3) := by decide +kernel
theorem dX8_sign_42 : decode prog_1_method_20_code 42 = .ok (.invokevirtual 93, 3) := by decide +kernel
theorem dX8_sign_45 : decode prog_1_method_20_code 45 = .ok (.ireturn, 1) := by decide +kernel
abbrev M_X9_sign_ : am_M := ((⟨"SignCellarModel", "sign", "(I)I"⟩ : MethodName), prog_11_method_60_code, 2, (some .int), 1, 25)
theorem dX9_sign__0 : decode prog_11_method_60_code 0 = .ok (.iload_n 1, 1) := by decide +kernel
theorem dX9_sign__1 : decode prog_11_method_60_code 1 = .ok (.i2l, 1) := by decide +kernel
theorem dX9_sign__2 : decode prog_11_method_60_code 2 = .ok (.lconst 1, 1) := by decide +kernel
theorem dX9_sign__3 : decode prog_11_method_60_code 3 = .ok (.ldc2_w 289, 3) := by decide +kernel
theorem dX9_sign__6 : decode prog_11_method_60_code 6 = .ok (.invokestatic 96, 3) := by decide +kernel
theorem dX9_sign__9 : decode prog_11_method_60_code 9 = .ok (.ifCond .ne 6, 3) := by decide +kernel
theorem dX9_sign__12 : decode prog_11_method_60_code 12 = .ok (.ldc 105, 2) := by decide +kernel
theorem dX9_sign__14 : decode prog_11_method_60_code 14 = .ok (.ireturn, 1) := by decide +kernel
theorem dX9_sign__15 : decode prog_11_method_60_code 15 = .ok (.aload_n 0, 1) := by decide +kernel
theorem dX9_sign__16 : decode prog_11_method_60_code 16 = .ok (.getfield 191, 3) := by decide +kernel
theorem dX9_sign__19 : decode prog_11_method_60_code 19 = .ok (.bipush 12, 2) := by decide +kernel
theorem dX9_sign__21 : decode prog_11_method_60_code 21 = .ok (.if_icmp .ne 6, 3) := by decide +kernel
theorem dX9_sign__24 : decode prog_11_method_60_code 24 = .ok (.ldc 109, 2) := by decide +kernel
theorem dX9_sign__26 : decode prog_11_method_60_code 26 = .ok (.ireturn, 1) := by decide +kernel
theorem dX9_sign__27 : decode prog_11_method_60_code 27 = .ok (.aload_n 0, 1) := by decide +kernel
theorem dX9_sign__28 : decode prog_11_method_60_code 28 = .ok (.getfield 86, 3) := by decide +kernel
theorem dX9_sign__31 : decode prog_11_method_60_code 31 = .ok (.aload_n 0, 1) := by decide +kernel
theorem dX9_sign__32 : decode prog_11_method_60_code 32 = .ok (.getfield 191, 3) := by decide +kernel
theorem dX9_sign__35 : decode prog_11_method_60_code 35 = .ok (.iload_n 1, 1) := by decide +kernel
theorem dX9_sign__36 : decode prog_11_method_60_code 36 = .ok (.iastore, 1) := by decide +kernel
theorem dX9_sign__37 : decode prog_11_method_60_code 37 = .ok (.aload_n 0, 1) := by decide +kernel
theorem dX9_sign__38 : decode prog_11_method_60_code 38 = .ok (.dup, 1) := by decide +kernel
theorem dX9_sign__39 : decode prog_11_method_60_code 39 = .ok (.getfield 191, 3) := by decide +kernel
theorem dX9_sign__42 : decode prog_11_method_60_code 42 = .ok (.iconst 1, 1) := by decide +kernel
theorem dX9_sign__43 : decode prog_11_method_60_code 43 = .ok (.iadd, 1) := by decide +kernel
theorem dX9_sign__44 : decode prog_11_method_60_code 44 = .ok (.putfield 191, 3) := by decide +kernel
theorem dX9_sign__47 : decode prog_11_method_60_code 47 = .ok (.aload_n 0, 1) := by decide +kernel
theorem dX9_sign__48 : decode prog_11_method_60_code 48 = .ok (.getfield 191, 3) := by decide +kernel
theorem dX9_sign__51 : decode prog_11_method_60_code 51 = .ok (.ireturn, 1) := by decide +kernel
abbrev M_X8_clear : am_M := ((⟨"SignCellar", "clear", "()I"⟩ : MethodName), prog_1_method_21_code, 2, (some .int), 1, 20)
theorem dX8_clear_0 : decode prog_1_method_21_code 0 = .ok (.aload_n 0, 1) := by decide +kernel
theorem dX8_clear_1 : decode prog_1_method_21_code 1 = .ok (.getfield 18, 3) := by decide +kernel
theorem dX8_clear_4 : decode prog_1_method_21_code 4 = .ok (.invokevirtual 93, 3) := by decide +kernel
theorem dX8_clear_7 : decode prog_1_method_21_code 7 = .ok (.istore_n 1, 1) := by decide +kernel
theorem dX8_clear_8 : decode prog_1_method_21_code 8 = .ok (.aload_n 0, 1) := by decide +kernel
theorem dX8_clear_9 : decode prog_1_method_21_code 9 = .ok (.getfield 18, 3) := by decide +kernel
theorem dX8_clear_12 : decode prog_1_method_21_code 12 = .ok (.invokevirtual 119, 3) := by decide +kernel
theorem dX8_clear_15 : decode prog_1_method_21_code 15 = .ok (.iload_n 1, 1) := by decide +kernel
theorem dX8_clear_16 : decode prog_1_method_21_code 16 = .ok (.ireturn, 1) := by decide +kernel
abbrev M_X9_clear : am_M := ((⟨"SignCellarModel", "clear", "()I"⟩ : MethodName), prog_11_method_61_code, 2, (some .int), 0, 0)
theorem dX9_clear_0 : decode prog_11_method_61_code 0 = .ok (.aload_n 0, 1) := by decide +kernel
theorem dX9_clear_1 : decode prog_11_method_61_code 1 = .ok (.getfield 191, 3) := by decide +kernel
theorem dX9_clear_4 : decode prog_11_method_61_code 4 = .ok (.istore_n 1, 1) := by decide +kernel
theorem dX9_clear_5 : decode prog_11_method_61_code 5 = .ok (.aload_n 0, 1) := by decide +kernel
theorem dX9_clear_6 : decode prog_11_method_61_code 6 = .ok (.iconst 0, 1) := by decide +kernel
theorem dX9_clear_7 : decode prog_11_method_61_code 7 = .ok (.putfield 191, 3) := by decide +kernel
theorem dX9_clear_10 : decode prog_11_method_61_code 10 = .ok (.iload_n 1, 1) := by decide +kernel
theorem dX9_clear_11 : decode prog_11_method_61_code 11 = .ok (.ireturn, 1) := by decide +kernel
abbrev M_X8_openAll : am_M := ((⟨"SignCellar", "openAll", "(LSignCellar$Version;)V"⟩ : MethodName), prog_1_method_61_code, 4, none, 2, 45)
theorem dX8_openAll_0 : decode prog_1_method_61_code 0 = .ok (.aload_n 0, 1) := by decide +kernel
theorem dX8_openAll_1 : decode prog_1_method_61_code 1 = .ok (.getfield 49, 3) := by decide +kernel
theorem dX8_openAll_4 : decode prog_1_method_61_code 4 = .ok (.invokevirtual 119, 3) := by decide +kernel
theorem dX8_openAll_7 : decode prog_1_method_61_code 7 = .ok (.iconst 0, 1) := by decide +kernel
theorem dX8_openAll_8 : decode prog_1_method_61_code 8 = .ok (.istore_n 2, 1) := by decide +kernel
theorem dX8_openAll_9 : decode prog_1_method_61_code 9 = .ok (.iload_n 2, 1) := by decide +kernel
theorem dX8_openAll_10 : decode prog_1_method_61_code 10 = .ok (.aload_n 1, 1) := by decide +kernel
theorem dX8_openAll_11 : decode prog_1_method_61_code 11 = .ok (.getfield 148, 3) := by decide +kernel
theorem dX8_openAll_14 : decode prog_1_method_61_code 14 = .ok (.invokevirtual 93, 3) := by decide +kernel
theorem dX8_openAll_17 : decode prog_1_method_61_code 17 = .ok (.if_icmp .ge 45, 3) := by decide +kernel
theorem dX8_openAll_20 : decode prog_1_method_61_code 20 = .ok (.aload_n 0, 1) := by decide +kernel
theorem dX8_openAll_21 : decode prog_1_method_61_code 21 = .ok (.aload_n 1, 1) := by decide +kernel
theorem dX8_openAll_22 : decode prog_1_method_61_code 22 = .ok (.getfield 148, 3) := by decide +kernel
theorem dX8_openAll_25 : decode prog_1_method_61_code 25 = .ok (.iload_n 2, 1) := by decide +kernel
theorem dX8_openAll_26 : decode prog_1_method_61_code 26 = .ok (.invokevirtual 161, 3) := by decide +kernel
theorem dX8_openAll_29 : decode prog_1_method_61_code 29 = .ok (.invokevirtual 176, 3) := by decide +kernel
theorem dX8_openAll_32 : decode prog_1_method_61_code 32 = .ok (.astore_n 3, 1) := by decide +kernel
theorem dX8_openAll_33 : decode prog_1_method_61_code 33 = .ok (.aload_n 3, 1) := by decide +kernel
theorem dX8_openAll_34 : decode prog_1_method_61_code 34 = .ok (.ifnull 22, 3) := by decide +kernel
theorem dX8_openAll_37 : decode prog_1_method_61_code 37 = .ok (.aload_n 0, 1) := by decide +kernel
theorem dX8_openAll_38 : decode prog_1_method_61_code 38 = .ok (.getfield 49, 3) := by decide +kernel
theorem dX8_openAll_41 : decode prog_1_method_61_code 41 = .ok (.aload_n 3, 1) := by decide +kernel
theorem dX8_openAll_42 : decode prog_1_method_61_code 42 = .ok (.getfield 180, 3) := by decide +kernel
theorem dX8_openAll_45 : decode prog_1_method_61_code 45 = .ok (.iconst 0, 1) := by decide +kernel
theorem dX8_openAll_46 : decode prog_1_method_61_code 46 = .ok (.aload_n 3, 1) := by decide +kernel
theorem dX8_openAll_47 : decode prog_1_method_61_code 47 = .ok (.getfield 180, 3) := by decide +kernel
theorem dX8_openAll_50 : decode prog_1_method_61_code 50 = .ok (.invokevirtual 93, 3) := by decide +kernel
theorem dX8_openAll_53 : decode prog_1_method_61_code 53 = .ok (.invokevirtual 335, 3) := by decide +kernel
theorem dX8_openAll_56 : decode prog_1_method_61_code 56 = .ok (.iinc 2 1, 3) := by decide +kernel
theorem dX8_openAll_59 : decode prog_1_method_61_code 59 = .ok (.goto (-50), 3) := by decide +kernel
theorem dX8_openAll_62 : decode prog_1_method_61_code 62 = .ok (.return_, 1) := by decide +kernel
abbrev M_X8_slipsAt : am_M := ((⟨"SignCellar", "slipsAt", "(I)I"⟩ : MethodName), prog_1_method_62_code, 4, (some .int), 1, 21)
theorem dX8_slipsAt_0 : decode prog_1_method_62_code 0 = .ok (.iconst 0, 1) := by decide +kernel
theorem dX8_slipsAt_1 : decode prog_1_method_62_code 1 = .ok (.istore_n 2, 1) := by decide +kernel
theorem dX8_slipsAt_2 : decode prog_1_method_62_code 2 = .ok (.iconst 0, 1) := by decide +kernel
theorem dX8_slipsAt_3 : decode prog_1_method_62_code 3 = .ok (.istore_n 3, 1) := by decide +kernel
theorem dX8_slipsAt_4 : decode prog_1_method_62_code 4 = .ok (.iload_n 3, 1) := by decide +kernel
theorem dX8_slipsAt_5 : decode prog_1_method_62_code 5 = .ok (.aload_n 0, 1) := by decide +kernel
theorem dX8_slipsAt_6 : decode prog_1_method_62_code 6 = .ok (.getfield 18, 3) := by decide +kernel
theorem dX8_slipsAt_9 : decode prog_1_method_62_code 9 = .ok (.invokevirtual 93, 3) := by decide +kernel
theorem dX8_slipsAt_12 : decode prog_1_method_62_code 12 = .ok (.if_icmp .ge 36, 3) := by decide +kernel
theorem dX8_slipsAt_15 : decode prog_1_method_62_code 15 = .ok (.aload_n 0, 1) := by decide +kernel
theorem dX8_slipsAt_16 : decode prog_1_method_62_code 16 = .ok (.getfield 18, 3) := by decide +kernel
theorem dX8_slipsAt_19 : decode prog_1_method_62_code 19 = .ok (.iload_n 3, 1) := by decide +kernel
theorem dX8_slipsAt_20 : decode prog_1_method_62_code 20 = .ok (.invokevirtual 161, 3) := by decide +kernel
theorem dX8_slipsAt_23 : decode prog_1_method_62_code 23 = .ok (.aload_n 0, 1) := by decide +kernel
theorem dX8_slipsAt_24 : decode prog_1_method_62_code 24 = .ok (.getfield 49, 3) := by decide +kernel
theorem dX8_slipsAt_27 : decode prog_1_method_62_code 27 = .ok (.iload_n 1, 1) := by decide +kernel
theorem dX8_slipsAt_28 : decode prog_1_method_62_code 28 = .ok (.iload_n 3, 1) := by decide +kernel
theorem dX8_slipsAt_29 : decode prog_1_method_62_code 29 = .ok (.iadd, 1) := by decide +kernel
theorem dX8_slipsAt_30 : decode prog_1_method_62_code 30 = .ok (.invokevirtual 161, 3) := by decide +kernel
theorem dX8_slipsAt_33 : decode prog_1_method_62_code 33 = .ok (.ishr, 1) := by decide +kernel
theorem dX8_slipsAt_34 : decode prog_1_method_62_code 34 = .ok (.iconst 1, 1) := by decide +kernel
theorem dX8_slipsAt_35 : decode prog_1_method_62_code 35 = .ok (.iand, 1) := by decide +kernel
theorem dX8_slipsAt_36 : decode prog_1_method_62_code 36 = .ok (.ifCond .ne 6, 3) := by decide +kernel
theorem dX8_slipsAt_39 : decode prog_1_method_62_code 39 = .ok (.iinc 2 1, 3) := by decide +kernel
theorem dX8_slipsAt_42 : decode prog_1_method_62_code 42 = .ok (.iinc 3 1, 3) := by decide +kernel
theorem dX8_slipsAt_45 : decode prog_1_method_62_code 45 = .ok (.goto (-41), 3) := by decide +kernel
theorem dX8_slipsAt_48 : decode prog_1_method_62_code 48 = .ok (.iload_n 2, 1) := by decide +kernel
theorem dX8_slipsAt_49 : decode prog_1_method_62_code 49 = .ok (.ireturn, 1) := by decide +kernel
abbrev M_X8_seek : am_M := ((⟨"SignCellar", "seek", "(III)I"⟩ : MethodName), prog_1_method_22_code, 7, (some .int), 3, 68)
theorem dX8_seek_0 : decode prog_1_method_22_code 0 = .ok (.aload_n 0, 1) := by decide +kernel
theorem dX8_seek_1 : decode prog_1_method_22_code 1 = .ok (.iload_n 1, 1) := by decide +kernel
theorem dX8_seek_2 : decode prog_1_method_22_code 2 = .ok (.invokevirtual 126, 3) := by decide +kernel
theorem dX8_seek_5 : decode prog_1_method_22_code 5 = .ok (.astore 4, 2) := by decide +kernel
theorem dX8_seek_7 : decode prog_1_method_22_code 7 = .ok (.aload 4, 2) := by decide +kernel
theorem dX8_seek_9 : decode prog_1_method_22_code 9 = .ok (.ifnonnull 6, 3) := by decide +kernel
theorem dX8_seek_12 : decode prog_1_method_22_code 12 = .ok (.ldc 133, 2) := by decide +kernel
theorem dX8_seek_14 : decode prog_1_method_22_code 14 = .ok (.ireturn, 1) := by decide +kernel
theorem dX8_seek_15 : decode prog_1_method_22_code 15 = .ok (.iload_n 2, 1) := by decide +kernel
theorem dX8_seek_16 : decode prog_1_method_22_code 16 = .ok (.ifCond .lt 8, 3) := by decide +kernel
theorem dX8_seek_19 : decode prog_1_method_22_code 19 = .ok (.iload_n 2, 1) := by decide +kernel
theorem dX8_seek_20 : decode prog_1_method_22_code 20 = .ok (.iconst 3, 1) := by decide +kernel
theorem dX8_seek_21 : decode prog_1_method_22_code 21 = .ok (.if_icmp .le 6, 3) := by decide +kernel
theorem dX8_seek_24 : decode prog_1_method_22_code 24 = .ok (.ldc 92, 2) := by decide +kernel
theorem dX8_seek_26 : decode prog_1_method_22_code 26 = .ok (.ireturn, 1) := by decide +kernel
theorem dX8_seek_27 : decode prog_1_method_22_code 27 = .ok (.aload_n 0, 1) := by decide +kernel
theorem dX8_seek_28 : decode prog_1_method_22_code 28 = .ok (.getfield 18, 3) := by decide +kernel
theorem dX8_seek_31 : decode prog_1_method_22_code 31 = .ok (.invokevirtual 93, 3) := by decide +kernel
theorem dX8_seek_34 : decode prog_1_method_22_code 34 = .ok (.ifCond .ne 6, 3) := by decide +kernel
theorem dX8_seek_37 : decode prog_1_method_22_code 37 = .ok (.ldc 101, 2) := by decide +kernel
theorem dX8_seek_39 : decode prog_1_method_22_code 39 = .ok (.ireturn, 1) := by decide +kernel
theorem dX8_seek_40 : decode prog_1_method_22_code 40 = .ok (.aload_n 0, 1) := by decide +kernel
theorem dX8_seek_41 : decode prog_1_method_22_code 41 = .ok (.aload 4, 2) := by decide +kernel
theorem dX8_seek_43 : decode prog_1_method_22_code 43 = .ok (.invokevirtual 157, 3) := by decide +kernel
theorem dX8_seek_46 : decode prog_1_method_22_code 46 = .ok (.ifCond .le 6, 3) := by decide +kernel
theorem dX8_seek_49 : decode prog_1_method_22_code 49 = .ok (.ldc 168, 2) := by decide +kernel
theorem dX8_seek_51 : decode prog_1_method_22_code 51 = .ok (.ireturn, 1) := by decide +kernel
theorem dX8_seek_52 : decode prog_1_method_22_code 52 = .ok (.aload_n 0, 1) := by decide +kernel
theorem dX8_seek_53 : decode prog_1_method_22_code 53 = .ok (.aload 4, 2) := by decide +kernel
theorem dX8_seek_55 : decode prog_1_method_22_code 55 = .ok (.invokevirtual 272, 3) := by decide +kernel
theorem dX8_seek_58 : decode prog_1_method_22_code 58 = .ok (.iconst 0, 1) := by decide +kernel
theorem dX8_seek_59 : decode prog_1_method_22_code 59 = .ok (.istore 5, 2) := by decide +kernel
theorem dX8_seek_61 : decode prog_1_method_22_code 61 = .ok (.iconst 0, 1) := by decide +kernel
theorem dX8_seek_62 : decode prog_1_method_22_code 62 = .ok (.istore 6, 2) := by decide +kernel
theorem dX8_seek_64 : decode prog_1_method_22_code 64 = .ok (.iload 6, 2) := by decide +kernel
theorem dX8_seek_66 : decode prog_1_method_22_code 66 = .ok (.aload_n 0, 1) := by decide +kernel
theorem dX8_seek_67 : decode prog_1_method_22_code 67 = .ok (.getfield 18, 3) := by decide +kernel
theorem dX8_seek_70 : decode prog_1_method_22_code 70 = .ok (.invokevirtual 93, 3) := by decide +kernel
theorem dX8_seek_73 : decode prog_1_method_22_code 73 = .ok (.iadd, 1) := by decide +kernel
theorem dX8_seek_74 : decode prog_1_method_22_code 74 = .ok (.aload_n 0, 1) := by decide +kernel
theorem dX8_seek_75 : decode prog_1_method_22_code 75 = .ok (.getfield 49, 3) := by decide +kernel
theorem dX8_seek_78 : decode prog_1_method_22_code 78 = .ok (.invokevirtual 93, 3) := by decide +kernel
theorem dX8_seek_81 : decode prog_1_method_22_code 81 = .ok (.if_icmp .gt 31, 3) := by decide +kernel
theorem dX8_seek_84 : decode prog_1_method_22_code 84 = .ok (.aload_n 0, 1) := by decide +kernel
theorem dX8_seek_85 : decode prog_1_method_22_code 85 = .ok (.iload 6, 2) := by decide +kernel
theorem dX8_seek_87 : decode prog_1_method_22_code 87 = .ok (.invokevirtual 276, 3) := by decide +kernel
theorem dX8_seek_90 : decode prog_1_method_22_code 90 = .ok (.iload_n 2, 1) := by decide +kernel
theorem dX8_seek_91 : decode prog_1_method_22_code 91 = .ok (.if_icmp .gt 15, 3) := by decide +kernel
theorem dX8_seek_94 : decode prog_1_method_22_code 94 = .ok (.iload 5, 2) := by decide +kernel
theorem dX8_seek_96 : decode prog_1_method_22_code 96 = .ok (.iload_n 3, 1) := by decide +kernel
theorem dX8_seek_97 : decode prog_1_method_22_code 97 = .ok (.if_icmp .ne 6, 3) := by decide +kernel
theorem dX8_seek_100 : decode prog_1_method_22_code 100 = .ok (.iload 6, 2) := by decide +kernel
theorem dX8_seek_102 : decode prog_1_method_22_code 102 = .ok (.ireturn, 1) := by decide +kernel
theorem dX8_seek_103 : decode prog_1_method_22_code 103 = .ok (.iinc 5 1, 3) := by decide +kernel
theorem dX8_seek_106 : decode prog_1_method_22_code 106 = .ok (.iinc 6 1, 3) := by decide +kernel
theorem dX8_seek_109 : decode prog_1_method_22_code 109 = .ok (.goto (-45), 3) := by decide +kernel
theorem dX8_seek_112 : decode prog_1_method_22_code 112 = .ok (.iload_n 3, 1) := by decide +kernel
theorem dX8_seek_113 : decode prog_1_method_22_code 113 = .ok (.iconst (-1), 1) := by decide +kernel
theorem dX8_seek_114 : decode prog_1_method_22_code 114 = .ok (.if_icmp .ne 8, 3) := by decide +kernel
theorem dX8_seek_117 : decode prog_1_method_22_code 117 = .ok (.iload 5, 2) := by decide +kernel
theorem dX8_seek_119 : decode prog_1_method_22_code 119 = .ok (.goto 4, 3) := by decide +kernel
theorem dX8_seek_122 : decode prog_1_method_22_code 122 = .ok (.iconst (-1), 1) := by decide +kernel
theorem dX8_seek_123 : decode prog_1_method_22_code 123 = .ok (.ireturn, 1) := by decide +kernel
abbrev M_X9_signAt : am_M := ((⟨"SignCellarModel", "signAt", "(II)I"⟩ : MethodName), prog_11_method_62_code, 3, (some .int), 2, 44)
theorem dX9_signAt_0 : decode prog_11_method_62_code 0 = .ok (.aload_n 0, 1) := by decide +kernel
theorem dX9_signAt_1 : decode prog_11_method_62_code 1 = .ok (.iload_n 1, 1) := by decide +kernel
theorem dX9_signAt_2 : decode prog_11_method_62_code 2 = .ok (.iload_n 2, 1) := by decide +kernel
theorem dX9_signAt_3 : decode prog_11_method_62_code 3 = .ok (.invokevirtual 169, 3) := by decide +kernel
theorem dX9_signAt_6 : decode prog_11_method_62_code 6 = .ok (.aload_n 0, 1) := by decide +kernel
theorem dX9_signAt_7 : decode prog_11_method_62_code 7 = .ok (.aload_n 0, 1) := by decide +kernel
theorem dX9_signAt_8 : decode prog_11_method_62_code 8 = .ok (.iload_n 1, 1) := by decide +kernel
theorem dX9_signAt_9 : decode prog_11_method_62_code 9 = .ok (.aload_n 0, 1) := by decide +kernel
theorem dX9_signAt_10 : decode prog_11_method_62_code 10 = .ok (.getfield 144, 3) := by decide +kernel
theorem dX9_signAt_13 : decode prog_11_method_62_code 13 = .ok (.invokevirtual 141, 3) := by decide +kernel
theorem dX9_signAt_16 : decode prog_11_method_62_code 16 = .ok (.aload_n 0, 1) := by decide +kernel
theorem dX9_signAt_17 : decode prog_11_method_62_code 17 = .ok (.getfield 147, 3) := by decide +kernel
theorem dX9_signAt_20 : decode prog_11_method_62_code 20 = .ok (.invokevirtual 113, 3) := by decide +kernel
theorem dX9_signAt_23 : decode prog_11_method_62_code 23 = .ok (.ireturn, 1) := by decide +kernel
abbrev M_X9_seek : am_M := ((⟨"SignCellarModel", "seek", "(III)I"⟩ : MethodName), prog_11_method_63_code, 10, (some .int), 3, 66)
theorem dX9_seek_0 : decode prog_11_method_63_code 0 = .ok (.aload_n 0, 1) := by decide +kernel
theorem dX9_seek_1 : decode prog_11_method_63_code 1 = .ok (.iload_n 1, 1) := by decide +kernel
theorem dX9_seek_2 : decode prog_11_method_63_code 2 = .ok (.invokevirtual 154, 3) := by decide +kernel
theorem dX9_seek_5 : decode prog_11_method_63_code 5 = .ok (.ifCond .eq 6, 3) := by decide +kernel
theorem dX9_seek_8 : decode prog_11_method_63_code 8 = .ok (.ldc 164, 2) := by decide +kernel
theorem dX9_seek_10 : decode prog_11_method_63_code 10 = .ok (.ireturn, 1) := by decide +kernel
theorem dX9_seek_11 : decode prog_11_method_63_code 11 = .ok (.iload_n 2, 1) := by decide +kernel
theorem dX9_seek_12 : decode prog_11_method_63_code 12 = .ok (.i2l, 1) := by decide +kernel
theorem dX9_seek_13 : decode prog_11_method_63_code 13 = .ok (.lconst 0, 1) := by decide +kernel
theorem dX9_seek_14 : decode prog_11_method_63_code 14 = .ok (.ldc2_w 291, 3) := by decide +kernel
theorem dX9_seek_17 : decode prog_11_method_63_code 17 = .ok (.invokestatic 96, 3) := by decide +kernel
theorem dX9_seek_20 : decode prog_11_method_63_code 20 = .ok (.ifCond .ne 6, 3) := by decide +kernel
theorem dX9_seek_23 : decode prog_11_method_63_code 23 = .ok (.ldc 105, 2) := by decide +kernel
theorem dX9_seek_25 : decode prog_11_method_63_code 25 = .ok (.ireturn, 1) := by decide +kernel
theorem dX9_seek_26 : decode prog_11_method_63_code 26 = .ok (.aload_n 0, 1) := by decide +kernel
theorem dX9_seek_27 : decode prog_11_method_63_code 27 = .ok (.getfield 191, 3) := by decide +kernel
theorem dX9_seek_30 : decode prog_11_method_63_code 30 = .ok (.ifCond .ne 6, 3) := by decide +kernel
theorem dX9_seek_33 : decode prog_11_method_63_code 33 = .ok (.ldc 127, 2) := by decide +kernel
theorem dX9_seek_35 : decode prog_11_method_63_code 35 = .ok (.ireturn, 1) := by decide +kernel
theorem dX9_seek_36 : decode prog_11_method_63_code 36 = .ok (.aload_n 0, 1) := by decide +kernel
theorem dX9_seek_37 : decode prog_11_method_63_code 37 = .ok (.iload_n 1, 1) := by decide +kernel
theorem dX9_seek_38 : decode prog_11_method_63_code 38 = .ok (.invokevirtual 165, 3) := by decide +kernel
theorem dX9_seek_41 : decode prog_11_method_63_code 41 = .ok (.ifCond .le 6, 3) := by decide +kernel
theorem dX9_seek_44 : decode prog_11_method_63_code 44 = .ok (.ldc 168, 2) := by decide +kernel
theorem dX9_seek_46 : decode prog_11_method_63_code 46 = .ok (.ireturn, 1) := by decide +kernel
theorem dX9_seek_47 : decode prog_11_method_63_code 47 = .ok (.iconst 0, 1) := by decide +kernel
theorem dX9_seek_48 : decode prog_11_method_63_code 48 = .ok (.istore 4, 2) := by decide +kernel
theorem dX9_seek_50 : decode prog_11_method_63_code 50 = .ok (.iconst (-1), 1) := by decide +kernel
theorem dX9_seek_51 : decode prog_11_method_63_code 51 = .ok (.istore 5, 2) := by decide +kernel
theorem dX9_seek_53 : decode prog_11_method_63_code 53 = .ok (.aload_n 0, 1) := by decide +kernel
theorem dX9_seek_54 : decode prog_11_method_63_code 54 = .ok (.iload_n 1, 1) := by decide +kernel
theorem dX9_seek_55 : decode prog_11_method_63_code 55 = .ok (.invokevirtual 157, 3) := by decide +kernel
theorem dX9_seek_58 : decode prog_11_method_63_code 58 = .ok (.istore 6, 2) := by decide +kernel
theorem dX9_seek_60 : decode prog_11_method_63_code 60 = .ok (.iconst 0, 1) := by decide +kernel
theorem dX9_seek_61 : decode prog_11_method_63_code 61 = .ok (.istore 7, 2) := by decide +kernel
theorem dX9_seek_63 : decode prog_11_method_63_code 63 = .ok (.iload 7, 2) := by decide +kernel
theorem dX9_seek_65 : decode prog_11_method_63_code 65 = .ok (.aload_n 0, 1) := by decide +kernel
theorem dX9_seek_66 : decode prog_11_method_63_code 66 = .ok (.getfield 191, 3) := by decide +kernel
theorem dX9_seek_69 : decode prog_11_method_63_code 69 = .ok (.iadd, 1) := by decide +kernel
theorem dX9_seek_70 : decode prog_11_method_63_code 70 = .ok (.iload 6, 2) := by decide +kernel
theorem dX9_seek_72 : decode prog_11_method_63_code 72 = .ok (.if_icmp .gt 81, 3) := by decide +kernel
theorem dX9_seek_75 : decode prog_11_method_63_code 75 = .ok (.iconst 0, 1) := by decide +kernel
theorem dX9_seek_76 : decode prog_11_method_63_code 76 = .ok (.istore 8, 2) := by decide +kernel
theorem dX9_seek_78 : decode prog_11_method_63_code 78 = .ok (.iconst 0, 1) := by decide +kernel
theorem dX9_seek_79 : decode prog_11_method_63_code 79 = .ok (.istore 9, 2) := by decide +kernel
theorem dX9_seek_81 : decode prog_11_method_63_code 81 = .ok (.iload 9, 2) := by decide +kernel
theorem dX9_seek_83 : decode prog_11_method_63_code 83 = .ok (.aload_n 0, 1) := by decide +kernel
theorem dX9_seek_84 : decode prog_11_method_63_code 84 = .ok (.getfield 191, 3) := by decide +kernel
theorem dX9_seek_87 : decode prog_11_method_63_code 87 = .ok (.if_icmp .ge 36, 3) := by decide +kernel
theorem dX9_seek_90 : decode prog_11_method_63_code 90 = .ok (.iload 8, 2) := by decide +kernel
theorem dX9_seek_92 : decode prog_11_method_63_code 92 = .ok (.iconst 1, 1) := by decide +kernel
theorem dX9_seek_93 : decode prog_11_method_63_code 93 = .ok (.aload_n 0, 1) := by decide +kernel
theorem dX9_seek_94 : decode prog_11_method_63_code 94 = .ok (.getfield 86, 3) := by decide +kernel
theorem dX9_seek_97 : decode prog_11_method_63_code 97 = .ok (.iload 9, 2) := by decide +kernel
theorem dX9_seek_99 : decode prog_11_method_63_code 99 = .ok (.iaload, 1) := by decide +kernel
theorem dX9_seek_100 : decode prog_11_method_63_code 100 = .ok (.aload_n 0, 1) := by decide +kernel
theorem dX9_seek_101 : decode prog_11_method_63_code 101 = .ok (.iload_n 1, 1) := by decide +kernel
theorem dX9_seek_102 : decode prog_11_method_63_code 102 = .ok (.iload 7, 2) := by decide +kernel
theorem dX9_seek_104 : decode prog_11_method_63_code 104 = .ok (.iload 9, 2) := by decide +kernel
theorem dX9_seek_106 : decode prog_11_method_63_code 106 = .ok (.iadd, 1) := by decide +kernel
theorem dX9_seek_107 : decode prog_11_method_63_code 107 = .ok (.invokevirtual 293, 3) := by decide +kernel
theorem dX9_seek_110 : decode prog_11_method_63_code 110 = .ok (.ishr, 1) := by decide +kernel
theorem dX9_seek_111 : decode prog_11_method_63_code 111 = .ok (.iconst 1, 1) := by decide +kernel
theorem dX9_seek_112 : decode prog_11_method_63_code 112 = .ok (.iand, 1) := by decide +kernel
theorem dX9_seek_113 : decode prog_11_method_63_code 113 = .ok (.isub, 1) := by decide +kernel
theorem dX9_seek_114 : decode prog_11_method_63_code 114 = .ok (.iadd, 1) := by decide +kernel
theorem dX9_seek_115 : decode prog_11_method_63_code 115 = .ok (.istore 8, 2) := by decide +kernel
theorem dX9_seek_117 : decode prog_11_method_63_code 117 = .ok (.iinc 9 1, 3) := by decide +kernel
theorem dX9_seek_120 : decode prog_11_method_63_code 120 = .ok (.goto (-39), 3) := by decide +kernel
theorem dX9_seek_123 : decode prog_11_method_63_code 123 = .ok (.iload 8, 2) := by decide +kernel
theorem dX9_seek_125 : decode prog_11_method_63_code 125 = .ok (.iload_n 2, 1) := by decide +kernel
theorem dX9_seek_126 : decode prog_11_method_63_code 126 = .ok (.if_icmp .gt 21, 3) := by decide +kernel
theorem dX9_seek_129 : decode prog_11_method_63_code 129 = .ok (.iload 4, 2) := by decide +kernel
theorem dX9_seek_131 : decode prog_11_method_63_code 131 = .ok (.iload_n 3, 1) := by decide +kernel
theorem dX9_seek_132 : decode prog_11_method_63_code 132 = .ok (.if_icmp .ne 8, 3) := by decide +kernel
theorem dX9_seek_135 : decode prog_11_method_63_code 135 = .ok (.iload 7, 2) := by decide +kernel
theorem dX9_seek_137 : decode prog_11_method_63_code 137 = .ok (.goto 5, 3) := by decide +kernel
theorem dX9_seek_140 : decode prog_11_method_63_code 140 = .ok (.iload 5, 2) := by decide +kernel
theorem dX9_seek_142 : decode prog_11_method_63_code 142 = .ok (.istore 5, 2) := by decide +kernel
theorem dX9_seek_144 : decode prog_11_method_63_code 144 = .ok (.iinc 4 1, 3) := by decide +kernel
theorem dX9_seek_147 : decode prog_11_method_63_code 147 = .ok (.iinc 7 1, 3) := by decide +kernel
theorem dX9_seek_150 : decode prog_11_method_63_code 150 = .ok (.goto (-87), 3) := by decide +kernel
theorem dX9_seek_153 : decode prog_11_method_63_code 153 = .ok (.iload_n 3, 1) := by decide +kernel
theorem dX9_seek_154 : decode prog_11_method_63_code 154 = .ok (.iconst (-1), 1) := by decide +kernel
theorem dX9_seek_155 : decode prog_11_method_63_code 155 = .ok (.if_icmp .ne 8, 3) := by decide +kernel
theorem dX9_seek_158 : decode prog_11_method_63_code 158 = .ok (.iload 4, 2) := by decide +kernel
theorem dX9_seek_160 : decode prog_11_method_63_code 160 = .ok (.goto 5, 3) := by decide +kernel
theorem dX9_seek_163 : decode prog_11_method_63_code 163 = .ok (.iload 5, 2) := by decide +kernel
theorem dX9_seek_165 : decode prog_11_method_63_code 165 = .ok (.ireturn, 1) := by decide +kernel
theorem cw_X9_286 : am_cw "SignCellarModel" 286 M_X9_findBest 1 := ⟨wd_1_9, wd_5_223, ⟨by decide, by decide, by decide⟩, Or.inl wd_5_220⟩
theorem sl_X9_findBest : Cond.selects (⟨"SignCellarModel", "findBest", "(I)V"⟩ : MethodName).cls ⟨"SignCellarModel", "findBest", "(I)V"⟩ ⟨"SignCellarModel", "findBest", "(I)V"⟩ ∈ am_ts := am_in_p (q := (⟨"SignCellarModel", "findBest", "(I)V"⟩, 42)) (by decide +kernel)
def F_X9_best_29 (h : am_H) : Option (Int32 × am_H) :=
  some ((-100002 : Int32), h)
theorem w_X9_best_29 {g : am_G} {l : Launch} {h0 : am_H} {x : Int32} {hf : am_H}  (h : am_H) (hF : F_X9_best_29 h = some (x, hf)) : am_W g l M_X9_best h0 (some (.int x)) hf 29 [none, none, none, none, none, none, none, none, none] [] h := by
  unfold F_X9_best_29 at hF
  refine am_ldc (v := (-100002 : Int32)) (pc' := 31) dX9_best_29 wd_4_236 rfl ?_
  cases hF
  exact am_iret dX9_best_31 rfl rfl
def F_X9_best_196 (k110 : Nat → Int32 → Int32 → Int32 → Int32 → Int32 → Int32 → am_H → Option (Int32 × am_H)) (k124 : Nat → Int32 → Int32 → Int32 → Int32 → Int32 → Int32 → Int32 → am_H → Option (Int32 × am_H)) (v0 : Nat) (v1 : Int32) (v3 : Int32) (v4 : Int32) (v5 : Int32) (v6 : Int32) (v7 : Int32) (v8 : Int32) (h : am_H) : Option (Int32 × am_H) :=
  k124 v0 v1 v3 v4 v5 v6 v7 (v8 + (1 : Int32)) h
theorem w_X9_best_196 {g : am_G} {l : Launch} {h0 : am_H} {x : Int32} {hf : am_H}  {k110 : Nat → Int32 → Int32 → Int32 → Int32 → Int32 → Int32 → am_H → Option (Int32 × am_H)} {k124 : Nat → Int32 → Int32 → Int32 → Int32 → Int32 → Int32 → Int32 → am_H → Option (Int32 × am_H)} (j110 : ∀ (v0 : Nat) (v1 : Int32) (v3 : Int32) (v4 : Int32) (v5 : Int32) (v6 : Int32) (v7 : Int32) (h : am_H), k110 v0 v1 v3 v4 v5 v6 v7 h = some (x, hf) → am_W g l M_X9_best h0 (some (.int x)) hf 110 [some (.ref v0), some (.int v1), none, some (.int v3), some (.int v4), some (.int v5), some (.int v6), some (.int v7), none] [] h) (j124 : ∀ (v0 : Nat) (v1 : Int32) (v3 : Int32) (v4 : Int32) (v5 : Int32) (v6 : Int32) (v7 : Int32) (v8 : Int32) (h : am_H), k124 v0 v1 v3 v4 v5 v6 v7 v8 h = some (x, hf) → am_W g l M_X9_best h0 (some (.int x)) hf 124 [some (.ref v0), some (.int v1), none, some (.int v3), some (.int v4), some (.int v5), some (.int v6), some (.int v7), some (.int v8)] [] h) (v0 : Nat) (v1 : Int32) (v3 : Int32) (v4 : Int32) (v5 : Int32) (v6 : Int32) (v7 : Int32) (v8 : Int32) (h : am_H) (hF : F_X9_best_196 k110 k124 v0 v1 v3 v4 v5 v6 v7 v8 h = some (x, hf)) : am_W g l M_X9_best h0 (some (.int x)) hf 196 [some (.ref v0), some (.int v1), none, some (.int v3), some (.int v4), some (.int v5), some (.int v6), some (.int v7), some (.int v8)] [] h := by
  unfold F_X9_best_196 at hF
  refine am_iinc (ls' := [some (.ref v0), some (.int v1), none, some (.int v3), some (.int v4), some (.int v5), some (.int v6), some (.int v7), some (.int (v8 + (1 : Int32)))]) (pc' := 199) (v := (v8 + (1 : Int32))) dX9_best_196 rfl rfl (Nat.le_of_ble_eq_true rfl) rfl rfl ?_
  refine am_goto (pc' := 124) dX9_best_199 rfl ?_
  exact j124 v0 v1 v3 v4 v5 v6 v7 (v8 + (1 : Int32)) h hF
def F_X9_best_249 (k110 : Nat → Int32 → Int32 → Int32 → Int32 → Int32 → Int32 → am_H → Option (Int32 × am_H)) (v0 : Nat) (v1 : Int32) (v3 : Int32) (v4 : Int32) (v5 : Int32) (v7 : Int32) (s0 : Int32) (h : am_H) : Option (Int32 × am_H) :=
  k110 v0 v1 v3 v4 v5 s0 (v7 + (1 : Int32)) h
theorem w_X9_best_249 {g : am_G} {l : Launch} {h0 : am_H} {x : Int32} {hf : am_H}  {k110 : Nat → Int32 → Int32 → Int32 → Int32 → Int32 → Int32 → am_H → Option (Int32 × am_H)} (j110 : ∀ (v0 : Nat) (v1 : Int32) (v3 : Int32) (v4 : Int32) (v5 : Int32) (v6 : Int32) (v7 : Int32) (h : am_H), k110 v0 v1 v3 v4 v5 v6 v7 h = some (x, hf) → am_W g l M_X9_best h0 (some (.int x)) hf 110 [some (.ref v0), some (.int v1), none, some (.int v3), some (.int v4), some (.int v5), some (.int v6), some (.int v7), none] [] h) (v0 : Nat) (v1 : Int32) (v3 : Int32) (v4 : Int32) (v5 : Int32) (v7 : Int32) (s0 : Int32) (h : am_H) (hF : F_X9_best_249 k110 v0 v1 v3 v4 v5 v7 s0 h = some (x, hf)) : am_W g l M_X9_best h0 (some (.int x)) hf 249 [some (.ref v0), some (.int v1), none, some (.int v3), some (.int v4), some (.int v5), none, some (.int v7), none] [.int s0] h := by
  unfold F_X9_best_249 at hF
  refine am_istore (ls' := [some (.ref v0), some (.int v1), none, some (.int v3), some (.int v4), some (.int v5), some (.int s0), some (.int v7), none]) (pc' := 251) dX9_best_249 (Nat.le_of_ble_eq_true rfl) rfl rfl ?_
  refine am_iinc (ls' := [some (.ref v0), some (.int v1), none, some (.int v3), some (.int v4), some (.int v5), some (.int s0), some (.int (v7 + (1 : Int32))), none]) (pc' := 254) (v := (v7 + (1 : Int32))) dX9_best_251 rfl rfl (Nat.le_of_ble_eq_true rfl) rfl rfl ?_
  refine am_goto (pc' := 110) dX9_best_254 rfl ?_
  exact j110 v0 v1 v3 v4 v5 s0 (v7 + (1 : Int32)) h hF
def F_X9_best_124 (k110 : Nat → Int32 → Int32 → Int32 → Int32 → Int32 → Int32 → am_H → Option (Int32 × am_H)) : Nat → Nat → Int32 → Int32 → Int32 → Int32 → Int32 → Int32 → Int32 → am_H → Option (Int32 × am_H)
  | 0, _, _, _, _, _, _, _, _, _ => none
  | n + 1, v0, v1, v3, v4, v5, v6, v7, v8, h =>
  (am_gr 9 38 v0 h).bind fun x1 =>
  (am_il 0 x1 (((5 : Int32) * v7) + v8) h).bind fun x2 =>
  if v4 < x2 then
    F_X9_best_196 k110 (F_X9_best_124 k110 n) v0 v1 v3 v4 v5 v6 v7 v8 h
  else
    (am_gr 9 37 v0 h).bind fun x4 =>
    (am_il 0 x4 (((5 : Int32) * v7) + v8) h).bind fun x5 =>
    (am_gr 9 36 v0 h).bind fun x6 =>
    (am_gr 9 38 v0 h).bind fun x7 =>
    (am_il 0 x7 (((5 : Int32) * v7) + v8) h).bind fun x8 =>
    (F_X9_at (v7 + (1 : Int32)) (v4 - x8) h).bind fun x9 =>
    (am_il 0 x6 x9 h).bind fun x10 =>
    (am_gr 9 36 v0 h).bind fun x11 =>
    (F_X9_at v7 v4 h).bind fun x12 =>
    (am_il 0 x11 x12 h).bind fun x13 =>
    if (x5 + x10) = x13 then
      (am_gr 9 38 v0 h).bind fun x15 =>
      (am_il 0 x15 (((5 : Int32) * v7) + v8) h).bind fun x16 =>
      (am_gr 9 38 v0 h).bind fun x17 =>
      (am_il 0 x17 (((5 : Int32) * v7) + v8) h).bind fun x18 =>
      if v7 = v3 then
        F_X9_best_249 k110 v0 v1 v3 (v4 - x16) (v5 + x18) v7 v8 h
      else
        F_X9_best_249 k110 v0 v1 v3 (v4 - x16) (v5 + x18) v7 v6 h
    else
      F_X9_best_196 k110 (F_X9_best_124 k110 n) v0 v1 v3 v4 v5 v6 v7 v8 h
theorem w_X9_best_124 {g : am_G} {l : Launch} {h0 : am_H} {x : Int32} {hf : am_H}  {k110 : Nat → Int32 → Int32 → Int32 → Int32 → Int32 → Int32 → am_H → Option (Int32 × am_H)} (j110 : ∀ (v0 : Nat) (v1 : Int32) (v3 : Int32) (v4 : Int32) (v5 : Int32) (v6 : Int32) (v7 : Int32) (h : am_H), k110 v0 v1 v3 v4 v5 v6 v7 h = some (x, hf) → am_W g l M_X9_best h0 (some (.int x)) hf 110 [some (.ref v0), some (.int v1), none, some (.int v3), some (.int v4), some (.int v5), some (.int v6), some (.int v7), none] [] h) : ∀ (n : Nat) (v0 : Nat) (v1 : Int32) (v3 : Int32) (v4 : Int32) (v5 : Int32) (v6 : Int32) (v7 : Int32) (v8 : Int32) (h : am_H), F_X9_best_124 k110 n v0 v1 v3 v4 v5 v6 v7 v8 h = some (x, hf) → am_W g l M_X9_best h0 (some (.int x)) hf 124 [some (.ref v0), some (.int v1), none, some (.int v3), some (.int v4), some (.int v5), some (.int v6), some (.int v7), some (.int v8)] [] h
  | 0, _, _, _, _, _, _, _, _, _, hF => by cases hF
  | n + 1, v0, v1, v3, v4, v5, v6, v7, v8, h, hF => by
    rw [F_X9_best_124] at hF
    refine am_iload (pc' := 126) dX9_best_124 rfl rfl ?_
    refine am_aload_n (pc' := 127) dX9_best_126 rfl rfl ?_
    obtain ⟨x1, ex1, hF⟩ := am_bind hF
    refine am_getr (pc' := 130) dX9_best_127 fw_X9_83 ex1 rfl ?_
    refine am_iconst (v := (5 : Int32)) (pc' := 131) dX9_best_130 rfl rfl ?_
    refine am_iload (pc' := 133) dX9_best_131 rfl rfl ?_
    refine am_imul (pc' := 134) dX9_best_133 rfl ?_
    refine am_iload (pc' := 136) dX9_best_134 rfl rfl ?_
    refine am_iadd (pc' := 137) dX9_best_136 rfl ?_
    obtain ⟨x2, ex2, hF⟩ := am_bind hF
    refine am_iald (pc' := 138) dX9_best_137 ex2 rfl ?_
    rcases am_ite hF with ⟨z3, hF⟩ | ⟨z3, hF⟩
    · refine am_icmp_lt_t (pc' := 196) dX9_best_138 rfl z3 ?_
      exact w_X9_best_196 j110 (w_X9_best_124 j110 n) v0 v1 v3 v4 v5 v6 v7 v8 h hF
    · refine am_icmp_lt_f (pc' := 141) (tgt := 196) dX9_best_138 rfl z3 rfl ?_
      refine am_aload_n (pc' := 142) dX9_best_141 rfl rfl ?_
      obtain ⟨x4, ex4, hF⟩ := am_bind hF
      refine am_getr (pc' := 145) dX9_best_142 fw_X9_80 ex4 rfl ?_
      refine am_iconst (v := (5 : Int32)) (pc' := 146) dX9_best_145 rfl rfl ?_
      refine am_iload (pc' := 148) dX9_best_146 rfl rfl ?_
      refine am_imul (pc' := 149) dX9_best_148 rfl ?_
      refine am_iload (pc' := 151) dX9_best_149 rfl rfl ?_
      refine am_iadd (pc' := 152) dX9_best_151 rfl ?_
      obtain ⟨x5, ex5, hF⟩ := am_bind hF
      refine am_iald (pc' := 153) dX9_best_152 ex5 rfl ?_
      refine am_aload_n (pc' := 154) dX9_best_153 rfl rfl ?_
      obtain ⟨x6, ex6, hF⟩ := am_bind hF
      refine am_getr (pc' := 157) dX9_best_154 fw_X9_77 ex6 rfl ?_
      refine am_iload (pc' := 159) dX9_best_157 rfl rfl ?_
      refine am_iconst (v := (1 : Int32)) (pc' := 160) dX9_best_159 rfl rfl ?_
      refine am_iadd (pc' := 161) dX9_best_160 rfl ?_
      refine am_iload (pc' := 163) dX9_best_161 rfl rfl ?_
      refine am_aload_n (pc' := 164) dX9_best_163 rfl rfl ?_
      obtain ⟨x7, ex7, hF⟩ := am_bind hF
      refine am_getr (pc' := 167) dX9_best_164 fw_X9_83 ex7 rfl ?_
      refine am_iconst (v := (5 : Int32)) (pc' := 168) dX9_best_167 rfl rfl ?_
      refine am_iload (pc' := 170) dX9_best_168 rfl rfl ?_
      refine am_imul (pc' := 171) dX9_best_170 rfl ?_
      refine am_iload (pc' := 173) dX9_best_171 rfl rfl ?_
      refine am_iadd (pc' := 174) dX9_best_173 rfl ?_
      obtain ⟨x8, ex8, hF⟩ := am_bind hF
      refine am_iald (pc' := 175) dX9_best_174 ex8 rfl ?_
      refine am_isub (pc' := 176) dX9_best_175 rfl ?_
      obtain ⟨x9, ex9, hF⟩ := am_bind hF
      refine am_callS1 (Mc := M_X9_at) (As := [.int (v7 + (1 : Int32)), .int (v4 - x8)]) (st := [.ref x6, .int x5]) (pc' := 179) dX9_best_176 cw_X9_280 wd_5_225 (by decide) (by decide) rfl rfl (Nat.le_of_ble_eq_true rfl) (c_X9_at ex9) rfl ?_
      obtain ⟨x10, ex10, hF⟩ := am_bind hF
      refine am_iald (pc' := 180) dX9_best_179 ex10 rfl ?_
      refine am_iadd (pc' := 181) dX9_best_180 rfl ?_
      refine am_aload_n (pc' := 182) dX9_best_181 rfl rfl ?_
      obtain ⟨x11, ex11, hF⟩ := am_bind hF
      refine am_getr (pc' := 185) dX9_best_182 fw_X9_77 ex11 rfl ?_
      refine am_iload (pc' := 187) dX9_best_185 rfl rfl ?_
      refine am_iload (pc' := 189) dX9_best_187 rfl rfl ?_
      obtain ⟨x12, ex12, hF⟩ := am_bind hF
      refine am_callS1 (Mc := M_X9_at) (As := [.int v7, .int v4]) (st := [.ref x11, .int (x5 + x10)]) (pc' := 192) dX9_best_189 cw_X9_280 wd_5_225 (by decide) (by decide) rfl rfl (Nat.le_of_ble_eq_true rfl) (c_X9_at ex12) rfl ?_
      obtain ⟨x13, ex13, hF⟩ := am_bind hF
      refine am_iald (pc' := 193) dX9_best_192 ex13 rfl ?_
      rcases am_ite hF with ⟨z14, hF⟩ | ⟨z14, hF⟩
      · refine am_icmp_eq_t (pc' := 202) dX9_best_193 rfl z14 ?_
        refine am_iload (pc' := 204) dX9_best_202 rfl rfl ?_
        refine am_aload_n (pc' := 205) dX9_best_204 rfl rfl ?_
        obtain ⟨x15, ex15, hF⟩ := am_bind hF
        refine am_getr (pc' := 208) dX9_best_205 fw_X9_83 ex15 rfl ?_
        refine am_iconst (v := (5 : Int32)) (pc' := 209) dX9_best_208 rfl rfl ?_
        refine am_iload (pc' := 211) dX9_best_209 rfl rfl ?_
        refine am_imul (pc' := 212) dX9_best_211 rfl ?_
        refine am_iload (pc' := 214) dX9_best_212 rfl rfl ?_
        refine am_iadd (pc' := 215) dX9_best_214 rfl ?_
        obtain ⟨x16, ex16, hF⟩ := am_bind hF
        refine am_iald (pc' := 216) dX9_best_215 ex16 rfl ?_
        refine am_isub (pc' := 217) dX9_best_216 rfl ?_
        refine am_istore (ls' := [some (.ref v0), some (.int v1), none, some (.int v3), some (.int (v4 - x16)), some (.int v5), some (.int v6), some (.int v7), some (.int v8)]) (pc' := 219) dX9_best_217 (Nat.le_of_ble_eq_true rfl) rfl rfl ?_
        refine am_iload (pc' := 221) dX9_best_219 rfl rfl ?_
        refine am_aload_n (pc' := 222) dX9_best_221 rfl rfl ?_
        obtain ⟨x17, ex17, hF⟩ := am_bind hF
        refine am_getr (pc' := 225) dX9_best_222 fw_X9_83 ex17 rfl ?_
        refine am_iconst (v := (5 : Int32)) (pc' := 226) dX9_best_225 rfl rfl ?_
        refine am_iload (pc' := 228) dX9_best_226 rfl rfl ?_
        refine am_imul (pc' := 229) dX9_best_228 rfl ?_
        refine am_iload (pc' := 231) dX9_best_229 rfl rfl ?_
        refine am_iadd (pc' := 232) dX9_best_231 rfl ?_
        obtain ⟨x18, ex18, hF⟩ := am_bind hF
        refine am_iald (pc' := 233) dX9_best_232 ex18 rfl ?_
        refine am_iadd (pc' := 234) dX9_best_233 rfl ?_
        refine am_istore (ls' := [some (.ref v0), some (.int v1), none, some (.int v3), some (.int (v4 - x16)), some (.int (v5 + x18)), some (.int v6), some (.int v7), some (.int v8)]) (pc' := 236) dX9_best_234 (Nat.le_of_ble_eq_true rfl) rfl rfl ?_
        refine am_iload (pc' := 238) dX9_best_236 rfl rfl ?_
        refine am_iload_n (pc' := 239) dX9_best_238 rfl rfl ?_
        rcases am_ite hF with ⟨z19, hF⟩ | ⟨z19, hF⟩
        · refine am_icmp_ne_f (pc' := 242) (tgt := 247) dX9_best_239 rfl z19 rfl ?_
          refine am_iload (pc' := 244) dX9_best_242 rfl rfl ?_
          refine am_goto (pc' := 249) dX9_best_244 rfl ?_
          exact am_weak [true, true, false, true, true, true, false, true, false] (w_X9_best_249 j110 v0 v1 v3 (v4 - x16) (v5 + x18) v7 v8 h hF)
        · refine am_icmp_ne_t (pc' := 247) dX9_best_239 rfl z19 ?_
          refine am_iload (pc' := 249) dX9_best_247 rfl rfl ?_
          exact am_weak [true, true, false, true, true, true, false, true, false] (w_X9_best_249 j110 v0 v1 v3 (v4 - x16) (v5 + x18) v7 v6 h hF)
      · refine am_icmp_eq_f (pc' := 196) (tgt := 202) dX9_best_193 rfl z14 rfl ?_
        exact w_X9_best_196 j110 (w_X9_best_124 j110 n) v0 v1 v3 v4 v5 v6 v7 v8 h hF
def F_X9_best_270 (s0 : Int32) (h : am_H) : Option (Int32 × am_H) :=
  some (s0, h)
theorem w_X9_best_270 {g : am_G} {l : Launch} {h0 : am_H} {x : Int32} {hf : am_H}  (s0 : Int32) (h : am_H) (hF : F_X9_best_270 s0 h = some (x, hf)) : am_W g l M_X9_best h0 (some (.int x)) hf 270 [none, none, none, none, none, none, none, none, none] [.int s0] h := by
  unfold F_X9_best_270 at hF
  cases hF
  exact am_iret dX9_best_270 rfl rfl
def F_X9_best_110 : Nat → Nat → Int32 → Int32 → Int32 → Int32 → Int32 → Int32 → am_H → Option (Int32 × am_H)
  | 0, _, _, _, _, _, _, _, _ => none
  | n + 1, v0, v1, v3, v4, v5, v6, v7, h =>
  (am_gr 9 7 v0 h).bind fun x1 =>
  (am_il 0 x1 v1 h).bind fun x2 =>
  if x2 ≤ v7 then
    if v3 = (-2 : Int32) then
      F_X9_best_270 v5 h
    else
      F_X9_best_270 v6 h
  else
    F_X9_best_124 (F_X9_best_110 n) am_F v0 v1 v3 v4 v5 v6 v7 (0 : Int32) h
theorem w_X9_best_110 {g : am_G} {l : Launch} {h0 : am_H} {x : Int32} {hf : am_H}  : ∀ (n : Nat) (v0 : Nat) (v1 : Int32) (v3 : Int32) (v4 : Int32) (v5 : Int32) (v6 : Int32) (v7 : Int32) (h : am_H), F_X9_best_110 n v0 v1 v3 v4 v5 v6 v7 h = some (x, hf) → am_W g l M_X9_best h0 (some (.int x)) hf 110 [some (.ref v0), some (.int v1), none, some (.int v3), some (.int v4), some (.int v5), some (.int v6), some (.int v7), none] [] h
  | 0, _, _, _, _, _, _, _, _, hF => by cases hF
  | n + 1, v0, v1, v3, v4, v5, v6, v7, h, hF => by
    rw [F_X9_best_110] at hF
    refine am_iload (pc' := 112) dX9_best_110 rfl rfl ?_
    refine am_aload_n (pc' := 113) dX9_best_112 rfl rfl ?_
    obtain ⟨x1, ex1, hF⟩ := am_bind hF
    refine am_getr (pc' := 116) dX9_best_113 fw_X9_23 ex1 rfl ?_
    refine am_iload_n (pc' := 117) dX9_best_116 rfl rfl ?_
    obtain ⟨x2, ex2, hF⟩ := am_bind hF
    refine am_iald (pc' := 118) dX9_best_117 ex2 rfl ?_
    rcases am_ite hF with ⟨z3, hF⟩ | ⟨z3, hF⟩
    · refine am_icmp_ge_t (pc' := 257) dX9_best_118 rfl z3 ?_
      refine am_iload_n (pc' := 258) dX9_best_257 rfl rfl ?_
      refine am_bipush (v := (-2 : Int32)) (pc' := 260) dX9_best_258 rfl rfl ?_
      rcases am_ite hF with ⟨z4, hF⟩ | ⟨z4, hF⟩
      · refine am_icmp_ne_f (pc' := 263) (tgt := 268) dX9_best_260 rfl z4 rfl ?_
        refine am_iload (pc' := 265) dX9_best_263 rfl rfl ?_
        refine am_goto (pc' := 270) dX9_best_265 rfl ?_
        exact am_weak [false, false, false, false, false, false, false, false, false] (w_X9_best_270 v5 h hF)
      · refine am_icmp_ne_t (pc' := 268) dX9_best_260 rfl z4 ?_
        refine am_iload (pc' := 270) dX9_best_268 rfl rfl ?_
        exact am_weak [false, false, false, false, false, false, false, false, false] (w_X9_best_270 v6 h hF)
    · refine am_icmp_ge_f (pc' := 121) (tgt := 257) dX9_best_118 rfl z3 rfl ?_
      refine am_iconst (v := (0 : Int32)) (pc' := 122) dX9_best_121 rfl rfl ?_
      refine am_istore (ls' := [some (.ref v0), some (.int v1), none, some (.int v3), some (.int v4), some (.int v5), some (.int v6), some (.int v7), some (.int (0 : Int32))]) (pc' := 124) dX9_best_122 (Nat.le_of_ble_eq_true rfl) rfl rfl ?_
      exact w_X9_best_124 (w_X9_best_110 n) am_F v0 v1 v3 v4 v5 v6 v7 (0 : Int32) h hF
def F_X9_best_62 (v0 : Nat) (v1 : Int32) (v3 : Int32) (s0 : Int32) (h : am_H) : Option (Int32 × am_H) :=
  (am_gr 9 36 v0 h).bind fun x1 =>
  (F_X9_at (0 : Int32) s0 h).bind fun x2 =>
  (am_il 0 x1 x2 h).bind fun x3 =>
  if x3 < (1000000 : Int32) then
    if v3 = (-1 : Int32) then
      (am_gr 9 36 v0 h).bind fun x6 =>
      (F_X9_at (0 : Int32) s0 h).bind fun x7 =>
      (am_il 0 x6 x7 h).bind fun x8 =>
      some (x8, h)
    else
      F_X9_best_110 am_F v0 v1 v3 s0 (0 : Int32) (-1 : Int32) (0 : Int32) h
  else
    some ((-100003 : Int32), h)
theorem w_X9_best_62 {g : am_G} {l : Launch} {h0 : am_H} {x : Int32} {hf : am_H}  (v0 : Nat) (v1 : Int32) (v3 : Int32) (s0 : Int32) (h : am_H) (hF : F_X9_best_62 v0 v1 v3 s0 h = some (x, hf)) : am_W g l M_X9_best h0 (some (.int x)) hf 62 [some (.ref v0), some (.int v1), none, some (.int v3), none, none, none, none, none] [.int s0] h := by
  unfold F_X9_best_62 at hF
  refine am_istore (ls' := [some (.ref v0), some (.int v1), none, some (.int v3), some (.int s0), none, none, none, none]) (pc' := 64) dX9_best_62 (Nat.le_of_ble_eq_true rfl) rfl rfl ?_
  refine am_aload_n (pc' := 65) dX9_best_64 rfl rfl ?_
  obtain ⟨x1, ex1, hF⟩ := am_bind hF
  refine am_getr (pc' := 68) dX9_best_65 fw_X9_77 ex1 rfl ?_
  refine am_iconst (v := (0 : Int32)) (pc' := 69) dX9_best_68 rfl rfl ?_
  refine am_iload (pc' := 71) dX9_best_69 rfl rfl ?_
  obtain ⟨x2, ex2, hF⟩ := am_bind hF
  refine am_callS1 (Mc := M_X9_at) (As := [.int (0 : Int32), .int s0]) (st := [.ref x1]) (pc' := 74) dX9_best_71 cw_X9_280 wd_5_225 (by decide) (by decide) rfl rfl (Nat.le_of_ble_eq_true rfl) (c_X9_at ex2) rfl ?_
  obtain ⟨x3, ex3, hF⟩ := am_bind hF
  refine am_iald (pc' := 75) dX9_best_74 ex3 rfl ?_
  refine am_ldcw (v := (1000000 : Int32)) (pc' := 78) dX9_best_75 wd_5_227 rfl ?_
  rcases am_ite hF with ⟨z4, hF⟩ | ⟨z4, hF⟩
  · refine am_icmp_lt_t (pc' := 84) dX9_best_78 rfl z4 ?_
    refine am_iload_n (pc' := 85) dX9_best_84 rfl rfl ?_
    refine am_iconst (v := (-1 : Int32)) (pc' := 86) dX9_best_85 rfl rfl ?_
    rcases am_ite hF with ⟨z5, hF⟩ | ⟨z5, hF⟩
    · refine am_icmp_ne_f (pc' := 89) (tgt := 101) dX9_best_86 rfl z5 rfl ?_
      refine am_aload_n (pc' := 90) dX9_best_89 rfl rfl ?_
      obtain ⟨x6, ex6, hF⟩ := am_bind hF
      refine am_getr (pc' := 93) dX9_best_90 fw_X9_77 ex6 rfl ?_
      refine am_iconst (v := (0 : Int32)) (pc' := 94) dX9_best_93 rfl rfl ?_
      refine am_iload (pc' := 96) dX9_best_94 rfl rfl ?_
      obtain ⟨x7, ex7, hF⟩ := am_bind hF
      refine am_callS1 (Mc := M_X9_at) (As := [.int (0 : Int32), .int s0]) (st := [.ref x6]) (pc' := 99) dX9_best_96 cw_X9_280 wd_5_225 (by decide) (by decide) rfl rfl (Nat.le_of_ble_eq_true rfl) (c_X9_at ex7) rfl ?_
      obtain ⟨x8, ex8, hF⟩ := am_bind hF
      refine am_iald (pc' := 100) dX9_best_99 ex8 rfl ?_
      cases hF
      exact am_iret dX9_best_100 rfl rfl
    · refine am_icmp_ne_t (pc' := 101) dX9_best_86 rfl z5 ?_
      refine am_iconst (v := (0 : Int32)) (pc' := 102) dX9_best_101 rfl rfl ?_
      refine am_istore (ls' := [some (.ref v0), some (.int v1), none, some (.int v3), some (.int s0), some (.int (0 : Int32)), none, none, none]) (pc' := 104) dX9_best_102 (Nat.le_of_ble_eq_true rfl) rfl rfl ?_
      refine am_iconst (v := (-1 : Int32)) (pc' := 105) dX9_best_104 rfl rfl ?_
      refine am_istore (ls' := [some (.ref v0), some (.int v1), none, some (.int v3), some (.int s0), some (.int (0 : Int32)), some (.int (-1 : Int32)), none, none]) (pc' := 107) dX9_best_105 (Nat.le_of_ble_eq_true rfl) rfl rfl ?_
      refine am_iconst (v := (0 : Int32)) (pc' := 108) dX9_best_107 rfl rfl ?_
      refine am_istore (ls' := [some (.ref v0), some (.int v1), none, some (.int v3), some (.int s0), some (.int (0 : Int32)), some (.int (-1 : Int32)), some (.int (0 : Int32)), none]) (pc' := 110) dX9_best_108 (Nat.le_of_ble_eq_true rfl) rfl rfl ?_
      exact w_X9_best_110 am_F v0 v1 v3 s0 (0 : Int32) (-1 : Int32) (0 : Int32) h hF
  · refine am_icmp_lt_f (pc' := 81) (tgt := 84) dX9_best_78 rfl z4 rfl ?_
    refine am_ldc (v := (-100003 : Int32)) (pc' := 83) dX9_best_81 wd_5_2 rfl ?_
    cases hF
    exact am_iret dX9_best_83 rfl rfl
def F_X9_best_b (v0 : Nat) (v1 : Int32) (v2 : Int32) (v3 : Int32) (h : am_H) : Option (Int32 × am_H) :=
  (F_X9_noVersion v0 v1 h).bind fun x1 =>
  if x1 = 0 then
    (F_X9_in (Int32.toInt64 v2) (0 : Int64) (9999 : Int64) h).bind fun x3 =>
    if x3 = 0 then
      F_X9_best_29 h
    else
      if (-2 : Int32) ≤ v3 then
        (F_X9_tornIn v0 v1 h).bind fun x6 =>
        if x6 ≤ 0 then
          (F_X9_findBest v0 v1 h).bind fun h8 =>
          if v2 ≤ (1200 : Int32) then
            F_X9_best_62 v0 v1 v3 v2 h8
          else
            F_X9_best_62 v0 v1 v3 (1200 : Int32) h8
        else
          some ((-100005 : Int32), h)
      else
        F_X9_best_29 h
  else
    some ((-100001 : Int32), h)
theorem w_X9_best {g : am_G} {l : Launch} {h0 : am_H} {x : Int32} {hf : am_H}  (v0 : Nat) (v1 : Int32) (v2 : Int32) (v3 : Int32) (h : am_H) (hF : F_X9_best_b v0 v1 v2 v3 h = some (x, hf)) : am_W g l M_X9_best h0 (some (.int x)) hf 0 [some (.ref v0), some (.int v1), some (.int v2), some (.int v3), none, none, none, none, none] [] h := by
  unfold F_X9_best_b at hF
  refine am_aload_n (pc' := 1) dX9_best_0 rfl rfl ?_
  refine am_iload_n (pc' := 2) dX9_best_1 rfl rfl ?_
  obtain ⟨x1, ex1, hF⟩ := am_bind hF
  obtain ⟨ox1, px1⟩ := t_X9_noVersion ex1
  refine am_callV1 (Mc := M_X9_noVersion) (As := [.int v1]) (st := []) (pc' := 5) dX9_best_2 cw_X9_154 wd_5_37 sl_X9_noVersion ⟨_, rfl, rfl⟩ (by decide) (by decide) rfl rfl (Nat.le_of_ble_eq_true rfl) px1 (c_X9_noVersion ex1) rfl ?_
  rcases am_ite hF with ⟨z2, hF⟩ | ⟨z2, hF⟩
  · refine am_if_eq_t (pc' := 11) dX9_best_5 rfl z2 ?_
    refine am_iload_n (pc' := 12) dX9_best_11 rfl rfl ?_
    refine am_i2l (pc' := 13) dX9_best_12 rfl ?_
    refine am_lconst (v := (0 : Int64)) (pc' := 14) dX9_best_13 rfl rfl ?_
    refine am_ldc2 (v := (9999 : Int64)) (pc' := 17) dX9_best_14 wd_5_219 rfl ?_
    obtain ⟨x3, ex3, hF⟩ := am_bind hF
    refine am_callS1 (Mc := M_X9_in) (As := [.long (Int32.toInt64 v2), .long (0 : Int64), .long (9999 : Int64)]) (st := []) (pc' := 20) dX9_best_17 cw_X9_96 wd_4_234 (by decide) (by decide) rfl rfl (Nat.le_of_ble_eq_true rfl) (c_X9_in ex3) rfl ?_
    rcases am_ite hF with ⟨z4, hF⟩ | ⟨z4, hF⟩
    · refine am_if_eq_t (pc' := 29) dX9_best_20 rfl z4 ?_
      exact am_weak [false, false, false, false, false, false, false, false, false] (w_X9_best_29 h hF)
    · refine am_if_eq_f (pc' := 23) (tgt := 29) dX9_best_20 rfl z4 rfl ?_
      refine am_iload_n (pc' := 24) dX9_best_23 rfl rfl ?_
      refine am_bipush (v := (-2 : Int32)) (pc' := 26) dX9_best_24 rfl rfl ?_
      rcases am_ite hF with ⟨z5, hF⟩ | ⟨z5, hF⟩
      · refine am_icmp_ge_t (pc' := 32) dX9_best_26 rfl z5 ?_
        refine am_aload_n (pc' := 33) dX9_best_32 rfl rfl ?_
        refine am_iload_n (pc' := 34) dX9_best_33 rfl rfl ?_
        obtain ⟨x6, ex6, hF⟩ := am_bind hF
        obtain ⟨ox6, px6⟩ := t_X9_tornIn ex6
        refine am_callV1 (Mc := M_X9_tornIn) (As := [.int v1]) (st := []) (pc' := 37) dX9_best_34 cw_X9_165 wd_5_50 sl_X9_tornIn ⟨_, rfl, rfl⟩ (by decide) (by decide) rfl rfl (Nat.le_of_ble_eq_true rfl) px6 (c_X9_tornIn ex6) rfl ?_
        rcases am_ite hF with ⟨z7, hF⟩ | ⟨z7, hF⟩
        · refine am_if_le_t (pc' := 43) dX9_best_37 rfl z7 ?_
          refine am_aload_n (pc' := 44) dX9_best_43 rfl rfl ?_
          refine am_iload_n (pc' := 45) dX9_best_44 rfl rfl ?_
          obtain ⟨h8, eh8, hF⟩ := am_bind hF
          obtain ⟨oh8, ph8⟩ := t_X9_findBest eh8
          refine am_callV0 (Mc := M_X9_findBest) (As := [.int v1]) (st := []) (pc' := 48) dX9_best_45 cw_X9_286 wd_5_222 sl_X9_findBest ⟨_, rfl, rfl⟩ (by decide) (by decide) rfl rfl (Nat.le_of_ble_eq_true rfl) ph8 (c_X9_findBest eh8) rfl ?_
          refine am_iload_n (pc' := 49) dX9_best_48 rfl rfl ?_
          refine am_sipush (v := (1200 : Int32)) (pc' := 52) dX9_best_49 rfl rfl ?_
          rcases am_ite hF with ⟨z9, hF⟩ | ⟨z9, hF⟩
          · refine am_icmp_le_t (pc' := 61) dX9_best_52 rfl z9 ?_
            refine am_iload_n (pc' := 62) dX9_best_61 rfl rfl ?_
            exact am_weak [true, true, false, true, false, false, false, false, false] (w_X9_best_62 v0 v1 v3 v2 h8 hF)
          · refine am_icmp_le_f (pc' := 55) (tgt := 61) dX9_best_52 rfl z9 rfl ?_
            refine am_sipush (v := (1200 : Int32)) (pc' := 58) dX9_best_55 rfl rfl ?_
            refine am_goto (pc' := 62) dX9_best_58 rfl ?_
            exact am_weak [true, true, false, true, false, false, false, false, false] (w_X9_best_62 v0 v1 v3 (1200 : Int32) h8 hF)
        · refine am_if_le_f (pc' := 40) (tgt := 43) dX9_best_37 rfl z7 rfl ?_
          refine am_ldc (v := (-100005 : Int32)) (pc' := 42) dX9_best_40 wd_5_55 rfl ?_
          cases hF
          exact am_iret dX9_best_42 rfl rfl
      · refine am_icmp_ge_f (pc' := 29) (tgt := 32) dX9_best_26 rfl z5 rfl ?_
        exact am_weak [false, false, false, false, false, false, false, false, false] (w_X9_best_29 h hF)
  · refine am_if_eq_f (pc' := 8) (tgt := 11) dX9_best_5 rfl z2 rfl ?_
    refine am_ldc (v := (-100001 : Int32)) (pc' := 10) dX9_best_8 wd_5_47 rfl ?_
    cases hF
    exact am_iret dX9_best_10 rfl rfl
def F_X9_best (v0 : Nat) (v1 : Int32) (v2 : Int32) (v3 : Int32) (h : am_H) : Option (Int32 × am_H) := (am_obj v0 9 h).bind fun _ => F_X9_best_b v0 v1 v2 v3 h
theorem t_X9_best {x : Int32} {hf : am_H}  {v0 : Nat} {v1 : Int32} {v2 : Int32} {v3 : Int32} {h : am_H} (hF : F_X9_best v0 v1 v2 v3 h = some (x, hf)) : ∃ fs, am_obj v0 9 h = some fs := by
  obtain ⟨fs, e, _⟩ := am_bind hF
  exact ⟨fs, e⟩
theorem c_X9_best {g : am_G} {l : Launch} {x : Int32} {hf : am_H}  {v0 : Nat} {v1 : Int32} {v2 : Int32} {v3 : Int32} {h : am_H} (hF : F_X9_best v0 v1 v2 v3 h = some (x, hf)) : am_Met g l M_X9_best [.ref v0, .int v1, .int v2, .int v3] h (some (.int x)) hf := by
  obtain ⟨fs, e0, e⟩ := am_bind hF
  exact am_met (n := 5) (by decide +kernel) rfl (Nat.le_of_ble_eq_true rfl) (w_X9_best v0 v1 v2 v3 h e)
def F_X8_sign_12 (h : am_H) : Option (Int32 × am_H) :=
  some ((-100002 : Int32), h)
theorem w_X8_sign_12 {g : am_G} {l : Launch} {h0 : am_H} {x : Int32} {hf : am_H}  (h : am_H) (hF : F_X8_sign_12 h = some (x, hf)) : am_W g l M_X8_sign h0 (some (.int x)) hf 12 [none, none] [] h := by
  unfold F_X8_sign_12 at hF
  refine am_ldc (v := (-100002 : Int32)) (pc' := 14) dX8_sign_12 wd_1_233 rfl ?_
  cases hF
  exact am_iret dX8_sign_14 rfl rfl
def F_X8_sign_b (v0 : Nat) (v1 : Int32) (h : am_H) : Option (Int32 × am_H) :=
  if v1 < (1 : Int32) then
    F_X8_sign_12 h
  else
    if v1 ≤ (65535 : Int32) then
      (am_gr 8 1 v0 h).bind fun x3 =>
      (F_X4_length x3 h).bind fun x4 =>
      if x4 = (12 : Int32) then
        some ((-100004 : Int32), h)
      else
        (am_gr 8 1 v0 h).bind fun x6 =>
        (F_X4_add x6 v1 h).bind fun h7 =>
        (am_gr 8 1 v0 h7).bind fun x8 =>
        (F_X4_length x8 h7).bind fun x9 =>
        some (x9, h7)
    else
      F_X8_sign_12 h
theorem w_X8_sign {g : am_G} {l : Launch} {h0 : am_H} {x : Int32} {hf : am_H}  (v0 : Nat) (v1 : Int32) (h : am_H) (hF : F_X8_sign_b v0 v1 h = some (x, hf)) : am_W g l M_X8_sign h0 (some (.int x)) hf 0 [some (.ref v0), some (.int v1)] [] h := by
  unfold F_X8_sign_b at hF
  refine am_iload_n (pc' := 1) dX8_sign_0 rfl rfl ?_
  refine am_iconst (v := (1 : Int32)) (pc' := 2) dX8_sign_1 rfl rfl ?_
  rcases am_ite hF with ⟨z1, hF⟩ | ⟨z1, hF⟩
  · refine am_icmp_lt_t (pc' := 12) dX8_sign_2 rfl z1 ?_
    exact am_weak [false, false] (w_X8_sign_12 h hF)
  · refine am_icmp_lt_f (pc' := 5) (tgt := 12) dX8_sign_2 rfl z1 rfl ?_
    refine am_iload_n (pc' := 6) dX8_sign_5 rfl rfl ?_
    refine am_ldcw (v := (65535 : Int32)) (pc' := 9) dX8_sign_6 wd_3_217 rfl ?_
    rcases am_ite hF with ⟨z2, hF⟩ | ⟨z2, hF⟩
    · refine am_icmp_le_t (pc' := 15) dX8_sign_9 rfl z2 ?_
      refine am_aload_n (pc' := 16) dX8_sign_15 rfl rfl ?_
      obtain ⟨x3, ex3, hF⟩ := am_bind hF
      refine am_getr (pc' := 19) dX8_sign_16 fw_X8_18 ex3 rfl ?_
      obtain ⟨x4, ex4, hF⟩ := am_bind hF
      obtain ⟨ox4, px4⟩ := t_X4_length ex4
      refine am_callV1 (Mc := M_X4_length) (As := []) (st := []) (pc' := 22) dX8_sign_19 cw_X8_93 wd_1_235 wd_1_236 ⟨_, rfl, rfl⟩ (by decide) (by decide) rfl rfl (Nat.le_of_ble_eq_true rfl) px4 (c_X4_length ex4) rfl ?_
      refine am_bipush (v := (12 : Int32)) (pc' := 24) dX8_sign_22 rfl rfl ?_
      rcases am_ite hF with ⟨z5, hF⟩ | ⟨z5, hF⟩
      · refine am_icmp_ne_f (pc' := 27) (tgt := 30) dX8_sign_24 rfl z5 rfl ?_
        refine am_ldc (v := (-100004 : Int32)) (pc' := 29) dX8_sign_27 wd_1_238 rfl ?_
        cases hF
        exact am_iret dX8_sign_29 rfl rfl
      · refine am_icmp_ne_t (pc' := 30) dX8_sign_24 rfl z5 ?_
        refine am_aload_n (pc' := 31) dX8_sign_30 rfl rfl ?_
        obtain ⟨x6, ex6, hF⟩ := am_bind hF
        refine am_getr (pc' := 34) dX8_sign_31 fw_X8_18 ex6 rfl ?_
        refine am_iload_n (pc' := 35) dX8_sign_34 rfl rfl ?_
        obtain ⟨h7, eh7, hF⟩ := am_bind hF
        obtain ⟨oh7, ph7⟩ := t_X4_add eh7
        refine am_callV0 (Mc := M_X4_add) (As := [.int v1]) (st := []) (pc' := 38) dX8_sign_35 cw_X8_98 wd_2_0 wd_2_1 ⟨_, rfl, rfl⟩ (by decide) (by decide) rfl rfl (Nat.le_of_ble_eq_true rfl) ph7 (c_X4_add eh7) rfl ?_
        refine am_aload_n (pc' := 39) dX8_sign_38 rfl rfl ?_
        obtain ⟨x8, ex8, hF⟩ := am_bind hF
        refine am_getr (pc' := 42) dX8_sign_39 fw_X8_18 ex8 rfl ?_
        obtain ⟨x9, ex9, hF⟩ := am_bind hF
        obtain ⟨ox9, px9⟩ := t_X4_length ex9
        refine am_callV1 (Mc := M_X4_length) (As := []) (st := []) (pc' := 45) dX8_sign_42 cw_X8_93 wd_1_235 wd_1_236 ⟨_, rfl, rfl⟩ (by decide) (by decide) rfl rfl (Nat.le_of_ble_eq_true rfl) px9 (c_X4_length ex9) rfl ?_
        cases hF
        exact am_iret dX8_sign_45 rfl rfl
    · refine am_icmp_le_f (pc' := 12) (tgt := 15) dX8_sign_9 rfl z2 rfl ?_
      exact am_weak [false, false] (w_X8_sign_12 h hF)
def F_X8_sign (v0 : Nat) (v1 : Int32) (h : am_H) : Option (Int32 × am_H) := (am_obj v0 8 h).bind fun _ => F_X8_sign_b v0 v1 h
theorem t_X8_sign {x : Int32} {hf : am_H}  {v0 : Nat} {v1 : Int32} {h : am_H} (hF : F_X8_sign v0 v1 h = some (x, hf)) : ∃ fs, am_obj v0 8 h = some fs := by
  obtain ⟨fs, e, _⟩ := am_bind hF
  exact ⟨fs, e⟩
theorem c_X8_sign {g : am_G} {l : Launch} {x : Int32} {hf : am_H}  {v0 : Nat} {v1 : Int32} {h : am_H} (hF : F_X8_sign v0 v1 h = some (x, hf)) : am_Met g l M_X8_sign [.ref v0, .int v1] h (some (.int x)) hf := by
  obtain ⟨fs, e0, e⟩ := am_bind hF
  exact am_met (n := 0) (by decide +kernel) rfl (Nat.le_of_ble_eq_true rfl) (w_X8_sign v0 v1 h e)
theorem fw_X9_86 : am_fw "SignCellarModel" 86 9 40 := ⟨(RX9, TX9, 42), rfl, by decide, inX9, Or.inl wd_4_140⟩
theorem fx_X9_191 {nm : String} : am_fx "SignCellarModel" 191 9 39 .int nm := ⟨(RX9, TX9, 42), tyX9, rfl, by decide, inX9, tyX9_ok, nmX9, rfl, Or.inl ⟨wd_4_139, Or.inl rfl⟩⟩
def F_X9_sign__b (v0 : Nat) (v1 : Int32) (h : am_H) : Option (Int32 × am_H) :=
  (F_X9_in (Int32.toInt64 v1) (1 : Int64) (65535 : Int64) h).bind fun x1 =>
  if x1 = 0 then
    some ((-100002 : Int32), h)
  else
    (am_gi 9 39 v0 h).bind fun x3 =>
    if x3 = (12 : Int32) then
      some ((-100004 : Int32), h)
    else
      (am_gr 9 40 v0 h).bind fun x5 =>
      (am_gi 9 39 v0 h).bind fun x6 =>
      (am_is 0 x5 x6 v1 h).bind fun h7 =>
      (am_gi 9 39 v0 h7).bind fun x8 =>
      (am_pi 9 39 v0 (x8 + (1 : Int32)) h7).bind fun h9 =>
      (am_gi 9 39 v0 h9).bind fun x10 =>
      some (x10, h9)
theorem w_X9_sign_ {g : am_G} {l : Launch} {h0 : am_H} {x : Int32} {hf : am_H}  (v0 : Nat) (v1 : Int32) (h : am_H) (hF : F_X9_sign__b v0 v1 h = some (x, hf)) : am_W g l M_X9_sign_ h0 (some (.int x)) hf 0 [some (.ref v0), some (.int v1)] [] h := by
  unfold F_X9_sign__b at hF
  refine am_iload_n (pc' := 1) dX9_sign__0 rfl rfl ?_
  refine am_i2l (pc' := 2) dX9_sign__1 rfl ?_
  refine am_lconst (v := (1 : Int64)) (pc' := 3) dX9_sign__2 rfl rfl ?_
  refine am_ldc2 (v := (65535 : Int64)) (pc' := 6) dX9_sign__3 wd_5_232 rfl ?_
  obtain ⟨x1, ex1, hF⟩ := am_bind hF
  refine am_callS1 (Mc := M_X9_in) (As := [.long (Int32.toInt64 v1), .long (1 : Int64), .long (65535 : Int64)]) (st := []) (pc' := 9) dX9_sign__6 cw_X9_96 wd_4_234 (by decide) (by decide) rfl rfl (Nat.le_of_ble_eq_true rfl) (c_X9_in ex1) rfl ?_
  rcases am_ite hF with ⟨z2, hF⟩ | ⟨z2, hF⟩
  · refine am_if_ne_f (pc' := 12) (tgt := 15) dX9_sign__9 rfl z2 rfl ?_
    refine am_ldc (v := (-100002 : Int32)) (pc' := 14) dX9_sign__12 wd_4_236 rfl ?_
    cases hF
    exact am_iret dX9_sign__14 rfl rfl
  · refine am_if_ne_t (pc' := 15) dX9_sign__9 rfl z2 ?_
    refine am_aload_n (pc' := 16) dX9_sign__15 rfl rfl ?_
    obtain ⟨x3, ex3, hF⟩ := am_bind hF
    refine am_geti (pc' := 19) dX9_sign__16 fw_X9_191 ex3 rfl ?_
    refine am_bipush (v := (12 : Int32)) (pc' := 21) dX9_sign__19 rfl rfl ?_
    rcases am_ite hF with ⟨z4, hF⟩ | ⟨z4, hF⟩
    · refine am_icmp_ne_f (pc' := 24) (tgt := 27) dX9_sign__21 rfl z4 rfl ?_
      refine am_ldc (v := (-100004 : Int32)) (pc' := 26) dX9_sign__24 wd_4_237 rfl ?_
      cases hF
      exact am_iret dX9_sign__26 rfl rfl
    · refine am_icmp_ne_t (pc' := 27) dX9_sign__21 rfl z4 ?_
      refine am_aload_n (pc' := 28) dX9_sign__27 rfl rfl ?_
      obtain ⟨x5, ex5, hF⟩ := am_bind hF
      refine am_getr (pc' := 31) dX9_sign__28 fw_X9_86 ex5 rfl ?_
      refine am_aload_n (pc' := 32) dX9_sign__31 rfl rfl ?_
      obtain ⟨x6, ex6, hF⟩ := am_bind hF
      refine am_geti (pc' := 35) dX9_sign__32 fw_X9_191 ex6 rfl ?_
      refine am_iload_n (pc' := 36) dX9_sign__35 rfl rfl ?_
      obtain ⟨h7, eh7, hF⟩ := am_bind hF
      refine am_iast (pc' := 37) dX9_sign__36 eh7 rfl ?_
      refine am_aload_n (pc' := 38) dX9_sign__37 rfl rfl ?_
      refine am_dup (pc' := 39) dX9_sign__38 rfl rfl ?_
      obtain ⟨x8, ex8, hF⟩ := am_bind hF
      refine am_geti (pc' := 42) dX9_sign__39 fw_X9_191 ex8 rfl ?_
      refine am_iconst (v := (1 : Int32)) (pc' := 43) dX9_sign__42 rfl rfl ?_
      refine am_iadd (pc' := 44) dX9_sign__43 rfl ?_
      obtain ⟨h9, eh9, hF⟩ := am_bind hF
      refine am_puti (pc' := 47) dX9_sign__44 fx_X9_191 eh9 rfl ?_
      refine am_aload_n (pc' := 48) dX9_sign__47 rfl rfl ?_
      obtain ⟨x10, ex10, hF⟩ := am_bind hF
      refine am_geti (pc' := 51) dX9_sign__48 fw_X9_191 ex10 rfl ?_
      cases hF
      exact am_iret dX9_sign__51 rfl rfl
def F_X9_sign_ (v0 : Nat) (v1 : Int32) (h : am_H) : Option (Int32 × am_H) := (am_obj v0 9 h).bind fun _ => F_X9_sign__b v0 v1 h
theorem t_X9_sign_ {x : Int32} {hf : am_H}  {v0 : Nat} {v1 : Int32} {h : am_H} (hF : F_X9_sign_ v0 v1 h = some (x, hf)) : ∃ fs, am_obj v0 9 h = some fs := by
  obtain ⟨fs, e, _⟩ := am_bind hF
  exact ⟨fs, e⟩
theorem c_X9_sign_ {g : am_G} {l : Launch} {x : Int32} {hf : am_H}  {v0 : Nat} {v1 : Int32} {h : am_H} (hF : F_X9_sign_ v0 v1 h = some (x, hf)) : am_Met g l M_X9_sign_ [.ref v0, .int v1] h (some (.int x)) hf := by
  obtain ⟨fs, e0, e⟩ := am_bind hF
  exact am_met (n := 0) (by decide +kernel) rfl (Nat.le_of_ble_eq_true rfl) (w_X9_sign_ v0 v1 h e)
def F_X8_clear_b (v0 : Nat) (h : am_H) : Option (Int32 × am_H) :=
  (am_gr 8 1 v0 h).bind fun x1 =>
  (F_X4_length x1 h).bind fun x2 =>
  (am_gr 8 1 v0 h).bind fun x3 =>
  (F_X4_empty x3 h).bind fun h4 =>
  some (x2, h4)
theorem w_X8_clear {g : am_G} {l : Launch} {h0 : am_H} {x : Int32} {hf : am_H}  (v0 : Nat) (h : am_H) (hF : F_X8_clear_b v0 h = some (x, hf)) : am_W g l M_X8_clear h0 (some (.int x)) hf 0 [some (.ref v0), none] [] h := by
  unfold F_X8_clear_b at hF
  refine am_aload_n (pc' := 1) dX8_clear_0 rfl rfl ?_
  obtain ⟨x1, ex1, hF⟩ := am_bind hF
  refine am_getr (pc' := 4) dX8_clear_1 fw_X8_18 ex1 rfl ?_
  obtain ⟨x2, ex2, hF⟩ := am_bind hF
  obtain ⟨ox2, px2⟩ := t_X4_length ex2
  refine am_callV1 (Mc := M_X4_length) (As := []) (st := []) (pc' := 7) dX8_clear_4 cw_X8_93 wd_1_235 wd_1_236 ⟨_, rfl, rfl⟩ (by decide) (by decide) rfl rfl (Nat.le_of_ble_eq_true rfl) px2 (c_X4_length ex2) rfl ?_
  refine am_istore_n (ls' := [some (.ref v0), some (.int x2)]) (pc' := 8) dX8_clear_7 (Nat.le_of_ble_eq_true rfl) rfl rfl ?_
  refine am_aload_n (pc' := 9) dX8_clear_8 rfl rfl ?_
  obtain ⟨x3, ex3, hF⟩ := am_bind hF
  refine am_getr (pc' := 12) dX8_clear_9 fw_X8_18 ex3 rfl ?_
  obtain ⟨h4, eh4, hF⟩ := am_bind hF
  obtain ⟨oh4, ph4⟩ := t_X4_empty eh4
  refine am_callV0 (Mc := M_X4_empty) (As := []) (st := []) (pc' := 15) dX8_clear_12 cw_X8_119 wd_2_17 wd_2_18 ⟨_, rfl, rfl⟩ (by decide) (by decide) rfl rfl (Nat.le_of_ble_eq_true rfl) ph4 (c_X4_empty eh4) rfl ?_
  refine am_iload_n (pc' := 16) dX8_clear_15 rfl rfl ?_
  cases hF
  exact am_iret dX8_clear_16 rfl rfl
def F_X8_clear (v0 : Nat) (h : am_H) : Option (Int32 × am_H) := (am_obj v0 8 h).bind fun _ => F_X8_clear_b v0 h
theorem t_X8_clear {x : Int32} {hf : am_H}  {v0 : Nat} {h : am_H} (hF : F_X8_clear v0 h = some (x, hf)) : ∃ fs, am_obj v0 8 h = some fs := by
  obtain ⟨fs, e, _⟩ := am_bind hF
  exact ⟨fs, e⟩
theorem c_X8_clear {g : am_G} {l : Launch} {x : Int32} {hf : am_H}  {v0 : Nat} {h : am_H} (hF : F_X8_clear v0 h = some (x, hf)) : am_Met g l M_X8_clear [.ref v0] h (some (.int x)) hf := by
  obtain ⟨fs, e0, e⟩ := am_bind hF
  exact am_met (n := 1) (by decide +kernel) rfl (Nat.le_of_ble_eq_true rfl) (w_X8_clear v0 h e)
def F_X9_clear_b (v0 : Nat) (h : am_H) : Option (Int32 × am_H) :=
  (am_gi 9 39 v0 h).bind fun x1 =>
  (am_pi 9 39 v0 (0 : Int32) h).bind fun h2 =>
  some (x1, h2)
theorem w_X9_clear {g : am_G} {l : Launch} {h0 : am_H} {x : Int32} {hf : am_H}  (v0 : Nat) (h : am_H) (hF : F_X9_clear_b v0 h = some (x, hf)) : am_W g l M_X9_clear h0 (some (.int x)) hf 0 [some (.ref v0), none] [] h := by
  unfold F_X9_clear_b at hF
  refine am_aload_n (pc' := 1) dX9_clear_0 rfl rfl ?_
  obtain ⟨x1, ex1, hF⟩ := am_bind hF
  refine am_geti (pc' := 4) dX9_clear_1 fw_X9_191 ex1 rfl ?_
  refine am_istore_n (ls' := [some (.ref v0), some (.int x1)]) (pc' := 5) dX9_clear_4 (Nat.le_of_ble_eq_true rfl) rfl rfl ?_
  refine am_aload_n (pc' := 6) dX9_clear_5 rfl rfl ?_
  refine am_iconst (v := (0 : Int32)) (pc' := 7) dX9_clear_6 rfl rfl ?_
  obtain ⟨h2, eh2, hF⟩ := am_bind hF
  refine am_puti (pc' := 10) dX9_clear_7 fx_X9_191 eh2 rfl ?_
  refine am_iload_n (pc' := 11) dX9_clear_10 rfl rfl ?_
  cases hF
  exact am_iret dX9_clear_11 rfl rfl
def F_X9_clear (v0 : Nat) (h : am_H) : Option (Int32 × am_H) := (am_obj v0 9 h).bind fun _ => F_X9_clear_b v0 h
theorem t_X9_clear {x : Int32} {hf : am_H}  {v0 : Nat} {h : am_H} (hF : F_X9_clear v0 h = some (x, hf)) : ∃ fs, am_obj v0 9 h = some fs := by
  obtain ⟨fs, e, _⟩ := am_bind hF
  exact ⟨fs, e⟩
theorem c_X9_clear {g : am_G} {l : Launch} {x : Int32} {hf : am_H}  {v0 : Nat} {h : am_H} (hF : F_X9_clear v0 h = some (x, hf)) : am_Met g l M_X9_clear [.ref v0] h (some (.int x)) hf := by
  obtain ⟨fs, e0, e⟩ := am_bind hF
  exact am_met (n := 1) (by decide +kernel) rfl (Nat.le_of_ble_eq_true rfl) (w_X9_clear v0 h e)
theorem fw_X8_49 : am_fw "SignCellar" 49 8 9 := ⟨(RX8, TX8, 16), rfl, by decide, inX8, Or.inl wd_1_189⟩
def F_X8_openAll_56 (k9 : Nat → Nat → Int32 → am_H → Option am_H) (v0 : Nat) (v1 : Nat) (v2 : Int32) (h : am_H) : Option am_H :=
  k9 v0 v1 (v2 + (1 : Int32)) h
theorem w_X8_openAll_56 {g : am_G} {l : Launch} {h0 : am_H} {hf : am_H}  {k9 : Nat → Nat → Int32 → am_H → Option am_H} (j9 : ∀ (v0 : Nat) (v1 : Nat) (v2 : Int32) (h : am_H), k9 v0 v1 v2 h = some hf → am_W g l M_X8_openAll h0 none hf 9 [some (.ref v0), some (.ref v1), some (.int v2), none] [] h) (v0 : Nat) (v1 : Nat) (v2 : Int32) (h : am_H) (hF : F_X8_openAll_56 k9 v0 v1 v2 h = some hf) : am_W g l M_X8_openAll h0 none hf 56 [some (.ref v0), some (.ref v1), some (.int v2), none] [] h := by
  unfold F_X8_openAll_56 at hF
  refine am_iinc (ls' := [some (.ref v0), some (.ref v1), some (.int (v2 + (1 : Int32))), none]) (pc' := 59) (v := (v2 + (1 : Int32))) dX8_openAll_56 rfl rfl (Nat.le_of_ble_eq_true rfl) rfl rfl ?_
  refine am_goto (pc' := 9) dX8_openAll_59 rfl ?_
  exact j9 v0 v1 (v2 + (1 : Int32)) h hF
def F_X8_openAll_9 : Nat → Nat → Nat → Int32 → am_H → Option am_H
  | 0, _, _, _, _ => none
  | n + 1, v0, v1, v2, h =>
  (am_gr 7 0 v1 h).bind fun x1 =>
  (F_X4_length x1 h).bind fun x2 =>
  if x2 ≤ v2 then
    some h
  else
    (am_gr 7 0 v1 h).bind fun x4 =>
    (F_X4_at x4 v2 h).bind fun x5 =>
    (F_X8_blockOf v0 x5 h).bind fun x6 =>
    if x6 = 0 then
      F_X8_openAll_56 (F_X8_openAll_9 n) v0 v1 v2 h
    else
      (am_gr 8 9 v0 h).bind fun x8 =>
      (am_gr 0 0 x6 h).bind fun x9 =>
      (am_gr 0 0 x6 h).bind fun x10 =>
      (F_X4_length x10 h).bind fun x11 =>
      (F_X4_addPart x8 x9 (0 : Int32) x11 h).bind fun h12 =>
      F_X8_openAll_56 (F_X8_openAll_9 n) v0 v1 v2 h12
theorem w_X8_openAll_9 {g : am_G} {l : Launch} {h0 : am_H} {hf : am_H}  : ∀ (n : Nat) (v0 : Nat) (v1 : Nat) (v2 : Int32) (h : am_H), F_X8_openAll_9 n v0 v1 v2 h = some hf → am_W g l M_X8_openAll h0 none hf 9 [some (.ref v0), some (.ref v1), some (.int v2), none] [] h
  | 0, _, _, _, _, hF => by cases hF
  | n + 1, v0, v1, v2, h, hF => by
    rw [F_X8_openAll_9] at hF
    refine am_iload_n (pc' := 10) dX8_openAll_9 rfl rfl ?_
    refine am_aload_n (pc' := 11) dX8_openAll_10 rfl rfl ?_
    obtain ⟨x1, ex1, hF⟩ := am_bind hF
    refine am_getr (pc' := 14) dX8_openAll_11 fw_X8_148 ex1 rfl ?_
    obtain ⟨x2, ex2, hF⟩ := am_bind hF
    obtain ⟨ox2, px2⟩ := t_X4_length ex2
    refine am_callV1 (Mc := M_X4_length) (As := []) (st := [.int v2]) (pc' := 17) dX8_openAll_14 cw_X8_93 wd_1_235 wd_1_236 ⟨_, rfl, rfl⟩ (by decide) (by decide) rfl rfl (Nat.le_of_ble_eq_true rfl) px2 (c_X4_length ex2) rfl ?_
    rcases am_ite hF with ⟨z3, hF⟩ | ⟨z3, hF⟩
    · refine am_icmp_ge_t (pc' := 62) dX8_openAll_17 rfl z3 ?_
      cases hF
      exact am_vret dX8_openAll_62 rfl
    · refine am_icmp_ge_f (pc' := 20) (tgt := 62) dX8_openAll_17 rfl z3 rfl ?_
      refine am_aload_n (pc' := 21) dX8_openAll_20 rfl rfl ?_
      refine am_aload_n (pc' := 22) dX8_openAll_21 rfl rfl ?_
      obtain ⟨x4, ex4, hF⟩ := am_bind hF
      refine am_getr (pc' := 25) dX8_openAll_22 fw_X8_148 ex4 rfl ?_
      refine am_iload_n (pc' := 26) dX8_openAll_25 rfl rfl ?_
      obtain ⟨x5, ex5, hF⟩ := am_bind hF
      obtain ⟨ox5, px5⟩ := t_X4_at ex5
      refine am_callV1 (Mc := M_X4_at) (As := [.int v2]) (st := [.ref v0]) (pc' := 29) dX8_openAll_26 cw_X8_161 wd_2_40 wd_2_41 ⟨_, rfl, rfl⟩ (by decide) (by decide) rfl rfl (Nat.le_of_ble_eq_true rfl) px5 (c_X4_at ex5) rfl ?_
      obtain ⟨x6, ex6, hF⟩ := am_bind hF
      obtain ⟨ox6, px6⟩ := t_X8_blockOf ex6
      refine am_callV1 (Mc := M_X8_blockOf) (As := [.int x5]) (st := []) (pc' := 32) dX8_openAll_29 cw_X8_176 wd_2_33 sl_X8_blockOf ⟨_, rfl, rfl⟩ (by decide) (by decide) rfl rfl (Nat.le_of_ble_eq_true rfl) px6 (c_X8_blockOf ex6) rfl ?_
      refine am_astore_n (ls' := [some (.ref v0), some (.ref v1), some (.int v2), some (.ref x6)]) (pc' := 33) dX8_openAll_32 (Nat.le_of_ble_eq_true rfl) rfl rfl ?_
      refine am_aload_n (pc' := 34) dX8_openAll_33 rfl rfl ?_
      rcases am_ite hF with ⟨z7, hF⟩ | ⟨z7, hF⟩
      · refine am_ifnull_t (pc' := 56) dX8_openAll_34 rfl z7 ?_
        exact am_weak [true, true, true, false] (w_X8_openAll_56 (w_X8_openAll_9 n) v0 v1 v2 h hF)
      · refine am_ifnull_f (pc' := 37) dX8_openAll_34 z7 rfl ?_
        refine am_aload_n (pc' := 38) dX8_openAll_37 rfl rfl ?_
        obtain ⟨x8, ex8, hF⟩ := am_bind hF
        refine am_getr (pc' := 41) dX8_openAll_38 fw_X8_49 ex8 rfl ?_
        refine am_aload_n (pc' := 42) dX8_openAll_41 rfl rfl ?_
        obtain ⟨x9, ex9, hF⟩ := am_bind hF
        refine am_getr (pc' := 45) dX8_openAll_42 fw_X8_180 ex9 rfl ?_
        refine am_iconst (v := (0 : Int32)) (pc' := 46) dX8_openAll_45 rfl rfl ?_
        refine am_aload_n (pc' := 47) dX8_openAll_46 rfl rfl ?_
        obtain ⟨x10, ex10, hF⟩ := am_bind hF
        refine am_getr (pc' := 50) dX8_openAll_47 fw_X8_180 ex10 rfl ?_
        obtain ⟨x11, ex11, hF⟩ := am_bind hF
        obtain ⟨ox11, px11⟩ := t_X4_length ex11
        refine am_callV1 (Mc := M_X4_length) (As := []) (st := [.int (0 : Int32), .ref x9, .ref x8]) (pc' := 53) dX8_openAll_50 cw_X8_93 wd_1_235 wd_1_236 ⟨_, rfl, rfl⟩ (by decide) (by decide) rfl rfl (Nat.le_of_ble_eq_true rfl) px11 (c_X4_length ex11) rfl ?_
        obtain ⟨h12, eh12, hF⟩ := am_bind hF
        obtain ⟨oh12, ph12⟩ := t_X4_addPart eh12
        refine am_callV0 (Mc := M_X4_addPart) (As := [.ref x9, .int (0 : Int32), .int x11]) (st := []) (pc' := 56) dX8_openAll_53 cw_X8_335 wd_2_51 wd_2_52 ⟨_, rfl, rfl⟩ (by decide) (by decide) rfl rfl (Nat.le_of_ble_eq_true rfl) ph12 (c_X4_addPart eh12) rfl ?_
        exact am_weak [true, true, true, false] (w_X8_openAll_56 (w_X8_openAll_9 n) v0 v1 v2 h12 hF)
def F_X8_openAll_b (v0 : Nat) (v1 : Nat) (h : am_H) : Option am_H :=
  (am_gr 8 9 v0 h).bind fun x1 =>
  (F_X4_empty x1 h).bind fun h2 =>
  F_X8_openAll_9 am_F v0 v1 (0 : Int32) h2
theorem w_X8_openAll {g : am_G} {l : Launch} {h0 : am_H} {hf : am_H}  (v0 : Nat) (v1 : Nat) (h : am_H) (hF : F_X8_openAll_b v0 v1 h = some hf) : am_W g l M_X8_openAll h0 none hf 0 [some (.ref v0), some (.ref v1), none, none] [] h := by
  unfold F_X8_openAll_b at hF
  refine am_aload_n (pc' := 1) dX8_openAll_0 rfl rfl ?_
  obtain ⟨x1, ex1, hF⟩ := am_bind hF
  refine am_getr (pc' := 4) dX8_openAll_1 fw_X8_49 ex1 rfl ?_
  obtain ⟨h2, eh2, hF⟩ := am_bind hF
  obtain ⟨oh2, ph2⟩ := t_X4_empty eh2
  refine am_callV0 (Mc := M_X4_empty) (As := []) (st := []) (pc' := 7) dX8_openAll_4 cw_X8_119 wd_2_17 wd_2_18 ⟨_, rfl, rfl⟩ (by decide) (by decide) rfl rfl (Nat.le_of_ble_eq_true rfl) ph2 (c_X4_empty eh2) rfl ?_
  refine am_iconst (v := (0 : Int32)) (pc' := 8) dX8_openAll_7 rfl rfl ?_
  refine am_istore_n (ls' := [some (.ref v0), some (.ref v1), some (.int (0 : Int32)), none]) (pc' := 9) dX8_openAll_8 (Nat.le_of_ble_eq_true rfl) rfl rfl ?_
  exact w_X8_openAll_9 am_F v0 v1 (0 : Int32) h2 hF
def F_X8_openAll (v0 : Nat) (v1 : Nat) (h : am_H) : Option am_H := (am_obj v0 8 h).bind fun _ => F_X8_openAll_b v0 v1 h
theorem t_X8_openAll {hf : am_H}  {v0 : Nat} {v1 : Nat} {h : am_H} (hF : F_X8_openAll v0 v1 h = some hf) : ∃ fs, am_obj v0 8 h = some fs := by
  obtain ⟨fs, e, _⟩ := am_bind hF
  exact ⟨fs, e⟩
theorem c_X8_openAll {g : am_G} {l : Launch} {hf : am_H}  {v0 : Nat} {v1 : Nat} {h : am_H} (hF : F_X8_openAll v0 v1 h = some hf) : am_Met g l M_X8_openAll [.ref v0, .ref v1] h none hf := by
  obtain ⟨fs, e0, e⟩ := am_bind hF
  exact am_met (n := 2) (by decide +kernel) rfl (Nat.le_of_ble_eq_true rfl) (w_X8_openAll v0 v1 h e)
def F_X8_slipsAt_42 (k4 : Nat → Int32 → Int32 → Int32 → am_H → Option Int32) (v0 : Nat) (v1 : Int32) (v2 : Int32) (v3 : Int32) (h : am_H) : Option Int32 :=
  k4 v0 v1 v2 (v3 + (1 : Int32)) h
theorem w_X8_slipsAt_42 {g : am_G} {l : Launch} {h0 : am_H} {x : Int32}  {k4 : Nat → Int32 → Int32 → Int32 → am_H → Option Int32} (j4 : ∀ (v0 : Nat) (v1 : Int32) (v2 : Int32) (v3 : Int32) (h : am_H), k4 v0 v1 v2 v3 h = some x → am_W g l M_X8_slipsAt h0 (some (.int x)) h 4 [some (.ref v0), some (.int v1), some (.int v2), some (.int v3)] [] h) (v0 : Nat) (v1 : Int32) (v2 : Int32) (v3 : Int32) (h : am_H) (hF : F_X8_slipsAt_42 k4 v0 v1 v2 v3 h = some x) : am_W g l M_X8_slipsAt h0 (some (.int x)) h 42 [some (.ref v0), some (.int v1), some (.int v2), some (.int v3)] [] h := by
  unfold F_X8_slipsAt_42 at hF
  refine am_iinc (ls' := [some (.ref v0), some (.int v1), some (.int v2), some (.int (v3 + (1 : Int32)))]) (pc' := 45) (v := (v3 + (1 : Int32))) dX8_slipsAt_42 rfl rfl (Nat.le_of_ble_eq_true rfl) rfl rfl ?_
  refine am_goto (pc' := 4) dX8_slipsAt_45 rfl ?_
  exact j4 v0 v1 v2 (v3 + (1 : Int32)) h hF
def F_X8_slipsAt_4 : Nat → Nat → Int32 → Int32 → Int32 → am_H → Option Int32
  | 0, _, _, _, _, _ => none
  | n + 1, v0, v1, v2, v3, h =>
  (am_gr 8 1 v0 h).bind fun x1 =>
  (F_X4_length x1 h).bind fun x2 =>
  if x2 ≤ v3 then
    some v2
  else
    (am_gr 8 1 v0 h).bind fun x4 =>
    (F_X4_at x4 v3 h).bind fun x5 =>
    (am_gr 8 9 v0 h).bind fun x6 =>
    (F_X4_at x6 (v1 + v3) h).bind fun x7 =>
    if ((x5 >>> (x7 &&& 31)) &&& (1 : Int32)) = 0 then
      F_X8_slipsAt_42 (F_X8_slipsAt_4 n) v0 v1 (v2 + (1 : Int32)) v3 h
    else
      F_X8_slipsAt_42 (F_X8_slipsAt_4 n) v0 v1 v2 v3 h
theorem w_X8_slipsAt_4 {g : am_G} {l : Launch} {h0 : am_H} {x : Int32}  : ∀ (n : Nat) (v0 : Nat) (v1 : Int32) (v2 : Int32) (v3 : Int32) (h : am_H), F_X8_slipsAt_4 n v0 v1 v2 v3 h = some x → am_W g l M_X8_slipsAt h0 (some (.int x)) h 4 [some (.ref v0), some (.int v1), some (.int v2), some (.int v3)] [] h
  | 0, _, _, _, _, _, hF => by cases hF
  | n + 1, v0, v1, v2, v3, h, hF => by
    rw [F_X8_slipsAt_4] at hF
    refine am_iload_n (pc' := 5) dX8_slipsAt_4 rfl rfl ?_
    refine am_aload_n (pc' := 6) dX8_slipsAt_5 rfl rfl ?_
    obtain ⟨x1, ex1, hF⟩ := am_bind hF
    refine am_getr (pc' := 9) dX8_slipsAt_6 fw_X8_18 ex1 rfl ?_
    obtain ⟨x2, ex2, hF⟩ := am_bind hF
    obtain ⟨ox2, px2⟩ := t_X4_length ex2
    refine am_callV1 (Mc := M_X4_length) (As := []) (st := [.int v3]) (pc' := 12) dX8_slipsAt_9 cw_X8_93 wd_1_235 wd_1_236 ⟨_, rfl, rfl⟩ (by decide) (by decide) rfl rfl (Nat.le_of_ble_eq_true rfl) px2 (c_X4_length ex2) rfl ?_
    rcases am_ite hF with ⟨z3, hF⟩ | ⟨z3, hF⟩
    · refine am_icmp_ge_t (pc' := 48) dX8_slipsAt_12 rfl z3 ?_
      refine am_iload_n (pc' := 49) dX8_slipsAt_48 rfl rfl ?_
      cases hF
      exact am_iret dX8_slipsAt_49 rfl rfl
    · refine am_icmp_ge_f (pc' := 15) (tgt := 48) dX8_slipsAt_12 rfl z3 rfl ?_
      refine am_aload_n (pc' := 16) dX8_slipsAt_15 rfl rfl ?_
      obtain ⟨x4, ex4, hF⟩ := am_bind hF
      refine am_getr (pc' := 19) dX8_slipsAt_16 fw_X8_18 ex4 rfl ?_
      refine am_iload_n (pc' := 20) dX8_slipsAt_19 rfl rfl ?_
      obtain ⟨x5, ex5, hF⟩ := am_bind hF
      obtain ⟨ox5, px5⟩ := t_X4_at ex5
      refine am_callV1 (Mc := M_X4_at) (As := [.int v3]) (st := []) (pc' := 23) dX8_slipsAt_20 cw_X8_161 wd_2_40 wd_2_41 ⟨_, rfl, rfl⟩ (by decide) (by decide) rfl rfl (Nat.le_of_ble_eq_true rfl) px5 (c_X4_at ex5) rfl ?_
      refine am_aload_n (pc' := 24) dX8_slipsAt_23 rfl rfl ?_
      obtain ⟨x6, ex6, hF⟩ := am_bind hF
      refine am_getr (pc' := 27) dX8_slipsAt_24 fw_X8_49 ex6 rfl ?_
      refine am_iload_n (pc' := 28) dX8_slipsAt_27 rfl rfl ?_
      refine am_iload_n (pc' := 29) dX8_slipsAt_28 rfl rfl ?_
      refine am_iadd (pc' := 30) dX8_slipsAt_29 rfl ?_
      obtain ⟨x7, ex7, hF⟩ := am_bind hF
      obtain ⟨ox7, px7⟩ := t_X4_at ex7
      refine am_callV1 (Mc := M_X4_at) (As := [.int (v1 + v3)]) (st := [.int x5]) (pc' := 33) dX8_slipsAt_30 cw_X8_161 wd_2_40 wd_2_41 ⟨_, rfl, rfl⟩ (by decide) (by decide) rfl rfl (Nat.le_of_ble_eq_true rfl) px7 (c_X4_at ex7) rfl ?_
      refine am_ishr (pc' := 34) dX8_slipsAt_33 rfl ?_
      refine am_iconst (v := (1 : Int32)) (pc' := 35) dX8_slipsAt_34 rfl rfl ?_
      refine am_iand (pc' := 36) dX8_slipsAt_35 rfl ?_
      rcases am_ite hF with ⟨z8, hF⟩ | ⟨z8, hF⟩
      · refine am_if_ne_f (pc' := 39) (tgt := 42) dX8_slipsAt_36 rfl z8 rfl ?_
        refine am_iinc (ls' := [some (.ref v0), some (.int v1), some (.int (v2 + (1 : Int32))), some (.int v3)]) (pc' := 42) (v := (v2 + (1 : Int32))) dX8_slipsAt_39 rfl rfl (Nat.le_of_ble_eq_true rfl) rfl rfl ?_
        exact w_X8_slipsAt_42 (w_X8_slipsAt_4 n) v0 v1 (v2 + (1 : Int32)) v3 h hF
      · refine am_if_ne_t (pc' := 42) dX8_slipsAt_36 rfl z8 ?_
        exact w_X8_slipsAt_42 (w_X8_slipsAt_4 n) v0 v1 v2 v3 h hF
def F_X8_slipsAt_b (v0 : Nat) (v1 : Int32) (h : am_H) : Option Int32 :=
  F_X8_slipsAt_4 am_F v0 v1 (0 : Int32) (0 : Int32) h
theorem w_X8_slipsAt {g : am_G} {l : Launch} {h0 : am_H} {x : Int32}  (v0 : Nat) (v1 : Int32) (h : am_H) (hF : F_X8_slipsAt_b v0 v1 h = some x) : am_W g l M_X8_slipsAt h0 (some (.int x)) h 0 [some (.ref v0), some (.int v1), none, none] [] h := by
  unfold F_X8_slipsAt_b at hF
  refine am_iconst (v := (0 : Int32)) (pc' := 1) dX8_slipsAt_0 rfl rfl ?_
  refine am_istore_n (ls' := [some (.ref v0), some (.int v1), some (.int (0 : Int32)), none]) (pc' := 2) dX8_slipsAt_1 (Nat.le_of_ble_eq_true rfl) rfl rfl ?_
  refine am_iconst (v := (0 : Int32)) (pc' := 3) dX8_slipsAt_2 rfl rfl ?_
  refine am_istore_n (ls' := [some (.ref v0), some (.int v1), some (.int (0 : Int32)), some (.int (0 : Int32))]) (pc' := 4) dX8_slipsAt_3 (Nat.le_of_ble_eq_true rfl) rfl rfl ?_
  exact w_X8_slipsAt_4 am_F v0 v1 (0 : Int32) (0 : Int32) h hF
def F_X8_slipsAt (v0 : Nat) (v1 : Int32) (h : am_H) : Option Int32 := (am_obj v0 8 h).bind fun _ => F_X8_slipsAt_b v0 v1 h
theorem t_X8_slipsAt {x : Int32}  {v0 : Nat} {v1 : Int32} {h : am_H} (hF : F_X8_slipsAt v0 v1 h = some x) : ∃ fs, am_obj v0 8 h = some fs := by
  obtain ⟨fs, e, _⟩ := am_bind hF
  exact ⟨fs, e⟩
theorem c_X8_slipsAt {g : am_G} {l : Launch} {x : Int32}  {v0 : Nat} {v1 : Int32} {h : am_H} (hF : F_X8_slipsAt v0 v1 h = some x) : am_Met g l M_X8_slipsAt [.ref v0, .int v1] h (some (.int x)) h := by
  obtain ⟨fs, e0, e⟩ := am_bind hF
  exact am_met (n := 2) (by decide +kernel) rfl (Nat.le_of_ble_eq_true rfl) (w_X8_slipsAt v0 v1 h e)
theorem cw_X8_272 : am_cw "SignCellar" 272 M_X8_openAll 1 := ⟨wd_1_1, wd_3_229, ⟨by decide, by decide, by decide⟩, Or.inl wd_3_226⟩
theorem cw_X8_276 : am_cw "SignCellar" 276 M_X8_slipsAt 1 := ⟨wd_1_1, wd_3_233, ⟨by decide, by decide, by decide⟩, Or.inl wd_3_230⟩
theorem sl_X8_openAll : Cond.selects (⟨"SignCellar", "openAll", "(LSignCellar$Version;)V"⟩ : MethodName).cls ⟨"SignCellar", "openAll", "(LSignCellar$Version;)V"⟩ ⟨"SignCellar", "openAll", "(LSignCellar$Version;)V"⟩ ∈ am_ts := am_in_p (q := (⟨"SignCellar", "openAll", "(LSignCellar$Version;)V"⟩, 16)) (by decide +kernel)
theorem sl_X8_slipsAt : Cond.selects (⟨"SignCellar", "slipsAt", "(I)I"⟩ : MethodName).cls ⟨"SignCellar", "slipsAt", "(I)I"⟩ ⟨"SignCellar", "slipsAt", "(I)I"⟩ ∈ am_ts := am_in_p (q := (⟨"SignCellar", "slipsAt", "(I)I"⟩, 16)) (by decide +kernel)
def F_X8_seek_24 (h : am_H) : Option (Int32 × am_H) :=
  some ((-100002 : Int32), h)
theorem w_X8_seek_24 {g : am_G} {l : Launch} {h0 : am_H} {x : Int32} {hf : am_H}  (h : am_H) (hF : F_X8_seek_24 h = some (x, hf)) : am_W g l M_X8_seek h0 (some (.int x)) hf 24 [none, none, none, none, none, none, none] [] h := by
  unfold F_X8_seek_24 at hF
  refine am_ldc (v := (-100002 : Int32)) (pc' := 26) dX8_seek_24 wd_1_233 rfl ?_
  cases hF
  exact am_iret dX8_seek_26 rfl rfl
def F_X8_seek_106 (k64 : Nat → Int32 → Int32 → Int32 → Int32 → am_H → Option (Int32 × am_H)) (v0 : Nat) (v2 : Int32) (v3 : Int32) (v5 : Int32) (v6 : Int32) (h : am_H) : Option (Int32 × am_H) :=
  k64 v0 v2 v3 v5 (v6 + (1 : Int32)) h
theorem w_X8_seek_106 {g : am_G} {l : Launch} {h0 : am_H} {x : Int32} {hf : am_H}  {k64 : Nat → Int32 → Int32 → Int32 → Int32 → am_H → Option (Int32 × am_H)} (j64 : ∀ (v0 : Nat) (v2 : Int32) (v3 : Int32) (v5 : Int32) (v6 : Int32) (h : am_H), k64 v0 v2 v3 v5 v6 h = some (x, hf) → am_W g l M_X8_seek h0 (some (.int x)) hf 64 [some (.ref v0), none, some (.int v2), some (.int v3), none, some (.int v5), some (.int v6)] [] h) (v0 : Nat) (v2 : Int32) (v3 : Int32) (v5 : Int32) (v6 : Int32) (h : am_H) (hF : F_X8_seek_106 k64 v0 v2 v3 v5 v6 h = some (x, hf)) : am_W g l M_X8_seek h0 (some (.int x)) hf 106 [some (.ref v0), none, some (.int v2), some (.int v3), none, some (.int v5), some (.int v6)] [] h := by
  unfold F_X8_seek_106 at hF
  refine am_iinc (ls' := [some (.ref v0), none, some (.int v2), some (.int v3), none, some (.int v5), some (.int (v6 + (1 : Int32)))]) (pc' := 109) (v := (v6 + (1 : Int32))) dX8_seek_106 rfl rfl (Nat.le_of_ble_eq_true rfl) rfl rfl ?_
  refine am_goto (pc' := 64) dX8_seek_109 rfl ?_
  exact j64 v0 v2 v3 v5 (v6 + (1 : Int32)) h hF
def F_X8_seek_123 (s0 : Int32) (h : am_H) : Option (Int32 × am_H) :=
  some (s0, h)
theorem w_X8_seek_123 {g : am_G} {l : Launch} {h0 : am_H} {x : Int32} {hf : am_H}  (s0 : Int32) (h : am_H) (hF : F_X8_seek_123 s0 h = some (x, hf)) : am_W g l M_X8_seek h0 (some (.int x)) hf 123 [none, none, none, none, none, none, none] [.int s0] h := by
  unfold F_X8_seek_123 at hF
  cases hF
  exact am_iret dX8_seek_123 rfl rfl
def F_X8_seek_64 : Nat → Nat → Int32 → Int32 → Int32 → Int32 → am_H → Option (Int32 × am_H)
  | 0, _, _, _, _, _, _ => none
  | n + 1, v0, v2, v3, v5, v6, h =>
  (am_gr 8 1 v0 h).bind fun x1 =>
  (F_X4_length x1 h).bind fun x2 =>
  (am_gr 8 9 v0 h).bind fun x3 =>
  (F_X4_length x3 h).bind fun x4 =>
  if x4 < (v6 + x2) then
    if v3 = (-1 : Int32) then
      F_X8_seek_123 v5 h
    else
      F_X8_seek_123 (-1 : Int32) h
  else
    (F_X8_slipsAt v0 v6 h).bind fun x7 =>
    if v2 < x7 then
      F_X8_seek_106 (F_X8_seek_64 n) v0 v2 v3 v5 v6 h
    else
      if v5 = v3 then
        some (v6, h)
      else
        F_X8_seek_106 (F_X8_seek_64 n) v0 v2 v3 (v5 + (1 : Int32)) v6 h
theorem w_X8_seek_64 {g : am_G} {l : Launch} {h0 : am_H} {x : Int32} {hf : am_H}  : ∀ (n : Nat) (v0 : Nat) (v2 : Int32) (v3 : Int32) (v5 : Int32) (v6 : Int32) (h : am_H), F_X8_seek_64 n v0 v2 v3 v5 v6 h = some (x, hf) → am_W g l M_X8_seek h0 (some (.int x)) hf 64 [some (.ref v0), none, some (.int v2), some (.int v3), none, some (.int v5), some (.int v6)] [] h
  | 0, _, _, _, _, _, _, hF => by cases hF
  | n + 1, v0, v2, v3, v5, v6, h, hF => by
    rw [F_X8_seek_64] at hF
    refine am_iload (pc' := 66) dX8_seek_64 rfl rfl ?_
    refine am_aload_n (pc' := 67) dX8_seek_66 rfl rfl ?_
    obtain ⟨x1, ex1, hF⟩ := am_bind hF
    refine am_getr (pc' := 70) dX8_seek_67 fw_X8_18 ex1 rfl ?_
    obtain ⟨x2, ex2, hF⟩ := am_bind hF
    obtain ⟨ox2, px2⟩ := t_X4_length ex2
    refine am_callV1 (Mc := M_X4_length) (As := []) (st := [.int v6]) (pc' := 73) dX8_seek_70 cw_X8_93 wd_1_235 wd_1_236 ⟨_, rfl, rfl⟩ (by decide) (by decide) rfl rfl (Nat.le_of_ble_eq_true rfl) px2 (c_X4_length ex2) rfl ?_
    refine am_iadd (pc' := 74) dX8_seek_73 rfl ?_
    refine am_aload_n (pc' := 75) dX8_seek_74 rfl rfl ?_
    obtain ⟨x3, ex3, hF⟩ := am_bind hF
    refine am_getr (pc' := 78) dX8_seek_75 fw_X8_49 ex3 rfl ?_
    obtain ⟨x4, ex4, hF⟩ := am_bind hF
    obtain ⟨ox4, px4⟩ := t_X4_length ex4
    refine am_callV1 (Mc := M_X4_length) (As := []) (st := [.int (v6 + x2)]) (pc' := 81) dX8_seek_78 cw_X8_93 wd_1_235 wd_1_236 ⟨_, rfl, rfl⟩ (by decide) (by decide) rfl rfl (Nat.le_of_ble_eq_true rfl) px4 (c_X4_length ex4) rfl ?_
    rcases am_ite hF with ⟨z5, hF⟩ | ⟨z5, hF⟩
    · refine am_icmp_gt_t (pc' := 112) dX8_seek_81 rfl z5 ?_
      refine am_iload_n (pc' := 113) dX8_seek_112 rfl rfl ?_
      refine am_iconst (v := (-1 : Int32)) (pc' := 114) dX8_seek_113 rfl rfl ?_
      rcases am_ite hF with ⟨z6, hF⟩ | ⟨z6, hF⟩
      · refine am_icmp_ne_f (pc' := 117) (tgt := 122) dX8_seek_114 rfl z6 rfl ?_
        refine am_iload (pc' := 119) dX8_seek_117 rfl rfl ?_
        refine am_goto (pc' := 123) dX8_seek_119 rfl ?_
        exact am_weak [false, false, false, false, false, false, false] (w_X8_seek_123 v5 h hF)
      · refine am_icmp_ne_t (pc' := 122) dX8_seek_114 rfl z6 ?_
        refine am_iconst (v := (-1 : Int32)) (pc' := 123) dX8_seek_122 rfl rfl ?_
        exact am_weak [false, false, false, false, false, false, false] (w_X8_seek_123 (-1 : Int32) h hF)
    · refine am_icmp_gt_f (pc' := 84) (tgt := 112) dX8_seek_81 rfl z5 rfl ?_
      refine am_aload_n (pc' := 85) dX8_seek_84 rfl rfl ?_
      refine am_iload (pc' := 87) dX8_seek_85 rfl rfl ?_
      obtain ⟨x7, ex7, hF⟩ := am_bind hF
      obtain ⟨ox7, px7⟩ := t_X8_slipsAt ex7
      refine am_callV1 (Mc := M_X8_slipsAt) (As := [.int v6]) (st := []) (pc' := 90) dX8_seek_87 cw_X8_276 wd_3_232 sl_X8_slipsAt ⟨_, rfl, rfl⟩ (by decide) (by decide) rfl rfl (Nat.le_of_ble_eq_true rfl) px7 (c_X8_slipsAt ex7) rfl ?_
      refine am_iload_n (pc' := 91) dX8_seek_90 rfl rfl ?_
      rcases am_ite hF with ⟨z8, hF⟩ | ⟨z8, hF⟩
      · refine am_icmp_gt_t (pc' := 106) dX8_seek_91 rfl z8 ?_
        exact w_X8_seek_106 (w_X8_seek_64 n) v0 v2 v3 v5 v6 h hF
      · refine am_icmp_gt_f (pc' := 94) (tgt := 106) dX8_seek_91 rfl z8 rfl ?_
        refine am_iload (pc' := 96) dX8_seek_94 rfl rfl ?_
        refine am_iload_n (pc' := 97) dX8_seek_96 rfl rfl ?_
        rcases am_ite hF with ⟨z9, hF⟩ | ⟨z9, hF⟩
        · refine am_icmp_ne_f (pc' := 100) (tgt := 103) dX8_seek_97 rfl z9 rfl ?_
          refine am_iload (pc' := 102) dX8_seek_100 rfl rfl ?_
          cases hF
          exact am_iret dX8_seek_102 rfl rfl
        · refine am_icmp_ne_t (pc' := 103) dX8_seek_97 rfl z9 ?_
          refine am_iinc (ls' := [some (.ref v0), none, some (.int v2), some (.int v3), none, some (.int (v5 + (1 : Int32))), some (.int v6)]) (pc' := 106) (v := (v5 + (1 : Int32))) dX8_seek_103 rfl rfl (Nat.le_of_ble_eq_true rfl) rfl rfl ?_
          exact w_X8_seek_106 (w_X8_seek_64 n) v0 v2 v3 (v5 + (1 : Int32)) v6 h hF
def F_X8_seek_b (v0 : Nat) (v1 : Int32) (v2 : Int32) (v3 : Int32) (h : am_H) : Option (Int32 × am_H) :=
  (F_X8_versionOf v0 v1 h).bind fun x1 =>
  if x1 = 0 then
    some ((-100001 : Int32), h)
  else
    if v2 < 0 then
      F_X8_seek_24 h
    else
      if v2 ≤ (3 : Int32) then
        (am_gr 8 1 v0 h).bind fun x5 =>
        (F_X4_length x5 h).bind fun x6 =>
        if x6 = 0 then
          some ((-100003 : Int32), h)
        else
          (F_X8_tornBlocks v0 x1 h).bind fun x8 =>
          if x8 ≤ 0 then
            (F_X8_openAll v0 x1 h).bind fun h10 =>
            F_X8_seek_64 am_F v0 v2 v3 (0 : Int32) (0 : Int32) h10
          else
            some ((-100005 : Int32), h)
      else
        F_X8_seek_24 h
theorem w_X8_seek {g : am_G} {l : Launch} {h0 : am_H} {x : Int32} {hf : am_H}  (v0 : Nat) (v1 : Int32) (v2 : Int32) (v3 : Int32) (h : am_H) (hF : F_X8_seek_b v0 v1 v2 v3 h = some (x, hf)) : am_W g l M_X8_seek h0 (some (.int x)) hf 0 [some (.ref v0), some (.int v1), some (.int v2), some (.int v3), none, none, none] [] h := by
  unfold F_X8_seek_b at hF
  refine am_aload_n (pc' := 1) dX8_seek_0 rfl rfl ?_
  refine am_iload_n (pc' := 2) dX8_seek_1 rfl rfl ?_
  obtain ⟨x1, ex1, hF⟩ := am_bind hF
  obtain ⟨ox1, px1⟩ := t_X8_versionOf ex1
  refine am_callV1 (Mc := M_X8_versionOf) (As := [.int v1]) (st := []) (pc' := 5) dX8_seek_2 cw_X8_126 wd_2_135 sl_X8_versionOf ⟨_, rfl, rfl⟩ (by decide) (by decide) rfl rfl (Nat.le_of_ble_eq_true rfl) px1 (c_X8_versionOf ex1) rfl ?_
  refine am_astore (ls' := [some (.ref v0), some (.int v1), some (.int v2), some (.int v3), some (.ref x1), none, none]) (pc' := 7) dX8_seek_5 (Nat.le_of_ble_eq_true rfl) rfl rfl ?_
  refine am_aload (pc' := 9) dX8_seek_7 rfl rfl ?_
  rcases am_ite hF with ⟨z2, hF⟩ | ⟨z2, hF⟩
  · refine am_ifnonnull_f (pc' := 12) dX8_seek_9 z2 rfl ?_
    refine am_ldc (v := (-100001 : Int32)) (pc' := 14) dX8_seek_12 wd_2_137 rfl ?_
    cases hF
    exact am_iret dX8_seek_14 rfl rfl
  · refine am_ifnonnull_t (pc' := 15) dX8_seek_9 rfl z2 ?_
    refine am_iload_n (pc' := 16) dX8_seek_15 rfl rfl ?_
    rcases am_ite hF with ⟨z3, hF⟩ | ⟨z3, hF⟩
    · refine am_if_lt_t (pc' := 24) dX8_seek_16 rfl z3 ?_
      exact am_weak [false, false, false, false, false, false, false] (w_X8_seek_24 h hF)
    · refine am_if_lt_f (pc' := 19) (tgt := 24) dX8_seek_16 rfl z3 rfl ?_
      refine am_iload_n (pc' := 20) dX8_seek_19 rfl rfl ?_
      refine am_iconst (v := (3 : Int32)) (pc' := 21) dX8_seek_20 rfl rfl ?_
      rcases am_ite hF with ⟨z4, hF⟩ | ⟨z4, hF⟩
      · refine am_icmp_le_t (pc' := 27) dX8_seek_21 rfl z4 ?_
        refine am_aload_n (pc' := 28) dX8_seek_27 rfl rfl ?_
        obtain ⟨x5, ex5, hF⟩ := am_bind hF
        refine am_getr (pc' := 31) dX8_seek_28 fw_X8_18 ex5 rfl ?_
        obtain ⟨x6, ex6, hF⟩ := am_bind hF
        obtain ⟨ox6, px6⟩ := t_X4_length ex6
        refine am_callV1 (Mc := M_X4_length) (As := []) (st := []) (pc' := 34) dX8_seek_31 cw_X8_93 wd_1_235 wd_1_236 ⟨_, rfl, rfl⟩ (by decide) (by decide) rfl rfl (Nat.le_of_ble_eq_true rfl) px6 (c_X4_length ex6) rfl ?_
        rcases am_ite hF with ⟨z7, hF⟩ | ⟨z7, hF⟩
        · refine am_if_ne_f (pc' := 37) (tgt := 40) dX8_seek_34 rfl z7 rfl ?_
          refine am_ldc (v := (-100003 : Int32)) (pc' := 39) dX8_seek_37 wd_2_7 rfl ?_
          cases hF
          exact am_iret dX8_seek_39 rfl rfl
        · refine am_if_ne_t (pc' := 40) dX8_seek_34 rfl z7 ?_
          refine am_aload_n (pc' := 41) dX8_seek_40 rfl rfl ?_
          refine am_aload (pc' := 43) dX8_seek_41 rfl rfl ?_
          obtain ⟨x8, ex8, hF⟩ := am_bind hF
          obtain ⟨ox8, px8⟩ := t_X8_tornBlocks ex8
          refine am_callV1 (Mc := M_X8_tornBlocks) (As := [.ref x1]) (st := []) (pc' := 46) dX8_seek_43 cw_X8_157 wd_2_147 sl_X8_tornBlocks ⟨_, rfl, rfl⟩ (by decide) (by decide) rfl rfl (Nat.le_of_ble_eq_true rfl) px8 (c_X8_tornBlocks ex8) rfl ?_
          rcases am_ite hF with ⟨z9, hF⟩ | ⟨z9, hF⟩
          · refine am_if_le_t (pc' := 52) dX8_seek_46 rfl z9 ?_
            refine am_aload_n (pc' := 53) dX8_seek_52 rfl rfl ?_
            refine am_aload (pc' := 55) dX8_seek_53 rfl rfl ?_
            obtain ⟨h10, eh10, hF⟩ := am_bind hF
            obtain ⟨oh10, ph10⟩ := t_X8_openAll eh10
            refine am_callV0 (Mc := M_X8_openAll) (As := [.ref x1]) (st := []) (pc' := 58) dX8_seek_55 cw_X8_272 wd_3_228 sl_X8_openAll ⟨_, rfl, rfl⟩ (by decide) (by decide) rfl rfl (Nat.le_of_ble_eq_true rfl) ph10 (c_X8_openAll eh10) rfl ?_
            refine am_iconst (v := (0 : Int32)) (pc' := 59) dX8_seek_58 rfl rfl ?_
            refine am_istore (ls' := [some (.ref v0), some (.int v1), some (.int v2), some (.int v3), some (.ref x1), some (.int (0 : Int32)), none]) (pc' := 61) dX8_seek_59 (Nat.le_of_ble_eq_true rfl) rfl rfl ?_
            refine am_iconst (v := (0 : Int32)) (pc' := 62) dX8_seek_61 rfl rfl ?_
            refine am_istore (ls' := [some (.ref v0), some (.int v1), some (.int v2), some (.int v3), some (.ref x1), some (.int (0 : Int32)), some (.int (0 : Int32))]) (pc' := 64) dX8_seek_62 (Nat.le_of_ble_eq_true rfl) rfl rfl ?_
            exact am_weak [true, false, true, true, false, true, true] (w_X8_seek_64 am_F v0 v2 v3 (0 : Int32) (0 : Int32) h10 hF)
          · refine am_if_le_f (pc' := 49) (tgt := 52) dX8_seek_46 rfl z9 rfl ?_
            refine am_ldc (v := (-100005 : Int32)) (pc' := 51) dX8_seek_49 wd_2_153 rfl ?_
            cases hF
            exact am_iret dX8_seek_51 rfl rfl
      · refine am_icmp_le_f (pc' := 24) (tgt := 27) dX8_seek_21 rfl z4 rfl ?_
        exact am_weak [false, false, false, false, false, false, false] (w_X8_seek_24 h hF)
def F_X8_seek (v0 : Nat) (v1 : Int32) (v2 : Int32) (v3 : Int32) (h : am_H) : Option (Int32 × am_H) := (am_obj v0 8 h).bind fun _ => F_X8_seek_b v0 v1 v2 v3 h
theorem t_X8_seek {x : Int32} {hf : am_H}  {v0 : Nat} {v1 : Int32} {v2 : Int32} {v3 : Int32} {h : am_H} (hF : F_X8_seek v0 v1 v2 v3 h = some (x, hf)) : ∃ fs, am_obj v0 8 h = some fs := by
  obtain ⟨fs, e, _⟩ := am_bind hF
  exact ⟨fs, e⟩
theorem c_X8_seek {g : am_G} {l : Launch} {x : Int32} {hf : am_H}  {v0 : Nat} {v1 : Int32} {v2 : Int32} {v3 : Int32} {h : am_H} (hF : F_X8_seek v0 v1 v2 v3 h = some (x, hf)) : am_Met g l M_X8_seek [.ref v0, .int v1, .int v2, .int v3] h (some (.int x)) hf := by
  obtain ⟨fs, e0, e⟩ := am_bind hF
  exact am_met (n := 3) (by decide +kernel) rfl (Nat.le_of_ble_eq_true rfl) (w_X8_seek v0 v1 v2 v3 h e)
def F_X9_signAt_b (v0 : Nat) (v1 : Int32) (v2 : Int32) (h : am_H) : Option (Int32 × am_H) :=
  (F_X9_find v0 v1 v2 h).bind fun h1 =>
  (am_gi 9 18 v0 h1).bind fun x2 =>
  (F_X9_blockAt v0 v1 x2 h1).bind fun x3 =>
  (am_gi 9 19 v0 h1).bind fun x4 =>
  (F_X9_sign v0 x3 x4 h1).bind fun x5 =>
  some (x5, h1)
theorem w_X9_signAt {g : am_G} {l : Launch} {h0 : am_H} {x : Int32} {hf : am_H}  (v0 : Nat) (v1 : Int32) (v2 : Int32) (h : am_H) (hF : F_X9_signAt_b v0 v1 v2 h = some (x, hf)) : am_W g l M_X9_signAt h0 (some (.int x)) hf 0 [some (.ref v0), some (.int v1), some (.int v2)] [] h := by
  unfold F_X9_signAt_b at hF
  refine am_aload_n (pc' := 1) dX9_signAt_0 rfl rfl ?_
  refine am_iload_n (pc' := 2) dX9_signAt_1 rfl rfl ?_
  refine am_iload_n (pc' := 3) dX9_signAt_2 rfl rfl ?_
  obtain ⟨h1, eh1, hF⟩ := am_bind hF
  obtain ⟨oh1, ph1⟩ := t_X9_find eh1
  refine am_callV0 (Mc := M_X9_find) (As := [.int v1, .int v2]) (st := []) (pc' := 6) dX9_signAt_3 cw_X9_169 wd_5_58 sl_X9_find ⟨_, rfl, rfl⟩ (by decide) (by decide) rfl rfl (Nat.le_of_ble_eq_true rfl) ph1 (c_X9_find eh1) rfl ?_
  refine am_aload_n (pc' := 7) dX9_signAt_6 rfl rfl ?_
  refine am_aload_n (pc' := 8) dX9_signAt_7 rfl rfl ?_
  refine am_iload_n (pc' := 9) dX9_signAt_8 rfl rfl ?_
  refine am_aload_n (pc' := 10) dX9_signAt_9 rfl rfl ?_
  obtain ⟨x2, ex2, hF⟩ := am_bind hF
  refine am_geti (pc' := 13) dX9_signAt_10 fw_X9_144 ex2 rfl ?_
  obtain ⟨x3, ex3, hF⟩ := am_bind hF
  obtain ⟨ox3, px3⟩ := t_X9_blockAt ex3
  refine am_callV1 (Mc := M_X9_blockAt) (As := [.int v1, .int x2]) (st := [.ref v0]) (pc' := 16) dX9_signAt_13 cw_X9_141 wd_5_45 sl_X9_blockAt ⟨_, rfl, rfl⟩ (by decide) (by decide) rfl rfl (Nat.le_of_ble_eq_true rfl) px3 (c_X9_blockAt ex3) rfl ?_
  refine am_aload_n (pc' := 17) dX9_signAt_16 rfl rfl ?_
  obtain ⟨x4, ex4, hF⟩ := am_bind hF
  refine am_geti (pc' := 20) dX9_signAt_17 fw_X9_147 ex4 rfl ?_
  obtain ⟨x5, ex5, hF⟩ := am_bind hF
  obtain ⟨ox5, px5⟩ := t_X9_sign ex5
  refine am_callV1 (Mc := M_X9_sign) (As := [.int x3, .int x4]) (st := []) (pc' := 23) dX9_signAt_20 cw_X9_113 wd_5_21 sl_X9_sign ⟨_, rfl, rfl⟩ (by decide) (by decide) rfl rfl (Nat.le_of_ble_eq_true rfl) px5 (c_X9_sign ex5) rfl ?_
  cases hF
  exact am_iret dX9_signAt_23 rfl rfl
def F_X9_signAt (v0 : Nat) (v1 : Int32) (v2 : Int32) (h : am_H) : Option (Int32 × am_H) := (am_obj v0 9 h).bind fun _ => F_X9_signAt_b v0 v1 v2 h
theorem t_X9_signAt {x : Int32} {hf : am_H}  {v0 : Nat} {v1 : Int32} {v2 : Int32} {h : am_H} (hF : F_X9_signAt v0 v1 v2 h = some (x, hf)) : ∃ fs, am_obj v0 9 h = some fs := by
  obtain ⟨fs, e, _⟩ := am_bind hF
  exact ⟨fs, e⟩
theorem c_X9_signAt {g : am_G} {l : Launch} {x : Int32} {hf : am_H}  {v0 : Nat} {v1 : Int32} {v2 : Int32} {h : am_H} (hF : F_X9_signAt v0 v1 v2 h = some (x, hf)) : am_Met g l M_X9_signAt [.ref v0, .int v1, .int v2] h (some (.int x)) hf := by
  obtain ⟨fs, e0, e⟩ := am_bind hF
  exact am_met (n := 0) (by decide +kernel) rfl (Nat.le_of_ble_eq_true rfl) (w_X9_signAt v0 v1 v2 h e)
theorem cw_X9_293 : am_cw "SignCellarModel" 293 M_X9_signAt 2 := ⟨wd_1_9, wd_6_5, ⟨by decide, by decide, by decide⟩, Or.inl wd_6_2⟩
theorem sl_X9_signAt : Cond.selects (⟨"SignCellarModel", "signAt", "(II)I"⟩ : MethodName).cls ⟨"SignCellarModel", "signAt", "(II)I"⟩ ⟨"SignCellarModel", "signAt", "(II)I"⟩ ∈ am_ts := am_in_p (q := (⟨"SignCellarModel", "signAt", "(II)I"⟩, 42)) (by decide +kernel)
def F_X9_seek_147 (k63 : Nat → Int32 → Int32 → Int32 → Int32 → Int32 → Int32 → Int32 → am_H → Option (Int32 × am_H)) (v0 : Nat) (v1 : Int32) (v2 : Int32) (v3 : Int32) (v4 : Int32) (v5 : Int32) (v6 : Int32) (v7 : Int32) (h : am_H) : Option (Int32 × am_H) :=
  k63 v0 v1 v2 v3 v4 v5 v6 (v7 + (1 : Int32)) h
theorem w_X9_seek_147 {g : am_G} {l : Launch} {h0 : am_H} {x : Int32} {hf : am_H}  {k63 : Nat → Int32 → Int32 → Int32 → Int32 → Int32 → Int32 → Int32 → am_H → Option (Int32 × am_H)} (j63 : ∀ (v0 : Nat) (v1 : Int32) (v2 : Int32) (v3 : Int32) (v4 : Int32) (v5 : Int32) (v6 : Int32) (v7 : Int32) (h : am_H), k63 v0 v1 v2 v3 v4 v5 v6 v7 h = some (x, hf) → am_W g l M_X9_seek h0 (some (.int x)) hf 63 [some (.ref v0), some (.int v1), some (.int v2), some (.int v3), some (.int v4), some (.int v5), some (.int v6), some (.int v7), none, none] [] h) (v0 : Nat) (v1 : Int32) (v2 : Int32) (v3 : Int32) (v4 : Int32) (v5 : Int32) (v6 : Int32) (v7 : Int32) (h : am_H) (hF : F_X9_seek_147 k63 v0 v1 v2 v3 v4 v5 v6 v7 h = some (x, hf)) : am_W g l M_X9_seek h0 (some (.int x)) hf 147 [some (.ref v0), some (.int v1), some (.int v2), some (.int v3), some (.int v4), some (.int v5), some (.int v6), some (.int v7), none, none] [] h := by
  unfold F_X9_seek_147 at hF
  refine am_iinc (ls' := [some (.ref v0), some (.int v1), some (.int v2), some (.int v3), some (.int v4), some (.int v5), some (.int v6), some (.int (v7 + (1 : Int32))), none, none]) (pc' := 150) (v := (v7 + (1 : Int32))) dX9_seek_147 rfl rfl (Nat.le_of_ble_eq_true rfl) rfl rfl ?_
  refine am_goto (pc' := 63) dX9_seek_150 rfl ?_
  exact j63 v0 v1 v2 v3 v4 v5 v6 (v7 + (1 : Int32)) h hF
def F_X9_seek_142 (k63 : Nat → Int32 → Int32 → Int32 → Int32 → Int32 → Int32 → Int32 → am_H → Option (Int32 × am_H)) (v0 : Nat) (v1 : Int32) (v2 : Int32) (v3 : Int32) (v4 : Int32) (v6 : Int32) (v7 : Int32) (s0 : Int32) (h : am_H) : Option (Int32 × am_H) :=
  F_X9_seek_147 k63 v0 v1 v2 v3 (v4 + (1 : Int32)) s0 v6 v7 h
theorem w_X9_seek_142 {g : am_G} {l : Launch} {h0 : am_H} {x : Int32} {hf : am_H}  {k63 : Nat → Int32 → Int32 → Int32 → Int32 → Int32 → Int32 → Int32 → am_H → Option (Int32 × am_H)} (j63 : ∀ (v0 : Nat) (v1 : Int32) (v2 : Int32) (v3 : Int32) (v4 : Int32) (v5 : Int32) (v6 : Int32) (v7 : Int32) (h : am_H), k63 v0 v1 v2 v3 v4 v5 v6 v7 h = some (x, hf) → am_W g l M_X9_seek h0 (some (.int x)) hf 63 [some (.ref v0), some (.int v1), some (.int v2), some (.int v3), some (.int v4), some (.int v5), some (.int v6), some (.int v7), none, none] [] h) (v0 : Nat) (v1 : Int32) (v2 : Int32) (v3 : Int32) (v4 : Int32) (v6 : Int32) (v7 : Int32) (s0 : Int32) (h : am_H) (hF : F_X9_seek_142 k63 v0 v1 v2 v3 v4 v6 v7 s0 h = some (x, hf)) : am_W g l M_X9_seek h0 (some (.int x)) hf 142 [some (.ref v0), some (.int v1), some (.int v2), some (.int v3), some (.int v4), none, some (.int v6), some (.int v7), none, none] [.int s0] h := by
  unfold F_X9_seek_142 at hF
  refine am_istore (ls' := [some (.ref v0), some (.int v1), some (.int v2), some (.int v3), some (.int v4), some (.int s0), some (.int v6), some (.int v7), none, none]) (pc' := 144) dX9_seek_142 (Nat.le_of_ble_eq_true rfl) rfl rfl ?_
  refine am_iinc (ls' := [some (.ref v0), some (.int v1), some (.int v2), some (.int v3), some (.int (v4 + (1 : Int32))), some (.int s0), some (.int v6), some (.int v7), none, none]) (pc' := 147) (v := (v4 + (1 : Int32))) dX9_seek_144 rfl rfl (Nat.le_of_ble_eq_true rfl) rfl rfl ?_
  exact w_X9_seek_147 j63 v0 v1 v2 v3 (v4 + (1 : Int32)) s0 v6 v7 h hF
def F_X9_seek_81 (k63 : Nat → Int32 → Int32 → Int32 → Int32 → Int32 → Int32 → Int32 → am_H → Option (Int32 × am_H)) : Nat → Nat → Int32 → Int32 → Int32 → Int32 → Int32 → Int32 → Int32 → Int32 → Int32 → am_H → Option (Int32 × am_H)
  | 0, _, _, _, _, _, _, _, _, _, _, _ => none
  | n + 1, v0, v1, v2, v3, v4, v5, v6, v7, v8, v9, h =>
  (am_gi 9 39 v0 h).bind fun x1 =>
  if x1 ≤ v9 then
    if v2 < v8 then
      F_X9_seek_147 k63 v0 v1 v2 v3 v4 v5 v6 v7 h
    else
      if v4 = v3 then
        F_X9_seek_142 k63 v0 v1 v2 v3 v4 v6 v7 v7 h
      else
        F_X9_seek_142 k63 v0 v1 v2 v3 v4 v6 v7 v5 h
  else
    (am_gr 9 40 v0 h).bind fun x5 =>
    (am_il 0 x5 v9 h).bind fun x6 =>
    (F_X9_signAt v0 v1 (v7 + v9) h).bind fun q7 =>
    F_X9_seek_81 k63 n v0 v1 v2 v3 v4 v5 v6 v7 (v8 + ((1 : Int32) - ((x6 >>> (q7.1 &&& 31)) &&& (1 : Int32)))) (v9 + (1 : Int32)) q7.2
theorem w_X9_seek_81 {g : am_G} {l : Launch} {h0 : am_H} {x : Int32} {hf : am_H}  {k63 : Nat → Int32 → Int32 → Int32 → Int32 → Int32 → Int32 → Int32 → am_H → Option (Int32 × am_H)} (j63 : ∀ (v0 : Nat) (v1 : Int32) (v2 : Int32) (v3 : Int32) (v4 : Int32) (v5 : Int32) (v6 : Int32) (v7 : Int32) (h : am_H), k63 v0 v1 v2 v3 v4 v5 v6 v7 h = some (x, hf) → am_W g l M_X9_seek h0 (some (.int x)) hf 63 [some (.ref v0), some (.int v1), some (.int v2), some (.int v3), some (.int v4), some (.int v5), some (.int v6), some (.int v7), none, none] [] h) : ∀ (n : Nat) (v0 : Nat) (v1 : Int32) (v2 : Int32) (v3 : Int32) (v4 : Int32) (v5 : Int32) (v6 : Int32) (v7 : Int32) (v8 : Int32) (v9 : Int32) (h : am_H), F_X9_seek_81 k63 n v0 v1 v2 v3 v4 v5 v6 v7 v8 v9 h = some (x, hf) → am_W g l M_X9_seek h0 (some (.int x)) hf 81 [some (.ref v0), some (.int v1), some (.int v2), some (.int v3), some (.int v4), some (.int v5), some (.int v6), some (.int v7), some (.int v8), some (.int v9)] [] h
  | 0, _, _, _, _, _, _, _, _, _, _, _, hF => by cases hF
  | n + 1, v0, v1, v2, v3, v4, v5, v6, v7, v8, v9, h, hF => by
    rw [F_X9_seek_81] at hF
    refine am_iload (pc' := 83) dX9_seek_81 rfl rfl ?_
    refine am_aload_n (pc' := 84) dX9_seek_83 rfl rfl ?_
    obtain ⟨x1, ex1, hF⟩ := am_bind hF
    refine am_geti (pc' := 87) dX9_seek_84 fw_X9_191 ex1 rfl ?_
    rcases am_ite hF with ⟨z2, hF⟩ | ⟨z2, hF⟩
    · refine am_icmp_ge_t (pc' := 123) dX9_seek_87 rfl z2 ?_
      refine am_iload (pc' := 125) dX9_seek_123 rfl rfl ?_
      refine am_iload_n (pc' := 126) dX9_seek_125 rfl rfl ?_
      rcases am_ite hF with ⟨z3, hF⟩ | ⟨z3, hF⟩
      · refine am_icmp_gt_t (pc' := 147) dX9_seek_126 rfl z3 ?_
        exact am_weak [true, true, true, true, true, true, true, true, false, false] (w_X9_seek_147 j63 v0 v1 v2 v3 v4 v5 v6 v7 h hF)
      · refine am_icmp_gt_f (pc' := 129) (tgt := 147) dX9_seek_126 rfl z3 rfl ?_
        refine am_iload (pc' := 131) dX9_seek_129 rfl rfl ?_
        refine am_iload_n (pc' := 132) dX9_seek_131 rfl rfl ?_
        rcases am_ite hF with ⟨z4, hF⟩ | ⟨z4, hF⟩
        · refine am_icmp_ne_f (pc' := 135) (tgt := 140) dX9_seek_132 rfl z4 rfl ?_
          refine am_iload (pc' := 137) dX9_seek_135 rfl rfl ?_
          refine am_goto (pc' := 142) dX9_seek_137 rfl ?_
          exact am_weak [true, true, true, true, true, false, true, true, false, false] (w_X9_seek_142 j63 v0 v1 v2 v3 v4 v6 v7 v7 h hF)
        · refine am_icmp_ne_t (pc' := 140) dX9_seek_132 rfl z4 ?_
          refine am_iload (pc' := 142) dX9_seek_140 rfl rfl ?_
          exact am_weak [true, true, true, true, true, false, true, true, false, false] (w_X9_seek_142 j63 v0 v1 v2 v3 v4 v6 v7 v5 h hF)
    · refine am_icmp_ge_f (pc' := 90) (tgt := 123) dX9_seek_87 rfl z2 rfl ?_
      refine am_iload (pc' := 92) dX9_seek_90 rfl rfl ?_
      refine am_iconst (v := (1 : Int32)) (pc' := 93) dX9_seek_92 rfl rfl ?_
      refine am_aload_n (pc' := 94) dX9_seek_93 rfl rfl ?_
      obtain ⟨x5, ex5, hF⟩ := am_bind hF
      refine am_getr (pc' := 97) dX9_seek_94 fw_X9_86 ex5 rfl ?_
      refine am_iload (pc' := 99) dX9_seek_97 rfl rfl ?_
      obtain ⟨x6, ex6, hF⟩ := am_bind hF
      refine am_iald (pc' := 100) dX9_seek_99 ex6 rfl ?_
      refine am_aload_n (pc' := 101) dX9_seek_100 rfl rfl ?_
      refine am_iload_n (pc' := 102) dX9_seek_101 rfl rfl ?_
      refine am_iload (pc' := 104) dX9_seek_102 rfl rfl ?_
      refine am_iload (pc' := 106) dX9_seek_104 rfl rfl ?_
      refine am_iadd (pc' := 107) dX9_seek_106 rfl ?_
      obtain ⟨q7, eq7, hF⟩ := am_bind hF
      obtain ⟨oq7, pq7⟩ := t_X9_signAt eq7
      refine am_callV1 (Mc := M_X9_signAt) (As := [.int v1, .int (v7 + v9)]) (st := [.int x6, .int (1 : Int32), .int v8]) (pc' := 110) dX9_seek_107 cw_X9_293 wd_6_4 sl_X9_signAt ⟨_, rfl, rfl⟩ (by decide) (by decide) rfl rfl (Nat.le_of_ble_eq_true rfl) pq7 (c_X9_signAt eq7) rfl ?_
      refine am_ishr (pc' := 111) dX9_seek_110 rfl ?_
      refine am_iconst (v := (1 : Int32)) (pc' := 112) dX9_seek_111 rfl rfl ?_
      refine am_iand (pc' := 113) dX9_seek_112 rfl ?_
      refine am_isub (pc' := 114) dX9_seek_113 rfl ?_
      refine am_iadd (pc' := 115) dX9_seek_114 rfl ?_
      refine am_istore (ls' := [some (.ref v0), some (.int v1), some (.int v2), some (.int v3), some (.int v4), some (.int v5), some (.int v6), some (.int v7), some (.int (v8 + ((1 : Int32) - ((x6 >>> (q7.1 &&& 31)) &&& (1 : Int32))))), some (.int v9)]) (pc' := 117) dX9_seek_115 (Nat.le_of_ble_eq_true rfl) rfl rfl ?_
      refine am_iinc (ls' := [some (.ref v0), some (.int v1), some (.int v2), some (.int v3), some (.int v4), some (.int v5), some (.int v6), some (.int v7), some (.int (v8 + ((1 : Int32) - ((x6 >>> (q7.1 &&& 31)) &&& (1 : Int32))))), some (.int (v9 + (1 : Int32)))]) (pc' := 120) (v := (v9 + (1 : Int32))) dX9_seek_117 rfl rfl (Nat.le_of_ble_eq_true rfl) rfl rfl ?_
      refine am_goto (pc' := 81) dX9_seek_120 rfl ?_
      exact w_X9_seek_81 j63 n v0 v1 v2 v3 v4 v5 v6 v7 (v8 + ((1 : Int32) - ((x6 >>> (q7.1 &&& 31)) &&& (1 : Int32)))) (v9 + (1 : Int32)) q7.2 hF
def F_X9_seek_165 (s0 : Int32) (h : am_H) : Option (Int32 × am_H) :=
  some (s0, h)
theorem w_X9_seek_165 {g : am_G} {l : Launch} {h0 : am_H} {x : Int32} {hf : am_H}  (s0 : Int32) (h : am_H) (hF : F_X9_seek_165 s0 h = some (x, hf)) : am_W g l M_X9_seek h0 (some (.int x)) hf 165 [none, none, none, none, none, none, none, none, none, none] [.int s0] h := by
  unfold F_X9_seek_165 at hF
  cases hF
  exact am_iret dX9_seek_165 rfl rfl
def F_X9_seek_63 : Nat → Nat → Int32 → Int32 → Int32 → Int32 → Int32 → Int32 → Int32 → am_H → Option (Int32 × am_H)
  | 0, _, _, _, _, _, _, _, _, _ => none
  | n + 1, v0, v1, v2, v3, v4, v5, v6, v7, h =>
  (am_gi 9 39 v0 h).bind fun x1 =>
  if v6 < (v7 + x1) then
    if v3 = (-1 : Int32) then
      F_X9_seek_165 v4 h
    else
      F_X9_seek_165 v5 h
  else
    F_X9_seek_81 (F_X9_seek_63 n) am_F v0 v1 v2 v3 v4 v5 v6 v7 (0 : Int32) (0 : Int32) h
theorem w_X9_seek_63 {g : am_G} {l : Launch} {h0 : am_H} {x : Int32} {hf : am_H}  : ∀ (n : Nat) (v0 : Nat) (v1 : Int32) (v2 : Int32) (v3 : Int32) (v4 : Int32) (v5 : Int32) (v6 : Int32) (v7 : Int32) (h : am_H), F_X9_seek_63 n v0 v1 v2 v3 v4 v5 v6 v7 h = some (x, hf) → am_W g l M_X9_seek h0 (some (.int x)) hf 63 [some (.ref v0), some (.int v1), some (.int v2), some (.int v3), some (.int v4), some (.int v5), some (.int v6), some (.int v7), none, none] [] h
  | 0, _, _, _, _, _, _, _, _, _, hF => by cases hF
  | n + 1, v0, v1, v2, v3, v4, v5, v6, v7, h, hF => by
    rw [F_X9_seek_63] at hF
    refine am_iload (pc' := 65) dX9_seek_63 rfl rfl ?_
    refine am_aload_n (pc' := 66) dX9_seek_65 rfl rfl ?_
    obtain ⟨x1, ex1, hF⟩ := am_bind hF
    refine am_geti (pc' := 69) dX9_seek_66 fw_X9_191 ex1 rfl ?_
    refine am_iadd (pc' := 70) dX9_seek_69 rfl ?_
    refine am_iload (pc' := 72) dX9_seek_70 rfl rfl ?_
    rcases am_ite hF with ⟨z2, hF⟩ | ⟨z2, hF⟩
    · refine am_icmp_gt_t (pc' := 153) dX9_seek_72 rfl z2 ?_
      refine am_iload_n (pc' := 154) dX9_seek_153 rfl rfl ?_
      refine am_iconst (v := (-1 : Int32)) (pc' := 155) dX9_seek_154 rfl rfl ?_
      rcases am_ite hF with ⟨z3, hF⟩ | ⟨z3, hF⟩
      · refine am_icmp_ne_f (pc' := 158) (tgt := 163) dX9_seek_155 rfl z3 rfl ?_
        refine am_iload (pc' := 160) dX9_seek_158 rfl rfl ?_
        refine am_goto (pc' := 165) dX9_seek_160 rfl ?_
        exact am_weak [false, false, false, false, false, false, false, false, false, false] (w_X9_seek_165 v4 h hF)
      · refine am_icmp_ne_t (pc' := 163) dX9_seek_155 rfl z3 ?_
        refine am_iload (pc' := 165) dX9_seek_163 rfl rfl ?_
        exact am_weak [false, false, false, false, false, false, false, false, false, false] (w_X9_seek_165 v5 h hF)
    · refine am_icmp_gt_f (pc' := 75) (tgt := 153) dX9_seek_72 rfl z2 rfl ?_
      refine am_iconst (v := (0 : Int32)) (pc' := 76) dX9_seek_75 rfl rfl ?_
      refine am_istore (ls' := [some (.ref v0), some (.int v1), some (.int v2), some (.int v3), some (.int v4), some (.int v5), some (.int v6), some (.int v7), some (.int (0 : Int32)), none]) (pc' := 78) dX9_seek_76 (Nat.le_of_ble_eq_true rfl) rfl rfl ?_
      refine am_iconst (v := (0 : Int32)) (pc' := 79) dX9_seek_78 rfl rfl ?_
      refine am_istore (ls' := [some (.ref v0), some (.int v1), some (.int v2), some (.int v3), some (.int v4), some (.int v5), some (.int v6), some (.int v7), some (.int (0 : Int32)), some (.int (0 : Int32))]) (pc' := 81) dX9_seek_79 (Nat.le_of_ble_eq_true rfl) rfl rfl ?_
      exact w_X9_seek_81 (w_X9_seek_63 n) am_F v0 v1 v2 v3 v4 v5 v6 v7 (0 : Int32) (0 : Int32) h hF
def F_X9_seek_b (v0 : Nat) (v1 : Int32) (v2 : Int32) (v3 : Int32) (h : am_H) : Option (Int32 × am_H) :=
  (F_X9_noVersion v0 v1 h).bind fun x1 =>
  if x1 = 0 then
    (F_X9_in (Int32.toInt64 v2) (0 : Int64) (3 : Int64) h).bind fun x3 =>
    if x3 = 0 then
      some ((-100002 : Int32), h)
    else
      (am_gi 9 39 v0 h).bind fun x5 =>
      if x5 = 0 then
        some ((-100003 : Int32), h)
      else
        (F_X9_tornIn v0 v1 h).bind fun x7 =>
        if x7 ≤ 0 then
          (F_X9_placesOf v0 v1 h).bind fun x9 =>
          F_X9_seek_63 am_F v0 v1 v2 v3 (0 : Int32) (-1 : Int32) x9 (0 : Int32) h
        else
          some ((-100005 : Int32), h)
  else
    some ((-100001 : Int32), h)
theorem w_X9_seek {g : am_G} {l : Launch} {h0 : am_H} {x : Int32} {hf : am_H}  (v0 : Nat) (v1 : Int32) (v2 : Int32) (v3 : Int32) (h : am_H) (hF : F_X9_seek_b v0 v1 v2 v3 h = some (x, hf)) : am_W g l M_X9_seek h0 (some (.int x)) hf 0 [some (.ref v0), some (.int v1), some (.int v2), some (.int v3), none, none, none, none, none, none] [] h := by
  unfold F_X9_seek_b at hF
  refine am_aload_n (pc' := 1) dX9_seek_0 rfl rfl ?_
  refine am_iload_n (pc' := 2) dX9_seek_1 rfl rfl ?_
  obtain ⟨x1, ex1, hF⟩ := am_bind hF
  obtain ⟨ox1, px1⟩ := t_X9_noVersion ex1
  refine am_callV1 (Mc := M_X9_noVersion) (As := [.int v1]) (st := []) (pc' := 5) dX9_seek_2 cw_X9_154 wd_5_37 sl_X9_noVersion ⟨_, rfl, rfl⟩ (by decide) (by decide) rfl rfl (Nat.le_of_ble_eq_true rfl) px1 (c_X9_noVersion ex1) rfl ?_
  rcases am_ite hF with ⟨z2, hF⟩ | ⟨z2, hF⟩
  · refine am_if_eq_t (pc' := 11) dX9_seek_5 rfl z2 ?_
    refine am_iload_n (pc' := 12) dX9_seek_11 rfl rfl ?_
    refine am_i2l (pc' := 13) dX9_seek_12 rfl ?_
    refine am_lconst (v := (0 : Int64)) (pc' := 14) dX9_seek_13 rfl rfl ?_
    refine am_ldc2 (v := (3 : Int64)) (pc' := 17) dX9_seek_14 wd_6_1 rfl ?_
    obtain ⟨x3, ex3, hF⟩ := am_bind hF
    refine am_callS1 (Mc := M_X9_in) (As := [.long (Int32.toInt64 v2), .long (0 : Int64), .long (3 : Int64)]) (st := []) (pc' := 20) dX9_seek_17 cw_X9_96 wd_4_234 (by decide) (by decide) rfl rfl (Nat.le_of_ble_eq_true rfl) (c_X9_in ex3) rfl ?_
    rcases am_ite hF with ⟨z4, hF⟩ | ⟨z4, hF⟩
    · refine am_if_ne_f (pc' := 23) (tgt := 26) dX9_seek_20 rfl z4 rfl ?_
      refine am_ldc (v := (-100002 : Int32)) (pc' := 25) dX9_seek_23 wd_4_236 rfl ?_
      cases hF
      exact am_iret dX9_seek_25 rfl rfl
    · refine am_if_ne_t (pc' := 26) dX9_seek_20 rfl z4 ?_
      refine am_aload_n (pc' := 27) dX9_seek_26 rfl rfl ?_
      obtain ⟨x5, ex5, hF⟩ := am_bind hF
      refine am_geti (pc' := 30) dX9_seek_27 fw_X9_191 ex5 rfl ?_
      rcases am_ite hF with ⟨z6, hF⟩ | ⟨z6, hF⟩
      · refine am_if_ne_f (pc' := 33) (tgt := 36) dX9_seek_30 rfl z6 rfl ?_
        refine am_ldc (v := (-100003 : Int32)) (pc' := 35) dX9_seek_33 wd_5_2 rfl ?_
        cases hF
        exact am_iret dX9_seek_35 rfl rfl
      · refine am_if_ne_t (pc' := 36) dX9_seek_30 rfl z6 ?_
        refine am_aload_n (pc' := 37) dX9_seek_36 rfl rfl ?_
        refine am_iload_n (pc' := 38) dX9_seek_37 rfl rfl ?_
        obtain ⟨x7, ex7, hF⟩ := am_bind hF
        obtain ⟨ox7, px7⟩ := t_X9_tornIn ex7
        refine am_callV1 (Mc := M_X9_tornIn) (As := [.int v1]) (st := []) (pc' := 41) dX9_seek_38 cw_X9_165 wd_5_50 sl_X9_tornIn ⟨_, rfl, rfl⟩ (by decide) (by decide) rfl rfl (Nat.le_of_ble_eq_true rfl) px7 (c_X9_tornIn ex7) rfl ?_
        rcases am_ite hF with ⟨z8, hF⟩ | ⟨z8, hF⟩
        · refine am_if_le_t (pc' := 47) dX9_seek_41 rfl z8 ?_
          refine am_iconst (v := (0 : Int32)) (pc' := 48) dX9_seek_47 rfl rfl ?_
          refine am_istore (ls' := [some (.ref v0), some (.int v1), some (.int v2), some (.int v3), some (.int (0 : Int32)), none, none, none, none, none]) (pc' := 50) dX9_seek_48 (Nat.le_of_ble_eq_true rfl) rfl rfl ?_
          refine am_iconst (v := (-1 : Int32)) (pc' := 51) dX9_seek_50 rfl rfl ?_
          refine am_istore (ls' := [some (.ref v0), some (.int v1), some (.int v2), some (.int v3), some (.int (0 : Int32)), some (.int (-1 : Int32)), none, none, none, none]) (pc' := 53) dX9_seek_51 (Nat.le_of_ble_eq_true rfl) rfl rfl ?_
          refine am_aload_n (pc' := 54) dX9_seek_53 rfl rfl ?_
          refine am_iload_n (pc' := 55) dX9_seek_54 rfl rfl ?_
          obtain ⟨x9, ex9, hF⟩ := am_bind hF
          obtain ⟨ox9, px9⟩ := t_X9_placesOf ex9
          refine am_callV1 (Mc := M_X9_placesOf) (As := [.int v1]) (st := []) (pc' := 58) dX9_seek_55 cw_X9_157 wd_5_41 sl_X9_placesOf ⟨_, rfl, rfl⟩ (by decide) (by decide) rfl rfl (Nat.le_of_ble_eq_true rfl) px9 (c_X9_placesOf ex9) rfl ?_
          refine am_istore (ls' := [some (.ref v0), some (.int v1), some (.int v2), some (.int v3), some (.int (0 : Int32)), some (.int (-1 : Int32)), some (.int x9), none, none, none]) (pc' := 60) dX9_seek_58 (Nat.le_of_ble_eq_true rfl) rfl rfl ?_
          refine am_iconst (v := (0 : Int32)) (pc' := 61) dX9_seek_60 rfl rfl ?_
          refine am_istore (ls' := [some (.ref v0), some (.int v1), some (.int v2), some (.int v3), some (.int (0 : Int32)), some (.int (-1 : Int32)), some (.int x9), some (.int (0 : Int32)), none, none]) (pc' := 63) dX9_seek_61 (Nat.le_of_ble_eq_true rfl) rfl rfl ?_
          exact w_X9_seek_63 am_F v0 v1 v2 v3 (0 : Int32) (-1 : Int32) x9 (0 : Int32) h hF
        · refine am_if_le_f (pc' := 44) (tgt := 47) dX9_seek_41 rfl z8 rfl ?_
          refine am_ldc (v := (-100005 : Int32)) (pc' := 46) dX9_seek_44 wd_5_55 rfl ?_
          cases hF
          exact am_iret dX9_seek_46 rfl rfl
  · refine am_if_eq_f (pc' := 8) (tgt := 11) dX9_seek_5 rfl z2 rfl ?_
    refine am_ldc (v := (-100001 : Int32)) (pc' := 10) dX9_seek_8 wd_5_47 rfl ?_
    cases hF
    exact am_iret dX9_seek_10 rfl rfl
def F_X9_seek (v0 : Nat) (v1 : Int32) (v2 : Int32) (v3 : Int32) (h : am_H) : Option (Int32 × am_H) := (am_obj v0 9 h).bind fun _ => F_X9_seek_b v0 v1 v2 v3 h
theorem t_X9_seek {x : Int32} {hf : am_H}  {v0 : Nat} {v1 : Int32} {v2 : Int32} {v3 : Int32} {h : am_H} (hF : F_X9_seek v0 v1 v2 v3 h = some (x, hf)) : ∃ fs, am_obj v0 9 h = some fs := by
  obtain ⟨fs, e, _⟩ := am_bind hF
  exact ⟨fs, e⟩
theorem c_X9_seek {g : am_G} {l : Launch} {x : Int32} {hf : am_H}  {v0 : Nat} {v1 : Int32} {v2 : Int32} {v3 : Int32} {h : am_H} (hF : F_X9_seek v0 v1 v2 v3 h = some (x, hf)) : am_Met g l M_X9_seek [.ref v0, .int v1, .int v2, .int v3] h (some (.int x)) hf := by
  obtain ⟨fs, e0, e⟩ := am_bind hF
  exact am_met (n := 6) (by decide +kernel) rfl (Nat.le_of_ble_eq_true rfl) (w_X9_seek v0 v1 v2 v3 h e)
