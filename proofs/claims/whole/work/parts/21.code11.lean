abbrev M_X9_findRules : am_M := ((⟨"SignCellarModel", "findRules", "(I)V"⟩ : MethodName), prog_11_method_42_code, 8, none, 2, 45)
theorem dX9_findRules_0 : decode prog_11_method_42_code 0 = .ok (.aload_n 0, 1) := by decide +kernel
theorem dX9_findRules_1 : decode prog_11_method_42_code 1 = .ok (.aload_n 0, 1) := by decide +kernel
theorem dX9_findRules_2 : decode prog_11_method_42_code 2 = .ok (.getfield 13, 3) := by decide +kernel
theorem dX9_findRules_5 : decode prog_11_method_42_code 5 = .ok (.iload_n 1, 1) := by decide +kernel
theorem dX9_findRules_6 : decode prog_11_method_42_code 6 = .ok (.iaload, 1) := by decide +kernel
theorem dX9_findRules_7 : decode prog_11_method_42_code 7 = .ok (.putfield 207, 3) := by decide +kernel
theorem dX9_findRules_10 : decode prog_11_method_42_code 10 = .ok (.aload_n 0, 1) := by decide +kernel
theorem dX9_findRules_11 : decode prog_11_method_42_code 11 = .ok (.iconst 0, 1) := by decide +kernel
theorem dX9_findRules_12 : decode prog_11_method_42_code 12 = .ok (.putfield 210, 3) := by decide +kernel
theorem dX9_findRules_15 : decode prog_11_method_42_code 15 = .ok (.iconst 0, 1) := by decide +kernel
theorem dX9_findRules_16 : decode prog_11_method_42_code 16 = .ok (.istore_n 2, 1) := by decide +kernel
theorem dX9_findRules_17 : decode prog_11_method_42_code 17 = .ok (.iload_n 2, 1) := by decide +kernel
theorem dX9_findRules_18 : decode prog_11_method_42_code 18 = .ok (.aload_n 0, 1) := by decide +kernel
theorem dX9_findRules_19 : decode prog_11_method_42_code 19 = .ok (.getfield 207, 3) := by decide +kernel
theorem dX9_findRules_22 : decode prog_11_method_42_code 22 = .ok (.if_icmp .ge 21, 3) := by decide +kernel
theorem dX9_findRules_25 : decode prog_11_method_42_code 25 = .ok (.aload_n 0, 1) := by decide +kernel
theorem dX9_findRules_26 : decode prog_11_method_42_code 26 = .ok (.getfield 53, 3) := by decide +kernel
theorem dX9_findRules_29 : decode prog_11_method_42_code 29 = .ok (.iload_n 2, 1) := by decide +kernel
theorem dX9_findRules_30 : decode prog_11_method_42_code 30 = .ok (.aload_n 0, 1) := by decide +kernel
theorem dX9_findRules_31 : decode prog_11_method_42_code 31 = .ok (.iload_n 1, 1) := by decide +kernel
theorem dX9_findRules_32 : decode prog_11_method_42_code 32 = .ok (.iload_n 2, 1) := by decide +kernel
theorem dX9_findRules_33 : decode prog_11_method_42_code 33 = .ok (.invokevirtual 113, 3) := by decide +kernel
theorem dX9_findRules_36 : decode prog_11_method_42_code 36 = .ok (.iastore, 1) := by decide +kernel
theorem dX9_findRules_37 : decode prog_11_method_42_code 37 = .ok (.iinc 2 1, 3) := by decide +kernel
theorem dX9_findRules_40 : decode prog_11_method_42_code 40 = .ok (.goto (-23), 3) := by decide +kernel
theorem dX9_findRules_43 : decode prog_11_method_42_code 43 = .ok (.iconst 1, 1) := by decide +kernel
theorem dX9_findRules_44 : decode prog_11_method_42_code 44 = .ok (.istore_n 2, 1) := by decide +kernel
theorem dX9_findRules_45 : decode prog_11_method_42_code 45 = .ok (.iload_n 2, 1) := by decide +kernel
theorem dX9_findRules_46 : decode prog_11_method_42_code 46 = .ok (.ifCond .eq 111, 3) := by decide +kernel
theorem dX9_findRules_49 : decode prog_11_method_42_code 49 = .ok (.iconst 1, 1) := by decide +kernel
theorem dX9_findRules_50 : decode prog_11_method_42_code 50 = .ok (.istore_n 3, 1) := by decide +kernel
theorem dX9_findRules_51 : decode prog_11_method_42_code 51 = .ok (.iconst (-1), 1) := by decide +kernel
theorem dX9_findRules_52 : decode prog_11_method_42_code 52 = .ok (.istore 4, 2) := by decide +kernel
theorem dX9_findRules_54 : decode prog_11_method_42_code 54 = .ok (.iconst 0, 1) := by decide +kernel
theorem dX9_findRules_55 : decode prog_11_method_42_code 55 = .ok (.istore 5, 2) := by decide +kernel
theorem dX9_findRules_57 : decode prog_11_method_42_code 57 = .ok (.iload 5, 2) := by decide +kernel
theorem dX9_findRules_59 : decode prog_11_method_42_code 59 = .ok (.bipush 16, 2) := by decide +kernel
theorem dX9_findRules_61 : decode prog_11_method_42_code 61 = .ok (.aload_n 0, 1) := by decide +kernel
theorem dX9_findRules_62 : decode prog_11_method_42_code 62 = .ok (.getfield 210, 3) := by decide +kernel
theorem dX9_findRules_65 : decode prog_11_method_42_code 65 = .ok (.iadd, 1) := by decide +kernel
theorem dX9_findRules_66 : decode prog_11_method_42_code 66 = .ok (.if_icmp .ge 59, 3) := by decide +kernel
theorem dX9_findRules_69 : decode prog_11_method_42_code 69 = .ok (.iconst 0, 1) := by decide +kernel
theorem dX9_findRules_70 : decode prog_11_method_42_code 70 = .ok (.istore 6, 2) := by decide +kernel
theorem dX9_findRules_72 : decode prog_11_method_42_code 72 = .ok (.iload 6, 2) := by decide +kernel
theorem dX9_findRules_74 : decode prog_11_method_42_code 74 = .ok (.bipush 16, 2) := by decide +kernel
theorem dX9_findRules_76 : decode prog_11_method_42_code 76 = .ok (.aload_n 0, 1) := by decide +kernel
theorem dX9_findRules_77 : decode prog_11_method_42_code 77 = .ok (.getfield 210, 3) := by decide +kernel
theorem dX9_findRules_80 : decode prog_11_method_42_code 80 = .ok (.iadd, 1) := by decide +kernel
theorem dX9_findRules_81 : decode prog_11_method_42_code 81 = .ok (.if_icmp .ge 38, 3) := by decide +kernel
theorem dX9_findRules_84 : decode prog_11_method_42_code 84 = .ok (.aload_n 0, 1) := by decide +kernel
theorem dX9_findRules_85 : decode prog_11_method_42_code 85 = .ok (.iload 5, 2) := by decide +kernel
theorem dX9_findRules_87 : decode prog_11_method_42_code 87 = .ok (.iload 6, 2) := by decide +kernel
theorem dX9_findRules_89 : decode prog_11_method_42_code 89 = .ok (.invokevirtual 213, 3) := by decide +kernel
theorem dX9_findRules_92 : decode prog_11_method_42_code 92 = .ok (.istore 7, 2) := by decide +kernel
theorem dX9_findRules_94 : decode prog_11_method_42_code 94 = .ok (.iload 7, 2) := by decide +kernel
theorem dX9_findRules_96 : decode prog_11_method_42_code 96 = .ok (.iload_n 3, 1) := by decide +kernel
theorem dX9_findRules_97 : decode prog_11_method_42_code 97 = .ok (.if_icmp .le 16, 3) := by decide +kernel
theorem dX9_findRules_100 : decode prog_11_method_42_code 100 = .ok (.iload 7, 2) := by decide +kernel
theorem dX9_findRules_102 : decode prog_11_method_42_code 102 = .ok (.istore_n 3, 1) := by decide +kernel
theorem dX9_findRules_103 : decode prog_11_method_42_code 103 = .ok (.bipush 64, 2) := by decide +kernel
theorem dX9_findRules_105 : decode prog_11_method_42_code 105 = .ok (.iload 5, 2) := by decide +kernel
theorem dX9_findRules_107 : decode prog_11_method_42_code 107 = .ok (.imul, 1) := by decide +kernel
theorem dX9_findRules_108 : decode prog_11_method_42_code 108 = .ok (.iload 6, 2) := by decide +kernel
theorem dX9_findRules_110 : decode prog_11_method_42_code 110 = .ok (.iadd, 1) := by decide +kernel
theorem dX9_findRules_111 : decode prog_11_method_42_code 111 = .ok (.istore 4, 2) := by decide +kernel
theorem dX9_findRules_113 : decode prog_11_method_42_code 113 = .ok (.iinc 6 1, 3) := by decide +kernel
theorem dX9_findRules_116 : decode prog_11_method_42_code 116 = .ok (.goto (-44), 3) := by decide +kernel
theorem dX9_findRules_119 : decode prog_11_method_42_code 119 = .ok (.iinc 5 1, 3) := by decide +kernel
theorem dX9_findRules_122 : decode prog_11_method_42_code 122 = .ok (.goto (-65), 3) := by decide +kernel
theorem dX9_findRules_125 : decode prog_11_method_42_code 125 = .ok (.iload 4, 2) := by decide +kernel
theorem dX9_findRules_127 : decode prog_11_method_42_code 127 = .ok (.ifCond .lt 7, 3) := by decide +kernel
theorem dX9_findRules_130 : decode prog_11_method_42_code 130 = .ok (.iconst 1, 1) := by decide +kernel
theorem dX9_findRules_131 : decode prog_11_method_42_code 131 = .ok (.goto 4, 3) := by decide +kernel
theorem dX9_findRules_134 : decode prog_11_method_42_code 134 = .ok (.iconst 0, 1) := by decide +kernel
theorem dX9_findRules_135 : decode prog_11_method_42_code 135 = .ok (.istore_n 2, 1) := by decide +kernel
theorem dX9_findRules_136 : decode prog_11_method_42_code 136 = .ok (.iload_n 2, 1) := by decide +kernel
theorem dX9_findRules_137 : decode prog_11_method_42_code 137 = .ok (.ifCond .eq 17, 3) := by decide +kernel
theorem dX9_findRules_140 : decode prog_11_method_42_code 140 = .ok (.aload_n 0, 1) := by decide +kernel
theorem dX9_findRules_141 : decode prog_11_method_42_code 141 = .ok (.iload 4, 2) := by decide +kernel
theorem dX9_findRules_143 : decode prog_11_method_42_code 143 = .ok (.bipush 64, 2) := by decide +kernel
theorem dX9_findRules_145 : decode prog_11_method_42_code 145 = .ok (.idiv, 1) := by decide +kernel
theorem dX9_findRules_146 : decode prog_11_method_42_code 146 = .ok (.iload 4, 2) := by decide +kernel
theorem dX9_findRules_148 : decode prog_11_method_42_code 148 = .ok (.bipush 64, 2) := by decide +kernel
theorem dX9_findRules_150 : decode prog_11_method_42_code 150 = .ok (.irem, 1) := by decide +kernel
theorem dX9_findRules_151 : decode prog_11_method_42_code 151 = .ok (.invokevirtual 216, 3) := by decide +kernel
theorem dX9_findRules_154 : decode prog_11_method_42_code 154 = .ok (.goto (-109), 3) := by decide +kernel
theorem dX9_findRules_157 : decode prog_11_method_42_code 157 = .ok (.aload_n 0, 1) := by decide +kernel
theorem dX9_findRules_158 : decode prog_11_method_42_code 158 = .ok (.getfield 210, 3) := by decide +kernel
theorem dX9_findRules_161 : decode prog_11_method_42_code 161 = .ok (.iconst 1, 1) := by decide +kernel
theorem dX9_findRules_162 : decode prog_11_method_42_code 162 = .ok (.isub, 1) := by decide +kernel
theorem dX9_findRules_163 : decode prog_11_method_42_code 163 = .ok (.istore_n 3, 1) := by decide +kernel
theorem dX9_findRules_164 : decode prog_11_method_42_code 164 = .ok (.iload_n 3, 1) := by decide +kernel
theorem dX9_findRules_165 : decode prog_11_method_42_code 165 = .ok (.ifCond .lt 61, 3) := by decide +kernel
theorem dX9_findRules_168 : decode prog_11_method_42_code 168 = .ok (.aload_n 0, 1) := by decide +kernel
theorem dX9_findRules_169 : decode prog_11_method_42_code 169 = .ok (.iload_n 3, 1) := by decide +kernel
theorem dX9_findRules_170 : decode prog_11_method_42_code 170 = .ok (.invokevirtual 219, 3) := by decide +kernel
theorem dX9_findRules_173 : decode prog_11_method_42_code 173 = .ok (.iconst 2, 1) := by decide +kernel
theorem dX9_findRules_174 : decode prog_11_method_42_code 174 = .ok (.if_icmp .ge 46, 3) := by decide +kernel
theorem dX9_findRules_177 : decode prog_11_method_42_code 177 = .ok (.aload_n 0, 1) := by decide +kernel
theorem dX9_findRules_178 : decode prog_11_method_42_code 178 = .ok (.iload_n 3, 1) := by decide +kernel
theorem dX9_findRules_179 : decode prog_11_method_42_code 179 = .ok (.invokevirtual 222, 3) := by decide +kernel
theorem dX9_findRules_182 : decode prog_11_method_42_code 182 = .ok (.iconst 0, 1) := by decide +kernel
theorem dX9_findRules_183 : decode prog_11_method_42_code 183 = .ok (.istore 4, 2) := by decide +kernel
theorem dX9_findRules_185 : decode prog_11_method_42_code 185 = .ok (.iload 4, 2) := by decide +kernel
theorem dX9_findRules_187 : decode prog_11_method_42_code 187 = .ok (.aload_n 0, 1) := by decide +kernel
theorem dX9_findRules_188 : decode prog_11_method_42_code 188 = .ok (.getfield 210, 3) := by decide +kernel
theorem dX9_findRules_191 : decode prog_11_method_42_code 191 = .ok (.if_icmp .ge 22, 3) := by decide +kernel
theorem dX9_findRules_194 : decode prog_11_method_42_code 194 = .ok (.iload 4, 2) := by decide +kernel
theorem dX9_findRules_196 : decode prog_11_method_42_code 196 = .ok (.iload_n 3, 1) := by decide +kernel
theorem dX9_findRules_197 : decode prog_11_method_42_code 197 = .ok (.if_icmp .eq 10, 3) := by decide +kernel
theorem dX9_findRules_200 : decode prog_11_method_42_code 200 = .ok (.aload_n 0, 1) := by decide +kernel
theorem dX9_findRules_201 : decode prog_11_method_42_code 201 = .ok (.iload 4, 2) := by decide +kernel
theorem dX9_findRules_203 : decode prog_11_method_42_code 203 = .ok (.iload_n 3, 1) := by decide +kernel
theorem dX9_findRules_204 : decode prog_11_method_42_code 204 = .ok (.invokevirtual 225, 3) := by decide +kernel
theorem dX9_findRules_207 : decode prog_11_method_42_code 207 = .ok (.iinc 4 1, 3) := by decide +kernel
theorem dX9_findRules_210 : decode prog_11_method_42_code 210 = .ok (.goto (-25), 3) := by decide +kernel
theorem dX9_findRules_213 : decode prog_11_method_42_code 213 = .ok (.aload_n 0, 1) := by decide +kernel
theorem dX9_findRules_214 : decode prog_11_method_42_code 214 = .ok (.getfield 56, 3) := by decide +kernel
theorem dX9_findRules_217 : decode prog_11_method_42_code 217 = .ok (.iload_n 3, 1) := by decide +kernel
theorem dX9_findRules_218 : decode prog_11_method_42_code 218 = .ok (.iconst 0, 1) := by decide +kernel
theorem dX9_findRules_219 : decode prog_11_method_42_code 219 = .ok (.iastore, 1) := by decide +kernel
theorem dX9_findRules_220 : decode prog_11_method_42_code 220 = .ok (.iinc 3 (-1), 3) := by decide +kernel
theorem dX9_findRules_223 : decode prog_11_method_42_code 223 = .ok (.goto (-59), 3) := by decide +kernel
theorem dX9_findRules_226 : decode prog_11_method_42_code 226 = .ok (.return_, 1) := by decide +kernel
abbrev M_X9_writeBit : am_M := ((⟨"SignCellarModel", "writeBit", "(I)V"⟩ : MethodName), prog_11_method_45_code, 2, none, 0, 0)
theorem dX9_writeBit_0 : decode prog_11_method_45_code 0 = .ok (.aload_n 0, 1) := by decide +kernel
theorem dX9_writeBit_1 : decode prog_11_method_45_code 1 = .ok (.getfield 62, 3) := by decide +kernel
theorem dX9_writeBit_4 : decode prog_11_method_45_code 4 = .ok (.aload_n 0, 1) := by decide +kernel
theorem dX9_writeBit_5 : decode prog_11_method_45_code 5 = .ok (.getfield 239, 3) := by decide +kernel
theorem dX9_writeBit_8 : decode prog_11_method_45_code 8 = .ok (.iload_n 1, 1) := by decide +kernel
theorem dX9_writeBit_9 : decode prog_11_method_45_code 9 = .ok (.iastore, 1) := by decide +kernel
theorem dX9_writeBit_10 : decode prog_11_method_45_code 10 = .ok (.aload_n 0, 1) := by decide +kernel
theorem dX9_writeBit_11 : decode prog_11_method_45_code 11 = .ok (.dup, 1) := by decide +kernel
theorem dX9_writeBit_12 : decode prog_11_method_45_code 12 = .ok (.getfield 239, 3) := by decide +kernel
theorem dX9_writeBit_15 : decode prog_11_method_45_code 15 = .ok (.iconst 1, 1) := by decide +kernel
theorem dX9_writeBit_16 : decode prog_11_method_45_code 16 = .ok (.iadd, 1) := by decide +kernel
theorem dX9_writeBit_17 : decode prog_11_method_45_code 17 = .ok (.putfield 239, 3) := by decide +kernel
theorem dX9_writeBit_20 : decode prog_11_method_45_code 20 = .ok (.aload_n 0, 1) := by decide +kernel
theorem dX9_writeBit_21 : decode prog_11_method_45_code 21 = .ok (.getfield 242, 3) := by decide +kernel
theorem dX9_writeBit_24 : decode prog_11_method_45_code 24 = .ok (.ifCond .le 38, 3) := by decide +kernel
theorem dX9_writeBit_27 : decode prog_11_method_45_code 27 = .ok (.aload_n 0, 1) := by decide +kernel
theorem dX9_writeBit_28 : decode prog_11_method_45_code 28 = .ok (.getfield 62, 3) := by decide +kernel
theorem dX9_writeBit_31 : decode prog_11_method_45_code 31 = .ok (.aload_n 0, 1) := by decide +kernel
theorem dX9_writeBit_32 : decode prog_11_method_45_code 32 = .ok (.getfield 239, 3) := by decide +kernel
theorem dX9_writeBit_35 : decode prog_11_method_45_code 35 = .ok (.iconst 1, 1) := by decide +kernel
theorem dX9_writeBit_36 : decode prog_11_method_45_code 36 = .ok (.iload_n 1, 1) := by decide +kernel
theorem dX9_writeBit_37 : decode prog_11_method_45_code 37 = .ok (.isub, 1) := by decide +kernel
theorem dX9_writeBit_38 : decode prog_11_method_45_code 38 = .ok (.iastore, 1) := by decide +kernel
theorem dX9_writeBit_39 : decode prog_11_method_45_code 39 = .ok (.aload_n 0, 1) := by decide +kernel
theorem dX9_writeBit_40 : decode prog_11_method_45_code 40 = .ok (.dup, 1) := by decide +kernel
theorem dX9_writeBit_41 : decode prog_11_method_45_code 41 = .ok (.getfield 239, 3) := by decide +kernel
theorem dX9_writeBit_44 : decode prog_11_method_45_code 44 = .ok (.iconst 1, 1) := by decide +kernel
theorem dX9_writeBit_45 : decode prog_11_method_45_code 45 = .ok (.iadd, 1) := by decide +kernel
theorem dX9_writeBit_46 : decode prog_11_method_45_code 46 = .ok (.putfield 239, 3) := by decide +kernel
theorem dX9_writeBit_49 : decode prog_11_method_45_code 49 = .ok (.aload_n 0, 1) := by decide +kernel
theorem dX9_writeBit_50 : decode prog_11_method_45_code 50 = .ok (.dup, 1) := by decide +kernel
theorem dX9_writeBit_51 : decode prog_11_method_45_code 51 = .ok (.getfield 242, 3) := by decide +kernel
theorem dX9_writeBit_54 : decode prog_11_method_45_code 54 = .ok (.iconst 1, 1) := by decide +kernel
theorem dX9_writeBit_55 : decode prog_11_method_45_code 55 = .ok (.isub, 1) := by decide +kernel
theorem dX9_writeBit_56 : decode prog_11_method_45_code 56 = .ok (.putfield 242, 3) := by decide +kernel
theorem dX9_writeBit_59 : decode prog_11_method_45_code 59 = .ok (.goto (-39), 3) := by decide +kernel
theorem dX9_writeBit_62 : decode prog_11_method_45_code 62 = .ok (.return_, 1) := by decide +kernel
abbrev M_X9_code : am_M := ((⟨"SignCellarModel", "code", "(I)V"⟩ : MethodName), prog_11_method_46_code, 10, none, 1, 22)
theorem dX9_code_0 : decode prog_11_method_46_code 0 = .ok (.aload_n 0, 1) := by decide +kernel
theorem dX9_code_1 : decode prog_11_method_46_code 1 = .ok (.iconst 0, 1) := by decide +kernel
theorem dX9_code_2 : decode prog_11_method_46_code 2 = .ok (.putfield 239, 3) := by decide +kernel
theorem dX9_code_5 : decode prog_11_method_46_code 5 = .ok (.aload_n 0, 1) := by decide +kernel
theorem dX9_code_6 : decode prog_11_method_46_code 6 = .ok (.iconst 0, 1) := by decide +kernel
theorem dX9_code_7 : decode prog_11_method_46_code 7 = .ok (.putfield 242, 3) := by decide +kernel
theorem dX9_code_10 : decode prog_11_method_46_code 10 = .ok (.iconst 0, 1) := by decide +kernel
theorem dX9_code_11 : decode prog_11_method_46_code 11 = .ok (.istore_n 2, 1) := by decide +kernel
theorem dX9_code_12 : decode prog_11_method_46_code 12 = .ok (.ldc 245, 2) := by decide +kernel
theorem dX9_code_14 : decode prog_11_method_46_code 14 = .ok (.istore_n 3, 1) := by decide +kernel
theorem dX9_code_15 : decode prog_11_method_46_code 15 = .ok (.iconst 0, 1) := by decide +kernel
theorem dX9_code_16 : decode prog_11_method_46_code 16 = .ok (.istore 4, 2) := by decide +kernel
theorem dX9_code_18 : decode prog_11_method_46_code 18 = .ok (.iload 4, 2) := by decide +kernel
theorem dX9_code_20 : decode prog_11_method_46_code 20 = .ok (.aload_n 0, 1) := by decide +kernel
theorem dX9_code_21 : decode prog_11_method_46_code 21 = .ok (.getfield 13, 3) := by decide +kernel
theorem dX9_code_24 : decode prog_11_method_46_code 24 = .ok (.iload_n 1, 1) := by decide +kernel
theorem dX9_code_25 : decode prog_11_method_46_code 25 = .ok (.iaload, 1) := by decide +kernel
theorem dX9_code_26 : decode prog_11_method_46_code 26 = .ok (.if_icmp .ge 277, 3) := by decide +kernel
theorem dX9_code_29 : decode prog_11_method_46_code 29 = .ok (.iconst 1, 1) := by decide +kernel
theorem dX9_code_30 : decode prog_11_method_46_code 30 = .ok (.istore 5, 2) := by decide +kernel
theorem dX9_code_32 : decode prog_11_method_46_code 32 = .ok (.iconst 0, 1) := by decide +kernel
theorem dX9_code_33 : decode prog_11_method_46_code 33 = .ok (.istore 6, 2) := by decide +kernel
theorem dX9_code_35 : decode prog_11_method_46_code 35 = .ok (.bipush 16, 2) := by decide +kernel
theorem dX9_code_37 : decode prog_11_method_46_code 37 = .ok (.istore 7, 2) := by decide +kernel
theorem dX9_code_39 : decode prog_11_method_46_code 39 = .ok (.iconst 1, 1) := by decide +kernel
theorem dX9_code_40 : decode prog_11_method_46_code 40 = .ok (.istore 8, 2) := by decide +kernel
theorem dX9_code_42 : decode prog_11_method_46_code 42 = .ok (.iload 8, 2) := by decide +kernel
theorem dX9_code_44 : decode prog_11_method_46_code 44 = .ok (.iload 4, 2) := by decide +kernel
theorem dX9_code_46 : decode prog_11_method_46_code 46 = .ok (.if_icmp .ge 98, 3) := by decide +kernel
theorem dX9_code_49 : decode prog_11_method_46_code 49 = .ok (.iload 4, 2) := by decide +kernel
theorem dX9_code_51 : decode prog_11_method_46_code 51 = .ok (.ifCond .le 87, 3) := by decide +kernel
theorem dX9_code_54 : decode prog_11_method_46_code 54 = .ok (.aload_n 0, 1) := by decide +kernel
theorem dX9_code_55 : decode prog_11_method_46_code 55 = .ok (.iload_n 1, 1) := by decide +kernel
theorem dX9_code_56 : decode prog_11_method_46_code 56 = .ok (.iload 8, 2) := by decide +kernel
theorem dX9_code_58 : decode prog_11_method_46_code 58 = .ok (.iconst 1, 1) := by decide +kernel
theorem dX9_code_59 : decode prog_11_method_46_code 59 = .ok (.isub, 1) := by decide +kernel
theorem dX9_code_60 : decode prog_11_method_46_code 60 = .ok (.invokevirtual 113, 3) := by decide +kernel
theorem dX9_code_63 : decode prog_11_method_46_code 63 = .ok (.aload_n 0, 1) := by decide +kernel
theorem dX9_code_64 : decode prog_11_method_46_code 64 = .ok (.iload_n 1, 1) := by decide +kernel
theorem dX9_code_65 : decode prog_11_method_46_code 65 = .ok (.iload 4, 2) := by decide +kernel
theorem dX9_code_67 : decode prog_11_method_46_code 67 = .ok (.iconst 1, 1) := by decide +kernel
theorem dX9_code_68 : decode prog_11_method_46_code 68 = .ok (.isub, 1) := by decide +kernel
theorem dX9_code_69 : decode prog_11_method_46_code 69 = .ok (.invokevirtual 113, 3) := by decide +kernel
theorem dX9_code_72 : decode prog_11_method_46_code 72 = .ok (.if_icmp .ne 66, 3) := by decide +kernel
theorem dX9_code_75 : decode prog_11_method_46_code 75 = .ok (.iinc 7 1, 3) := by decide +kernel
theorem dX9_code_78 : decode prog_11_method_46_code 78 = .ok (.iload 5, 2) := by decide +kernel
theorem dX9_code_80 : decode prog_11_method_46_code 80 = .ok (.aload_n 0, 1) := by decide +kernel
theorem dX9_code_81 : decode prog_11_method_46_code 81 = .ok (.iload_n 1, 1) := by decide +kernel
theorem dX9_code_82 : decode prog_11_method_46_code 82 = .ok (.iload 8, 2) := by decide +kernel
theorem dX9_code_84 : decode prog_11_method_46_code 84 = .ok (.invokevirtual 113, 3) := by decide +kernel
theorem dX9_code_87 : decode prog_11_method_46_code 87 = .ok (.aload_n 0, 1) := by decide +kernel
theorem dX9_code_88 : decode prog_11_method_46_code 88 = .ok (.iload_n 1, 1) := by decide +kernel
theorem dX9_code_89 : decode prog_11_method_46_code 89 = .ok (.iload 4, 2) := by decide +kernel
theorem dX9_code_91 : decode prog_11_method_46_code 91 = .ok (.invokevirtual 113, 3) := by decide +kernel
theorem dX9_code_94 : decode prog_11_method_46_code 94 = .ok (.if_icmp .ne 7, 3) := by decide +kernel
theorem dX9_code_97 : decode prog_11_method_46_code 97 = .ok (.iconst 1, 1) := by decide +kernel
theorem dX9_code_98 : decode prog_11_method_46_code 98 = .ok (.goto 4, 3) := by decide +kernel
theorem dX9_code_101 : decode prog_11_method_46_code 101 = .ok (.iconst 0, 1) := by decide +kernel
theorem dX9_code_102 : decode prog_11_method_46_code 102 = .ok (.invokestatic 150, 3) := by decide +kernel
theorem dX9_code_105 : decode prog_11_method_46_code 105 = .ok (.iadd, 1) := by decide +kernel
theorem dX9_code_106 : decode prog_11_method_46_code 106 = .ok (.istore 5, 2) := by decide +kernel
theorem dX9_code_108 : decode prog_11_method_46_code 108 = .ok (.iload 6, 2) := by decide +kernel
theorem dX9_code_110 : decode prog_11_method_46_code 110 = .ok (.aload_n 0, 1) := by decide +kernel
theorem dX9_code_111 : decode prog_11_method_46_code 111 = .ok (.iload_n 1, 1) := by decide +kernel
theorem dX9_code_112 : decode prog_11_method_46_code 112 = .ok (.iload 8, 2) := by decide +kernel
theorem dX9_code_114 : decode prog_11_method_46_code 114 = .ok (.invokevirtual 113, 3) := by decide +kernel
theorem dX9_code_117 : decode prog_11_method_46_code 117 = .ok (.aload_n 0, 1) := by decide +kernel
theorem dX9_code_118 : decode prog_11_method_46_code 118 = .ok (.iload_n 1, 1) := by decide +kernel
theorem dX9_code_119 : decode prog_11_method_46_code 119 = .ok (.iload 4, 2) := by decide +kernel
theorem dX9_code_121 : decode prog_11_method_46_code 121 = .ok (.invokevirtual 113, 3) := by decide +kernel
theorem dX9_code_124 : decode prog_11_method_46_code 124 = .ok (.if_icmp .ge 7, 3) := by decide +kernel
theorem dX9_code_127 : decode prog_11_method_46_code 127 = .ok (.iconst 1, 1) := by decide +kernel
theorem dX9_code_128 : decode prog_11_method_46_code 128 = .ok (.goto 4, 3) := by decide +kernel
theorem dX9_code_131 : decode prog_11_method_46_code 131 = .ok (.iconst 0, 1) := by decide +kernel
theorem dX9_code_132 : decode prog_11_method_46_code 132 = .ok (.invokestatic 150, 3) := by decide +kernel
theorem dX9_code_135 : decode prog_11_method_46_code 135 = .ok (.iadd, 1) := by decide +kernel
theorem dX9_code_136 : decode prog_11_method_46_code 136 = .ok (.istore 6, 2) := by decide +kernel
theorem dX9_code_138 : decode prog_11_method_46_code 138 = .ok (.iinc 8 1, 3) := by decide +kernel
theorem dX9_code_141 : decode prog_11_method_46_code 141 = .ok (.goto (-99), 3) := by decide +kernel
theorem dX9_code_144 : decode prog_11_method_46_code 144 = .ok (.iload 6, 2) := by decide +kernel
theorem dX9_code_146 : decode prog_11_method_46_code 146 = .ok (.aload_n 0, 1) := by decide +kernel
theorem dX9_code_147 : decode prog_11_method_46_code 147 = .ok (.iload_n 1, 1) := by decide +kernel
theorem dX9_code_148 : decode prog_11_method_46_code 148 = .ok (.iload 4, 2) := by decide +kernel
theorem dX9_code_150 : decode prog_11_method_46_code 150 = .ok (.invokevirtual 113, 3) := by decide +kernel
theorem dX9_code_153 : decode prog_11_method_46_code 153 = .ok (.iadd, 1) := by decide +kernel
theorem dX9_code_154 : decode prog_11_method_46_code 154 = .ok (.istore 6, 2) := by decide +kernel
theorem dX9_code_156 : decode prog_11_method_46_code 156 = .ok (.iload_n 3, 1) := by decide +kernel
theorem dX9_code_157 : decode prog_11_method_46_code 157 = .ok (.iload_n 2, 1) := by decide +kernel
theorem dX9_code_158 : decode prog_11_method_46_code 158 = .ok (.isub, 1) := by decide +kernel
theorem dX9_code_159 : decode prog_11_method_46_code 159 = .ok (.iconst 1, 1) := by decide +kernel
theorem dX9_code_160 : decode prog_11_method_46_code 160 = .ok (.iadd, 1) := by decide +kernel
theorem dX9_code_161 : decode prog_11_method_46_code 161 = .ok (.istore 8, 2) := by decide +kernel
theorem dX9_code_163 : decode prog_11_method_46_code 163 = .ok (.iload_n 2, 1) := by decide +kernel
theorem dX9_code_164 : decode prog_11_method_46_code 164 = .ok (.iload 8, 2) := by decide +kernel
theorem dX9_code_166 : decode prog_11_method_46_code 166 = .ok (.iload 6, 2) := by decide +kernel
theorem dX9_code_168 : decode prog_11_method_46_code 168 = .ok (.iload 5, 2) := by decide +kernel
theorem dX9_code_170 : decode prog_11_method_46_code 170 = .ok (.iadd, 1) := by decide +kernel
theorem dX9_code_171 : decode prog_11_method_46_code 171 = .ok (.imul, 1) := by decide +kernel
theorem dX9_code_172 : decode prog_11_method_46_code 172 = .ok (.iload 7, 2) := by decide +kernel
theorem dX9_code_174 : decode prog_11_method_46_code 174 = .ok (.idiv, 1) := by decide +kernel
theorem dX9_code_175 : decode prog_11_method_46_code 175 = .ok (.iadd, 1) := by decide +kernel
theorem dX9_code_176 : decode prog_11_method_46_code 176 = .ok (.iconst 1, 1) := by decide +kernel
theorem dX9_code_177 : decode prog_11_method_46_code 177 = .ok (.isub, 1) := by decide +kernel
theorem dX9_code_178 : decode prog_11_method_46_code 178 = .ok (.istore_n 3, 1) := by decide +kernel
theorem dX9_code_179 : decode prog_11_method_46_code 179 = .ok (.iload_n 2, 1) := by decide +kernel
theorem dX9_code_180 : decode prog_11_method_46_code 180 = .ok (.iload 8, 2) := by decide +kernel
theorem dX9_code_182 : decode prog_11_method_46_code 182 = .ok (.iload 6, 2) := by decide +kernel
theorem dX9_code_184 : decode prog_11_method_46_code 184 = .ok (.imul, 1) := by decide +kernel
theorem dX9_code_185 : decode prog_11_method_46_code 185 = .ok (.iload 7, 2) := by decide +kernel
theorem dX9_code_187 : decode prog_11_method_46_code 187 = .ok (.idiv, 1) := by decide +kernel
theorem dX9_code_188 : decode prog_11_method_46_code 188 = .ok (.iadd, 1) := by decide +kernel
theorem dX9_code_189 : decode prog_11_method_46_code 189 = .ok (.istore_n 2, 1) := by decide +kernel
theorem dX9_code_190 : decode prog_11_method_46_code 190 = .ok (.iconst 1, 1) := by decide +kernel
theorem dX9_code_191 : decode prog_11_method_46_code 191 = .ok (.istore 9, 2) := by decide +kernel
theorem dX9_code_193 : decode prog_11_method_46_code 193 = .ok (.iload 9, 2) := by decide +kernel
theorem dX9_code_195 : decode prog_11_method_46_code 195 = .ok (.ifCond .eq 102, 3) := by decide +kernel
theorem dX9_code_198 : decode prog_11_method_46_code 198 = .ok (.iload_n 3, 1) := by decide +kernel
theorem dX9_code_199 : decode prog_11_method_46_code 199 = .ok (.ldc 246, 2) := by decide +kernel
theorem dX9_code_201 : decode prog_11_method_46_code 201 = .ok (.if_icmp .ge 11, 3) := by decide +kernel
theorem dX9_code_204 : decode prog_11_method_46_code 204 = .ok (.aload_n 0, 1) := by decide +kernel
theorem dX9_code_205 : decode prog_11_method_46_code 205 = .ok (.iconst 0, 1) := by decide +kernel
theorem dX9_code_206 : decode prog_11_method_46_code 206 = .ok (.invokevirtual 247, 3) := by decide +kernel
theorem dX9_code_209 : decode prog_11_method_46_code 209 = .ok (.goto 70, 3) := by decide +kernel
theorem dX9_code_212 : decode prog_11_method_46_code 212 = .ok (.iload_n 2, 1) := by decide +kernel
theorem dX9_code_213 : decode prog_11_method_46_code 213 = .ok (.ldc 246, 2) := by decide +kernel
theorem dX9_code_215 : decode prog_11_method_46_code 215 = .ok (.if_icmp .lt 23, 3) := by decide +kernel
theorem dX9_code_218 : decode prog_11_method_46_code 218 = .ok (.aload_n 0, 1) := by decide +kernel
theorem dX9_code_219 : decode prog_11_method_46_code 219 = .ok (.iconst 1, 1) := by decide +kernel
theorem dX9_code_220 : decode prog_11_method_46_code 220 = .ok (.invokevirtual 247, 3) := by decide +kernel
theorem dX9_code_223 : decode prog_11_method_46_code 223 = .ok (.iinc 2 (-32768), 6) := by decide +kernel
theorem dX9_code_229 : decode prog_11_method_46_code 229 = .ok (.iinc 3 (-32768), 6) := by decide +kernel
theorem dX9_code_235 : decode prog_11_method_46_code 235 = .ok (.goto 44, 3) := by decide +kernel
theorem dX9_code_238 : decode prog_11_method_46_code 238 = .ok (.iload_n 2, 1) := by decide +kernel
theorem dX9_code_239 : decode prog_11_method_46_code 239 = .ok (.sipush 16384, 3) := by decide +kernel
theorem dX9_code_242 : decode prog_11_method_46_code 242 = .ok (.if_icmp .lt 34, 3) := by decide +kernel
theorem dX9_code_245 : decode prog_11_method_46_code 245 = .ok (.iload_n 3, 1) := by decide +kernel
theorem dX9_code_246 : decode prog_11_method_46_code 246 = .ok (.ldc 250, 2) := by decide +kernel
theorem dX9_code_248 : decode prog_11_method_46_code 248 = .ok (.if_icmp .ge 28, 3) := by decide +kernel
theorem dX9_code_251 : decode prog_11_method_46_code 251 = .ok (.aload_n 0, 1) := by decide +kernel
theorem dX9_code_252 : decode prog_11_method_46_code 252 = .ok (.dup, 1) := by decide +kernel
theorem dX9_code_253 : decode prog_11_method_46_code 253 = .ok (.getfield 242, 3) := by decide +kernel
theorem dX9_code_256 : decode prog_11_method_46_code 256 = .ok (.iconst 1, 1) := by decide +kernel
theorem dX9_code_257 : decode prog_11_method_46_code 257 = .ok (.iadd, 1) := by decide +kernel
theorem dX9_code_258 : decode prog_11_method_46_code 258 = .ok (.putfield 242, 3) := by decide +kernel
theorem dX9_code_261 : decode prog_11_method_46_code 261 = .ok (.iinc 2 (-16384), 6) := by decide +kernel
theorem dX9_code_267 : decode prog_11_method_46_code 267 = .ok (.iinc 3 (-16384), 6) := by decide +kernel
theorem dX9_code_273 : decode prog_11_method_46_code 273 = .ok (.goto 6, 3) := by decide +kernel
theorem dX9_code_276 : decode prog_11_method_46_code 276 = .ok (.iconst 0, 1) := by decide +kernel
theorem dX9_code_277 : decode prog_11_method_46_code 277 = .ok (.istore 9, 2) := by decide +kernel
theorem dX9_code_279 : decode prog_11_method_46_code 279 = .ok (.iload 9, 2) := by decide +kernel
theorem dX9_code_281 : decode prog_11_method_46_code 281 = .ok (.ifCond .eq (-88), 3) := by decide +kernel
theorem dX9_code_284 : decode prog_11_method_46_code 284 = .ok (.iconst 2, 1) := by decide +kernel
theorem dX9_code_285 : decode prog_11_method_46_code 285 = .ok (.iload_n 2, 1) := by decide +kernel
theorem dX9_code_286 : decode prog_11_method_46_code 286 = .ok (.imul, 1) := by decide +kernel
theorem dX9_code_287 : decode prog_11_method_46_code 287 = .ok (.istore_n 2, 1) := by decide +kernel
theorem dX9_code_288 : decode prog_11_method_46_code 288 = .ok (.iconst 2, 1) := by decide +kernel
theorem dX9_code_289 : decode prog_11_method_46_code 289 = .ok (.iload_n 3, 1) := by decide +kernel
theorem dX9_code_290 : decode prog_11_method_46_code 290 = .ok (.imul, 1) := by decide +kernel
theorem dX9_code_291 : decode prog_11_method_46_code 291 = .ok (.iconst 1, 1) := by decide +kernel
theorem dX9_code_292 : decode prog_11_method_46_code 292 = .ok (.iadd, 1) := by decide +kernel
theorem dX9_code_293 : decode prog_11_method_46_code 293 = .ok (.istore_n 3, 1) := by decide +kernel
theorem dX9_code_294 : decode prog_11_method_46_code 294 = .ok (.goto (-101), 3) := by decide +kernel
theorem dX9_code_297 : decode prog_11_method_46_code 297 = .ok (.iinc 4 1, 3) := by decide +kernel
theorem dX9_code_300 : decode prog_11_method_46_code 300 = .ok (.goto (-282), 3) := by decide +kernel
theorem dX9_code_303 : decode prog_11_method_46_code 303 = .ok (.aload_n 0, 1) := by decide +kernel
theorem dX9_code_304 : decode prog_11_method_46_code 304 = .ok (.dup, 1) := by decide +kernel
theorem dX9_code_305 : decode prog_11_method_46_code 305 = .ok (.getfield 242, 3) := by decide +kernel
theorem dX9_code_308 : decode prog_11_method_46_code 308 = .ok (.iconst 1, 1) := by decide +kernel
theorem dX9_code_309 : decode prog_11_method_46_code 309 = .ok (.iadd, 1) := by decide +kernel
theorem dX9_code_310 : decode prog_11_method_46_code 310 = .ok (.putfield 242, 3) := by decide +kernel
theorem dX9_code_313 : decode prog_11_method_46_code 313 = .ok (.aload_n 0, 1) := by decide +kernel
theorem dX9_code_314 : decode prog_11_method_46_code 314 = .ok (.iload_n 2, 1) := by decide +kernel
theorem dX9_code_315 : decode prog_11_method_46_code 315 = .ok (.sipush 16384, 3) := by decide +kernel
theorem dX9_code_318 : decode prog_11_method_46_code 318 = .ok (.if_icmp .ge 7, 3) := by decide +kernel
theorem dX9_code_321 : decode prog_11_method_46_code 321 = .ok (.iconst 0, 1) := by decide +kernel
theorem dX9_code_322 : decode prog_11_method_46_code 322 = .ok (.goto 4, 3) := by decide +kernel
theorem dX9_code_325 : decode prog_11_method_46_code 325 = .ok (.iconst 1, 1) := by decide +kernel
theorem dX9_code_326 : decode prog_11_method_46_code 326 = .ok (.invokevirtual 247, 3) := by decide +kernel
theorem dX9_code_329 : decode prog_11_method_46_code 329 = .ok (.return_, 1) := by decide +kernel
abbrev M_X9_turnedSign : am_M := ((⟨"SignCellarModel", "turnedSign", "(III)I"⟩ : MethodName), prog_11_method_48_code, 5, (some .int), 1, 22)
theorem dX9_turnedSign_0 : decode prog_11_method_48_code 0 = .ok (.iload_n 2, 1) := by decide +kernel
theorem dX9_turnedSign_1 : decode prog_11_method_48_code 1 = .ok (.iload_n 3, 1) := by decide +kernel
theorem dX9_turnedSign_2 : decode prog_11_method_48_code 2 = .ok (.iadd, 1) := by decide +kernel
theorem dX9_turnedSign_3 : decode prog_11_method_48_code 3 = .ok (.aload_n 0, 1) := by decide +kernel
theorem dX9_turnedSign_4 : decode prog_11_method_48_code 4 = .ok (.getfield 13, 3) := by decide +kernel
theorem dX9_turnedSign_7 : decode prog_11_method_48_code 7 = .ok (.iload_n 1, 1) := by decide +kernel
theorem dX9_turnedSign_8 : decode prog_11_method_48_code 8 = .ok (.iaload, 1) := by decide +kernel
theorem dX9_turnedSign_9 : decode prog_11_method_48_code 9 = .ok (.iconst 1, 1) := by decide +kernel
theorem dX9_turnedSign_10 : decode prog_11_method_48_code 10 = .ok (.iadd, 1) := by decide +kernel
theorem dX9_turnedSign_11 : decode prog_11_method_48_code 11 = .ok (.irem, 1) := by decide +kernel
theorem dX9_turnedSign_12 : decode prog_11_method_48_code 12 = .ok (.istore 4, 2) := by decide +kernel
theorem dX9_turnedSign_14 : decode prog_11_method_48_code 14 = .ok (.iload 4, 2) := by decide +kernel
theorem dX9_turnedSign_16 : decode prog_11_method_48_code 16 = .ok (.aload_n 0, 1) := by decide +kernel
theorem dX9_turnedSign_17 : decode prog_11_method_48_code 17 = .ok (.getfield 13, 3) := by decide +kernel
theorem dX9_turnedSign_20 : decode prog_11_method_48_code 20 = .ok (.iload_n 1, 1) := by decide +kernel
theorem dX9_turnedSign_21 : decode prog_11_method_48_code 21 = .ok (.iaload, 1) := by decide +kernel
theorem dX9_turnedSign_22 : decode prog_11_method_48_code 22 = .ok (.if_icmp .ne 7, 3) := by decide +kernel
theorem dX9_turnedSign_25 : decode prog_11_method_48_code 25 = .ok (.iconst (-1), 1) := by decide +kernel
theorem dX9_turnedSign_26 : decode prog_11_method_48_code 26 = .ok (.goto 10, 3) := by decide +kernel
theorem dX9_turnedSign_29 : decode prog_11_method_48_code 29 = .ok (.aload_n 0, 1) := by decide +kernel
theorem dX9_turnedSign_30 : decode prog_11_method_48_code 30 = .ok (.iload_n 1, 1) := by decide +kernel
theorem dX9_turnedSign_31 : decode prog_11_method_48_code 31 = .ok (.iload 4, 2) := by decide +kernel
theorem dX9_turnedSign_33 : decode prog_11_method_48_code 33 = .ok (.invokevirtual 113, 3) := by decide +kernel
theorem dX9_turnedSign_36 : decode prog_11_method_48_code 36 = .ok (.ireturn, 1) := by decide +kernel
abbrev M_X9_isBefore : am_M := ((⟨"SignCellarModel", "isBefore", "(III)Z"⟩ : MethodName), prog_11_method_49_code, 5, (some .boolean), 2, 46)
theorem dX9_isBefore_0 : decode prog_11_method_49_code 0 = .ok (.iconst 0, 1) := by decide +kernel
theorem dX9_isBefore_1 : decode prog_11_method_49_code 1 = .ok (.istore 4, 2) := by decide +kernel
theorem dX9_isBefore_3 : decode prog_11_method_49_code 3 = .ok (.aload_n 0, 1) := by decide +kernel
theorem dX9_isBefore_4 : decode prog_11_method_49_code 4 = .ok (.iload_n 1, 1) := by decide +kernel
theorem dX9_isBefore_5 : decode prog_11_method_49_code 5 = .ok (.iload_n 2, 1) := by decide +kernel
theorem dX9_isBefore_6 : decode prog_11_method_49_code 6 = .ok (.iload 4, 2) := by decide +kernel
theorem dX9_isBefore_8 : decode prog_11_method_49_code 8 = .ok (.invokevirtual 254, 3) := by decide +kernel
theorem dX9_isBefore_11 : decode prog_11_method_49_code 11 = .ok (.aload_n 0, 1) := by decide +kernel
theorem dX9_isBefore_12 : decode prog_11_method_49_code 12 = .ok (.iload_n 1, 1) := by decide +kernel
theorem dX9_isBefore_13 : decode prog_11_method_49_code 13 = .ok (.iload_n 3, 1) := by decide +kernel
theorem dX9_isBefore_14 : decode prog_11_method_49_code 14 = .ok (.iload 4, 2) := by decide +kernel
theorem dX9_isBefore_16 : decode prog_11_method_49_code 16 = .ok (.invokevirtual 254, 3) := by decide +kernel
theorem dX9_isBefore_19 : decode prog_11_method_49_code 19 = .ok (.if_icmp .ne 9, 3) := by decide +kernel
theorem dX9_isBefore_22 : decode prog_11_method_49_code 22 = .ok (.iinc 4 1, 3) := by decide +kernel
theorem dX9_isBefore_25 : decode prog_11_method_49_code 25 = .ok (.goto (-22), 3) := by decide +kernel
theorem dX9_isBefore_28 : decode prog_11_method_49_code 28 = .ok (.aload_n 0, 1) := by decide +kernel
theorem dX9_isBefore_29 : decode prog_11_method_49_code 29 = .ok (.iload_n 1, 1) := by decide +kernel
theorem dX9_isBefore_30 : decode prog_11_method_49_code 30 = .ok (.iload_n 2, 1) := by decide +kernel
theorem dX9_isBefore_31 : decode prog_11_method_49_code 31 = .ok (.iload 4, 2) := by decide +kernel
theorem dX9_isBefore_33 : decode prog_11_method_49_code 33 = .ok (.invokevirtual 254, 3) := by decide +kernel
theorem dX9_isBefore_36 : decode prog_11_method_49_code 36 = .ok (.aload_n 0, 1) := by decide +kernel
theorem dX9_isBefore_37 : decode prog_11_method_49_code 37 = .ok (.iload_n 1, 1) := by decide +kernel
theorem dX9_isBefore_38 : decode prog_11_method_49_code 38 = .ok (.iload_n 3, 1) := by decide +kernel
theorem dX9_isBefore_39 : decode prog_11_method_49_code 39 = .ok (.iload 4, 2) := by decide +kernel
theorem dX9_isBefore_41 : decode prog_11_method_49_code 41 = .ok (.invokevirtual 254, 3) := by decide +kernel
theorem dX9_isBefore_44 : decode prog_11_method_49_code 44 = .ok (.if_icmp .ge 7, 3) := by decide +kernel
theorem dX9_isBefore_47 : decode prog_11_method_49_code 47 = .ok (.iconst 1, 1) := by decide +kernel
theorem dX9_isBefore_48 : decode prog_11_method_49_code 48 = .ok (.goto 4, 3) := by decide +kernel
theorem dX9_isBefore_51 : decode prog_11_method_49_code 51 = .ok (.iconst 0, 1) := by decide +kernel
theorem dX9_isBefore_52 : decode prog_11_method_49_code 52 = .ok (.ireturn, 1) := by decide +kernel
theorem cw_X9_213 : am_cw "SignCellarModel" 213 M_X9_standsTwice 2 := ⟨wd_1_9, wd_5_141, ⟨by decide, by decide, by decide⟩, Or.inl wd_5_138⟩
theorem cw_X9_216 : am_cw "SignCellarModel" 216 M_X9_growRule 2 := ⟨wd_1_9, wd_5_145, ⟨by decide, by decide, by decide⟩, Or.inl wd_5_142⟩
theorem cw_X9_219 : am_cw "SignCellarModel" 219 M_X9_standing 1 := ⟨wd_1_9, wd_5_149, ⟨by decide, by decide, by decide⟩, Or.inl wd_5_146⟩
theorem cw_X9_222 : am_cw "SignCellarModel" 222 M_X9_putBackInRow 1 := ⟨wd_1_9, wd_5_153, ⟨by decide, by decide, by decide⟩, Or.inl wd_5_150⟩
theorem cw_X9_225 : am_cw "SignCellarModel" 225 M_X9_putBackIn 2 := ⟨wd_1_9, wd_5_157, ⟨by decide, by decide, by decide⟩, Or.inl wd_5_154⟩
theorem sl_X9_growRule : Cond.selects (⟨"SignCellarModel", "growRule", "(II)V"⟩ : MethodName).cls ⟨"SignCellarModel", "growRule", "(II)V"⟩ ⟨"SignCellarModel", "growRule", "(II)V"⟩ ∈ am_ts := am_in_p (q := (⟨"SignCellarModel", "growRule", "(II)V"⟩, 42)) (by decide +kernel)
theorem sl_X9_putBackIn : Cond.selects (⟨"SignCellarModel", "putBackIn", "(II)V"⟩ : MethodName).cls ⟨"SignCellarModel", "putBackIn", "(II)V"⟩ ⟨"SignCellarModel", "putBackIn", "(II)V"⟩ ∈ am_ts := am_in_p (q := (⟨"SignCellarModel", "putBackIn", "(II)V"⟩, 42)) (by decide +kernel)
theorem sl_X9_putBackInRow : Cond.selects (⟨"SignCellarModel", "putBackInRow", "(I)V"⟩ : MethodName).cls ⟨"SignCellarModel", "putBackInRow", "(I)V"⟩ ⟨"SignCellarModel", "putBackInRow", "(I)V"⟩ ∈ am_ts := am_in_p (q := (⟨"SignCellarModel", "putBackInRow", "(I)V"⟩, 42)) (by decide +kernel)
theorem sl_X9_standing : Cond.selects (⟨"SignCellarModel", "standing", "(I)I"⟩ : MethodName).cls ⟨"SignCellarModel", "standing", "(I)I"⟩ ⟨"SignCellarModel", "standing", "(I)I"⟩ ∈ am_ts := am_in_p (q := (⟨"SignCellarModel", "standing", "(I)I"⟩, 42)) (by decide +kernel)
theorem sl_X9_standsTwice : Cond.selects (⟨"SignCellarModel", "standsTwice", "(II)I"⟩ : MethodName).cls ⟨"SignCellarModel", "standsTwice", "(II)I"⟩ ⟨"SignCellarModel", "standsTwice", "(II)I"⟩ ∈ am_ts := am_in_p (q := (⟨"SignCellarModel", "standsTwice", "(II)I"⟩, 42)) (by decide +kernel)
def F_X9_findRules_113 (k45 : Nat → Int32 → am_H → Option am_H) (k57 : Nat → Int32 → Int32 → Int32 → am_H → Option am_H) (k72 : Nat → Int32 → Int32 → Int32 → Int32 → am_H → Option am_H) (v0 : Nat) (v3 : Int32) (v4 : Int32) (v5 : Int32) (v6 : Int32) (h : am_H) : Option am_H :=
  k72 v0 v3 v4 v5 (v6 + (1 : Int32)) h
theorem w_X9_findRules_113 {g : am_G} {l : Launch} {h0 : am_H} {hf : am_H}  {k45 : Nat → Int32 → am_H → Option am_H} {k57 : Nat → Int32 → Int32 → Int32 → am_H → Option am_H} {k72 : Nat → Int32 → Int32 → Int32 → Int32 → am_H → Option am_H} (j45 : ∀ (v0 : Nat) (v2 : Int32) (h : am_H), k45 v0 v2 h = some hf → am_W g l M_X9_findRules h0 none hf 45 [some (.ref v0), none, some (.int v2), none, none, none, none, none] [] h) (j57 : ∀ (v0 : Nat) (v3 : Int32) (v4 : Int32) (v5 : Int32) (h : am_H), k57 v0 v3 v4 v5 h = some hf → am_W g l M_X9_findRules h0 none hf 57 [some (.ref v0), none, none, some (.int v3), some (.int v4), some (.int v5), none, none] [] h) (j72 : ∀ (v0 : Nat) (v3 : Int32) (v4 : Int32) (v5 : Int32) (v6 : Int32) (h : am_H), k72 v0 v3 v4 v5 v6 h = some hf → am_W g l M_X9_findRules h0 none hf 72 [some (.ref v0), none, none, some (.int v3), some (.int v4), some (.int v5), some (.int v6), none] [] h) (v0 : Nat) (v3 : Int32) (v4 : Int32) (v5 : Int32) (v6 : Int32) (h : am_H) (hF : F_X9_findRules_113 k45 k57 k72 v0 v3 v4 v5 v6 h = some hf) : am_W g l M_X9_findRules h0 none hf 113 [some (.ref v0), none, none, some (.int v3), some (.int v4), some (.int v5), some (.int v6), none] [] h := by
  unfold F_X9_findRules_113 at hF
  refine am_iinc (ls' := [some (.ref v0), none, none, some (.int v3), some (.int v4), some (.int v5), some (.int (v6 + (1 : Int32))), none]) (pc' := 116) (v := (v6 + (1 : Int32))) dX9_findRules_113 rfl rfl (Nat.le_of_ble_eq_true rfl) rfl rfl ?_
  refine am_goto (pc' := 72) dX9_findRules_116 rfl ?_
  exact j72 v0 v3 v4 v5 (v6 + (1 : Int32)) h hF
def F_X9_findRules_72 (k45 : Nat → Int32 → am_H → Option am_H) (k57 : Nat → Int32 → Int32 → Int32 → am_H → Option am_H) : Nat → Nat → Int32 → Int32 → Int32 → Int32 → am_H → Option am_H
  | 0, _, _, _, _, _, _ => none
  | n + 1, v0, v3, v4, v5, v6, h =>
  (am_gi 9 25 v0 h).bind fun x1 =>
  if ((16 : Int32) + x1) ≤ v6 then
    k57 v0 v3 v4 (v5 + (1 : Int32)) h
  else
    (F_X9_standsTwice v0 v5 v6 h).bind fun x3 =>
    if x3 ≤ v3 then
      F_X9_findRules_113 k45 k57 (F_X9_findRules_72 k45 k57 n) v0 v3 v4 v5 v6 h
    else
      F_X9_findRules_113 k45 k57 (F_X9_findRules_72 k45 k57 n) v0 x3 (((64 : Int32) * v5) + v6) v5 v6 h
theorem w_X9_findRules_72 {g : am_G} {l : Launch} {h0 : am_H} {hf : am_H}  {k45 : Nat → Int32 → am_H → Option am_H} {k57 : Nat → Int32 → Int32 → Int32 → am_H → Option am_H} (j45 : ∀ (v0 : Nat) (v2 : Int32) (h : am_H), k45 v0 v2 h = some hf → am_W g l M_X9_findRules h0 none hf 45 [some (.ref v0), none, some (.int v2), none, none, none, none, none] [] h) (j57 : ∀ (v0 : Nat) (v3 : Int32) (v4 : Int32) (v5 : Int32) (h : am_H), k57 v0 v3 v4 v5 h = some hf → am_W g l M_X9_findRules h0 none hf 57 [some (.ref v0), none, none, some (.int v3), some (.int v4), some (.int v5), none, none] [] h) : ∀ (n : Nat) (v0 : Nat) (v3 : Int32) (v4 : Int32) (v5 : Int32) (v6 : Int32) (h : am_H), F_X9_findRules_72 k45 k57 n v0 v3 v4 v5 v6 h = some hf → am_W g l M_X9_findRules h0 none hf 72 [some (.ref v0), none, none, some (.int v3), some (.int v4), some (.int v5), some (.int v6), none] [] h
  | 0, _, _, _, _, _, _, hF => by cases hF
  | n + 1, v0, v3, v4, v5, v6, h, hF => by
    rw [F_X9_findRules_72] at hF
    refine am_iload (pc' := 74) dX9_findRules_72 rfl rfl ?_
    refine am_bipush (v := (16 : Int32)) (pc' := 76) dX9_findRules_74 rfl rfl ?_
    refine am_aload_n (pc' := 77) dX9_findRules_76 rfl rfl ?_
    obtain ⟨x1, ex1, hF⟩ := am_bind hF
    refine am_geti (pc' := 80) dX9_findRules_77 fw_X9_210 ex1 rfl ?_
    refine am_iadd (pc' := 81) dX9_findRules_80 rfl ?_
    rcases am_ite hF with ⟨z2, hF⟩ | ⟨z2, hF⟩
    · refine am_icmp_ge_t (pc' := 119) dX9_findRules_81 rfl z2 ?_
      refine am_iinc (ls' := [some (.ref v0), none, none, some (.int v3), some (.int v4), some (.int (v5 + (1 : Int32))), some (.int v6), none]) (pc' := 122) (v := (v5 + (1 : Int32))) dX9_findRules_119 rfl rfl (Nat.le_of_ble_eq_true rfl) rfl rfl ?_
      refine am_goto (pc' := 57) dX9_findRules_122 rfl ?_
      exact am_weak [true, false, false, true, true, true, false, false] (j57 v0 v3 v4 (v5 + (1 : Int32)) h hF)
    · refine am_icmp_ge_f (pc' := 84) (tgt := 119) dX9_findRules_81 rfl z2 rfl ?_
      refine am_aload_n (pc' := 85) dX9_findRules_84 rfl rfl ?_
      refine am_iload (pc' := 87) dX9_findRules_85 rfl rfl ?_
      refine am_iload (pc' := 89) dX9_findRules_87 rfl rfl ?_
      obtain ⟨x3, ex3, hF⟩ := am_bind hF
      obtain ⟨ox3, px3⟩ := t_X9_standsTwice ex3
      refine am_callV1 (Mc := M_X9_standsTwice) (As := [.int v5, .int v6]) (st := []) (pc' := 92) dX9_findRules_89 cw_X9_213 wd_5_140 sl_X9_standsTwice ⟨_, rfl, rfl⟩ (by decide) (by decide) rfl rfl (Nat.le_of_ble_eq_true rfl) px3 (c_X9_standsTwice ex3) rfl ?_
      refine am_istore (ls' := [some (.ref v0), none, none, some (.int v3), some (.int v4), some (.int v5), some (.int v6), some (.int x3)]) (pc' := 94) dX9_findRules_92 (Nat.le_of_ble_eq_true rfl) rfl rfl ?_
      refine am_iload (pc' := 96) dX9_findRules_94 rfl rfl ?_
      refine am_iload_n (pc' := 97) dX9_findRules_96 rfl rfl ?_
      rcases am_ite hF with ⟨z4, hF⟩ | ⟨z4, hF⟩
      · refine am_icmp_le_t (pc' := 113) dX9_findRules_97 rfl z4 ?_
        exact am_weak [true, false, false, true, true, true, true, false] (w_X9_findRules_113 j45 j57 (w_X9_findRules_72 j45 j57 n) v0 v3 v4 v5 v6 h hF)
      · refine am_icmp_le_f (pc' := 100) (tgt := 113) dX9_findRules_97 rfl z4 rfl ?_
        refine am_iload (pc' := 102) dX9_findRules_100 rfl rfl ?_
        refine am_istore_n (ls' := [some (.ref v0), none, none, some (.int x3), some (.int v4), some (.int v5), some (.int v6), some (.int x3)]) (pc' := 103) dX9_findRules_102 (Nat.le_of_ble_eq_true rfl) rfl rfl ?_
        refine am_bipush (v := (64 : Int32)) (pc' := 105) dX9_findRules_103 rfl rfl ?_
        refine am_iload (pc' := 107) dX9_findRules_105 rfl rfl ?_
        refine am_imul (pc' := 108) dX9_findRules_107 rfl ?_
        refine am_iload (pc' := 110) dX9_findRules_108 rfl rfl ?_
        refine am_iadd (pc' := 111) dX9_findRules_110 rfl ?_
        refine am_istore (ls' := [some (.ref v0), none, none, some (.int x3), some (.int (((64 : Int32) * v5) + v6)), some (.int v5), some (.int v6), some (.int x3)]) (pc' := 113) dX9_findRules_111 (Nat.le_of_ble_eq_true rfl) rfl rfl ?_
        exact am_weak [true, false, false, true, true, true, true, false] (w_X9_findRules_113 j45 j57 (w_X9_findRules_72 j45 j57 n) v0 x3 (((64 : Int32) * v5) + v6) v5 v6 h hF)
def F_X9_findRules_154 (k45 : Nat → Int32 → am_H → Option am_H) (v0 : Nat) (v2 : Int32) (h : am_H) : Option am_H :=
  k45 v0 v2 h
theorem w_X9_findRules_154 {g : am_G} {l : Launch} {h0 : am_H} {hf : am_H}  {k45 : Nat → Int32 → am_H → Option am_H} (j45 : ∀ (v0 : Nat) (v2 : Int32) (h : am_H), k45 v0 v2 h = some hf → am_W g l M_X9_findRules h0 none hf 45 [some (.ref v0), none, some (.int v2), none, none, none, none, none] [] h) (v0 : Nat) (v2 : Int32) (h : am_H) (hF : F_X9_findRules_154 k45 v0 v2 h = some hf) : am_W g l M_X9_findRules h0 none hf 154 [some (.ref v0), none, some (.int v2), none, none, none, none, none] [] h := by
  unfold F_X9_findRules_154 at hF
  refine am_goto (pc' := 45) dX9_findRules_154 rfl ?_
  exact j45 v0 v2 h hF
def F_X9_findRules_135 (k45 : Nat → Int32 → am_H → Option am_H) (v0 : Nat) (v4 : Int32) (s0 : Int32) (h : am_H) : Option am_H :=
  if s0 = 0 then
    F_X9_findRules_154 k45 v0 s0 h
  else
    (F_X9_growRule v0 (v4 / (64 : Int32)) (v4 - v4 / (64 : Int32) * (64 : Int32)) h).bind fun h2 =>
    F_X9_findRules_154 k45 v0 s0 h2
theorem w_X9_findRules_135 {g : am_G} {l : Launch} {h0 : am_H} {hf : am_H}  {k45 : Nat → Int32 → am_H → Option am_H} (j45 : ∀ (v0 : Nat) (v2 : Int32) (h : am_H), k45 v0 v2 h = some hf → am_W g l M_X9_findRules h0 none hf 45 [some (.ref v0), none, some (.int v2), none, none, none, none, none] [] h) (v0 : Nat) (v4 : Int32) (s0 : Int32) (h : am_H) (hF : F_X9_findRules_135 k45 v0 v4 s0 h = some hf) : am_W g l M_X9_findRules h0 none hf 135 [some (.ref v0), none, none, none, some (.int v4), none, none, none] [.int s0] h := by
  unfold F_X9_findRules_135 at hF
  refine am_istore_n (ls' := [some (.ref v0), none, some (.int s0), none, some (.int v4), none, none, none]) (pc' := 136) dX9_findRules_135 (Nat.le_of_ble_eq_true rfl) rfl rfl ?_
  refine am_iload_n (pc' := 137) dX9_findRules_136 rfl rfl ?_
  rcases am_ite hF with ⟨z1, hF⟩ | ⟨z1, hF⟩
  · refine am_if_eq_t (pc' := 154) dX9_findRules_137 rfl z1 ?_
    exact am_weak [true, false, true, false, false, false, false, false] (w_X9_findRules_154 j45 v0 s0 h hF)
  · refine am_if_eq_f (pc' := 140) (tgt := 154) dX9_findRules_137 rfl z1 rfl ?_
    refine am_aload_n (pc' := 141) dX9_findRules_140 rfl rfl ?_
    refine am_iload (pc' := 143) dX9_findRules_141 rfl rfl ?_
    refine am_bipush (v := (64 : Int32)) (pc' := 145) dX9_findRules_143 rfl rfl ?_
    refine am_idiv (pc' := 146) dX9_findRules_145 (by decide) rfl ?_
    refine am_iload (pc' := 148) dX9_findRules_146 rfl rfl ?_
    refine am_bipush (v := (64 : Int32)) (pc' := 150) dX9_findRules_148 rfl rfl ?_
    refine am_irem (pc' := 151) dX9_findRules_150 (by decide) rfl ?_
    obtain ⟨h2, eh2, hF⟩ := am_bind hF
    obtain ⟨oh2, ph2⟩ := t_X9_growRule eh2
    refine am_callV0 (Mc := M_X9_growRule) (As := [.int (v4 / (64 : Int32)), .int (v4 - v4 / (64 : Int32) * (64 : Int32))]) (st := []) (pc' := 154) dX9_findRules_151 cw_X9_216 wd_5_144 sl_X9_growRule ⟨_, rfl, rfl⟩ (by decide) (by decide) rfl rfl (Nat.le_of_ble_eq_true rfl) ph2 (c_X9_growRule eh2) rfl ?_
    exact am_weak [true, false, true, false, false, false, false, false] (w_X9_findRules_154 j45 v0 s0 h2 hF)
def F_X9_findRules_57 (k45 : Nat → Int32 → am_H → Option am_H) : Nat → Nat → Int32 → Int32 → Int32 → am_H → Option am_H
  | 0, _, _, _, _, _ => none
  | n + 1, v0, v3, v4, v5, h =>
  (am_gi 9 25 v0 h).bind fun x1 =>
  if ((16 : Int32) + x1) ≤ v5 then
    if v4 < 0 then
      F_X9_findRules_135 k45 v0 v4 (0 : Int32) h
    else
      F_X9_findRules_135 k45 v0 v4 (1 : Int32) h
  else
    F_X9_findRules_72 k45 (F_X9_findRules_57 k45 n) am_F v0 v3 v4 v5 (0 : Int32) h
theorem w_X9_findRules_57 {g : am_G} {l : Launch} {h0 : am_H} {hf : am_H}  {k45 : Nat → Int32 → am_H → Option am_H} (j45 : ∀ (v0 : Nat) (v2 : Int32) (h : am_H), k45 v0 v2 h = some hf → am_W g l M_X9_findRules h0 none hf 45 [some (.ref v0), none, some (.int v2), none, none, none, none, none] [] h) : ∀ (n : Nat) (v0 : Nat) (v3 : Int32) (v4 : Int32) (v5 : Int32) (h : am_H), F_X9_findRules_57 k45 n v0 v3 v4 v5 h = some hf → am_W g l M_X9_findRules h0 none hf 57 [some (.ref v0), none, none, some (.int v3), some (.int v4), some (.int v5), none, none] [] h
  | 0, _, _, _, _, _, hF => by cases hF
  | n + 1, v0, v3, v4, v5, h, hF => by
    rw [F_X9_findRules_57] at hF
    refine am_iload (pc' := 59) dX9_findRules_57 rfl rfl ?_
    refine am_bipush (v := (16 : Int32)) (pc' := 61) dX9_findRules_59 rfl rfl ?_
    refine am_aload_n (pc' := 62) dX9_findRules_61 rfl rfl ?_
    obtain ⟨x1, ex1, hF⟩ := am_bind hF
    refine am_geti (pc' := 65) dX9_findRules_62 fw_X9_210 ex1 rfl ?_
    refine am_iadd (pc' := 66) dX9_findRules_65 rfl ?_
    rcases am_ite hF with ⟨z2, hF⟩ | ⟨z2, hF⟩
    · refine am_icmp_ge_t (pc' := 125) dX9_findRules_66 rfl z2 ?_
      refine am_iload (pc' := 127) dX9_findRules_125 rfl rfl ?_
      rcases am_ite hF with ⟨z3, hF⟩ | ⟨z3, hF⟩
      · refine am_if_lt_t (pc' := 134) dX9_findRules_127 rfl z3 ?_
        refine am_iconst (v := (0 : Int32)) (pc' := 135) dX9_findRules_134 rfl rfl ?_
        exact am_weak [true, false, false, false, true, false, false, false] (w_X9_findRules_135 j45 v0 v4 (0 : Int32) h hF)
      · refine am_if_lt_f (pc' := 130) (tgt := 134) dX9_findRules_127 rfl z3 rfl ?_
        refine am_iconst (v := (1 : Int32)) (pc' := 131) dX9_findRules_130 rfl rfl ?_
        refine am_goto (pc' := 135) dX9_findRules_131 rfl ?_
        exact am_weak [true, false, false, false, true, false, false, false] (w_X9_findRules_135 j45 v0 v4 (1 : Int32) h hF)
    · refine am_icmp_ge_f (pc' := 69) (tgt := 125) dX9_findRules_66 rfl z2 rfl ?_
      refine am_iconst (v := (0 : Int32)) (pc' := 70) dX9_findRules_69 rfl rfl ?_
      refine am_istore (ls' := [some (.ref v0), none, none, some (.int v3), some (.int v4), some (.int v5), some (.int (0 : Int32)), none]) (pc' := 72) dX9_findRules_70 (Nat.le_of_ble_eq_true rfl) rfl rfl ?_
      exact w_X9_findRules_72 j45 (w_X9_findRules_57 j45 n) am_F v0 v3 v4 v5 (0 : Int32) h hF
def F_X9_findRules_220 (k164 : Nat → Int32 → am_H → Option am_H) (v0 : Nat) (v3 : Int32) (h : am_H) : Option am_H :=
  k164 v0 (v3 + (-1 : Int32)) h
theorem w_X9_findRules_220 {g : am_G} {l : Launch} {h0 : am_H} {hf : am_H}  {k164 : Nat → Int32 → am_H → Option am_H} (j164 : ∀ (v0 : Nat) (v3 : Int32) (h : am_H), k164 v0 v3 h = some hf → am_W g l M_X9_findRules h0 none hf 164 [some (.ref v0), none, none, some (.int v3), none, none, none, none] [] h) (v0 : Nat) (v3 : Int32) (h : am_H) (hF : F_X9_findRules_220 k164 v0 v3 h = some hf) : am_W g l M_X9_findRules h0 none hf 220 [some (.ref v0), none, none, some (.int v3), none, none, none, none] [] h := by
  unfold F_X9_findRules_220 at hF
  refine am_iinc (ls' := [some (.ref v0), none, none, some (.int (v3 + (-1 : Int32))), none, none, none, none]) (pc' := 223) (v := (v3 + (-1 : Int32))) dX9_findRules_220 rfl rfl (Nat.le_of_ble_eq_true rfl) rfl rfl ?_
  refine am_goto (pc' := 164) dX9_findRules_223 rfl ?_
  exact j164 v0 (v3 + (-1 : Int32)) h hF
def F_X9_findRules_207 (k164 : Nat → Int32 → am_H → Option am_H) (k185 : Nat → Int32 → Int32 → am_H → Option am_H) (v0 : Nat) (v3 : Int32) (v4 : Int32) (h : am_H) : Option am_H :=
  k185 v0 v3 (v4 + (1 : Int32)) h
theorem w_X9_findRules_207 {g : am_G} {l : Launch} {h0 : am_H} {hf : am_H}  {k164 : Nat → Int32 → am_H → Option am_H} {k185 : Nat → Int32 → Int32 → am_H → Option am_H} (j164 : ∀ (v0 : Nat) (v3 : Int32) (h : am_H), k164 v0 v3 h = some hf → am_W g l M_X9_findRules h0 none hf 164 [some (.ref v0), none, none, some (.int v3), none, none, none, none] [] h) (j185 : ∀ (v0 : Nat) (v3 : Int32) (v4 : Int32) (h : am_H), k185 v0 v3 v4 h = some hf → am_W g l M_X9_findRules h0 none hf 185 [some (.ref v0), none, none, some (.int v3), some (.int v4), none, none, none] [] h) (v0 : Nat) (v3 : Int32) (v4 : Int32) (h : am_H) (hF : F_X9_findRules_207 k164 k185 v0 v3 v4 h = some hf) : am_W g l M_X9_findRules h0 none hf 207 [some (.ref v0), none, none, some (.int v3), some (.int v4), none, none, none] [] h := by
  unfold F_X9_findRules_207 at hF
  refine am_iinc (ls' := [some (.ref v0), none, none, some (.int v3), some (.int (v4 + (1 : Int32))), none, none, none]) (pc' := 210) (v := (v4 + (1 : Int32))) dX9_findRules_207 rfl rfl (Nat.le_of_ble_eq_true rfl) rfl rfl ?_
  refine am_goto (pc' := 185) dX9_findRules_210 rfl ?_
  exact j185 v0 v3 (v4 + (1 : Int32)) h hF
def F_X9_findRules_185 (k164 : Nat → Int32 → am_H → Option am_H) : Nat → Nat → Int32 → Int32 → am_H → Option am_H
  | 0, _, _, _, _ => none
  | n + 1, v0, v3, v4, h =>
  (am_gi 9 25 v0 h).bind fun x1 =>
  if x1 ≤ v4 then
    (am_gr 9 26 v0 h).bind fun x3 =>
    (am_is 0 x3 v3 (0 : Int32) h).bind fun h4 =>
    F_X9_findRules_220 k164 v0 v3 h4
  else
    if v4 = v3 then
      F_X9_findRules_207 k164 (F_X9_findRules_185 k164 n) v0 v3 v4 h
    else
      (F_X9_putBackIn v0 v4 v3 h).bind fun h6 =>
      F_X9_findRules_207 k164 (F_X9_findRules_185 k164 n) v0 v3 v4 h6
theorem w_X9_findRules_185 {g : am_G} {l : Launch} {h0 : am_H} {hf : am_H}  {k164 : Nat → Int32 → am_H → Option am_H} (j164 : ∀ (v0 : Nat) (v3 : Int32) (h : am_H), k164 v0 v3 h = some hf → am_W g l M_X9_findRules h0 none hf 164 [some (.ref v0), none, none, some (.int v3), none, none, none, none] [] h) : ∀ (n : Nat) (v0 : Nat) (v3 : Int32) (v4 : Int32) (h : am_H), F_X9_findRules_185 k164 n v0 v3 v4 h = some hf → am_W g l M_X9_findRules h0 none hf 185 [some (.ref v0), none, none, some (.int v3), some (.int v4), none, none, none] [] h
  | 0, _, _, _, _, hF => by cases hF
  | n + 1, v0, v3, v4, h, hF => by
    rw [F_X9_findRules_185] at hF
    refine am_iload (pc' := 187) dX9_findRules_185 rfl rfl ?_
    refine am_aload_n (pc' := 188) dX9_findRules_187 rfl rfl ?_
    obtain ⟨x1, ex1, hF⟩ := am_bind hF
    refine am_geti (pc' := 191) dX9_findRules_188 fw_X9_210 ex1 rfl ?_
    rcases am_ite hF with ⟨z2, hF⟩ | ⟨z2, hF⟩
    · refine am_icmp_ge_t (pc' := 213) dX9_findRules_191 rfl z2 ?_
      refine am_aload_n (pc' := 214) dX9_findRules_213 rfl rfl ?_
      obtain ⟨x3, ex3, hF⟩ := am_bind hF
      refine am_getr (pc' := 217) dX9_findRules_214 fw_X9_56 ex3 rfl ?_
      refine am_iload_n (pc' := 218) dX9_findRules_217 rfl rfl ?_
      refine am_iconst (v := (0 : Int32)) (pc' := 219) dX9_findRules_218 rfl rfl ?_
      obtain ⟨h4, eh4, hF⟩ := am_bind hF
      refine am_iast (pc' := 220) dX9_findRules_219 eh4 rfl ?_
      exact am_weak [true, false, false, true, false, false, false, false] (w_X9_findRules_220 j164 v0 v3 h4 hF)
    · refine am_icmp_ge_f (pc' := 194) (tgt := 213) dX9_findRules_191 rfl z2 rfl ?_
      refine am_iload (pc' := 196) dX9_findRules_194 rfl rfl ?_
      refine am_iload_n (pc' := 197) dX9_findRules_196 rfl rfl ?_
      rcases am_ite hF with ⟨z5, hF⟩ | ⟨z5, hF⟩
      · refine am_icmp_eq_t (pc' := 207) dX9_findRules_197 rfl z5 ?_
        exact w_X9_findRules_207 j164 (w_X9_findRules_185 j164 n) v0 v3 v4 h hF
      · refine am_icmp_eq_f (pc' := 200) (tgt := 207) dX9_findRules_197 rfl z5 rfl ?_
        refine am_aload_n (pc' := 201) dX9_findRules_200 rfl rfl ?_
        refine am_iload (pc' := 203) dX9_findRules_201 rfl rfl ?_
        refine am_iload_n (pc' := 204) dX9_findRules_203 rfl rfl ?_
        obtain ⟨h6, eh6, hF⟩ := am_bind hF
        obtain ⟨oh6, ph6⟩ := t_X9_putBackIn eh6
        refine am_callV0 (Mc := M_X9_putBackIn) (As := [.int v4, .int v3]) (st := []) (pc' := 207) dX9_findRules_204 cw_X9_225 wd_5_156 sl_X9_putBackIn ⟨_, rfl, rfl⟩ (by decide) (by decide) rfl rfl (Nat.le_of_ble_eq_true rfl) ph6 (c_X9_putBackIn eh6) rfl ?_
        exact w_X9_findRules_207 j164 (w_X9_findRules_185 j164 n) v0 v3 v4 h6 hF
def F_X9_findRules_164 : Nat → Nat → Int32 → am_H → Option am_H
  | 0, _, _, _ => none
  | n + 1, v0, v3, h =>
  if v3 < 0 then
    some h
  else
    (F_X9_standing v0 v3 h).bind fun x2 =>
    if (2 : Int32) ≤ x2 then
      F_X9_findRules_220 (F_X9_findRules_164 n) v0 v3 h
    else
      (F_X9_putBackInRow v0 v3 h).bind fun h4 =>
      F_X9_findRules_185 (F_X9_findRules_164 n) am_F v0 v3 (0 : Int32) h4
theorem w_X9_findRules_164 {g : am_G} {l : Launch} {h0 : am_H} {hf : am_H}  : ∀ (n : Nat) (v0 : Nat) (v3 : Int32) (h : am_H), F_X9_findRules_164 n v0 v3 h = some hf → am_W g l M_X9_findRules h0 none hf 164 [some (.ref v0), none, none, some (.int v3), none, none, none, none] [] h
  | 0, _, _, _, hF => by cases hF
  | n + 1, v0, v3, h, hF => by
    rw [F_X9_findRules_164] at hF
    refine am_iload_n (pc' := 165) dX9_findRules_164 rfl rfl ?_
    rcases am_ite hF with ⟨z1, hF⟩ | ⟨z1, hF⟩
    · refine am_if_lt_t (pc' := 226) dX9_findRules_165 rfl z1 ?_
      cases hF
      exact am_vret dX9_findRules_226 rfl
    · refine am_if_lt_f (pc' := 168) (tgt := 226) dX9_findRules_165 rfl z1 rfl ?_
      refine am_aload_n (pc' := 169) dX9_findRules_168 rfl rfl ?_
      refine am_iload_n (pc' := 170) dX9_findRules_169 rfl rfl ?_
      obtain ⟨x2, ex2, hF⟩ := am_bind hF
      obtain ⟨ox2, px2⟩ := t_X9_standing ex2
      refine am_callV1 (Mc := M_X9_standing) (As := [.int v3]) (st := []) (pc' := 173) dX9_findRules_170 cw_X9_219 wd_5_148 sl_X9_standing ⟨_, rfl, rfl⟩ (by decide) (by decide) rfl rfl (Nat.le_of_ble_eq_true rfl) px2 (c_X9_standing ex2) rfl ?_
      refine am_iconst (v := (2 : Int32)) (pc' := 174) dX9_findRules_173 rfl rfl ?_
      rcases am_ite hF with ⟨z3, hF⟩ | ⟨z3, hF⟩
      · refine am_icmp_ge_t (pc' := 220) dX9_findRules_174 rfl z3 ?_
        exact w_X9_findRules_220 (w_X9_findRules_164 n) v0 v3 h hF
      · refine am_icmp_ge_f (pc' := 177) (tgt := 220) dX9_findRules_174 rfl z3 rfl ?_
        refine am_aload_n (pc' := 178) dX9_findRules_177 rfl rfl ?_
        refine am_iload_n (pc' := 179) dX9_findRules_178 rfl rfl ?_
        obtain ⟨h4, eh4, hF⟩ := am_bind hF
        obtain ⟨oh4, ph4⟩ := t_X9_putBackInRow eh4
        refine am_callV0 (Mc := M_X9_putBackInRow) (As := [.int v3]) (st := []) (pc' := 182) dX9_findRules_179 cw_X9_222 wd_5_152 sl_X9_putBackInRow ⟨_, rfl, rfl⟩ (by decide) (by decide) rfl rfl (Nat.le_of_ble_eq_true rfl) ph4 (c_X9_putBackInRow eh4) rfl ?_
        refine am_iconst (v := (0 : Int32)) (pc' := 183) dX9_findRules_182 rfl rfl ?_
        refine am_istore (ls' := [some (.ref v0), none, none, some (.int v3), some (.int (0 : Int32)), none, none, none]) (pc' := 185) dX9_findRules_183 (Nat.le_of_ble_eq_true rfl) rfl rfl ?_
        exact w_X9_findRules_185 (w_X9_findRules_164 n) am_F v0 v3 (0 : Int32) h4 hF
def F_X9_findRules_45 : Nat → Nat → Int32 → am_H → Option am_H
  | 0, _, _, _ => none
  | n + 1, v0, v2, h =>
  if v2 = 0 then
    (am_gi 9 25 v0 h).bind fun x2 =>
    F_X9_findRules_164 am_F v0 (x2 - (1 : Int32)) h
  else
    F_X9_findRules_57 (F_X9_findRules_45 n) am_F v0 (1 : Int32) (-1 : Int32) (0 : Int32) h
theorem w_X9_findRules_45 {g : am_G} {l : Launch} {h0 : am_H} {hf : am_H}  : ∀ (n : Nat) (v0 : Nat) (v2 : Int32) (h : am_H), F_X9_findRules_45 n v0 v2 h = some hf → am_W g l M_X9_findRules h0 none hf 45 [some (.ref v0), none, some (.int v2), none, none, none, none, none] [] h
  | 0, _, _, _, hF => by cases hF
  | n + 1, v0, v2, h, hF => by
    rw [F_X9_findRules_45] at hF
    refine am_iload_n (pc' := 46) dX9_findRules_45 rfl rfl ?_
    rcases am_ite hF with ⟨z1, hF⟩ | ⟨z1, hF⟩
    · refine am_if_eq_t (pc' := 157) dX9_findRules_46 rfl z1 ?_
      refine am_aload_n (pc' := 158) dX9_findRules_157 rfl rfl ?_
      obtain ⟨x2, ex2, hF⟩ := am_bind hF
      refine am_geti (pc' := 161) dX9_findRules_158 fw_X9_210 ex2 rfl ?_
      refine am_iconst (v := (1 : Int32)) (pc' := 162) dX9_findRules_161 rfl rfl ?_
      refine am_isub (pc' := 163) dX9_findRules_162 rfl ?_
      refine am_istore_n (ls' := [some (.ref v0), none, some (.int v2), some (.int (x2 - (1 : Int32))), none, none, none, none]) (pc' := 164) dX9_findRules_163 (Nat.le_of_ble_eq_true rfl) rfl rfl ?_
      exact am_weak [true, false, false, true, false, false, false, false] (w_X9_findRules_164 am_F v0 (x2 - (1 : Int32)) h hF)
    · refine am_if_eq_f (pc' := 49) (tgt := 157) dX9_findRules_46 rfl z1 rfl ?_
      refine am_iconst (v := (1 : Int32)) (pc' := 50) dX9_findRules_49 rfl rfl ?_
      refine am_istore_n (ls' := [some (.ref v0), none, some (.int v2), some (.int (1 : Int32)), none, none, none, none]) (pc' := 51) dX9_findRules_50 (Nat.le_of_ble_eq_true rfl) rfl rfl ?_
      refine am_iconst (v := (-1 : Int32)) (pc' := 52) dX9_findRules_51 rfl rfl ?_
      refine am_istore (ls' := [some (.ref v0), none, some (.int v2), some (.int (1 : Int32)), some (.int (-1 : Int32)), none, none, none]) (pc' := 54) dX9_findRules_52 (Nat.le_of_ble_eq_true rfl) rfl rfl ?_
      refine am_iconst (v := (0 : Int32)) (pc' := 55) dX9_findRules_54 rfl rfl ?_
      refine am_istore (ls' := [some (.ref v0), none, some (.int v2), some (.int (1 : Int32)), some (.int (-1 : Int32)), some (.int (0 : Int32)), none, none]) (pc' := 57) dX9_findRules_55 (Nat.le_of_ble_eq_true rfl) rfl rfl ?_
      exact am_weak [true, false, false, true, true, true, false, false] (w_X9_findRules_57 (w_X9_findRules_45 n) am_F v0 (1 : Int32) (-1 : Int32) (0 : Int32) h hF)
def F_X9_findRules_17 : Nat → Nat → Int32 → Int32 → am_H → Option am_H
  | 0, _, _, _, _ => none
  | n + 1, v0, v1, v2, h =>
  (am_gi 9 24 v0 h).bind fun x1 =>
  if x1 ≤ v2 then
    F_X9_findRules_45 am_F v0 (1 : Int32) h
  else
    (am_gr 9 23 v0 h).bind fun x3 =>
    (F_X9_sign v0 v1 v2 h).bind fun x4 =>
    (am_is 0 x3 v2 x4 h).bind fun h5 =>
    F_X9_findRules_17 n v0 v1 (v2 + (1 : Int32)) h5
theorem w_X9_findRules_17 {g : am_G} {l : Launch} {h0 : am_H} {hf : am_H}  : ∀ (n : Nat) (v0 : Nat) (v1 : Int32) (v2 : Int32) (h : am_H), F_X9_findRules_17 n v0 v1 v2 h = some hf → am_W g l M_X9_findRules h0 none hf 17 [some (.ref v0), some (.int v1), some (.int v2), none, none, none, none, none] [] h
  | 0, _, _, _, _, hF => by cases hF
  | n + 1, v0, v1, v2, h, hF => by
    rw [F_X9_findRules_17] at hF
    refine am_iload_n (pc' := 18) dX9_findRules_17 rfl rfl ?_
    refine am_aload_n (pc' := 19) dX9_findRules_18 rfl rfl ?_
    obtain ⟨x1, ex1, hF⟩ := am_bind hF
    refine am_geti (pc' := 22) dX9_findRules_19 fw_X9_207 ex1 rfl ?_
    rcases am_ite hF with ⟨z2, hF⟩ | ⟨z2, hF⟩
    · refine am_icmp_ge_t (pc' := 43) dX9_findRules_22 rfl z2 ?_
      refine am_iconst (v := (1 : Int32)) (pc' := 44) dX9_findRules_43 rfl rfl ?_
      refine am_istore_n (ls' := [some (.ref v0), some (.int v1), some (.int (1 : Int32)), none, none, none, none, none]) (pc' := 45) dX9_findRules_44 (Nat.le_of_ble_eq_true rfl) rfl rfl ?_
      exact am_weak [true, false, true, false, false, false, false, false] (w_X9_findRules_45 am_F v0 (1 : Int32) h hF)
    · refine am_icmp_ge_f (pc' := 25) (tgt := 43) dX9_findRules_22 rfl z2 rfl ?_
      refine am_aload_n (pc' := 26) dX9_findRules_25 rfl rfl ?_
      obtain ⟨x3, ex3, hF⟩ := am_bind hF
      refine am_getr (pc' := 29) dX9_findRules_26 fw_X9_53 ex3 rfl ?_
      refine am_iload_n (pc' := 30) dX9_findRules_29 rfl rfl ?_
      refine am_aload_n (pc' := 31) dX9_findRules_30 rfl rfl ?_
      refine am_iload_n (pc' := 32) dX9_findRules_31 rfl rfl ?_
      refine am_iload_n (pc' := 33) dX9_findRules_32 rfl rfl ?_
      obtain ⟨x4, ex4, hF⟩ := am_bind hF
      obtain ⟨ox4, px4⟩ := t_X9_sign ex4
      refine am_callV1 (Mc := M_X9_sign) (As := [.int v1, .int v2]) (st := [.int v2, .ref x3]) (pc' := 36) dX9_findRules_33 cw_X9_113 wd_5_21 sl_X9_sign ⟨_, rfl, rfl⟩ (by decide) (by decide) rfl rfl (Nat.le_of_ble_eq_true rfl) px4 (c_X9_sign ex4) rfl ?_
      obtain ⟨h5, eh5, hF⟩ := am_bind hF
      refine am_iast (pc' := 37) dX9_findRules_36 eh5 rfl ?_
      refine am_iinc (ls' := [some (.ref v0), some (.int v1), some (.int (v2 + (1 : Int32))), none, none, none, none, none]) (pc' := 40) (v := (v2 + (1 : Int32))) dX9_findRules_37 rfl rfl (Nat.le_of_ble_eq_true rfl) rfl rfl ?_
      refine am_goto (pc' := 17) dX9_findRules_40 rfl ?_
      exact w_X9_findRules_17 n v0 v1 (v2 + (1 : Int32)) h5 hF
def F_X9_findRules_b (v0 : Nat) (v1 : Int32) (h : am_H) : Option am_H :=
  (am_gr 9 3 v0 h).bind fun x1 =>
  (am_il 0 x1 v1 h).bind fun x2 =>
  (am_pi 9 24 v0 x2 h).bind fun h3 =>
  (am_pi 9 25 v0 (0 : Int32) h3).bind fun h4 =>
  F_X9_findRules_17 am_F v0 v1 (0 : Int32) h4
theorem w_X9_findRules {g : am_G} {l : Launch} {h0 : am_H} {hf : am_H}  (v0 : Nat) (v1 : Int32) (h : am_H) (hF : F_X9_findRules_b v0 v1 h = some hf) : am_W g l M_X9_findRules h0 none hf 0 [some (.ref v0), some (.int v1), none, none, none, none, none, none] [] h := by
  unfold F_X9_findRules_b at hF
  refine am_aload_n (pc' := 1) dX9_findRules_0 rfl rfl ?_
  refine am_aload_n (pc' := 2) dX9_findRules_1 rfl rfl ?_
  obtain ⟨x1, ex1, hF⟩ := am_bind hF
  refine am_getr (pc' := 5) dX9_findRules_2 fw_X9_13 ex1 rfl ?_
  refine am_iload_n (pc' := 6) dX9_findRules_5 rfl rfl ?_
  obtain ⟨x2, ex2, hF⟩ := am_bind hF
  refine am_iald (pc' := 7) dX9_findRules_6 ex2 rfl ?_
  obtain ⟨h3, eh3, hF⟩ := am_bind hF
  refine am_puti (pc' := 10) dX9_findRules_7 fx_X9_207 eh3 rfl ?_
  refine am_aload_n (pc' := 11) dX9_findRules_10 rfl rfl ?_
  refine am_iconst (v := (0 : Int32)) (pc' := 12) dX9_findRules_11 rfl rfl ?_
  obtain ⟨h4, eh4, hF⟩ := am_bind hF
  refine am_puti (pc' := 15) dX9_findRules_12 fx_X9_210 eh4 rfl ?_
  refine am_iconst (v := (0 : Int32)) (pc' := 16) dX9_findRules_15 rfl rfl ?_
  refine am_istore_n (ls' := [some (.ref v0), some (.int v1), some (.int (0 : Int32)), none, none, none, none, none]) (pc' := 17) dX9_findRules_16 (Nat.le_of_ble_eq_true rfl) rfl rfl ?_
  exact w_X9_findRules_17 am_F v0 v1 (0 : Int32) h4 hF
def F_X9_findRules (v0 : Nat) (v1 : Int32) (h : am_H) : Option am_H := (am_obj v0 9 h).bind fun _ => F_X9_findRules_b v0 v1 h
theorem t_X9_findRules {hf : am_H}  {v0 : Nat} {v1 : Int32} {h : am_H} (hF : F_X9_findRules v0 v1 h = some hf) : ∃ fs, am_obj v0 9 h = some fs := by
  obtain ⟨fs, e, _⟩ := am_bind hF
  exact ⟨fs, e⟩
theorem c_X9_findRules {g : am_G} {l : Launch} {hf : am_H}  {v0 : Nat} {v1 : Int32} {h : am_H} (hF : F_X9_findRules v0 v1 h = some hf) : am_Met g l M_X9_findRules [.ref v0, .int v1] h none hf := by
  obtain ⟨fs, e0, e⟩ := am_bind hF
  exact am_met (n := 6) (by decide +kernel) rfl (Nat.le_of_ble_eq_true rfl) (w_X9_findRules v0 v1 h e)
theorem fw_X9_239 : am_fw "SignCellarModel" 239 9 29 := ⟨(RX9, TX9, 42), rfl, by decide, inX9, Or.inl wd_4_129⟩
theorem fw_X9_242 : am_fw "SignCellarModel" 242 9 30 := ⟨(RX9, TX9, 42), rfl, by decide, inX9, Or.inl wd_4_130⟩
theorem fw_X9_62 : am_fw "SignCellarModel" 62 9 28 := ⟨(RX9, TX9, 42), rfl, by decide, inX9, Or.inl wd_4_128⟩
theorem fx_X9_239 {nm : String} : am_fx "SignCellarModel" 239 9 29 .int nm := ⟨(RX9, TX9, 42), tyX9, rfl, by decide, inX9, tyX9_ok, nmX9, rfl, Or.inl ⟨wd_4_129, Or.inl rfl⟩⟩
theorem fx_X9_242 {nm : String} : am_fx "SignCellarModel" 242 9 30 .int nm := ⟨(RX9, TX9, 42), tyX9, rfl, by decide, inX9, tyX9_ok, nmX9, rfl, Or.inl ⟨wd_4_130, Or.inl rfl⟩⟩
def F_X9_writeBit_20 : Nat → Nat → Int32 → am_H → Option am_H
  | 0, _, _, _ => none
  | n + 1, v0, v1, h =>
  (am_gi 9 30 v0 h).bind fun x1 =>
  if x1 ≤ 0 then
    some h
  else
    (am_gr 9 28 v0 h).bind fun x3 =>
    (am_gi 9 29 v0 h).bind fun x4 =>
    (am_is 0 x3 x4 ((1 : Int32) - v1) h).bind fun h5 =>
    (am_gi 9 29 v0 h5).bind fun x6 =>
    (am_pi 9 29 v0 (x6 + (1 : Int32)) h5).bind fun h7 =>
    (am_gi 9 30 v0 h7).bind fun x8 =>
    (am_pi 9 30 v0 (x8 - (1 : Int32)) h7).bind fun h9 =>
    F_X9_writeBit_20 n v0 v1 h9
theorem w_X9_writeBit_20 {g : am_G} {l : Launch} {h0 : am_H} {hf : am_H}  : ∀ (n : Nat) (v0 : Nat) (v1 : Int32) (h : am_H), F_X9_writeBit_20 n v0 v1 h = some hf → am_W g l M_X9_writeBit h0 none hf 20 [some (.ref v0), some (.int v1)] [] h
  | 0, _, _, _, hF => by cases hF
  | n + 1, v0, v1, h, hF => by
    rw [F_X9_writeBit_20] at hF
    refine am_aload_n (pc' := 21) dX9_writeBit_20 rfl rfl ?_
    obtain ⟨x1, ex1, hF⟩ := am_bind hF
    refine am_geti (pc' := 24) dX9_writeBit_21 fw_X9_242 ex1 rfl ?_
    rcases am_ite hF with ⟨z2, hF⟩ | ⟨z2, hF⟩
    · refine am_if_le_t (pc' := 62) dX9_writeBit_24 rfl z2 ?_
      cases hF
      exact am_vret dX9_writeBit_62 rfl
    · refine am_if_le_f (pc' := 27) (tgt := 62) dX9_writeBit_24 rfl z2 rfl ?_
      refine am_aload_n (pc' := 28) dX9_writeBit_27 rfl rfl ?_
      obtain ⟨x3, ex3, hF⟩ := am_bind hF
      refine am_getr (pc' := 31) dX9_writeBit_28 fw_X9_62 ex3 rfl ?_
      refine am_aload_n (pc' := 32) dX9_writeBit_31 rfl rfl ?_
      obtain ⟨x4, ex4, hF⟩ := am_bind hF
      refine am_geti (pc' := 35) dX9_writeBit_32 fw_X9_239 ex4 rfl ?_
      refine am_iconst (v := (1 : Int32)) (pc' := 36) dX9_writeBit_35 rfl rfl ?_
      refine am_iload_n (pc' := 37) dX9_writeBit_36 rfl rfl ?_
      refine am_isub (pc' := 38) dX9_writeBit_37 rfl ?_
      obtain ⟨h5, eh5, hF⟩ := am_bind hF
      refine am_iast (pc' := 39) dX9_writeBit_38 eh5 rfl ?_
      refine am_aload_n (pc' := 40) dX9_writeBit_39 rfl rfl ?_
      refine am_dup (pc' := 41) dX9_writeBit_40 rfl rfl ?_
      obtain ⟨x6, ex6, hF⟩ := am_bind hF
      refine am_geti (pc' := 44) dX9_writeBit_41 fw_X9_239 ex6 rfl ?_
      refine am_iconst (v := (1 : Int32)) (pc' := 45) dX9_writeBit_44 rfl rfl ?_
      refine am_iadd (pc' := 46) dX9_writeBit_45 rfl ?_
      obtain ⟨h7, eh7, hF⟩ := am_bind hF
      refine am_puti (pc' := 49) dX9_writeBit_46 fx_X9_239 eh7 rfl ?_
      refine am_aload_n (pc' := 50) dX9_writeBit_49 rfl rfl ?_
      refine am_dup (pc' := 51) dX9_writeBit_50 rfl rfl ?_
      obtain ⟨x8, ex8, hF⟩ := am_bind hF
      refine am_geti (pc' := 54) dX9_writeBit_51 fw_X9_242 ex8 rfl ?_
      refine am_iconst (v := (1 : Int32)) (pc' := 55) dX9_writeBit_54 rfl rfl ?_
      refine am_isub (pc' := 56) dX9_writeBit_55 rfl ?_
      obtain ⟨h9, eh9, hF⟩ := am_bind hF
      refine am_puti (pc' := 59) dX9_writeBit_56 fx_X9_242 eh9 rfl ?_
      refine am_goto (pc' := 20) dX9_writeBit_59 rfl ?_
      exact w_X9_writeBit_20 n v0 v1 h9 hF
def F_X9_writeBit_b (v0 : Nat) (v1 : Int32) (h : am_H) : Option am_H :=
  (am_gr 9 28 v0 h).bind fun x1 =>
  (am_gi 9 29 v0 h).bind fun x2 =>
  (am_is 0 x1 x2 v1 h).bind fun h3 =>
  (am_gi 9 29 v0 h3).bind fun x4 =>
  (am_pi 9 29 v0 (x4 + (1 : Int32)) h3).bind fun h5 =>
  F_X9_writeBit_20 am_F v0 v1 h5
theorem w_X9_writeBit {g : am_G} {l : Launch} {h0 : am_H} {hf : am_H}  (v0 : Nat) (v1 : Int32) (h : am_H) (hF : F_X9_writeBit_b v0 v1 h = some hf) : am_W g l M_X9_writeBit h0 none hf 0 [some (.ref v0), some (.int v1)] [] h := by
  unfold F_X9_writeBit_b at hF
  refine am_aload_n (pc' := 1) dX9_writeBit_0 rfl rfl ?_
  obtain ⟨x1, ex1, hF⟩ := am_bind hF
  refine am_getr (pc' := 4) dX9_writeBit_1 fw_X9_62 ex1 rfl ?_
  refine am_aload_n (pc' := 5) dX9_writeBit_4 rfl rfl ?_
  obtain ⟨x2, ex2, hF⟩ := am_bind hF
  refine am_geti (pc' := 8) dX9_writeBit_5 fw_X9_239 ex2 rfl ?_
  refine am_iload_n (pc' := 9) dX9_writeBit_8 rfl rfl ?_
  obtain ⟨h3, eh3, hF⟩ := am_bind hF
  refine am_iast (pc' := 10) dX9_writeBit_9 eh3 rfl ?_
  refine am_aload_n (pc' := 11) dX9_writeBit_10 rfl rfl ?_
  refine am_dup (pc' := 12) dX9_writeBit_11 rfl rfl ?_
  obtain ⟨x4, ex4, hF⟩ := am_bind hF
  refine am_geti (pc' := 15) dX9_writeBit_12 fw_X9_239 ex4 rfl ?_
  refine am_iconst (v := (1 : Int32)) (pc' := 16) dX9_writeBit_15 rfl rfl ?_
  refine am_iadd (pc' := 17) dX9_writeBit_16 rfl ?_
  obtain ⟨h5, eh5, hF⟩ := am_bind hF
  refine am_puti (pc' := 20) dX9_writeBit_17 fx_X9_239 eh5 rfl ?_
  exact w_X9_writeBit_20 am_F v0 v1 h5 hF
def F_X9_writeBit (v0 : Nat) (v1 : Int32) (h : am_H) : Option am_H := (am_obj v0 9 h).bind fun _ => F_X9_writeBit_b v0 v1 h
theorem t_X9_writeBit {hf : am_H}  {v0 : Nat} {v1 : Int32} {h : am_H} (hF : F_X9_writeBit v0 v1 h = some hf) : ∃ fs, am_obj v0 9 h = some fs := by
  obtain ⟨fs, e, _⟩ := am_bind hF
  exact ⟨fs, e⟩
theorem c_X9_writeBit {g : am_G} {l : Launch} {hf : am_H}  {v0 : Nat} {v1 : Int32} {h : am_H} (hF : F_X9_writeBit v0 v1 h = some hf) : am_Met g l M_X9_writeBit [.ref v0, .int v1] h none hf := by
  obtain ⟨fs, e0, e⟩ := am_bind hF
  exact am_met (n := 0) (by decide +kernel) rfl (Nat.le_of_ble_eq_true rfl) (w_X9_writeBit v0 v1 h e)
theorem cw_X9_247 : am_cw "SignCellarModel" 247 M_X9_writeBit 1 := ⟨wd_1_9, wd_5_175, ⟨by decide, by decide, by decide⟩, Or.inl wd_5_172⟩
theorem sl_X9_writeBit : Cond.selects (⟨"SignCellarModel", "writeBit", "(I)V"⟩ : MethodName).cls ⟨"SignCellarModel", "writeBit", "(I)V"⟩ ⟨"SignCellarModel", "writeBit", "(I)V"⟩ ∈ am_ts := am_in_p (q := (⟨"SignCellarModel", "writeBit", "(I)V"⟩, 42)) (by decide +kernel)
def F_X9_code_138 (k18 : Nat → Int32 → Int32 → Int32 → Int32 → am_H → Option am_H) (k42 : Nat → Int32 → Int32 → Int32 → Int32 → Int32 → Int32 → Int32 → Int32 → am_H → Option am_H) (v0 : Nat) (v1 : Int32) (v2 : Int32) (v3 : Int32) (v4 : Int32) (v5 : Int32) (v6 : Int32) (v7 : Int32) (v8 : Int32) (h : am_H) : Option am_H :=
  k42 v0 v1 v2 v3 v4 v5 v6 v7 (v8 + (1 : Int32)) h
theorem w_X9_code_138 {g : am_G} {l : Launch} {h0 : am_H} {hf : am_H}  {k18 : Nat → Int32 → Int32 → Int32 → Int32 → am_H → Option am_H} {k42 : Nat → Int32 → Int32 → Int32 → Int32 → Int32 → Int32 → Int32 → Int32 → am_H → Option am_H} (j18 : ∀ (v0 : Nat) (v1 : Int32) (v2 : Int32) (v3 : Int32) (v4 : Int32) (h : am_H), k18 v0 v1 v2 v3 v4 h = some hf → am_W g l M_X9_code h0 none hf 18 [some (.ref v0), some (.int v1), some (.int v2), some (.int v3), some (.int v4), none, none, none, none, none] [] h) (j42 : ∀ (v0 : Nat) (v1 : Int32) (v2 : Int32) (v3 : Int32) (v4 : Int32) (v5 : Int32) (v6 : Int32) (v7 : Int32) (v8 : Int32) (h : am_H), k42 v0 v1 v2 v3 v4 v5 v6 v7 v8 h = some hf → am_W g l M_X9_code h0 none hf 42 [some (.ref v0), some (.int v1), some (.int v2), some (.int v3), some (.int v4), some (.int v5), some (.int v6), some (.int v7), some (.int v8), none] [] h) (v0 : Nat) (v1 : Int32) (v2 : Int32) (v3 : Int32) (v4 : Int32) (v5 : Int32) (v6 : Int32) (v7 : Int32) (v8 : Int32) (h : am_H) (hF : F_X9_code_138 k18 k42 v0 v1 v2 v3 v4 v5 v6 v7 v8 h = some hf) : am_W g l M_X9_code h0 none hf 138 [some (.ref v0), some (.int v1), some (.int v2), some (.int v3), some (.int v4), some (.int v5), some (.int v6), some (.int v7), some (.int v8), none] [] h := by
  unfold F_X9_code_138 at hF
  refine am_iinc (ls' := [some (.ref v0), some (.int v1), some (.int v2), some (.int v3), some (.int v4), some (.int v5), some (.int v6), some (.int v7), some (.int (v8 + (1 : Int32))), none]) (pc' := 141) (v := (v8 + (1 : Int32))) dX9_code_138 rfl rfl (Nat.le_of_ble_eq_true rfl) rfl rfl ?_
  refine am_goto (pc' := 42) dX9_code_141 rfl ?_
  exact j42 v0 v1 v2 v3 v4 v5 v6 v7 (v8 + (1 : Int32)) h hF
def F_X9_code_132 (k18 : Nat → Int32 → Int32 → Int32 → Int32 → am_H → Option am_H) (k42 : Nat → Int32 → Int32 → Int32 → Int32 → Int32 → Int32 → Int32 → Int32 → am_H → Option am_H) (v0 : Nat) (v1 : Int32) (v2 : Int32) (v3 : Int32) (v4 : Int32) (v5 : Int32) (v7 : Int32) (v8 : Int32) (s0 : Int32) (s1 : Int32) (h : am_H) : Option am_H :=
  (F_X9_one s1 h).bind fun x1 =>
  F_X9_code_138 k18 k42 v0 v1 v2 v3 v4 v5 (s0 + x1) v7 v8 h
theorem w_X9_code_132 {g : am_G} {l : Launch} {h0 : am_H} {hf : am_H}  {k18 : Nat → Int32 → Int32 → Int32 → Int32 → am_H → Option am_H} {k42 : Nat → Int32 → Int32 → Int32 → Int32 → Int32 → Int32 → Int32 → Int32 → am_H → Option am_H} (j18 : ∀ (v0 : Nat) (v1 : Int32) (v2 : Int32) (v3 : Int32) (v4 : Int32) (h : am_H), k18 v0 v1 v2 v3 v4 h = some hf → am_W g l M_X9_code h0 none hf 18 [some (.ref v0), some (.int v1), some (.int v2), some (.int v3), some (.int v4), none, none, none, none, none] [] h) (j42 : ∀ (v0 : Nat) (v1 : Int32) (v2 : Int32) (v3 : Int32) (v4 : Int32) (v5 : Int32) (v6 : Int32) (v7 : Int32) (v8 : Int32) (h : am_H), k42 v0 v1 v2 v3 v4 v5 v6 v7 v8 h = some hf → am_W g l M_X9_code h0 none hf 42 [some (.ref v0), some (.int v1), some (.int v2), some (.int v3), some (.int v4), some (.int v5), some (.int v6), some (.int v7), some (.int v8), none] [] h) (v0 : Nat) (v1 : Int32) (v2 : Int32) (v3 : Int32) (v4 : Int32) (v5 : Int32) (v7 : Int32) (v8 : Int32) (s0 : Int32) (s1 : Int32) (h : am_H) (hF : F_X9_code_132 k18 k42 v0 v1 v2 v3 v4 v5 v7 v8 s0 s1 h = some hf) : am_W g l M_X9_code h0 none hf 132 [some (.ref v0), some (.int v1), some (.int v2), some (.int v3), some (.int v4), some (.int v5), none, some (.int v7), some (.int v8), none] [.int s1, .int s0] h := by
  unfold F_X9_code_132 at hF
  obtain ⟨x1, ex1, hF⟩ := am_bind hF
  refine am_callS1 (Mc := M_X9_one) (As := [.int s1]) (st := [.int s0]) (pc' := 135) dX9_code_132 cw_X9_150 wd_5_53 (by decide) (by decide) rfl rfl (Nat.le_of_ble_eq_true rfl) (c_X9_one ex1) rfl ?_
  refine am_iadd (pc' := 136) dX9_code_135 rfl ?_
  refine am_istore (ls' := [some (.ref v0), some (.int v1), some (.int v2), some (.int v3), some (.int v4), some (.int v5), some (.int (s0 + x1)), some (.int v7), some (.int v8), none]) (pc' := 138) dX9_code_136 (Nat.le_of_ble_eq_true rfl) rfl rfl ?_
  exact w_X9_code_138 j18 j42 v0 v1 v2 v3 v4 v5 (s0 + x1) v7 v8 h hF
def F_X9_code_102 (k18 : Nat → Int32 → Int32 → Int32 → Int32 → am_H → Option am_H) (k42 : Nat → Int32 → Int32 → Int32 → Int32 → Int32 → Int32 → Int32 → Int32 → am_H → Option am_H) (v0 : Nat) (v1 : Int32) (v2 : Int32) (v3 : Int32) (v4 : Int32) (v6 : Int32) (v7 : Int32) (v8 : Int32) (s0 : Int32) (s1 : Int32) (h : am_H) : Option am_H :=
  (F_X9_one s1 h).bind fun x1 =>
  (F_X9_sign v0 v1 v8 h).bind fun x2 =>
  (F_X9_sign v0 v1 v4 h).bind fun x3 =>
  if x3 ≤ x2 then
    F_X9_code_132 k18 k42 v0 v1 v2 v3 v4 (s0 + x1) v7 v8 v6 (0 : Int32) h
  else
    F_X9_code_132 k18 k42 v0 v1 v2 v3 v4 (s0 + x1) v7 v8 v6 (1 : Int32) h
theorem w_X9_code_102 {g : am_G} {l : Launch} {h0 : am_H} {hf : am_H}  {k18 : Nat → Int32 → Int32 → Int32 → Int32 → am_H → Option am_H} {k42 : Nat → Int32 → Int32 → Int32 → Int32 → Int32 → Int32 → Int32 → Int32 → am_H → Option am_H} (j18 : ∀ (v0 : Nat) (v1 : Int32) (v2 : Int32) (v3 : Int32) (v4 : Int32) (h : am_H), k18 v0 v1 v2 v3 v4 h = some hf → am_W g l M_X9_code h0 none hf 18 [some (.ref v0), some (.int v1), some (.int v2), some (.int v3), some (.int v4), none, none, none, none, none] [] h) (j42 : ∀ (v0 : Nat) (v1 : Int32) (v2 : Int32) (v3 : Int32) (v4 : Int32) (v5 : Int32) (v6 : Int32) (v7 : Int32) (v8 : Int32) (h : am_H), k42 v0 v1 v2 v3 v4 v5 v6 v7 v8 h = some hf → am_W g l M_X9_code h0 none hf 42 [some (.ref v0), some (.int v1), some (.int v2), some (.int v3), some (.int v4), some (.int v5), some (.int v6), some (.int v7), some (.int v8), none] [] h) (v0 : Nat) (v1 : Int32) (v2 : Int32) (v3 : Int32) (v4 : Int32) (v6 : Int32) (v7 : Int32) (v8 : Int32) (s0 : Int32) (s1 : Int32) (h : am_H) (hF : F_X9_code_102 k18 k42 v0 v1 v2 v3 v4 v6 v7 v8 s0 s1 h = some hf) : am_W g l M_X9_code h0 none hf 102 [some (.ref v0), some (.int v1), some (.int v2), some (.int v3), some (.int v4), none, some (.int v6), some (.int v7), some (.int v8), none] [.int s1, .int s0] h := by
  unfold F_X9_code_102 at hF
  obtain ⟨x1, ex1, hF⟩ := am_bind hF
  refine am_callS1 (Mc := M_X9_one) (As := [.int s1]) (st := [.int s0]) (pc' := 105) dX9_code_102 cw_X9_150 wd_5_53 (by decide) (by decide) rfl rfl (Nat.le_of_ble_eq_true rfl) (c_X9_one ex1) rfl ?_
  refine am_iadd (pc' := 106) dX9_code_105 rfl ?_
  refine am_istore (ls' := [some (.ref v0), some (.int v1), some (.int v2), some (.int v3), some (.int v4), some (.int (s0 + x1)), some (.int v6), some (.int v7), some (.int v8), none]) (pc' := 108) dX9_code_106 (Nat.le_of_ble_eq_true rfl) rfl rfl ?_
  refine am_iload (pc' := 110) dX9_code_108 rfl rfl ?_
  refine am_aload_n (pc' := 111) dX9_code_110 rfl rfl ?_
  refine am_iload_n (pc' := 112) dX9_code_111 rfl rfl ?_
  refine am_iload (pc' := 114) dX9_code_112 rfl rfl ?_
  obtain ⟨x2, ex2, hF⟩ := am_bind hF
  obtain ⟨ox2, px2⟩ := t_X9_sign ex2
  refine am_callV1 (Mc := M_X9_sign) (As := [.int v1, .int v8]) (st := [.int v6]) (pc' := 117) dX9_code_114 cw_X9_113 wd_5_21 sl_X9_sign ⟨_, rfl, rfl⟩ (by decide) (by decide) rfl rfl (Nat.le_of_ble_eq_true rfl) px2 (c_X9_sign ex2) rfl ?_
  refine am_aload_n (pc' := 118) dX9_code_117 rfl rfl ?_
  refine am_iload_n (pc' := 119) dX9_code_118 rfl rfl ?_
  refine am_iload (pc' := 121) dX9_code_119 rfl rfl ?_
  obtain ⟨x3, ex3, hF⟩ := am_bind hF
  obtain ⟨ox3, px3⟩ := t_X9_sign ex3
  refine am_callV1 (Mc := M_X9_sign) (As := [.int v1, .int v4]) (st := [.int x2, .int v6]) (pc' := 124) dX9_code_121 cw_X9_113 wd_5_21 sl_X9_sign ⟨_, rfl, rfl⟩ (by decide) (by decide) rfl rfl (Nat.le_of_ble_eq_true rfl) px3 (c_X9_sign ex3) rfl ?_
  rcases am_ite hF with ⟨z4, hF⟩ | ⟨z4, hF⟩
  · refine am_icmp_ge_t (pc' := 131) dX9_code_124 rfl z4 ?_
    refine am_iconst (v := (0 : Int32)) (pc' := 132) dX9_code_131 rfl rfl ?_
    exact am_weak [true, true, true, true, true, true, false, true, true, false] (w_X9_code_132 j18 j42 v0 v1 v2 v3 v4 (s0 + x1) v7 v8 v6 (0 : Int32) h hF)
  · refine am_icmp_ge_f (pc' := 127) (tgt := 131) dX9_code_124 rfl z4 rfl ?_
    refine am_iconst (v := (1 : Int32)) (pc' := 128) dX9_code_127 rfl rfl ?_
    refine am_goto (pc' := 132) dX9_code_128 rfl ?_
    exact am_weak [true, true, true, true, true, true, false, true, true, false] (w_X9_code_132 j18 j42 v0 v1 v2 v3 v4 (s0 + x1) v7 v8 v6 (1 : Int32) h hF)
def F_X9_code_279 (k18 : Nat → Int32 → Int32 → Int32 → Int32 → am_H → Option am_H) (k193 : Nat → Int32 → Int32 → Int32 → Int32 → Int32 → am_H → Option am_H) (v0 : Nat) (v1 : Int32) (v2 : Int32) (v3 : Int32) (v4 : Int32) (v9 : Int32) (h : am_H) : Option am_H :=
  if v9 = 0 then
    k193 v0 v1 v2 v3 v4 v9 h
  else
    k193 v0 v1 ((2 : Int32) * v2) (((2 : Int32) * v3) + (1 : Int32)) v4 v9 h
theorem w_X9_code_279 {g : am_G} {l : Launch} {h0 : am_H} {hf : am_H}  {k18 : Nat → Int32 → Int32 → Int32 → Int32 → am_H → Option am_H} {k193 : Nat → Int32 → Int32 → Int32 → Int32 → Int32 → am_H → Option am_H} (j18 : ∀ (v0 : Nat) (v1 : Int32) (v2 : Int32) (v3 : Int32) (v4 : Int32) (h : am_H), k18 v0 v1 v2 v3 v4 h = some hf → am_W g l M_X9_code h0 none hf 18 [some (.ref v0), some (.int v1), some (.int v2), some (.int v3), some (.int v4), none, none, none, none, none] [] h) (j193 : ∀ (v0 : Nat) (v1 : Int32) (v2 : Int32) (v3 : Int32) (v4 : Int32) (v9 : Int32) (h : am_H), k193 v0 v1 v2 v3 v4 v9 h = some hf → am_W g l M_X9_code h0 none hf 193 [some (.ref v0), some (.int v1), some (.int v2), some (.int v3), some (.int v4), none, none, none, none, some (.int v9)] [] h) (v0 : Nat) (v1 : Int32) (v2 : Int32) (v3 : Int32) (v4 : Int32) (v9 : Int32) (h : am_H) (hF : F_X9_code_279 k18 k193 v0 v1 v2 v3 v4 v9 h = some hf) : am_W g l M_X9_code h0 none hf 279 [some (.ref v0), some (.int v1), some (.int v2), some (.int v3), some (.int v4), none, none, none, none, some (.int v9)] [] h := by
  unfold F_X9_code_279 at hF
  refine am_iload (pc' := 281) dX9_code_279 rfl rfl ?_
  rcases am_ite hF with ⟨z1, hF⟩ | ⟨z1, hF⟩
  · refine am_if_eq_t (pc' := 193) dX9_code_281 rfl z1 ?_
    exact j193 v0 v1 v2 v3 v4 v9 h hF
  · refine am_if_eq_f (pc' := 284) (tgt := 193) dX9_code_281 rfl z1 rfl ?_
    refine am_iconst (v := (2 : Int32)) (pc' := 285) dX9_code_284 rfl rfl ?_
    refine am_iload_n (pc' := 286) dX9_code_285 rfl rfl ?_
    refine am_imul (pc' := 287) dX9_code_286 rfl ?_
    refine am_istore_n (ls' := [some (.ref v0), some (.int v1), some (.int ((2 : Int32) * v2)), some (.int v3), some (.int v4), none, none, none, none, some (.int v9)]) (pc' := 288) dX9_code_287 (Nat.le_of_ble_eq_true rfl) rfl rfl ?_
    refine am_iconst (v := (2 : Int32)) (pc' := 289) dX9_code_288 rfl rfl ?_
    refine am_iload_n (pc' := 290) dX9_code_289 rfl rfl ?_
    refine am_imul (pc' := 291) dX9_code_290 rfl ?_
    refine am_iconst (v := (1 : Int32)) (pc' := 292) dX9_code_291 rfl rfl ?_
    refine am_iadd (pc' := 293) dX9_code_292 rfl ?_
    refine am_istore_n (ls' := [some (.ref v0), some (.int v1), some (.int ((2 : Int32) * v2)), some (.int (((2 : Int32) * v3) + (1 : Int32))), some (.int v4), none, none, none, none, some (.int v9)]) (pc' := 294) dX9_code_293 (Nat.le_of_ble_eq_true rfl) rfl rfl ?_
    refine am_goto (pc' := 193) dX9_code_294 rfl ?_
    exact j193 v0 v1 ((2 : Int32) * v2) (((2 : Int32) * v3) + (1 : Int32)) v4 v9 h hF
def F_X9_code_276 (k18 : Nat → Int32 → Int32 → Int32 → Int32 → am_H → Option am_H) (k193 : Nat → Int32 → Int32 → Int32 → Int32 → Int32 → am_H → Option am_H) (v0 : Nat) (v1 : Int32) (v2 : Int32) (v3 : Int32) (v4 : Int32) (h : am_H) : Option am_H :=
  F_X9_code_279 k18 k193 v0 v1 v2 v3 v4 (0 : Int32) h
theorem w_X9_code_276 {g : am_G} {l : Launch} {h0 : am_H} {hf : am_H}  {k18 : Nat → Int32 → Int32 → Int32 → Int32 → am_H → Option am_H} {k193 : Nat → Int32 → Int32 → Int32 → Int32 → Int32 → am_H → Option am_H} (j18 : ∀ (v0 : Nat) (v1 : Int32) (v2 : Int32) (v3 : Int32) (v4 : Int32) (h : am_H), k18 v0 v1 v2 v3 v4 h = some hf → am_W g l M_X9_code h0 none hf 18 [some (.ref v0), some (.int v1), some (.int v2), some (.int v3), some (.int v4), none, none, none, none, none] [] h) (j193 : ∀ (v0 : Nat) (v1 : Int32) (v2 : Int32) (v3 : Int32) (v4 : Int32) (v9 : Int32) (h : am_H), k193 v0 v1 v2 v3 v4 v9 h = some hf → am_W g l M_X9_code h0 none hf 193 [some (.ref v0), some (.int v1), some (.int v2), some (.int v3), some (.int v4), none, none, none, none, some (.int v9)] [] h) (v0 : Nat) (v1 : Int32) (v2 : Int32) (v3 : Int32) (v4 : Int32) (h : am_H) (hF : F_X9_code_276 k18 k193 v0 v1 v2 v3 v4 h = some hf) : am_W g l M_X9_code h0 none hf 276 [some (.ref v0), some (.int v1), some (.int v2), some (.int v3), some (.int v4), none, none, none, none, none] [] h := by
  unfold F_X9_code_276 at hF
  refine am_iconst (v := (0 : Int32)) (pc' := 277) dX9_code_276 rfl rfl ?_
  refine am_istore (ls' := [some (.ref v0), some (.int v1), some (.int v2), some (.int v3), some (.int v4), none, none, none, none, some (.int (0 : Int32))]) (pc' := 279) dX9_code_277 (Nat.le_of_ble_eq_true rfl) rfl rfl ?_
  exact w_X9_code_279 j18 j193 v0 v1 v2 v3 v4 (0 : Int32) h hF
def F_X9_code_193 (k18 : Nat → Int32 → Int32 → Int32 → Int32 → am_H → Option am_H) : Nat → Nat → Int32 → Int32 → Int32 → Int32 → Int32 → am_H → Option am_H
  | 0, _, _, _, _, _, _, _ => none
  | n + 1, v0, v1, v2, v3, v4, v9, h =>
  if v9 = 0 then
    k18 v0 v1 v2 v3 (v4 + (1 : Int32)) h
  else
    if (32768 : Int32) ≤ v3 then
      if v2 < (32768 : Int32) then
        if v2 < (16384 : Int32) then
          F_X9_code_276 k18 (F_X9_code_193 k18 n) v0 v1 v2 v3 v4 h
        else
          if (49152 : Int32) ≤ v3 then
            F_X9_code_276 k18 (F_X9_code_193 k18 n) v0 v1 v2 v3 v4 h
          else
            (am_gi 9 30 v0 h).bind fun x6 =>
            (am_pi 9 30 v0 (x6 + (1 : Int32)) h).bind fun h7 =>
            F_X9_code_279 k18 (F_X9_code_193 k18 n) v0 v1 (v2 + (-16384 : Int32)) (v3 + (-16384 : Int32)) v4 v9 h7
      else
        (F_X9_writeBit v0 (1 : Int32) h).bind fun h8 =>
        F_X9_code_279 k18 (F_X9_code_193 k18 n) v0 v1 (v2 + (-32768 : Int32)) (v3 + (-32768 : Int32)) v4 v9 h8
    else
      (F_X9_writeBit v0 (0 : Int32) h).bind fun h9 =>
      F_X9_code_279 k18 (F_X9_code_193 k18 n) v0 v1 v2 v3 v4 v9 h9
theorem w_X9_code_193 {g : am_G} {l : Launch} {h0 : am_H} {hf : am_H}  {k18 : Nat → Int32 → Int32 → Int32 → Int32 → am_H → Option am_H} (j18 : ∀ (v0 : Nat) (v1 : Int32) (v2 : Int32) (v3 : Int32) (v4 : Int32) (h : am_H), k18 v0 v1 v2 v3 v4 h = some hf → am_W g l M_X9_code h0 none hf 18 [some (.ref v0), some (.int v1), some (.int v2), some (.int v3), some (.int v4), none, none, none, none, none] [] h) : ∀ (n : Nat) (v0 : Nat) (v1 : Int32) (v2 : Int32) (v3 : Int32) (v4 : Int32) (v9 : Int32) (h : am_H), F_X9_code_193 k18 n v0 v1 v2 v3 v4 v9 h = some hf → am_W g l M_X9_code h0 none hf 193 [some (.ref v0), some (.int v1), some (.int v2), some (.int v3), some (.int v4), none, none, none, none, some (.int v9)] [] h
  | 0, _, _, _, _, _, _, _, hF => by cases hF
  | n + 1, v0, v1, v2, v3, v4, v9, h, hF => by
    rw [F_X9_code_193] at hF
    refine am_iload (pc' := 195) dX9_code_193 rfl rfl ?_
    rcases am_ite hF with ⟨z1, hF⟩ | ⟨z1, hF⟩
    · refine am_if_eq_t (pc' := 297) dX9_code_195 rfl z1 ?_
      refine am_iinc (ls' := [some (.ref v0), some (.int v1), some (.int v2), some (.int v3), some (.int (v4 + (1 : Int32))), none, none, none, none, some (.int v9)]) (pc' := 300) (v := (v4 + (1 : Int32))) dX9_code_297 rfl rfl (Nat.le_of_ble_eq_true rfl) rfl rfl ?_
      refine am_goto (pc' := 18) dX9_code_300 rfl ?_
      exact am_weak [true, true, true, true, true, false, false, false, false, false] (j18 v0 v1 v2 v3 (v4 + (1 : Int32)) h hF)
    · refine am_if_eq_f (pc' := 198) (tgt := 297) dX9_code_195 rfl z1 rfl ?_
      refine am_iload_n (pc' := 199) dX9_code_198 rfl rfl ?_
      refine am_ldc (v := (32768 : Int32)) (pc' := 201) dX9_code_199 wd_5_171 rfl ?_
      rcases am_ite hF with ⟨z2, hF⟩ | ⟨z2, hF⟩
      · refine am_icmp_ge_t (pc' := 212) dX9_code_201 rfl z2 ?_
        refine am_iload_n (pc' := 213) dX9_code_212 rfl rfl ?_
        refine am_ldc (v := (32768 : Int32)) (pc' := 215) dX9_code_213 wd_5_171 rfl ?_
        rcases am_ite hF with ⟨z3, hF⟩ | ⟨z3, hF⟩
        · refine am_icmp_lt_t (pc' := 238) dX9_code_215 rfl z3 ?_
          refine am_iload_n (pc' := 239) dX9_code_238 rfl rfl ?_
          refine am_sipush (v := (16384 : Int32)) (pc' := 242) dX9_code_239 rfl rfl ?_
          rcases am_ite hF with ⟨z4, hF⟩ | ⟨z4, hF⟩
          · refine am_icmp_lt_t (pc' := 276) dX9_code_242 rfl z4 ?_
            exact am_weak [true, true, true, true, true, false, false, false, false, false] (w_X9_code_276 j18 (w_X9_code_193 j18 n) v0 v1 v2 v3 v4 h hF)
          · refine am_icmp_lt_f (pc' := 245) (tgt := 276) dX9_code_242 rfl z4 rfl ?_
            refine am_iload_n (pc' := 246) dX9_code_245 rfl rfl ?_
            refine am_ldc (v := (49152 : Int32)) (pc' := 248) dX9_code_246 wd_5_176 rfl ?_
            rcases am_ite hF with ⟨z5, hF⟩ | ⟨z5, hF⟩
            · refine am_icmp_ge_t (pc' := 276) dX9_code_248 rfl z5 ?_
              exact am_weak [true, true, true, true, true, false, false, false, false, false] (w_X9_code_276 j18 (w_X9_code_193 j18 n) v0 v1 v2 v3 v4 h hF)
            · refine am_icmp_ge_f (pc' := 251) (tgt := 276) dX9_code_248 rfl z5 rfl ?_
              refine am_aload_n (pc' := 252) dX9_code_251 rfl rfl ?_
              refine am_dup (pc' := 253) dX9_code_252 rfl rfl ?_
              obtain ⟨x6, ex6, hF⟩ := am_bind hF
              refine am_geti (pc' := 256) dX9_code_253 fw_X9_242 ex6 rfl ?_
              refine am_iconst (v := (1 : Int32)) (pc' := 257) dX9_code_256 rfl rfl ?_
              refine am_iadd (pc' := 258) dX9_code_257 rfl ?_
              obtain ⟨h7, eh7, hF⟩ := am_bind hF
              refine am_puti (pc' := 261) dX9_code_258 fx_X9_242 eh7 rfl ?_
              refine am_iincW (ls' := [some (.ref v0), some (.int v1), some (.int (v2 + (-16384 : Int32))), some (.int v3), some (.int v4), none, none, none, none, some (.int v9)]) (pc' := 267) (v := (v2 + (-16384 : Int32))) dX9_code_261 rfl rfl (Nat.le_of_ble_eq_true rfl) rfl rfl ?_
              refine am_iincW (ls' := [some (.ref v0), some (.int v1), some (.int (v2 + (-16384 : Int32))), some (.int (v3 + (-16384 : Int32))), some (.int v4), none, none, none, none, some (.int v9)]) (pc' := 273) (v := (v3 + (-16384 : Int32))) dX9_code_267 rfl rfl (Nat.le_of_ble_eq_true rfl) rfl rfl ?_
              refine am_goto (pc' := 279) dX9_code_273 rfl ?_
              exact w_X9_code_279 j18 (w_X9_code_193 j18 n) v0 v1 (v2 + (-16384 : Int32)) (v3 + (-16384 : Int32)) v4 v9 h7 hF
        · refine am_icmp_lt_f (pc' := 218) (tgt := 238) dX9_code_215 rfl z3 rfl ?_
          refine am_aload_n (pc' := 219) dX9_code_218 rfl rfl ?_
          refine am_iconst (v := (1 : Int32)) (pc' := 220) dX9_code_219 rfl rfl ?_
          obtain ⟨h8, eh8, hF⟩ := am_bind hF
          obtain ⟨oh8, ph8⟩ := t_X9_writeBit eh8
          refine am_callV0 (Mc := M_X9_writeBit) (As := [.int (1 : Int32)]) (st := []) (pc' := 223) dX9_code_220 cw_X9_247 wd_5_174 sl_X9_writeBit ⟨_, rfl, rfl⟩ (by decide) (by decide) rfl rfl (Nat.le_of_ble_eq_true rfl) ph8 (c_X9_writeBit eh8) rfl ?_
          refine am_iincW (ls' := [some (.ref v0), some (.int v1), some (.int (v2 + (-32768 : Int32))), some (.int v3), some (.int v4), none, none, none, none, some (.int v9)]) (pc' := 229) (v := (v2 + (-32768 : Int32))) dX9_code_223 rfl rfl (Nat.le_of_ble_eq_true rfl) rfl rfl ?_
          refine am_iincW (ls' := [some (.ref v0), some (.int v1), some (.int (v2 + (-32768 : Int32))), some (.int (v3 + (-32768 : Int32))), some (.int v4), none, none, none, none, some (.int v9)]) (pc' := 235) (v := (v3 + (-32768 : Int32))) dX9_code_229 rfl rfl (Nat.le_of_ble_eq_true rfl) rfl rfl ?_
          refine am_goto (pc' := 279) dX9_code_235 rfl ?_
          exact w_X9_code_279 j18 (w_X9_code_193 j18 n) v0 v1 (v2 + (-32768 : Int32)) (v3 + (-32768 : Int32)) v4 v9 h8 hF
      · refine am_icmp_ge_f (pc' := 204) (tgt := 212) dX9_code_201 rfl z2 rfl ?_
        refine am_aload_n (pc' := 205) dX9_code_204 rfl rfl ?_
        refine am_iconst (v := (0 : Int32)) (pc' := 206) dX9_code_205 rfl rfl ?_
        obtain ⟨h9, eh9, hF⟩ := am_bind hF
        obtain ⟨oh9, ph9⟩ := t_X9_writeBit eh9
        refine am_callV0 (Mc := M_X9_writeBit) (As := [.int (0 : Int32)]) (st := []) (pc' := 209) dX9_code_206 cw_X9_247 wd_5_174 sl_X9_writeBit ⟨_, rfl, rfl⟩ (by decide) (by decide) rfl rfl (Nat.le_of_ble_eq_true rfl) ph9 (c_X9_writeBit eh9) rfl ?_
        refine am_goto (pc' := 279) dX9_code_209 rfl ?_
        exact w_X9_code_279 j18 (w_X9_code_193 j18 n) v0 v1 v2 v3 v4 v9 h9 hF
def F_X9_code_42 (k18 : Nat → Int32 → Int32 → Int32 → Int32 → am_H → Option am_H) : Nat → Nat → Int32 → Int32 → Int32 → Int32 → Int32 → Int32 → Int32 → Int32 → am_H → Option am_H
  | 0, _, _, _, _, _, _, _, _, _, _ => none
  | n + 1, v0, v1, v2, v3, v4, v5, v6, v7, v8, h =>
  if v4 ≤ v8 then
    (F_X9_sign v0 v1 v4 h).bind fun x2 =>
    if v7 = 0 then none else
    if v7 = 0 then none else
    F_X9_code_193 k18 am_F v0 v1 (v2 + ((((v3 - v2) + (1 : Int32)) * (v6 + x2)) / v7)) ((v2 + ((((v3 - v2) + (1 : Int32)) * ((v6 + x2) + v5)) / v7)) - (1 : Int32)) v4 (1 : Int32) h
  else
    if v4 ≤ 0 then
      F_X9_code_138 k18 (F_X9_code_42 k18 n) v0 v1 v2 v3 v4 v5 v6 v7 v8 h
    else
      (F_X9_sign v0 v1 (v8 - (1 : Int32)) h).bind fun x6 =>
      (F_X9_sign v0 v1 (v4 - (1 : Int32)) h).bind fun x7 =>
      if x6 = x7 then
        (F_X9_sign v0 v1 v8 h).bind fun x9 =>
        (F_X9_sign v0 v1 v4 h).bind fun x10 =>
        if x9 = x10 then
          F_X9_code_102 k18 (F_X9_code_42 k18 n) v0 v1 v2 v3 v4 v6 (v7 + (1 : Int32)) v8 v5 (1 : Int32) h
        else
          F_X9_code_102 k18 (F_X9_code_42 k18 n) v0 v1 v2 v3 v4 v6 (v7 + (1 : Int32)) v8 v5 (0 : Int32) h
      else
        F_X9_code_138 k18 (F_X9_code_42 k18 n) v0 v1 v2 v3 v4 v5 v6 v7 v8 h
theorem w_X9_code_42 {g : am_G} {l : Launch} {h0 : am_H} {hf : am_H}  {k18 : Nat → Int32 → Int32 → Int32 → Int32 → am_H → Option am_H} (j18 : ∀ (v0 : Nat) (v1 : Int32) (v2 : Int32) (v3 : Int32) (v4 : Int32) (h : am_H), k18 v0 v1 v2 v3 v4 h = some hf → am_W g l M_X9_code h0 none hf 18 [some (.ref v0), some (.int v1), some (.int v2), some (.int v3), some (.int v4), none, none, none, none, none] [] h) : ∀ (n : Nat) (v0 : Nat) (v1 : Int32) (v2 : Int32) (v3 : Int32) (v4 : Int32) (v5 : Int32) (v6 : Int32) (v7 : Int32) (v8 : Int32) (h : am_H), F_X9_code_42 k18 n v0 v1 v2 v3 v4 v5 v6 v7 v8 h = some hf → am_W g l M_X9_code h0 none hf 42 [some (.ref v0), some (.int v1), some (.int v2), some (.int v3), some (.int v4), some (.int v5), some (.int v6), some (.int v7), some (.int v8), none] [] h
  | 0, _, _, _, _, _, _, _, _, _, _, hF => by cases hF
  | n + 1, v0, v1, v2, v3, v4, v5, v6, v7, v8, h, hF => by
    rw [F_X9_code_42] at hF
    refine am_iload (pc' := 44) dX9_code_42 rfl rfl ?_
    refine am_iload (pc' := 46) dX9_code_44 rfl rfl ?_
    rcases am_ite hF with ⟨z1, hF⟩ | ⟨z1, hF⟩
    · refine am_icmp_ge_t (pc' := 144) dX9_code_46 rfl z1 ?_
      refine am_iload (pc' := 146) dX9_code_144 rfl rfl ?_
      refine am_aload_n (pc' := 147) dX9_code_146 rfl rfl ?_
      refine am_iload_n (pc' := 148) dX9_code_147 rfl rfl ?_
      refine am_iload (pc' := 150) dX9_code_148 rfl rfl ?_
      obtain ⟨x2, ex2, hF⟩ := am_bind hF
      obtain ⟨ox2, px2⟩ := t_X9_sign ex2
      refine am_callV1 (Mc := M_X9_sign) (As := [.int v1, .int v4]) (st := [.int v6]) (pc' := 153) dX9_code_150 cw_X9_113 wd_5_21 sl_X9_sign ⟨_, rfl, rfl⟩ (by decide) (by decide) rfl rfl (Nat.le_of_ble_eq_true rfl) px2 (c_X9_sign ex2) rfl ?_
      refine am_iadd (pc' := 154) dX9_code_153 rfl ?_
      refine am_istore (ls' := [some (.ref v0), some (.int v1), some (.int v2), some (.int v3), some (.int v4), some (.int v5), some (.int (v6 + x2)), some (.int v7), some (.int v8), none]) (pc' := 156) dX9_code_154 (Nat.le_of_ble_eq_true rfl) rfl rfl ?_
      refine am_iload_n (pc' := 157) dX9_code_156 rfl rfl ?_
      refine am_iload_n (pc' := 158) dX9_code_157 rfl rfl ?_
      refine am_isub (pc' := 159) dX9_code_158 rfl ?_
      refine am_iconst (v := (1 : Int32)) (pc' := 160) dX9_code_159 rfl rfl ?_
      refine am_iadd (pc' := 161) dX9_code_160 rfl ?_
      refine am_istore (ls' := [some (.ref v0), some (.int v1), some (.int v2), some (.int v3), some (.int v4), some (.int v5), some (.int (v6 + x2)), some (.int v7), some (.int ((v3 - v2) + (1 : Int32))), none]) (pc' := 163) dX9_code_161 (Nat.le_of_ble_eq_true rfl) rfl rfl ?_
      refine am_iload_n (pc' := 164) dX9_code_163 rfl rfl ?_
      refine am_iload (pc' := 166) dX9_code_164 rfl rfl ?_
      refine am_iload (pc' := 168) dX9_code_166 rfl rfl ?_
      refine am_iload (pc' := 170) dX9_code_168 rfl rfl ?_
      refine am_iadd (pc' := 171) dX9_code_170 rfl ?_
      refine am_imul (pc' := 172) dX9_code_171 rfl ?_
      refine am_iload (pc' := 174) dX9_code_172 rfl rfl ?_
      rcases am_ite hF with ⟨z3, hF⟩ | ⟨z3, hF⟩
      · cases hF
      refine am_idiv (pc' := 175) dX9_code_174 z3 rfl ?_
      refine am_iadd (pc' := 176) dX9_code_175 rfl ?_
      refine am_iconst (v := (1 : Int32)) (pc' := 177) dX9_code_176 rfl rfl ?_
      refine am_isub (pc' := 178) dX9_code_177 rfl ?_
      refine am_istore_n (ls' := [some (.ref v0), some (.int v1), some (.int v2), some (.int ((v2 + ((((v3 - v2) + (1 : Int32)) * ((v6 + x2) + v5)) / v7)) - (1 : Int32))), some (.int v4), some (.int v5), some (.int (v6 + x2)), some (.int v7), some (.int ((v3 - v2) + (1 : Int32))), none]) (pc' := 179) dX9_code_178 (Nat.le_of_ble_eq_true rfl) rfl rfl ?_
      refine am_iload_n (pc' := 180) dX9_code_179 rfl rfl ?_
      refine am_iload (pc' := 182) dX9_code_180 rfl rfl ?_
      refine am_iload (pc' := 184) dX9_code_182 rfl rfl ?_
      refine am_imul (pc' := 185) dX9_code_184 rfl ?_
      refine am_iload (pc' := 187) dX9_code_185 rfl rfl ?_
      rcases am_ite hF with ⟨z4, hF⟩ | ⟨z4, hF⟩
      · cases hF
      refine am_idiv (pc' := 188) dX9_code_187 z4 rfl ?_
      refine am_iadd (pc' := 189) dX9_code_188 rfl ?_
      refine am_istore_n (ls' := [some (.ref v0), some (.int v1), some (.int (v2 + ((((v3 - v2) + (1 : Int32)) * (v6 + x2)) / v7))), some (.int ((v2 + ((((v3 - v2) + (1 : Int32)) * ((v6 + x2) + v5)) / v7)) - (1 : Int32))), some (.int v4), some (.int v5), some (.int (v6 + x2)), some (.int v7), some (.int ((v3 - v2) + (1 : Int32))), none]) (pc' := 190) dX9_code_189 (Nat.le_of_ble_eq_true rfl) rfl rfl ?_
      refine am_iconst (v := (1 : Int32)) (pc' := 191) dX9_code_190 rfl rfl ?_
      refine am_istore (ls' := [some (.ref v0), some (.int v1), some (.int (v2 + ((((v3 - v2) + (1 : Int32)) * (v6 + x2)) / v7))), some (.int ((v2 + ((((v3 - v2) + (1 : Int32)) * ((v6 + x2) + v5)) / v7)) - (1 : Int32))), some (.int v4), some (.int v5), some (.int (v6 + x2)), some (.int v7), some (.int ((v3 - v2) + (1 : Int32))), some (.int (1 : Int32))]) (pc' := 193) dX9_code_191 (Nat.le_of_ble_eq_true rfl) rfl rfl ?_
      exact am_weak [true, true, true, true, true, false, false, false, false, true] (w_X9_code_193 j18 am_F v0 v1 (v2 + ((((v3 - v2) + (1 : Int32)) * (v6 + x2)) / v7)) ((v2 + ((((v3 - v2) + (1 : Int32)) * ((v6 + x2) + v5)) / v7)) - (1 : Int32)) v4 (1 : Int32) h hF)
    · refine am_icmp_ge_f (pc' := 49) (tgt := 144) dX9_code_46 rfl z1 rfl ?_
      refine am_iload (pc' := 51) dX9_code_49 rfl rfl ?_
      rcases am_ite hF with ⟨z5, hF⟩ | ⟨z5, hF⟩
      · refine am_if_le_t (pc' := 138) dX9_code_51 rfl z5 ?_
        exact w_X9_code_138 j18 (w_X9_code_42 j18 n) v0 v1 v2 v3 v4 v5 v6 v7 v8 h hF
      · refine am_if_le_f (pc' := 54) (tgt := 138) dX9_code_51 rfl z5 rfl ?_
        refine am_aload_n (pc' := 55) dX9_code_54 rfl rfl ?_
        refine am_iload_n (pc' := 56) dX9_code_55 rfl rfl ?_
        refine am_iload (pc' := 58) dX9_code_56 rfl rfl ?_
        refine am_iconst (v := (1 : Int32)) (pc' := 59) dX9_code_58 rfl rfl ?_
        refine am_isub (pc' := 60) dX9_code_59 rfl ?_
        obtain ⟨x6, ex6, hF⟩ := am_bind hF
        obtain ⟨ox6, px6⟩ := t_X9_sign ex6
        refine am_callV1 (Mc := M_X9_sign) (As := [.int v1, .int (v8 - (1 : Int32))]) (st := []) (pc' := 63) dX9_code_60 cw_X9_113 wd_5_21 sl_X9_sign ⟨_, rfl, rfl⟩ (by decide) (by decide) rfl rfl (Nat.le_of_ble_eq_true rfl) px6 (c_X9_sign ex6) rfl ?_
        refine am_aload_n (pc' := 64) dX9_code_63 rfl rfl ?_
        refine am_iload_n (pc' := 65) dX9_code_64 rfl rfl ?_
        refine am_iload (pc' := 67) dX9_code_65 rfl rfl ?_
        refine am_iconst (v := (1 : Int32)) (pc' := 68) dX9_code_67 rfl rfl ?_
        refine am_isub (pc' := 69) dX9_code_68 rfl ?_
        obtain ⟨x7, ex7, hF⟩ := am_bind hF
        obtain ⟨ox7, px7⟩ := t_X9_sign ex7
        refine am_callV1 (Mc := M_X9_sign) (As := [.int v1, .int (v4 - (1 : Int32))]) (st := [.int x6]) (pc' := 72) dX9_code_69 cw_X9_113 wd_5_21 sl_X9_sign ⟨_, rfl, rfl⟩ (by decide) (by decide) rfl rfl (Nat.le_of_ble_eq_true rfl) px7 (c_X9_sign ex7) rfl ?_
        rcases am_ite hF with ⟨z8, hF⟩ | ⟨z8, hF⟩
        · refine am_icmp_ne_f (pc' := 75) (tgt := 138) dX9_code_72 rfl z8 rfl ?_
          refine am_iinc (ls' := [some (.ref v0), some (.int v1), some (.int v2), some (.int v3), some (.int v4), some (.int v5), some (.int v6), some (.int (v7 + (1 : Int32))), some (.int v8), none]) (pc' := 78) (v := (v7 + (1 : Int32))) dX9_code_75 rfl rfl (Nat.le_of_ble_eq_true rfl) rfl rfl ?_
          refine am_iload (pc' := 80) dX9_code_78 rfl rfl ?_
          refine am_aload_n (pc' := 81) dX9_code_80 rfl rfl ?_
          refine am_iload_n (pc' := 82) dX9_code_81 rfl rfl ?_
          refine am_iload (pc' := 84) dX9_code_82 rfl rfl ?_
          obtain ⟨x9, ex9, hF⟩ := am_bind hF
          obtain ⟨ox9, px9⟩ := t_X9_sign ex9
          refine am_callV1 (Mc := M_X9_sign) (As := [.int v1, .int v8]) (st := [.int v5]) (pc' := 87) dX9_code_84 cw_X9_113 wd_5_21 sl_X9_sign ⟨_, rfl, rfl⟩ (by decide) (by decide) rfl rfl (Nat.le_of_ble_eq_true rfl) px9 (c_X9_sign ex9) rfl ?_
          refine am_aload_n (pc' := 88) dX9_code_87 rfl rfl ?_
          refine am_iload_n (pc' := 89) dX9_code_88 rfl rfl ?_
          refine am_iload (pc' := 91) dX9_code_89 rfl rfl ?_
          obtain ⟨x10, ex10, hF⟩ := am_bind hF
          obtain ⟨ox10, px10⟩ := t_X9_sign ex10
          refine am_callV1 (Mc := M_X9_sign) (As := [.int v1, .int v4]) (st := [.int x9, .int v5]) (pc' := 94) dX9_code_91 cw_X9_113 wd_5_21 sl_X9_sign ⟨_, rfl, rfl⟩ (by decide) (by decide) rfl rfl (Nat.le_of_ble_eq_true rfl) px10 (c_X9_sign ex10) rfl ?_
          rcases am_ite hF with ⟨z11, hF⟩ | ⟨z11, hF⟩
          · refine am_icmp_ne_f (pc' := 97) (tgt := 101) dX9_code_94 rfl z11 rfl ?_
            refine am_iconst (v := (1 : Int32)) (pc' := 98) dX9_code_97 rfl rfl ?_
            refine am_goto (pc' := 102) dX9_code_98 rfl ?_
            exact am_weak [true, true, true, true, true, false, true, true, true, false] (w_X9_code_102 j18 (w_X9_code_42 j18 n) v0 v1 v2 v3 v4 v6 (v7 + (1 : Int32)) v8 v5 (1 : Int32) h hF)
          · refine am_icmp_ne_t (pc' := 101) dX9_code_94 rfl z11 ?_
            refine am_iconst (v := (0 : Int32)) (pc' := 102) dX9_code_101 rfl rfl ?_
            exact am_weak [true, true, true, true, true, false, true, true, true, false] (w_X9_code_102 j18 (w_X9_code_42 j18 n) v0 v1 v2 v3 v4 v6 (v7 + (1 : Int32)) v8 v5 (0 : Int32) h hF)
        · refine am_icmp_ne_t (pc' := 138) dX9_code_72 rfl z8 ?_
          exact w_X9_code_138 j18 (w_X9_code_42 j18 n) v0 v1 v2 v3 v4 v5 v6 v7 v8 h hF
def F_X9_code_326 (s0 : Nat) (s1 : Int32) (h : am_H) : Option am_H :=
  (F_X9_writeBit s0 s1 h).bind fun h1 =>
  some h1
theorem w_X9_code_326 {g : am_G} {l : Launch} {h0 : am_H} {hf : am_H}  (s0 : Nat) (s1 : Int32) (h : am_H) (hF : F_X9_code_326 s0 s1 h = some hf) : am_W g l M_X9_code h0 none hf 326 [none, none, none, none, none, none, none, none, none, none] [.int s1, .ref s0] h := by
  unfold F_X9_code_326 at hF
  obtain ⟨h1, eh1, hF⟩ := am_bind hF
  obtain ⟨oh1, ph1⟩ := t_X9_writeBit eh1
  refine am_callV0 (Mc := M_X9_writeBit) (As := [.int s1]) (st := []) (pc' := 329) dX9_code_326 cw_X9_247 wd_5_174 sl_X9_writeBit ⟨_, rfl, rfl⟩ (by decide) (by decide) rfl rfl (Nat.le_of_ble_eq_true rfl) ph1 (c_X9_writeBit eh1) rfl ?_
  cases hF
  exact am_vret dX9_code_329 rfl
def F_X9_code_18 : Nat → Nat → Int32 → Int32 → Int32 → Int32 → am_H → Option am_H
  | 0, _, _, _, _, _, _ => none
  | n + 1, v0, v1, v2, v3, v4, h =>
  (am_gr 9 3 v0 h).bind fun x1 =>
  (am_il 0 x1 v1 h).bind fun x2 =>
  if x2 ≤ v4 then
    (am_gi 9 30 v0 h).bind fun x4 =>
    (am_pi 9 30 v0 (x4 + (1 : Int32)) h).bind fun h5 =>
    if (16384 : Int32) ≤ v2 then
      F_X9_code_326 v0 (1 : Int32) h5
    else
      F_X9_code_326 v0 (0 : Int32) h5
  else
    F_X9_code_42 (F_X9_code_18 n) am_F v0 v1 v2 v3 v4 (1 : Int32) (0 : Int32) (16 : Int32) (1 : Int32) h
theorem w_X9_code_18 {g : am_G} {l : Launch} {h0 : am_H} {hf : am_H}  : ∀ (n : Nat) (v0 : Nat) (v1 : Int32) (v2 : Int32) (v3 : Int32) (v4 : Int32) (h : am_H), F_X9_code_18 n v0 v1 v2 v3 v4 h = some hf → am_W g l M_X9_code h0 none hf 18 [some (.ref v0), some (.int v1), some (.int v2), some (.int v3), some (.int v4), none, none, none, none, none] [] h
  | 0, _, _, _, _, _, _, hF => by cases hF
  | n + 1, v0, v1, v2, v3, v4, h, hF => by
    rw [F_X9_code_18] at hF
    refine am_iload (pc' := 20) dX9_code_18 rfl rfl ?_
    refine am_aload_n (pc' := 21) dX9_code_20 rfl rfl ?_
    obtain ⟨x1, ex1, hF⟩ := am_bind hF
    refine am_getr (pc' := 24) dX9_code_21 fw_X9_13 ex1 rfl ?_
    refine am_iload_n (pc' := 25) dX9_code_24 rfl rfl ?_
    obtain ⟨x2, ex2, hF⟩ := am_bind hF
    refine am_iald (pc' := 26) dX9_code_25 ex2 rfl ?_
    rcases am_ite hF with ⟨z3, hF⟩ | ⟨z3, hF⟩
    · refine am_icmp_ge_t (pc' := 303) dX9_code_26 rfl z3 ?_
      refine am_aload_n (pc' := 304) dX9_code_303 rfl rfl ?_
      refine am_dup (pc' := 305) dX9_code_304 rfl rfl ?_
      obtain ⟨x4, ex4, hF⟩ := am_bind hF
      refine am_geti (pc' := 308) dX9_code_305 fw_X9_242 ex4 rfl ?_
      refine am_iconst (v := (1 : Int32)) (pc' := 309) dX9_code_308 rfl rfl ?_
      refine am_iadd (pc' := 310) dX9_code_309 rfl ?_
      obtain ⟨h5, eh5, hF⟩ := am_bind hF
      refine am_puti (pc' := 313) dX9_code_310 fx_X9_242 eh5 rfl ?_
      refine am_aload_n (pc' := 314) dX9_code_313 rfl rfl ?_
      refine am_iload_n (pc' := 315) dX9_code_314 rfl rfl ?_
      refine am_sipush (v := (16384 : Int32)) (pc' := 318) dX9_code_315 rfl rfl ?_
      rcases am_ite hF with ⟨z6, hF⟩ | ⟨z6, hF⟩
      · refine am_icmp_ge_t (pc' := 325) dX9_code_318 rfl z6 ?_
        refine am_iconst (v := (1 : Int32)) (pc' := 326) dX9_code_325 rfl rfl ?_
        exact am_weak [false, false, false, false, false, false, false, false, false, false] (w_X9_code_326 v0 (1 : Int32) h5 hF)
      · refine am_icmp_ge_f (pc' := 321) (tgt := 325) dX9_code_318 rfl z6 rfl ?_
        refine am_iconst (v := (0 : Int32)) (pc' := 322) dX9_code_321 rfl rfl ?_
        refine am_goto (pc' := 326) dX9_code_322 rfl ?_
        exact am_weak [false, false, false, false, false, false, false, false, false, false] (w_X9_code_326 v0 (0 : Int32) h5 hF)
    · refine am_icmp_ge_f (pc' := 29) (tgt := 303) dX9_code_26 rfl z3 rfl ?_
      refine am_iconst (v := (1 : Int32)) (pc' := 30) dX9_code_29 rfl rfl ?_
      refine am_istore (ls' := [some (.ref v0), some (.int v1), some (.int v2), some (.int v3), some (.int v4), some (.int (1 : Int32)), none, none, none, none]) (pc' := 32) dX9_code_30 (Nat.le_of_ble_eq_true rfl) rfl rfl ?_
      refine am_iconst (v := (0 : Int32)) (pc' := 33) dX9_code_32 rfl rfl ?_
      refine am_istore (ls' := [some (.ref v0), some (.int v1), some (.int v2), some (.int v3), some (.int v4), some (.int (1 : Int32)), some (.int (0 : Int32)), none, none, none]) (pc' := 35) dX9_code_33 (Nat.le_of_ble_eq_true rfl) rfl rfl ?_
      refine am_bipush (v := (16 : Int32)) (pc' := 37) dX9_code_35 rfl rfl ?_
      refine am_istore (ls' := [some (.ref v0), some (.int v1), some (.int v2), some (.int v3), some (.int v4), some (.int (1 : Int32)), some (.int (0 : Int32)), some (.int (16 : Int32)), none, none]) (pc' := 39) dX9_code_37 (Nat.le_of_ble_eq_true rfl) rfl rfl ?_
      refine am_iconst (v := (1 : Int32)) (pc' := 40) dX9_code_39 rfl rfl ?_
      refine am_istore (ls' := [some (.ref v0), some (.int v1), some (.int v2), some (.int v3), some (.int v4), some (.int (1 : Int32)), some (.int (0 : Int32)), some (.int (16 : Int32)), some (.int (1 : Int32)), none]) (pc' := 42) dX9_code_40 (Nat.le_of_ble_eq_true rfl) rfl rfl ?_
      exact w_X9_code_42 (w_X9_code_18 n) am_F v0 v1 v2 v3 v4 (1 : Int32) (0 : Int32) (16 : Int32) (1 : Int32) h hF
def F_X9_code_b (v0 : Nat) (v1 : Int32) (h : am_H) : Option am_H :=
  (am_pi 9 29 v0 (0 : Int32) h).bind fun h1 =>
  (am_pi 9 30 v0 (0 : Int32) h1).bind fun h2 =>
  F_X9_code_18 am_F v0 v1 (0 : Int32) (65535 : Int32) (0 : Int32) h2
theorem w_X9_code {g : am_G} {l : Launch} {h0 : am_H} {hf : am_H}  (v0 : Nat) (v1 : Int32) (h : am_H) (hF : F_X9_code_b v0 v1 h = some hf) : am_W g l M_X9_code h0 none hf 0 [some (.ref v0), some (.int v1), none, none, none, none, none, none, none, none] [] h := by
  unfold F_X9_code_b at hF
  refine am_aload_n (pc' := 1) dX9_code_0 rfl rfl ?_
  refine am_iconst (v := (0 : Int32)) (pc' := 2) dX9_code_1 rfl rfl ?_
  obtain ⟨h1, eh1, hF⟩ := am_bind hF
  refine am_puti (pc' := 5) dX9_code_2 fx_X9_239 eh1 rfl ?_
  refine am_aload_n (pc' := 6) dX9_code_5 rfl rfl ?_
  refine am_iconst (v := (0 : Int32)) (pc' := 7) dX9_code_6 rfl rfl ?_
  obtain ⟨h2, eh2, hF⟩ := am_bind hF
  refine am_puti (pc' := 10) dX9_code_7 fx_X9_242 eh2 rfl ?_
  refine am_iconst (v := (0 : Int32)) (pc' := 11) dX9_code_10 rfl rfl ?_
  refine am_istore_n (ls' := [some (.ref v0), some (.int v1), some (.int (0 : Int32)), none, none, none, none, none, none, none]) (pc' := 12) dX9_code_11 (Nat.le_of_ble_eq_true rfl) rfl rfl ?_
  refine am_ldc (v := (65535 : Int32)) (pc' := 14) dX9_code_12 wd_5_170 rfl ?_
  refine am_istore_n (ls' := [some (.ref v0), some (.int v1), some (.int (0 : Int32)), some (.int (65535 : Int32)), none, none, none, none, none, none]) (pc' := 15) dX9_code_14 (Nat.le_of_ble_eq_true rfl) rfl rfl ?_
  refine am_iconst (v := (0 : Int32)) (pc' := 16) dX9_code_15 rfl rfl ?_
  refine am_istore (ls' := [some (.ref v0), some (.int v1), some (.int (0 : Int32)), some (.int (65535 : Int32)), some (.int (0 : Int32)), none, none, none, none, none]) (pc' := 18) dX9_code_16 (Nat.le_of_ble_eq_true rfl) rfl rfl ?_
  exact w_X9_code_18 am_F v0 v1 (0 : Int32) (65535 : Int32) (0 : Int32) h2 hF
def F_X9_code (v0 : Nat) (v1 : Int32) (h : am_H) : Option am_H := (am_obj v0 9 h).bind fun _ => F_X9_code_b v0 v1 h
theorem t_X9_code {hf : am_H}  {v0 : Nat} {v1 : Int32} {h : am_H} (hF : F_X9_code v0 v1 h = some hf) : ∃ fs, am_obj v0 9 h = some fs := by
  obtain ⟨fs, e, _⟩ := am_bind hF
  exact ⟨fs, e⟩
theorem c_X9_code {g : am_G} {l : Launch} {hf : am_H}  {v0 : Nat} {v1 : Int32} {h : am_H} (hF : F_X9_code v0 v1 h = some hf) : am_Met g l M_X9_code [.ref v0, .int v1] h none hf := by
  obtain ⟨fs, e0, e⟩ := am_bind hF
  exact am_met (n := 8) (by decide +kernel) rfl (Nat.le_of_ble_eq_true rfl) (w_X9_code v0 v1 h e)
def F_X9_turnedSign_36 (s0 : Int32) (h : am_H) : Option Int32 :=
  some s0
theorem w_X9_turnedSign_36 {g : am_G} {l : Launch} {h0 : am_H} {x : Int32}  (s0 : Int32) (h : am_H) (hF : F_X9_turnedSign_36 s0 h = some x) : am_W g l M_X9_turnedSign h0 (some (.int x)) h 36 [none, none, none, none, none] [.int s0] h := by
  unfold F_X9_turnedSign_36 at hF
  cases hF
  exact am_iret dX9_turnedSign_36 rfl rfl
def F_X9_turnedSign_b (v0 : Nat) (v1 : Int32) (v2 : Int32) (v3 : Int32) (h : am_H) : Option Int32 :=
  (am_gr 9 3 v0 h).bind fun x1 =>
  (am_il 0 x1 v1 h).bind fun x2 =>
  if (x2 + (1 : Int32)) = 0 then none else
  (am_gr 9 3 v0 h).bind fun x4 =>
  (am_il 0 x4 v1 h).bind fun x5 =>
  if ((v2 + v3) - (v2 + v3) / (x2 + (1 : Int32)) * (x2 + (1 : Int32))) = x5 then
    F_X9_turnedSign_36 (-1 : Int32) h
  else
    (F_X9_sign v0 v1 ((v2 + v3) - (v2 + v3) / (x2 + (1 : Int32)) * (x2 + (1 : Int32))) h).bind fun x7 =>
    F_X9_turnedSign_36 x7 h
theorem w_X9_turnedSign {g : am_G} {l : Launch} {h0 : am_H} {x : Int32}  (v0 : Nat) (v1 : Int32) (v2 : Int32) (v3 : Int32) (h : am_H) (hF : F_X9_turnedSign_b v0 v1 v2 v3 h = some x) : am_W g l M_X9_turnedSign h0 (some (.int x)) h 0 [some (.ref v0), some (.int v1), some (.int v2), some (.int v3), none] [] h := by
  unfold F_X9_turnedSign_b at hF
  refine am_iload_n (pc' := 1) dX9_turnedSign_0 rfl rfl ?_
  refine am_iload_n (pc' := 2) dX9_turnedSign_1 rfl rfl ?_
  refine am_iadd (pc' := 3) dX9_turnedSign_2 rfl ?_
  refine am_aload_n (pc' := 4) dX9_turnedSign_3 rfl rfl ?_
  obtain ⟨x1, ex1, hF⟩ := am_bind hF
  refine am_getr (pc' := 7) dX9_turnedSign_4 fw_X9_13 ex1 rfl ?_
  refine am_iload_n (pc' := 8) dX9_turnedSign_7 rfl rfl ?_
  obtain ⟨x2, ex2, hF⟩ := am_bind hF
  refine am_iald (pc' := 9) dX9_turnedSign_8 ex2 rfl ?_
  refine am_iconst (v := (1 : Int32)) (pc' := 10) dX9_turnedSign_9 rfl rfl ?_
  refine am_iadd (pc' := 11) dX9_turnedSign_10 rfl ?_
  rcases am_ite hF with ⟨z3, hF⟩ | ⟨z3, hF⟩
  · cases hF
  refine am_irem (pc' := 12) dX9_turnedSign_11 z3 rfl ?_
  refine am_istore (ls' := [some (.ref v0), some (.int v1), some (.int v2), some (.int v3), some (.int ((v2 + v3) - (v2 + v3) / (x2 + (1 : Int32)) * (x2 + (1 : Int32))))]) (pc' := 14) dX9_turnedSign_12 (Nat.le_of_ble_eq_true rfl) rfl rfl ?_
  refine am_iload (pc' := 16) dX9_turnedSign_14 rfl rfl ?_
  refine am_aload_n (pc' := 17) dX9_turnedSign_16 rfl rfl ?_
  obtain ⟨x4, ex4, hF⟩ := am_bind hF
  refine am_getr (pc' := 20) dX9_turnedSign_17 fw_X9_13 ex4 rfl ?_
  refine am_iload_n (pc' := 21) dX9_turnedSign_20 rfl rfl ?_
  obtain ⟨x5, ex5, hF⟩ := am_bind hF
  refine am_iald (pc' := 22) dX9_turnedSign_21 ex5 rfl ?_
  rcases am_ite hF with ⟨z6, hF⟩ | ⟨z6, hF⟩
  · refine am_icmp_ne_f (pc' := 25) (tgt := 29) dX9_turnedSign_22 rfl z6 rfl ?_
    refine am_iconst (v := (-1 : Int32)) (pc' := 26) dX9_turnedSign_25 rfl rfl ?_
    refine am_goto (pc' := 36) dX9_turnedSign_26 rfl ?_
    exact am_weak [false, false, false, false, false] (w_X9_turnedSign_36 (-1 : Int32) h hF)
  · refine am_icmp_ne_t (pc' := 29) dX9_turnedSign_22 rfl z6 ?_
    refine am_aload_n (pc' := 30) dX9_turnedSign_29 rfl rfl ?_
    refine am_iload_n (pc' := 31) dX9_turnedSign_30 rfl rfl ?_
    refine am_iload (pc' := 33) dX9_turnedSign_31 rfl rfl ?_
    obtain ⟨x7, ex7, hF⟩ := am_bind hF
    obtain ⟨ox7, px7⟩ := t_X9_sign ex7
    refine am_callV1 (Mc := M_X9_sign) (As := [.int v1, .int ((v2 + v3) - (v2 + v3) / (x2 + (1 : Int32)) * (x2 + (1 : Int32)))]) (st := []) (pc' := 36) dX9_turnedSign_33 cw_X9_113 wd_5_21 sl_X9_sign ⟨_, rfl, rfl⟩ (by decide) (by decide) rfl rfl (Nat.le_of_ble_eq_true rfl) px7 (c_X9_sign ex7) rfl ?_
    exact am_weak [false, false, false, false, false] (w_X9_turnedSign_36 x7 h hF)
def F_X9_turnedSign (v0 : Nat) (v1 : Int32) (v2 : Int32) (v3 : Int32) (h : am_H) : Option Int32 := (am_obj v0 9 h).bind fun _ => F_X9_turnedSign_b v0 v1 v2 v3 h
theorem t_X9_turnedSign {x : Int32}  {v0 : Nat} {v1 : Int32} {v2 : Int32} {v3 : Int32} {h : am_H} (hF : F_X9_turnedSign v0 v1 v2 v3 h = some x) : ∃ fs, am_obj v0 9 h = some fs := by
  obtain ⟨fs, e, _⟩ := am_bind hF
  exact ⟨fs, e⟩
theorem c_X9_turnedSign {g : am_G} {l : Launch} {x : Int32}  {v0 : Nat} {v1 : Int32} {v2 : Int32} {v3 : Int32} {h : am_H} (hF : F_X9_turnedSign v0 v1 v2 v3 h = some x) : am_Met g l M_X9_turnedSign [.ref v0, .int v1, .int v2, .int v3] h (some (.int x)) h := by
  obtain ⟨fs, e0, e⟩ := am_bind hF
  exact am_met (n := 1) (by decide +kernel) rfl (Nat.le_of_ble_eq_true rfl) (w_X9_turnedSign v0 v1 v2 v3 h e)
theorem cw_X9_254 : am_cw "SignCellarModel" 254 M_X9_turnedSign 3 := ⟨wd_1_9, wd_5_193, ⟨by decide, by decide, by decide⟩, Or.inl wd_5_190⟩
theorem sl_X9_turnedSign : Cond.selects (⟨"SignCellarModel", "turnedSign", "(III)I"⟩ : MethodName).cls ⟨"SignCellarModel", "turnedSign", "(III)I"⟩ ⟨"SignCellarModel", "turnedSign", "(III)I"⟩ ∈ am_ts := am_in_p (q := (⟨"SignCellarModel", "turnedSign", "(III)I"⟩, 42)) (by decide +kernel)
def F_X9_isBefore_52 (s0 : Int32) (h : am_H) : Option Int32 :=
  am_z s0
theorem w_X9_isBefore_52 {g : am_G} {l : Launch} {h0 : am_H} {x : Int32}  (s0 : Int32) (h : am_H) (hF : F_X9_isBefore_52 s0 h = some x) : am_W g l M_X9_isBefore h0 (some (.int x)) h 52 [none, none, none, none, none] [.int s0] h := by
  unfold F_X9_isBefore_52 at hF
  exact am_zret dX9_isBefore_52 rfl hF
def F_X9_isBefore_3 : Nat → Nat → Int32 → Int32 → Int32 → Int32 → am_H → Option Int32
  | 0, _, _, _, _, _, _ => none
  | n + 1, v0, v1, v2, v3, v4, h =>
  (F_X9_turnedSign v0 v1 v2 v4 h).bind fun x1 =>
  (F_X9_turnedSign v0 v1 v3 v4 h).bind fun x2 =>
  if x1 = x2 then
    F_X9_isBefore_3 n v0 v1 v2 v3 (v4 + (1 : Int32)) h
  else
    (F_X9_turnedSign v0 v1 v2 v4 h).bind fun x4 =>
    (F_X9_turnedSign v0 v1 v3 v4 h).bind fun x5 =>
    if x5 ≤ x4 then
      F_X9_isBefore_52 (0 : Int32) h
    else
      F_X9_isBefore_52 (1 : Int32) h
theorem w_X9_isBefore_3 {g : am_G} {l : Launch} {h0 : am_H} {x : Int32}  : ∀ (n : Nat) (v0 : Nat) (v1 : Int32) (v2 : Int32) (v3 : Int32) (v4 : Int32) (h : am_H), F_X9_isBefore_3 n v0 v1 v2 v3 v4 h = some x → am_W g l M_X9_isBefore h0 (some (.int x)) h 3 [some (.ref v0), some (.int v1), some (.int v2), some (.int v3), some (.int v4)] [] h
  | 0, _, _, _, _, _, _, hF => by cases hF
  | n + 1, v0, v1, v2, v3, v4, h, hF => by
    rw [F_X9_isBefore_3] at hF
    refine am_aload_n (pc' := 4) dX9_isBefore_3 rfl rfl ?_
    refine am_iload_n (pc' := 5) dX9_isBefore_4 rfl rfl ?_
    refine am_iload_n (pc' := 6) dX9_isBefore_5 rfl rfl ?_
    refine am_iload (pc' := 8) dX9_isBefore_6 rfl rfl ?_
    obtain ⟨x1, ex1, hF⟩ := am_bind hF
    obtain ⟨ox1, px1⟩ := t_X9_turnedSign ex1
    refine am_callV1 (Mc := M_X9_turnedSign) (As := [.int v1, .int v2, .int v4]) (st := []) (pc' := 11) dX9_isBefore_8 cw_X9_254 wd_5_192 sl_X9_turnedSign ⟨_, rfl, rfl⟩ (by decide) (by decide) rfl rfl (Nat.le_of_ble_eq_true rfl) px1 (c_X9_turnedSign ex1) rfl ?_
    refine am_aload_n (pc' := 12) dX9_isBefore_11 rfl rfl ?_
    refine am_iload_n (pc' := 13) dX9_isBefore_12 rfl rfl ?_
    refine am_iload_n (pc' := 14) dX9_isBefore_13 rfl rfl ?_
    refine am_iload (pc' := 16) dX9_isBefore_14 rfl rfl ?_
    obtain ⟨x2, ex2, hF⟩ := am_bind hF
    obtain ⟨ox2, px2⟩ := t_X9_turnedSign ex2
    refine am_callV1 (Mc := M_X9_turnedSign) (As := [.int v1, .int v3, .int v4]) (st := [.int x1]) (pc' := 19) dX9_isBefore_16 cw_X9_254 wd_5_192 sl_X9_turnedSign ⟨_, rfl, rfl⟩ (by decide) (by decide) rfl rfl (Nat.le_of_ble_eq_true rfl) px2 (c_X9_turnedSign ex2) rfl ?_
    rcases am_ite hF with ⟨z3, hF⟩ | ⟨z3, hF⟩
    · refine am_icmp_ne_f (pc' := 22) (tgt := 28) dX9_isBefore_19 rfl z3 rfl ?_
      refine am_iinc (ls' := [some (.ref v0), some (.int v1), some (.int v2), some (.int v3), some (.int (v4 + (1 : Int32)))]) (pc' := 25) (v := (v4 + (1 : Int32))) dX9_isBefore_22 rfl rfl (Nat.le_of_ble_eq_true rfl) rfl rfl ?_
      refine am_goto (pc' := 3) dX9_isBefore_25 rfl ?_
      exact w_X9_isBefore_3 n v0 v1 v2 v3 (v4 + (1 : Int32)) h hF
    · refine am_icmp_ne_t (pc' := 28) dX9_isBefore_19 rfl z3 ?_
      refine am_aload_n (pc' := 29) dX9_isBefore_28 rfl rfl ?_
      refine am_iload_n (pc' := 30) dX9_isBefore_29 rfl rfl ?_
      refine am_iload_n (pc' := 31) dX9_isBefore_30 rfl rfl ?_
      refine am_iload (pc' := 33) dX9_isBefore_31 rfl rfl ?_
      obtain ⟨x4, ex4, hF⟩ := am_bind hF
      obtain ⟨ox4, px4⟩ := t_X9_turnedSign ex4
      refine am_callV1 (Mc := M_X9_turnedSign) (As := [.int v1, .int v2, .int v4]) (st := []) (pc' := 36) dX9_isBefore_33 cw_X9_254 wd_5_192 sl_X9_turnedSign ⟨_, rfl, rfl⟩ (by decide) (by decide) rfl rfl (Nat.le_of_ble_eq_true rfl) px4 (c_X9_turnedSign ex4) rfl ?_
      refine am_aload_n (pc' := 37) dX9_isBefore_36 rfl rfl ?_
      refine am_iload_n (pc' := 38) dX9_isBefore_37 rfl rfl ?_
      refine am_iload_n (pc' := 39) dX9_isBefore_38 rfl rfl ?_
      refine am_iload (pc' := 41) dX9_isBefore_39 rfl rfl ?_
      obtain ⟨x5, ex5, hF⟩ := am_bind hF
      obtain ⟨ox5, px5⟩ := t_X9_turnedSign ex5
      refine am_callV1 (Mc := M_X9_turnedSign) (As := [.int v1, .int v3, .int v4]) (st := [.int x4]) (pc' := 44) dX9_isBefore_41 cw_X9_254 wd_5_192 sl_X9_turnedSign ⟨_, rfl, rfl⟩ (by decide) (by decide) rfl rfl (Nat.le_of_ble_eq_true rfl) px5 (c_X9_turnedSign ex5) rfl ?_
      rcases am_ite hF with ⟨z6, hF⟩ | ⟨z6, hF⟩
      · refine am_icmp_ge_t (pc' := 51) dX9_isBefore_44 rfl z6 ?_
        refine am_iconst (v := (0 : Int32)) (pc' := 52) dX9_isBefore_51 rfl rfl ?_
        exact am_weak [false, false, false, false, false] (w_X9_isBefore_52 (0 : Int32) h hF)
      · refine am_icmp_ge_f (pc' := 47) (tgt := 51) dX9_isBefore_44 rfl z6 rfl ?_
        refine am_iconst (v := (1 : Int32)) (pc' := 48) dX9_isBefore_47 rfl rfl ?_
        refine am_goto (pc' := 52) dX9_isBefore_48 rfl ?_
        exact am_weak [false, false, false, false, false] (w_X9_isBefore_52 (1 : Int32) h hF)
def F_X9_isBefore_b (v0 : Nat) (v1 : Int32) (v2 : Int32) (v3 : Int32) (h : am_H) : Option Int32 :=
  F_X9_isBefore_3 am_F v0 v1 v2 v3 (0 : Int32) h
theorem w_X9_isBefore {g : am_G} {l : Launch} {h0 : am_H} {x : Int32}  (v0 : Nat) (v1 : Int32) (v2 : Int32) (v3 : Int32) (h : am_H) (hF : F_X9_isBefore_b v0 v1 v2 v3 h = some x) : am_W g l M_X9_isBefore h0 (some (.int x)) h 0 [some (.ref v0), some (.int v1), some (.int v2), some (.int v3), none] [] h := by
  unfold F_X9_isBefore_b at hF
  refine am_iconst (v := (0 : Int32)) (pc' := 1) dX9_isBefore_0 rfl rfl ?_
  refine am_istore (ls' := [some (.ref v0), some (.int v1), some (.int v2), some (.int v3), some (.int (0 : Int32))]) (pc' := 3) dX9_isBefore_1 (Nat.le_of_ble_eq_true rfl) rfl rfl ?_
  exact w_X9_isBefore_3 am_F v0 v1 v2 v3 (0 : Int32) h hF
def F_X9_isBefore (v0 : Nat) (v1 : Int32) (v2 : Int32) (v3 : Int32) (h : am_H) : Option Int32 := (am_obj v0 9 h).bind fun _ => F_X9_isBefore_b v0 v1 v2 v3 h
theorem t_X9_isBefore {x : Int32}  {v0 : Nat} {v1 : Int32} {v2 : Int32} {v3 : Int32} {h : am_H} (hF : F_X9_isBefore v0 v1 v2 v3 h = some x) : ∃ fs, am_obj v0 9 h = some fs := by
  obtain ⟨fs, e, _⟩ := am_bind hF
  exact ⟨fs, e⟩
theorem c_X9_isBefore {g : am_G} {l : Launch} {x : Int32}  {v0 : Nat} {v1 : Int32} {v2 : Int32} {v3 : Int32} {h : am_H} (hF : F_X9_isBefore v0 v1 v2 v3 h = some x) : am_Met g l M_X9_isBefore [.ref v0, .int v1, .int v2, .int v3] h (some (.int x)) h := by
  obtain ⟨fs, e0, e⟩ := am_bind hF
  exact am_met (n := 1) (by decide +kernel) rfl (Nat.le_of_ble_eq_true rfl) (w_X9_isBefore v0 v1 v2 v3 h e)
