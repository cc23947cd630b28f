abbrev M_X9_findTurns : am_M := ((⟨"SignCellarModel", "findTurns", "(I)V"⟩ : MethodName), prog_11_method_50_code, 8, none, 3, 70)
theorem dX9_findTurns_0 : decode prog_11_method_50_code 0 = .ok (.aload_n 0, 1) := by decide +kernel
theorem dX9_findTurns_1 : decode prog_11_method_50_code 1 = .ok (.getfield 13, 3) := by decide +kernel
theorem dX9_findTurns_4 : decode prog_11_method_50_code 4 = .ok (.iload_n 1, 1) := by decide +kernel
theorem dX9_findTurns_5 : decode prog_11_method_50_code 5 = .ok (.iaload, 1) := by decide +kernel
theorem dX9_findTurns_6 : decode prog_11_method_50_code 6 = .ok (.iconst 1, 1) := by decide +kernel
theorem dX9_findTurns_7 : decode prog_11_method_50_code 7 = .ok (.iadd, 1) := by decide +kernel
theorem dX9_findTurns_8 : decode prog_11_method_50_code 8 = .ok (.istore_n 2, 1) := by decide +kernel
theorem dX9_findTurns_9 : decode prog_11_method_50_code 9 = .ok (.iconst 0, 1) := by decide +kernel
theorem dX9_findTurns_10 : decode prog_11_method_50_code 10 = .ok (.istore_n 3, 1) := by decide +kernel
theorem dX9_findTurns_11 : decode prog_11_method_50_code 11 = .ok (.iload_n 3, 1) := by decide +kernel
theorem dX9_findTurns_12 : decode prog_11_method_50_code 12 = .ok (.iload_n 2, 1) := by decide +kernel
theorem dX9_findTurns_13 : decode prog_11_method_50_code 13 = .ok (.if_icmp .ge 65, 3) := by decide +kernel
theorem dX9_findTurns_16 : decode prog_11_method_50_code 16 = .ok (.iload_n 3, 1) := by decide +kernel
theorem dX9_findTurns_17 : decode prog_11_method_50_code 17 = .ok (.istore 4, 2) := by decide +kernel
theorem dX9_findTurns_19 : decode prog_11_method_50_code 19 = .ok (.iload 4, 2) := by decide +kernel
theorem dX9_findTurns_21 : decode prog_11_method_50_code 21 = .ok (.ifCond .le 43, 3) := by decide +kernel
theorem dX9_findTurns_24 : decode prog_11_method_50_code 24 = .ok (.aload_n 0, 1) := by decide +kernel
theorem dX9_findTurns_25 : decode prog_11_method_50_code 25 = .ok (.iload_n 1, 1) := by decide +kernel
theorem dX9_findTurns_26 : decode prog_11_method_50_code 26 = .ok (.iload_n 3, 1) := by decide +kernel
theorem dX9_findTurns_27 : decode prog_11_method_50_code 27 = .ok (.aload_n 0, 1) := by decide +kernel
theorem dX9_findTurns_28 : decode prog_11_method_50_code 28 = .ok (.getfield 65, 3) := by decide +kernel
theorem dX9_findTurns_31 : decode prog_11_method_50_code 31 = .ok (.iload 4, 2) := by decide +kernel
theorem dX9_findTurns_33 : decode prog_11_method_50_code 33 = .ok (.iconst 1, 1) := by decide +kernel
theorem dX9_findTurns_34 : decode prog_11_method_50_code 34 = .ok (.isub, 1) := by decide +kernel
theorem dX9_findTurns_35 : decode prog_11_method_50_code 35 = .ok (.iaload, 1) := by decide +kernel
theorem dX9_findTurns_36 : decode prog_11_method_50_code 36 = .ok (.invokevirtual 258, 3) := by decide +kernel
theorem dX9_findTurns_39 : decode prog_11_method_50_code 39 = .ok (.ifCond .eq 25, 3) := by decide +kernel
theorem dX9_findTurns_42 : decode prog_11_method_50_code 42 = .ok (.aload_n 0, 1) := by decide +kernel
theorem dX9_findTurns_43 : decode prog_11_method_50_code 43 = .ok (.getfield 65, 3) := by decide +kernel
theorem dX9_findTurns_46 : decode prog_11_method_50_code 46 = .ok (.iload 4, 2) := by decide +kernel
theorem dX9_findTurns_48 : decode prog_11_method_50_code 48 = .ok (.aload_n 0, 1) := by decide +kernel
theorem dX9_findTurns_49 : decode prog_11_method_50_code 49 = .ok (.getfield 65, 3) := by decide +kernel
theorem dX9_findTurns_52 : decode prog_11_method_50_code 52 = .ok (.iload 4, 2) := by decide +kernel
theorem dX9_findTurns_54 : decode prog_11_method_50_code 54 = .ok (.iconst 1, 1) := by decide +kernel
theorem dX9_findTurns_55 : decode prog_11_method_50_code 55 = .ok (.isub, 1) := by decide +kernel
theorem dX9_findTurns_56 : decode prog_11_method_50_code 56 = .ok (.iaload, 1) := by decide +kernel
theorem dX9_findTurns_57 : decode prog_11_method_50_code 57 = .ok (.iastore, 1) := by decide +kernel
theorem dX9_findTurns_58 : decode prog_11_method_50_code 58 = .ok (.iinc 4 (-1), 3) := by decide +kernel
theorem dX9_findTurns_61 : decode prog_11_method_50_code 61 = .ok (.goto (-42), 3) := by decide +kernel
theorem dX9_findTurns_64 : decode prog_11_method_50_code 64 = .ok (.aload_n 0, 1) := by decide +kernel
theorem dX9_findTurns_65 : decode prog_11_method_50_code 65 = .ok (.getfield 65, 3) := by decide +kernel
theorem dX9_findTurns_68 : decode prog_11_method_50_code 68 = .ok (.iload 4, 2) := by decide +kernel
theorem dX9_findTurns_70 : decode prog_11_method_50_code 70 = .ok (.iload_n 3, 1) := by decide +kernel
theorem dX9_findTurns_71 : decode prog_11_method_50_code 71 = .ok (.iastore, 1) := by decide +kernel
theorem dX9_findTurns_72 : decode prog_11_method_50_code 72 = .ok (.iinc 3 1, 3) := by decide +kernel
theorem dX9_findTurns_75 : decode prog_11_method_50_code 75 = .ok (.goto (-64), 3) := by decide +kernel
theorem dX9_findTurns_78 : decode prog_11_method_50_code 78 = .ok (.iconst 0, 1) := by decide +kernel
theorem dX9_findTurns_79 : decode prog_11_method_50_code 79 = .ok (.istore_n 3, 1) := by decide +kernel
theorem dX9_findTurns_80 : decode prog_11_method_50_code 80 = .ok (.iload_n 3, 1) := by decide +kernel
theorem dX9_findTurns_81 : decode prog_11_method_50_code 81 = .ok (.bipush 16, 2) := by decide +kernel
theorem dX9_findTurns_83 : decode prog_11_method_50_code 83 = .ok (.if_icmp .ge 16, 3) := by decide +kernel
theorem dX9_findTurns_86 : decode prog_11_method_50_code 86 = .ok (.aload_n 0, 1) := by decide +kernel
theorem dX9_findTurns_87 : decode prog_11_method_50_code 87 = .ok (.getfield 74, 3) := by decide +kernel
theorem dX9_findTurns_90 : decode prog_11_method_50_code 90 = .ok (.iload_n 3, 1) := by decide +kernel
theorem dX9_findTurns_91 : decode prog_11_method_50_code 91 = .ok (.iload_n 3, 1) := by decide +kernel
theorem dX9_findTurns_92 : decode prog_11_method_50_code 92 = .ok (.iastore, 1) := by decide +kernel
theorem dX9_findTurns_93 : decode prog_11_method_50_code 93 = .ok (.iinc 3 1, 3) := by decide +kernel
theorem dX9_findTurns_96 : decode prog_11_method_50_code 96 = .ok (.goto (-16), 3) := by decide +kernel
theorem dX9_findTurns_99 : decode prog_11_method_50_code 99 = .ok (.iconst 0, 1) := by decide +kernel
theorem dX9_findTurns_100 : decode prog_11_method_50_code 100 = .ok (.istore_n 3, 1) := by decide +kernel
theorem dX9_findTurns_101 : decode prog_11_method_50_code 101 = .ok (.iconst 0, 1) := by decide +kernel
theorem dX9_findTurns_102 : decode prog_11_method_50_code 102 = .ok (.istore 4, 2) := by decide +kernel
theorem dX9_findTurns_104 : decode prog_11_method_50_code 104 = .ok (.iload 4, 2) := by decide +kernel
theorem dX9_findTurns_106 : decode prog_11_method_50_code 106 = .ok (.iload_n 2, 1) := by decide +kernel
theorem dX9_findTurns_107 : decode prog_11_method_50_code 107 = .ok (.if_icmp .ge 120, 3) := by decide +kernel
theorem dX9_findTurns_110 : decode prog_11_method_50_code 110 = .ok (.aload_n 0, 1) := by decide +kernel
theorem dX9_findTurns_111 : decode prog_11_method_50_code 111 = .ok (.iload_n 1, 1) := by decide +kernel
theorem dX9_findTurns_112 : decode prog_11_method_50_code 112 = .ok (.aload_n 0, 1) := by decide +kernel
theorem dX9_findTurns_113 : decode prog_11_method_50_code 113 = .ok (.getfield 65, 3) := by decide +kernel
theorem dX9_findTurns_116 : decode prog_11_method_50_code 116 = .ok (.iload 4, 2) := by decide +kernel
theorem dX9_findTurns_118 : decode prog_11_method_50_code 118 = .ok (.iaload, 1) := by decide +kernel
theorem dX9_findTurns_119 : decode prog_11_method_50_code 119 = .ok (.iload_n 2, 1) := by decide +kernel
theorem dX9_findTurns_120 : decode prog_11_method_50_code 120 = .ok (.iconst 1, 1) := by decide +kernel
theorem dX9_findTurns_121 : decode prog_11_method_50_code 121 = .ok (.isub, 1) := by decide +kernel
theorem dX9_findTurns_122 : decode prog_11_method_50_code 122 = .ok (.invokevirtual 254, 3) := by decide +kernel
theorem dX9_findTurns_125 : decode prog_11_method_50_code 125 = .ok (.istore 5, 2) := by decide +kernel
theorem dX9_findTurns_127 : decode prog_11_method_50_code 127 = .ok (.iload 5, 2) := by decide +kernel
theorem dX9_findTurns_129 : decode prog_11_method_50_code 129 = .ok (.iconst (-1), 1) := by decide +kernel
theorem dX9_findTurns_130 : decode prog_11_method_50_code 130 = .ok (.if_icmp .ne 12, 3) := by decide +kernel
theorem dX9_findTurns_133 : decode prog_11_method_50_code 133 = .ok (.aload_n 0, 1) := by decide +kernel
theorem dX9_findTurns_134 : decode prog_11_method_50_code 134 = .ok (.iload 4, 2) := by decide +kernel
theorem dX9_findTurns_136 : decode prog_11_method_50_code 136 = .ok (.putfield 261, 3) := by decide +kernel
theorem dX9_findTurns_139 : decode prog_11_method_50_code 139 = .ok (.goto 82, 3) := by decide +kernel
theorem dX9_findTurns_142 : decode prog_11_method_50_code 142 = .ok (.iconst 0, 1) := by decide +kernel
theorem dX9_findTurns_143 : decode prog_11_method_50_code 143 = .ok (.istore 6, 2) := by decide +kernel
theorem dX9_findTurns_145 : decode prog_11_method_50_code 145 = .ok (.aload_n 0, 1) := by decide +kernel
theorem dX9_findTurns_146 : decode prog_11_method_50_code 146 = .ok (.getfield 74, 3) := by decide +kernel
theorem dX9_findTurns_149 : decode prog_11_method_50_code 149 = .ok (.iload 6, 2) := by decide +kernel
theorem dX9_findTurns_151 : decode prog_11_method_50_code 151 = .ok (.iaload, 1) := by decide +kernel
theorem dX9_findTurns_152 : decode prog_11_method_50_code 152 = .ok (.iload 5, 2) := by decide +kernel
theorem dX9_findTurns_154 : decode prog_11_method_50_code 154 = .ok (.if_icmp .eq 9, 3) := by decide +kernel
theorem dX9_findTurns_157 : decode prog_11_method_50_code 157 = .ok (.iinc 6 1, 3) := by decide +kernel
theorem dX9_findTurns_160 : decode prog_11_method_50_code 160 = .ok (.goto (-15), 3) := by decide +kernel
theorem dX9_findTurns_163 : decode prog_11_method_50_code 163 = .ok (.aload_n 0, 1) := by decide +kernel
theorem dX9_findTurns_164 : decode prog_11_method_50_code 164 = .ok (.getfield 68, 3) := by decide +kernel
theorem dX9_findTurns_167 : decode prog_11_method_50_code 167 = .ok (.iload_n 3, 1) := by decide +kernel
theorem dX9_findTurns_168 : decode prog_11_method_50_code 168 = .ok (.iload 5, 2) := by decide +kernel
theorem dX9_findTurns_170 : decode prog_11_method_50_code 170 = .ok (.iastore, 1) := by decide +kernel
theorem dX9_findTurns_171 : decode prog_11_method_50_code 171 = .ok (.aload_n 0, 1) := by decide +kernel
theorem dX9_findTurns_172 : decode prog_11_method_50_code 172 = .ok (.getfield 71, 3) := by decide +kernel
theorem dX9_findTurns_175 : decode prog_11_method_50_code 175 = .ok (.iload_n 3, 1) := by decide +kernel
theorem dX9_findTurns_176 : decode prog_11_method_50_code 176 = .ok (.iload 6, 2) := by decide +kernel
theorem dX9_findTurns_178 : decode prog_11_method_50_code 178 = .ok (.iastore, 1) := by decide +kernel
theorem dX9_findTurns_179 : decode prog_11_method_50_code 179 = .ok (.iinc 3 1, 3) := by decide +kernel
theorem dX9_findTurns_182 : decode prog_11_method_50_code 182 = .ok (.iload 6, 2) := by decide +kernel
theorem dX9_findTurns_184 : decode prog_11_method_50_code 184 = .ok (.istore 7, 2) := by decide +kernel
theorem dX9_findTurns_186 : decode prog_11_method_50_code 186 = .ok (.iload 7, 2) := by decide +kernel
theorem dX9_findTurns_188 : decode prog_11_method_50_code 188 = .ok (.ifCond .le 25, 3) := by decide +kernel
theorem dX9_findTurns_191 : decode prog_11_method_50_code 191 = .ok (.aload_n 0, 1) := by decide +kernel
theorem dX9_findTurns_192 : decode prog_11_method_50_code 192 = .ok (.getfield 74, 3) := by decide +kernel
theorem dX9_findTurns_195 : decode prog_11_method_50_code 195 = .ok (.iload 7, 2) := by decide +kernel
theorem dX9_findTurns_197 : decode prog_11_method_50_code 197 = .ok (.aload_n 0, 1) := by decide +kernel
theorem dX9_findTurns_198 : decode prog_11_method_50_code 198 = .ok (.getfield 74, 3) := by decide +kernel
theorem dX9_findTurns_201 : decode prog_11_method_50_code 201 = .ok (.iload 7, 2) := by decide +kernel
theorem dX9_findTurns_203 : decode prog_11_method_50_code 203 = .ok (.iconst 1, 1) := by decide +kernel
theorem dX9_findTurns_204 : decode prog_11_method_50_code 204 = .ok (.isub, 1) := by decide +kernel
theorem dX9_findTurns_205 : decode prog_11_method_50_code 205 = .ok (.iaload, 1) := by decide +kernel
theorem dX9_findTurns_206 : decode prog_11_method_50_code 206 = .ok (.iastore, 1) := by decide +kernel
theorem dX9_findTurns_207 : decode prog_11_method_50_code 207 = .ok (.iinc 7 (-1), 3) := by decide +kernel
theorem dX9_findTurns_210 : decode prog_11_method_50_code 210 = .ok (.goto (-24), 3) := by decide +kernel
theorem dX9_findTurns_213 : decode prog_11_method_50_code 213 = .ok (.aload_n 0, 1) := by decide +kernel
theorem dX9_findTurns_214 : decode prog_11_method_50_code 214 = .ok (.getfield 74, 3) := by decide +kernel
theorem dX9_findTurns_217 : decode prog_11_method_50_code 217 = .ok (.iconst 0, 1) := by decide +kernel
theorem dX9_findTurns_218 : decode prog_11_method_50_code 218 = .ok (.iload 5, 2) := by decide +kernel
theorem dX9_findTurns_220 : decode prog_11_method_50_code 220 = .ok (.iastore, 1) := by decide +kernel
theorem dX9_findTurns_221 : decode prog_11_method_50_code 221 = .ok (.iinc 4 1, 3) := by decide +kernel
theorem dX9_findTurns_224 : decode prog_11_method_50_code 224 = .ok (.goto (-120), 3) := by decide +kernel
theorem dX9_findTurns_227 : decode prog_11_method_50_code 227 = .ok (.return_, 1) := by decide +kernel
abbrev M_X9_sizeBy : am_M := ((⟨"SignCellarModel", "sizeBy", "(II)I"⟩ : MethodName), prog_11_method_52_code, 6, (some .int), 4, 99)
theorem dX9_sizeBy_0 : decode prog_11_method_52_code 0 = .ok (.iconst 0, 1) := by decide +kernel
theorem dX9_sizeBy_1 : decode prog_11_method_52_code 1 = .ok (.istore_n 3, 1) := by decide +kernel
theorem dX9_sizeBy_2 : decode prog_11_method_52_code 2 = .ok (.iload_n 2, 1) := by decide +kernel
theorem dX9_sizeBy_3 : decode prog_11_method_52_code 3 = .ok (.tableswitch 120 0 3 #[29, 38, 50, 110], 29) := by decide +kernel
theorem dX9_sizeBy_32 : decode prog_11_method_52_code 32 = .ok (.iconst 4, 1) := by decide +kernel
theorem dX9_sizeBy_33 : decode prog_11_method_52_code 33 = .ok (.aload_n 0, 1) := by decide +kernel
theorem dX9_sizeBy_34 : decode prog_11_method_52_code 34 = .ok (.getfield 13, 3) := by decide +kernel
theorem dX9_sizeBy_37 : decode prog_11_method_52_code 37 = .ok (.iload_n 1, 1) := by decide +kernel
theorem dX9_sizeBy_38 : decode prog_11_method_52_code 38 = .ok (.iaload, 1) := by decide +kernel
theorem dX9_sizeBy_39 : decode prog_11_method_52_code 39 = .ok (.imul, 1) := by decide +kernel
theorem dX9_sizeBy_40 : decode prog_11_method_52_code 40 = .ok (.ireturn, 1) := by decide +kernel
theorem dX9_sizeBy_41 : decode prog_11_method_52_code 41 = .ok (.aload_n 0, 1) := by decide +kernel
theorem dX9_sizeBy_42 : decode prog_11_method_52_code 42 = .ok (.iload_n 1, 1) := by decide +kernel
theorem dX9_sizeBy_43 : decode prog_11_method_52_code 43 = .ok (.invokevirtual 204, 3) := by decide +kernel
theorem dX9_sizeBy_46 : decode prog_11_method_52_code 46 = .ok (.aload_n 0, 1) := by decide +kernel
theorem dX9_sizeBy_47 : decode prog_11_method_52_code 47 = .ok (.getfield 47, 3) := by decide +kernel
theorem dX9_sizeBy_50 : decode prog_11_method_52_code 50 = .ok (.iconst 0, 1) := by decide +kernel
theorem dX9_sizeBy_51 : decode prog_11_method_52_code 51 = .ok (.iaload, 1) := by decide +kernel
theorem dX9_sizeBy_52 : decode prog_11_method_52_code 52 = .ok (.ireturn, 1) := by decide +kernel
theorem dX9_sizeBy_53 : decode prog_11_method_52_code 53 = .ok (.aload_n 0, 1) := by decide +kernel
theorem dX9_sizeBy_54 : decode prog_11_method_52_code 54 = .ok (.iload_n 1, 1) := by decide +kernel
theorem dX9_sizeBy_55 : decode prog_11_method_52_code 55 = .ok (.invokevirtual 232, 3) := by decide +kernel
theorem dX9_sizeBy_58 : decode prog_11_method_52_code 58 = .ok (.iconst 5, 1) := by decide +kernel
theorem dX9_sizeBy_59 : decode prog_11_method_52_code 59 = .ok (.aload_n 0, 1) := by decide +kernel
theorem dX9_sizeBy_60 : decode prog_11_method_52_code 60 = .ok (.getfield 207, 3) := by decide +kernel
theorem dX9_sizeBy_63 : decode prog_11_method_52_code 63 = .ok (.imul, 1) := by decide +kernel
theorem dX9_sizeBy_64 : decode prog_11_method_52_code 64 = .ok (.istore_n 3, 1) := by decide +kernel
theorem dX9_sizeBy_65 : decode prog_11_method_52_code 65 = .ok (.iconst 0, 1) := by decide +kernel
theorem dX9_sizeBy_66 : decode prog_11_method_52_code 66 = .ok (.istore 4, 2) := by decide +kernel
theorem dX9_sizeBy_68 : decode prog_11_method_52_code 68 = .ok (.iload 4, 2) := by decide +kernel
theorem dX9_sizeBy_70 : decode prog_11_method_52_code 70 = .ok (.aload_n 0, 1) := by decide +kernel
theorem dX9_sizeBy_71 : decode prog_11_method_52_code 71 = .ok (.getfield 210, 3) := by decide +kernel
theorem dX9_sizeBy_74 : decode prog_11_method_52_code 74 = .ok (.if_icmp .ge 37, 3) := by decide +kernel
theorem dX9_sizeBy_77 : decode prog_11_method_52_code 77 = .ok (.iload_n 3, 1) := by decide +kernel
theorem dX9_sizeBy_78 : decode prog_11_method_52_code 78 = .ok (.aload_n 0, 1) := by decide +kernel
theorem dX9_sizeBy_79 : decode prog_11_method_52_code 79 = .ok (.getfield 56, 3) := by decide +kernel
theorem dX9_sizeBy_82 : decode prog_11_method_52_code 82 = .ok (.iload 4, 2) := by decide +kernel
theorem dX9_sizeBy_84 : decode prog_11_method_52_code 84 = .ok (.iaload, 1) := by decide +kernel
theorem dX9_sizeBy_85 : decode prog_11_method_52_code 85 = .ok (.ifCond .le 17, 3) := by decide +kernel
theorem dX9_sizeBy_88 : decode prog_11_method_52_code 88 = .ok (.iconst 5, 1) := by decide +kernel
theorem dX9_sizeBy_89 : decode prog_11_method_52_code 89 = .ok (.aload_n 0, 1) := by decide +kernel
theorem dX9_sizeBy_90 : decode prog_11_method_52_code 90 = .ok (.getfield 56, 3) := by decide +kernel
theorem dX9_sizeBy_93 : decode prog_11_method_52_code 93 = .ok (.iload 4, 2) := by decide +kernel
theorem dX9_sizeBy_95 : decode prog_11_method_52_code 95 = .ok (.iaload, 1) := by decide +kernel
theorem dX9_sizeBy_96 : decode prog_11_method_52_code 96 = .ok (.imul, 1) := by decide +kernel
theorem dX9_sizeBy_97 : decode prog_11_method_52_code 97 = .ok (.iconst 1, 1) := by decide +kernel
theorem dX9_sizeBy_98 : decode prog_11_method_52_code 98 = .ok (.iadd, 1) := by decide +kernel
theorem dX9_sizeBy_99 : decode prog_11_method_52_code 99 = .ok (.goto 4, 3) := by decide +kernel
theorem dX9_sizeBy_102 : decode prog_11_method_52_code 102 = .ok (.iconst 0, 1) := by decide +kernel
theorem dX9_sizeBy_103 : decode prog_11_method_52_code 103 = .ok (.iadd, 1) := by decide +kernel
theorem dX9_sizeBy_104 : decode prog_11_method_52_code 104 = .ok (.istore_n 3, 1) := by decide +kernel
theorem dX9_sizeBy_105 : decode prog_11_method_52_code 105 = .ok (.iinc 4 1, 3) := by decide +kernel
theorem dX9_sizeBy_108 : decode prog_11_method_52_code 108 = .ok (.goto (-40), 3) := by decide +kernel
theorem dX9_sizeBy_111 : decode prog_11_method_52_code 111 = .ok (.iload_n 3, 1) := by decide +kernel
theorem dX9_sizeBy_112 : decode prog_11_method_52_code 112 = .ok (.ireturn, 1) := by decide +kernel
theorem dX9_sizeBy_113 : decode prog_11_method_52_code 113 = .ok (.aload_n 0, 1) := by decide +kernel
theorem dX9_sizeBy_114 : decode prog_11_method_52_code 114 = .ok (.iload_n 1, 1) := by decide +kernel
theorem dX9_sizeBy_115 : decode prog_11_method_52_code 115 = .ok (.invokevirtual 251, 3) := by decide +kernel
theorem dX9_sizeBy_118 : decode prog_11_method_52_code 118 = .ok (.aload_n 0, 1) := by decide +kernel
theorem dX9_sizeBy_119 : decode prog_11_method_52_code 119 = .ok (.getfield 239, 3) := by decide +kernel
theorem dX9_sizeBy_122 : decode prog_11_method_52_code 122 = .ok (.ireturn, 1) := by decide +kernel
theorem dX9_sizeBy_123 : decode prog_11_method_52_code 123 = .ok (.aload_n 0, 1) := by decide +kernel
theorem dX9_sizeBy_124 : decode prog_11_method_52_code 124 = .ok (.iload_n 1, 1) := by decide +kernel
theorem dX9_sizeBy_125 : decode prog_11_method_52_code 125 = .ok (.invokevirtual 266, 3) := by decide +kernel
theorem dX9_sizeBy_128 : decode prog_11_method_52_code 128 = .ok (.iconst 5, 1) := by decide +kernel
theorem dX9_sizeBy_129 : decode prog_11_method_52_code 129 = .ok (.istore_n 3, 1) := by decide +kernel
theorem dX9_sizeBy_130 : decode prog_11_method_52_code 130 = .ok (.iconst 0, 1) := by decide +kernel
theorem dX9_sizeBy_131 : decode prog_11_method_52_code 131 = .ok (.istore 4, 2) := by decide +kernel
theorem dX9_sizeBy_133 : decode prog_11_method_52_code 133 = .ok (.iload 4, 2) := by decide +kernel
theorem dX9_sizeBy_135 : decode prog_11_method_52_code 135 = .ok (.aload_n 0, 1) := by decide +kernel
theorem dX9_sizeBy_136 : decode prog_11_method_52_code 136 = .ok (.getfield 13, 3) := by decide +kernel
theorem dX9_sizeBy_139 : decode prog_11_method_52_code 139 = .ok (.iload_n 1, 1) := by decide +kernel
theorem dX9_sizeBy_140 : decode prog_11_method_52_code 140 = .ok (.iaload, 1) := by decide +kernel
theorem dX9_sizeBy_141 : decode prog_11_method_52_code 141 = .ok (.if_icmp .ge 41, 3) := by decide +kernel
theorem dX9_sizeBy_144 : decode prog_11_method_52_code 144 = .ok (.iinc 3 1, 3) := by decide +kernel
theorem dX9_sizeBy_147 : decode prog_11_method_52_code 147 = .ok (.aload_n 0, 1) := by decide +kernel
theorem dX9_sizeBy_148 : decode prog_11_method_52_code 148 = .ok (.getfield 71, 3) := by decide +kernel
theorem dX9_sizeBy_151 : decode prog_11_method_52_code 151 = .ok (.iload 4, 2) := by decide +kernel
theorem dX9_sizeBy_153 : decode prog_11_method_52_code 153 = .ok (.iaload, 1) := by decide +kernel
theorem dX9_sizeBy_154 : decode prog_11_method_52_code 154 = .ok (.iconst 1, 1) := by decide +kernel
theorem dX9_sizeBy_155 : decode prog_11_method_52_code 155 = .ok (.iadd, 1) := by decide +kernel
theorem dX9_sizeBy_156 : decode prog_11_method_52_code 156 = .ok (.istore 5, 2) := by decide +kernel
theorem dX9_sizeBy_158 : decode prog_11_method_52_code 158 = .ok (.iload 5, 2) := by decide +kernel
theorem dX9_sizeBy_160 : decode prog_11_method_52_code 160 = .ok (.iconst 1, 1) := by decide +kernel
theorem dX9_sizeBy_161 : decode prog_11_method_52_code 161 = .ok (.if_icmp .le 15, 3) := by decide +kernel
theorem dX9_sizeBy_164 : decode prog_11_method_52_code 164 = .ok (.iinc 3 2, 3) := by decide +kernel
theorem dX9_sizeBy_167 : decode prog_11_method_52_code 167 = .ok (.iload 5, 2) := by decide +kernel
theorem dX9_sizeBy_169 : decode prog_11_method_52_code 169 = .ok (.iconst 2, 1) := by decide +kernel
theorem dX9_sizeBy_170 : decode prog_11_method_52_code 170 = .ok (.idiv, 1) := by decide +kernel
theorem dX9_sizeBy_171 : decode prog_11_method_52_code 171 = .ok (.istore 5, 2) := by decide +kernel
theorem dX9_sizeBy_173 : decode prog_11_method_52_code 173 = .ok (.goto (-15), 3) := by decide +kernel
theorem dX9_sizeBy_176 : decode prog_11_method_52_code 176 = .ok (.iinc 4 1, 3) := by decide +kernel
theorem dX9_sizeBy_179 : decode prog_11_method_52_code 179 = .ok (.goto (-46), 3) := by decide +kernel
theorem dX9_sizeBy_182 : decode prog_11_method_52_code 182 = .ok (.iload_n 3, 1) := by decide +kernel
theorem dX9_sizeBy_183 : decode prog_11_method_52_code 183 = .ok (.ireturn, 1) := by decide +kernel
abbrev M_X9_size : am_M := ((⟨"SignCellarModel", "size", "(II)I"⟩ : MethodName), prog_11_method_55_code, 4, (some .int), 5, 124)
theorem dX9_size_0 : decode prog_11_method_55_code 0 = .ok (.aload_n 0, 1) := by decide +kernel
theorem dX9_size_1 : decode prog_11_method_55_code 1 = .ok (.iload_n 1, 1) := by decide +kernel
theorem dX9_size_2 : decode prog_11_method_55_code 2 = .ok (.iload_n 2, 1) := by decide +kernel
theorem dX9_size_3 : decode prog_11_method_55_code 3 = .ok (.invokevirtual 271, 3) := by decide +kernel
theorem dX9_size_6 : decode prog_11_method_55_code 6 = .ok (.istore_n 3, 1) := by decide +kernel
theorem dX9_size_7 : decode prog_11_method_55_code 7 = .ok (.iload_n 3, 1) := by decide +kernel
theorem dX9_size_8 : decode prog_11_method_55_code 8 = .ok (.ifCond .eq 7, 3) := by decide +kernel
theorem dX9_size_11 : decode prog_11_method_55_code 11 = .ok (.iload_n 3, 1) := by decide +kernel
theorem dX9_size_12 : decode prog_11_method_55_code 12 = .ok (.goto 9, 3) := by decide +kernel
theorem dX9_size_15 : decode prog_11_method_55_code 15 = .ok (.aload_n 0, 1) := by decide +kernel
theorem dX9_size_16 : decode prog_11_method_55_code 16 = .ok (.iload_n 1, 1) := by decide +kernel
theorem dX9_size_17 : decode prog_11_method_55_code 17 = .ok (.iload_n 2, 1) := by decide +kernel
theorem dX9_size_18 : decode prog_11_method_55_code 18 = .ok (.invokevirtual 274, 3) := by decide +kernel
theorem dX9_size_21 : decode prog_11_method_55_code 21 = .ok (.ireturn, 1) := by decide +kernel
abbrev M_X8_time : am_M := ((⟨"SignCellar", "time", "(II)I"⟩ : MethodName), prog_1_method_14_code, 5, (some .int), 7, 155)
theorem dX8_time_0 : decode prog_1_method_14_code 0 = .ok (.aload_n 0, 1) := by decide +kernel
theorem dX8_time_1 : decode prog_1_method_14_code 1 = .ok (.iload_n 1, 1) := by decide +kernel
theorem dX8_time_2 : decode prog_1_method_14_code 2 = .ok (.invokevirtual 176, 3) := by decide +kernel
theorem dX8_time_5 : decode prog_1_method_14_code 5 = .ok (.astore_n 3, 1) := by decide +kernel
theorem dX8_time_6 : decode prog_1_method_14_code 6 = .ok (.aload_n 3, 1) := by decide +kernel
theorem dX8_time_7 : decode prog_1_method_14_code 7 = .ok (.iload_n 2, 1) := by decide +kernel
theorem dX8_time_8 : decode prog_1_method_14_code 8 = .ok (.invokestatic 204, 3) := by decide +kernel
theorem dX8_time_11 : decode prog_1_method_14_code 11 = .ok (.istore 4, 2) := by decide +kernel
theorem dX8_time_13 : decode prog_1_method_14_code 13 = .ok (.aload_n 3, 1) := by decide +kernel
theorem dX8_time_14 : decode prog_1_method_14_code 14 = .ok (.ifnull 8, 3) := by decide +kernel
theorem dX8_time_17 : decode prog_1_method_14_code 17 = .ok (.iload 4, 2) := by decide +kernel
theorem dX8_time_19 : decode prog_1_method_14_code 19 = .ok (.ifCond .eq 6, 3) := by decide +kernel
theorem dX8_time_22 : decode prog_1_method_14_code 22 = .ok (.iload 4, 2) := by decide +kernel
theorem dX8_time_24 : decode prog_1_method_14_code 24 = .ok (.ireturn, 1) := by decide +kernel
theorem dX8_time_25 : decode prog_1_method_14_code 25 = .ok (.aload_n 0, 1) := by decide +kernel
theorem dX8_time_26 : decode prog_1_method_14_code 26 = .ok (.aload_n 3, 1) := by decide +kernel
theorem dX8_time_27 : decode prog_1_method_14_code 27 = .ok (.invokevirtual 208, 3) := by decide +kernel
theorem dX8_time_30 : decode prog_1_method_14_code 30 = .ok (.aload_n 3, 1) := by decide +kernel
theorem dX8_time_31 : decode prog_1_method_14_code 31 = .ok (.getfield 215, 3) := by decide +kernel
theorem dX8_time_34 : decode prog_1_method_14_code 34 = .ok (.iload_n 2, 1) := by decide +kernel
theorem dX8_time_35 : decode prog_1_method_14_code 35 = .ok (.invokevirtual 161, 3) := by decide +kernel
theorem dX8_time_38 : decode prog_1_method_14_code 38 = .ok (.ireturn, 1) := by decide +kernel
abbrev M_X9_rulesLeft : am_M := ((⟨"SignCellarModel", "rulesLeft", "()I"⟩ : MethodName), prog_11_method_43_code, 3, (some .int), 1, 20)
theorem dX9_rulesLeft_0 : decode prog_11_method_43_code 0 = .ok (.iconst 0, 1) := by decide +kernel
theorem dX9_rulesLeft_1 : decode prog_11_method_43_code 1 = .ok (.istore_n 1, 1) := by decide +kernel
theorem dX9_rulesLeft_2 : decode prog_11_method_43_code 2 = .ok (.iconst 0, 1) := by decide +kernel
theorem dX9_rulesLeft_3 : decode prog_11_method_43_code 3 = .ok (.istore_n 2, 1) := by decide +kernel
theorem dX9_rulesLeft_4 : decode prog_11_method_43_code 4 = .ok (.iload_n 2, 1) := by decide +kernel
theorem dX9_rulesLeft_5 : decode prog_11_method_43_code 5 = .ok (.aload_n 0, 1) := by decide +kernel
theorem dX9_rulesLeft_6 : decode prog_11_method_43_code 6 = .ok (.getfield 210, 3) := by decide +kernel
theorem dX9_rulesLeft_9 : decode prog_11_method_43_code 9 = .ok (.if_icmp .ge 29, 3) := by decide +kernel
theorem dX9_rulesLeft_12 : decode prog_11_method_43_code 12 = .ok (.iload_n 1, 1) := by decide +kernel
theorem dX9_rulesLeft_13 : decode prog_11_method_43_code 13 = .ok (.aload_n 0, 1) := by decide +kernel
theorem dX9_rulesLeft_14 : decode prog_11_method_43_code 14 = .ok (.getfield 56, 3) := by decide +kernel
theorem dX9_rulesLeft_17 : decode prog_11_method_43_code 17 = .ok (.iload_n 2, 1) := by decide +kernel
theorem dX9_rulesLeft_18 : decode prog_11_method_43_code 18 = .ok (.iaload, 1) := by decide +kernel
theorem dX9_rulesLeft_19 : decode prog_11_method_43_code 19 = .ok (.ifCond .le 7, 3) := by decide +kernel
theorem dX9_rulesLeft_22 : decode prog_11_method_43_code 22 = .ok (.iconst 1, 1) := by decide +kernel
theorem dX9_rulesLeft_23 : decode prog_11_method_43_code 23 = .ok (.goto 4, 3) := by decide +kernel
theorem dX9_rulesLeft_26 : decode prog_11_method_43_code 26 = .ok (.iconst 0, 1) := by decide +kernel
theorem dX9_rulesLeft_27 : decode prog_11_method_43_code 27 = .ok (.invokestatic 150, 3) := by decide +kernel
theorem dX9_rulesLeft_30 : decode prog_11_method_43_code 30 = .ok (.iadd, 1) := by decide +kernel
theorem dX9_rulesLeft_31 : decode prog_11_method_43_code 31 = .ok (.istore_n 1, 1) := by decide +kernel
theorem dX9_rulesLeft_32 : decode prog_11_method_43_code 32 = .ok (.iinc 2 1, 3) := by decide +kernel
theorem dX9_rulesLeft_35 : decode prog_11_method_43_code 35 = .ok (.goto (-31), 3) := by decide +kernel
theorem dX9_rulesLeft_38 : decode prog_11_method_43_code 38 = .ok (.iload_n 1, 1) := by decide +kernel
theorem dX9_rulesLeft_39 : decode prog_11_method_43_code 39 = .ok (.ireturn, 1) := by decide +kernel
abbrev M_X9_timeBy : am_M := ((⟨"SignCellarModel", "timeBy", "(II)I"⟩ : MethodName), prog_11_method_53_code, 4, (some .int), 4, 99)
theorem dX9_timeBy_0 : decode prog_11_method_53_code 0 = .ok (.aload_n 0, 1) := by decide +kernel
theorem dX9_timeBy_1 : decode prog_11_method_53_code 1 = .ok (.getfield 13, 3) := by decide +kernel
theorem dX9_timeBy_4 : decode prog_11_method_53_code 4 = .ok (.iload_n 1, 1) := by decide +kernel
theorem dX9_timeBy_5 : decode prog_11_method_53_code 5 = .ok (.iaload, 1) := by decide +kernel
theorem dX9_timeBy_6 : decode prog_11_method_53_code 6 = .ok (.istore_n 3, 1) := by decide +kernel
theorem dX9_timeBy_7 : decode prog_11_method_53_code 7 = .ok (.iload_n 2, 1) := by decide +kernel
theorem dX9_timeBy_8 : decode prog_11_method_53_code 8 = .ok (.tableswitch 65 0 3 #[32, 34, 46, 60], 32) := by decide +kernel
theorem dX9_timeBy_40 : decode prog_11_method_53_code 40 = .ok (.iload_n 3, 1) := by decide +kernel
theorem dX9_timeBy_41 : decode prog_11_method_53_code 41 = .ok (.ireturn, 1) := by decide +kernel
theorem dX9_timeBy_42 : decode prog_11_method_53_code 42 = .ok (.aload_n 0, 1) := by decide +kernel
theorem dX9_timeBy_43 : decode prog_11_method_53_code 43 = .ok (.iload_n 1, 1) := by decide +kernel
theorem dX9_timeBy_44 : decode prog_11_method_53_code 44 = .ok (.invokevirtual 204, 3) := by decide +kernel
theorem dX9_timeBy_47 : decode prog_11_method_53_code 47 = .ok (.aload_n 0, 1) := by decide +kernel
theorem dX9_timeBy_48 : decode prog_11_method_53_code 48 = .ok (.getfield 198, 3) := by decide +kernel
theorem dX9_timeBy_51 : decode prog_11_method_53_code 51 = .ok (.iload_n 3, 1) := by decide +kernel
theorem dX9_timeBy_52 : decode prog_11_method_53_code 52 = .ok (.iadd, 1) := by decide +kernel
theorem dX9_timeBy_53 : decode prog_11_method_53_code 53 = .ok (.ireturn, 1) := by decide +kernel
theorem dX9_timeBy_54 : decode prog_11_method_53_code 54 = .ok (.aload_n 0, 1) := by decide +kernel
theorem dX9_timeBy_55 : decode prog_11_method_53_code 55 = .ok (.iload_n 1, 1) := by decide +kernel
theorem dX9_timeBy_56 : decode prog_11_method_53_code 56 = .ok (.invokevirtual 232, 3) := by decide +kernel
theorem dX9_timeBy_59 : decode prog_11_method_53_code 59 = .ok (.iconst 2, 1) := by decide +kernel
theorem dX9_timeBy_60 : decode prog_11_method_53_code 60 = .ok (.iload_n 3, 1) := by decide +kernel
theorem dX9_timeBy_61 : decode prog_11_method_53_code 61 = .ok (.imul, 1) := by decide +kernel
theorem dX9_timeBy_62 : decode prog_11_method_53_code 62 = .ok (.aload_n 0, 1) := by decide +kernel
theorem dX9_timeBy_63 : decode prog_11_method_53_code 63 = .ok (.invokevirtual 235, 3) := by decide +kernel
theorem dX9_timeBy_66 : decode prog_11_method_53_code 66 = .ok (.iadd, 1) := by decide +kernel
theorem dX9_timeBy_67 : decode prog_11_method_53_code 67 = .ok (.ireturn, 1) := by decide +kernel
theorem dX9_timeBy_68 : decode prog_11_method_53_code 68 = .ok (.bipush 6, 2) := by decide +kernel
theorem dX9_timeBy_70 : decode prog_11_method_53_code 70 = .ok (.iload_n 3, 1) := by decide +kernel
theorem dX9_timeBy_71 : decode prog_11_method_53_code 71 = .ok (.imul, 1) := by decide +kernel
theorem dX9_timeBy_72 : decode prog_11_method_53_code 72 = .ok (.ireturn, 1) := by decide +kernel
theorem dX9_timeBy_73 : decode prog_11_method_53_code 73 = .ok (.iconst 3, 1) := by decide +kernel
theorem dX9_timeBy_74 : decode prog_11_method_53_code 74 = .ok (.iload_n 3, 1) := by decide +kernel
theorem dX9_timeBy_75 : decode prog_11_method_53_code 75 = .ok (.imul, 1) := by decide +kernel
theorem dX9_timeBy_76 : decode prog_11_method_53_code 76 = .ok (.ireturn, 1) := by decide +kernel
abbrev M_X9_time : am_M := ((⟨"SignCellarModel", "time", "(II)I"⟩ : MethodName), prog_11_method_56_code, 4, (some .int), 5, 122)
theorem dX9_time_0 : decode prog_11_method_56_code 0 = .ok (.aload_n 0, 1) := by decide +kernel
theorem dX9_time_1 : decode prog_11_method_56_code 1 = .ok (.iload_n 1, 1) := by decide +kernel
theorem dX9_time_2 : decode prog_11_method_56_code 2 = .ok (.iload_n 2, 1) := by decide +kernel
theorem dX9_time_3 : decode prog_11_method_56_code 3 = .ok (.invokevirtual 271, 3) := by decide +kernel
theorem dX9_time_6 : decode prog_11_method_56_code 6 = .ok (.istore_n 3, 1) := by decide +kernel
theorem dX9_time_7 : decode prog_11_method_56_code 7 = .ok (.iload_n 3, 1) := by decide +kernel
theorem dX9_time_8 : decode prog_11_method_56_code 8 = .ok (.ifCond .eq 7, 3) := by decide +kernel
theorem dX9_time_11 : decode prog_11_method_56_code 11 = .ok (.iload_n 3, 1) := by decide +kernel
theorem dX9_time_12 : decode prog_11_method_56_code 12 = .ok (.goto 9, 3) := by decide +kernel
theorem dX9_time_15 : decode prog_11_method_56_code 15 = .ok (.aload_n 0, 1) := by decide +kernel
theorem dX9_time_16 : decode prog_11_method_56_code 16 = .ok (.iload_n 1, 1) := by decide +kernel
theorem dX9_time_17 : decode prog_11_method_56_code 17 = .ok (.iload_n 2, 1) := by decide +kernel
theorem dX9_time_18 : decode prog_11_method_56_code 18 = .ok (.invokevirtual 277, 3) := by decide +kernel
theorem dX9_time_21 : decode prog_11_method_56_code 21 = .ok (.ireturn, 1) := by decide +kernel
abbrev M_X8_cut : am_M := ((⟨"SignCellar", "cut", "(II)I"⟩ : MethodName), prog_1_method_15_code, 4, (some .int), 4, 96)
theorem dX8_cut_0 : decode prog_1_method_15_code 0 = .ok (.aload_n 0, 1) := by decide +kernel
theorem dX8_cut_1 : decode prog_1_method_15_code 1 = .ok (.iload_n 1, 1) := by decide +kernel
theorem dX8_cut_2 : decode prog_1_method_15_code 2 = .ok (.invokevirtual 176, 3) := by decide +kernel
theorem dX8_cut_5 : decode prog_1_method_15_code 5 = .ok (.astore_n 3, 1) := by decide +kernel
theorem dX8_cut_6 : decode prog_1_method_15_code 6 = .ok (.aload_n 3, 1) := by decide +kernel
theorem dX8_cut_7 : decode prog_1_method_15_code 7 = .ok (.ifnonnull 6, 3) := by decide +kernel
theorem dX8_cut_10 : decode prog_1_method_15_code 10 = .ok (.ldc 133, 2) := by decide +kernel
theorem dX8_cut_12 : decode prog_1_method_15_code 12 = .ok (.ireturn, 1) := by decide +kernel
theorem dX8_cut_13 : decode prog_1_method_15_code 13 = .ok (.aload_n 3, 1) := by decide +kernel
theorem dX8_cut_14 : decode prog_1_method_15_code 14 = .ok (.getfield 182, 3) := by decide +kernel
theorem dX8_cut_17 : decode prog_1_method_15_code 17 = .ok (.ifCond .eq 6, 3) := by decide +kernel
theorem dX8_cut_20 : decode prog_1_method_15_code 20 = .ok (.ldc 168, 2) := by decide +kernel
theorem dX8_cut_22 : decode prog_1_method_15_code 22 = .ok (.ireturn, 1) := by decide +kernel
theorem dX8_cut_23 : decode prog_1_method_15_code 23 = .ok (.aload_n 0, 1) := by decide +kernel
theorem dX8_cut_24 : decode prog_1_method_15_code 24 = .ok (.getfield 60, 3) := by decide +kernel
theorem dX8_cut_27 : decode prog_1_method_15_code 27 = .ok (.aload_n 3, 1) := by decide +kernel
theorem dX8_cut_28 : decode prog_1_method_15_code 28 = .ok (.getfield 180, 3) := by decide +kernel
theorem dX8_cut_31 : decode prog_1_method_15_code 31 = .ok (.invokevirtual 218, 3) := by decide +kernel
theorem dX8_cut_34 : decode prog_1_method_15_code 34 = .ok (.iload_n 2, 1) := by decide +kernel
theorem dX8_cut_35 : decode prog_1_method_15_code 35 = .ok (.iconst (-1), 1) := by decide +kernel
theorem dX8_cut_36 : decode prog_1_method_15_code 36 = .ok (.if_icmp .ne 16, 3) := by decide +kernel
theorem dX8_cut_39 : decode prog_1_method_15_code 39 = .ok (.aload_n 0, 1) := by decide +kernel
theorem dX8_cut_40 : decode prog_1_method_15_code 40 = .ok (.getfield 60, 3) := by decide +kernel
theorem dX8_cut_43 : decode prog_1_method_15_code 43 = .ok (.getfield 222, 3) := by decide +kernel
theorem dX8_cut_46 : decode prog_1_method_15_code 46 = .ok (.invokevirtual 93, 3) := by decide +kernel
theorem dX8_cut_49 : decode prog_1_method_15_code 49 = .ok (.goto 14, 3) := by decide +kernel
theorem dX8_cut_52 : decode prog_1_method_15_code 52 = .ok (.aload_n 0, 1) := by decide +kernel
theorem dX8_cut_53 : decode prog_1_method_15_code 53 = .ok (.getfield 60, 3) := by decide +kernel
theorem dX8_cut_56 : decode prog_1_method_15_code 56 = .ok (.getfield 222, 3) := by decide +kernel
theorem dX8_cut_59 : decode prog_1_method_15_code 59 = .ok (.iload_n 2, 1) := by decide +kernel
theorem dX8_cut_60 : decode prog_1_method_15_code 60 = .ok (.invokevirtual 161, 3) := by decide +kernel
theorem dX8_cut_63 : decode prog_1_method_15_code 63 = .ok (.ireturn, 1) := by decide +kernel
abbrev M_X9_cut : am_M := ((⟨"SignCellarModel", "cut", "(II)I"⟩ : MethodName), prog_11_method_36_code, 3, (some .int), 4, 99)
theorem dX9_cut_0 : decode prog_11_method_36_code 0 = .ok (.aload_n 0, 1) := by decide +kernel
theorem dX9_cut_1 : decode prog_11_method_36_code 1 = .ok (.iload_n 1, 1) := by decide +kernel
theorem dX9_cut_2 : decode prog_11_method_36_code 2 = .ok (.invokevirtual 184, 3) := by decide +kernel
theorem dX9_cut_5 : decode prog_11_method_36_code 5 = .ok (.ifCond .eq 6, 3) := by decide +kernel
theorem dX9_cut_8 : decode prog_11_method_36_code 8 = .ok (.ldc 164, 2) := by decide +kernel
theorem dX9_cut_10 : decode prog_11_method_36_code 10 = .ok (.ireturn, 1) := by decide +kernel
theorem dX9_cut_11 : decode prog_11_method_36_code 11 = .ok (.aload_n 0, 1) := by decide +kernel
theorem dX9_cut_12 : decode prog_11_method_36_code 12 = .ok (.getfield 19, 3) := by decide +kernel
theorem dX9_cut_15 : decode prog_11_method_36_code 15 = .ok (.iload_n 1, 1) := by decide +kernel
theorem dX9_cut_16 : decode prog_11_method_36_code 16 = .ok (.baload, 1) := by decide +kernel
theorem dX9_cut_17 : decode prog_11_method_36_code 17 = .ok (.ifCond .eq 6, 3) := by decide +kernel
theorem dX9_cut_20 : decode prog_11_method_36_code 20 = .ok (.ldc 168, 2) := by decide +kernel
theorem dX9_cut_22 : decode prog_11_method_36_code 22 = .ok (.ireturn, 1) := by decide +kernel
theorem dX9_cut_23 : decode prog_11_method_36_code 23 = .ok (.aload_n 0, 1) := by decide +kernel
theorem dX9_cut_24 : decode prog_11_method_36_code 24 = .ok (.iload_n 1, 1) := by decide +kernel
theorem dX9_cut_25 : decode prog_11_method_36_code 25 = .ok (.invokevirtual 204, 3) := by decide +kernel
theorem dX9_cut_28 : decode prog_11_method_36_code 28 = .ok (.iload_n 2, 1) := by decide +kernel
theorem dX9_cut_29 : decode prog_11_method_36_code 29 = .ok (.iconst (-1), 1) := by decide +kernel
theorem dX9_cut_30 : decode prog_11_method_36_code 30 = .ok (.if_icmp .ne 10, 3) := by decide +kernel
theorem dX9_cut_33 : decode prog_11_method_36_code 33 = .ok (.aload_n 0, 1) := by decide +kernel
theorem dX9_cut_34 : decode prog_11_method_36_code 34 = .ok (.getfield 198, 3) := by decide +kernel
theorem dX9_cut_37 : decode prog_11_method_36_code 37 = .ok (.goto 29, 3) := by decide +kernel
theorem dX9_cut_40 : decode prog_11_method_36_code 40 = .ok (.iload_n 2, 1) := by decide +kernel
theorem dX9_cut_41 : decode prog_11_method_36_code 41 = .ok (.i2l, 1) := by decide +kernel
theorem dX9_cut_42 : decode prog_11_method_36_code 42 = .ok (.lconst 0, 1) := by decide +kernel
theorem dX9_cut_43 : decode prog_11_method_36_code 43 = .ok (.aload_n 0, 1) := by decide +kernel
theorem dX9_cut_44 : decode prog_11_method_36_code 44 = .ok (.getfield 198, 3) := by decide +kernel
theorem dX9_cut_47 : decode prog_11_method_36_code 47 = .ok (.iconst 1, 1) := by decide +kernel
theorem dX9_cut_48 : decode prog_11_method_36_code 48 = .ok (.isub, 1) := by decide +kernel
theorem dX9_cut_49 : decode prog_11_method_36_code 49 = .ok (.i2l, 1) := by decide +kernel
theorem dX9_cut_50 : decode prog_11_method_36_code 50 = .ok (.invokestatic 96, 3) := by decide +kernel
theorem dX9_cut_53 : decode prog_11_method_36_code 53 = .ok (.ifCond .eq 12, 3) := by decide +kernel
theorem dX9_cut_56 : decode prog_11_method_36_code 56 = .ok (.aload_n 0, 1) := by decide +kernel
theorem dX9_cut_57 : decode prog_11_method_36_code 57 = .ok (.getfield 50, 3) := by decide +kernel
theorem dX9_cut_60 : decode prog_11_method_36_code 60 = .ok (.iload_n 2, 1) := by decide +kernel
theorem dX9_cut_61 : decode prog_11_method_36_code 61 = .ok (.iaload, 1) := by decide +kernel
theorem dX9_cut_62 : decode prog_11_method_36_code 62 = .ok (.goto 4, 3) := by decide +kernel
theorem dX9_cut_65 : decode prog_11_method_36_code 65 = .ok (.iconst (-1), 1) := by decide +kernel
theorem dX9_cut_66 : decode prog_11_method_36_code 66 = .ok (.ireturn, 1) := by decide +kernel
abbrev M_X5_pieceOf : am_M := ((⟨"SignCellar$Rules", "pieceOf", "(II)I"⟩ : MethodName), prog_7_method_6_code, 3, (some .int), 1, 21)
theorem dX5_pieceOf_0 : decode prog_7_method_6_code 0 = .ok (.iload_n 1, 1) := by decide +kernel
theorem dX5_pieceOf_1 : decode prog_7_method_6_code 1 = .ok (.ifCond .lt 33, 3) := by decide +kernel
theorem dX5_pieceOf_4 : decode prog_7_method_6_code 4 = .ok (.iload_n 1, 1) := by decide +kernel
theorem dX5_pieceOf_5 : decode prog_7_method_6_code 5 = .ok (.aload_n 0, 1) := by decide +kernel
theorem dX5_pieceOf_6 : decode prog_7_method_6_code 6 = .ok (.getfield 27, 3) := by decide +kernel
theorem dX5_pieceOf_9 : decode prog_7_method_6_code 9 = .ok (.if_icmp .ge 25, 3) := by decide +kernel
theorem dX5_pieceOf_12 : decode prog_7_method_6_code 12 = .ok (.iload_n 1, 1) := by decide +kernel
theorem dX5_pieceOf_13 : decode prog_7_method_6_code 13 = .ok (.aload_n 0, 1) := by decide +kernel
theorem dX5_pieceOf_14 : decode prog_7_method_6_code 14 = .ok (.getfield 20, 3) := by decide +kernel
theorem dX5_pieceOf_17 : decode prog_7_method_6_code 17 = .ok (.arraylength, 1) := by decide +kernel
theorem dX5_pieceOf_18 : decode prog_7_method_6_code 18 = .ok (.if_icmp .ge 16, 3) := by decide +kernel
theorem dX5_pieceOf_21 : decode prog_7_method_6_code 21 = .ok (.aload_n 0, 1) := by decide +kernel
theorem dX5_pieceOf_22 : decode prog_7_method_6_code 22 = .ok (.getfield 20, 3) := by decide +kernel
theorem dX5_pieceOf_25 : decode prog_7_method_6_code 25 = .ok (.iload_n 1, 1) := by decide +kernel
theorem dX5_pieceOf_26 : decode prog_7_method_6_code 26 = .ok (.aaload, 1) := by decide +kernel
theorem dX5_pieceOf_27 : decode prog_7_method_6_code 27 = .ok (.iload_n 2, 1) := by decide +kernel
theorem dX5_pieceOf_28 : decode prog_7_method_6_code 28 = .ok (.invokevirtual 71, 3) := by decide +kernel
theorem dX5_pieceOf_31 : decode prog_7_method_6_code 31 = .ok (.goto 4, 3) := by decide +kernel
theorem dX5_pieceOf_34 : decode prog_7_method_6_code 34 = .ok (.iconst (-1), 1) := by decide +kernel
theorem dX5_pieceOf_35 : decode prog_7_method_6_code 35 = .ok (.ireturn, 1) := by decide +kernel
theorem cw_X9_258 : am_cw "SignCellarModel" 258 M_X9_isBefore 3 := ⟨wd_1_9, wd_5_189, ⟨by decide, by decide, by decide⟩, Or.inl wd_5_186⟩
theorem fw_X9_65 : am_fw "SignCellarModel" 65 9 31 := ⟨(RX9, TX9, 42), rfl, by decide, inX9, Or.inl wd_4_131⟩
theorem fw_X9_68 : am_fw "SignCellarModel" 68 9 32 := ⟨(RX9, TX9, 42), rfl, by decide, inX9, Or.inl wd_4_132⟩
theorem fw_X9_71 : am_fw "SignCellarModel" 71 9 33 := ⟨(RX9, TX9, 42), rfl, by decide, inX9, Or.inl wd_4_133⟩
theorem fw_X9_74 : am_fw "SignCellarModel" 74 9 34 := ⟨(RX9, TX9, 42), rfl, by decide, inX9, Or.inl wd_4_134⟩
theorem fx_X9_261 {nm : String} : am_fx "SignCellarModel" 261 9 35 .int nm := ⟨(RX9, TX9, 42), tyX9, rfl, by decide, inX9, tyX9_ok, nmX9, rfl, Or.inl ⟨wd_4_135, Or.inl rfl⟩⟩
theorem sl_X9_isBefore : Cond.selects (⟨"SignCellarModel", "isBefore", "(III)Z"⟩ : MethodName).cls ⟨"SignCellarModel", "isBefore", "(III)Z"⟩ ⟨"SignCellarModel", "isBefore", "(III)Z"⟩ ∈ am_ts := am_in_p (q := (⟨"SignCellarModel", "isBefore", "(III)Z"⟩, 42)) (by decide +kernel)
def F_X9_findTurns_64 (k11 : Nat → Int32 → Int32 → Int32 → am_H → Option am_H) (v0 : Nat) (v1 : Int32) (v2 : Int32) (v3 : Int32) (v4 : Int32) (h : am_H) : Option am_H :=
  (am_gr 9 31 v0 h).bind fun x1 =>
  (am_is 0 x1 v4 v3 h).bind fun h2 =>
  k11 v0 v1 v2 (v3 + (1 : Int32)) h2
theorem w_X9_findTurns_64 {g : am_G} {l : Launch} {h0 : am_H} {hf : am_H}  {k11 : Nat → Int32 → Int32 → Int32 → am_H → Option am_H} (j11 : ∀ (v0 : Nat) (v1 : Int32) (v2 : Int32) (v3 : Int32) (h : am_H), k11 v0 v1 v2 v3 h = some hf → am_W g l M_X9_findTurns h0 none hf 11 [some (.ref v0), some (.int v1), some (.int v2), some (.int v3), none, none, none, none] [] h) (v0 : Nat) (v1 : Int32) (v2 : Int32) (v3 : Int32) (v4 : Int32) (h : am_H) (hF : F_X9_findTurns_64 k11 v0 v1 v2 v3 v4 h = some hf) : am_W g l M_X9_findTurns h0 none hf 64 [some (.ref v0), some (.int v1), some (.int v2), some (.int v3), some (.int v4), none, none, none] [] h := by
  unfold F_X9_findTurns_64 at hF
  refine am_aload_n (pc' := 65) dX9_findTurns_64 rfl rfl ?_
  obtain ⟨x1, ex1, hF⟩ := am_bind hF
  refine am_getr (pc' := 68) dX9_findTurns_65 fw_X9_65 ex1 rfl ?_
  refine am_iload (pc' := 70) dX9_findTurns_68 rfl rfl ?_
  refine am_iload_n (pc' := 71) dX9_findTurns_70 rfl rfl ?_
  obtain ⟨h2, eh2, hF⟩ := am_bind hF
  refine am_iast (pc' := 72) dX9_findTurns_71 eh2 rfl ?_
  refine am_iinc (ls' := [some (.ref v0), some (.int v1), some (.int v2), some (.int (v3 + (1 : Int32))), some (.int v4), none, none, none]) (pc' := 75) (v := (v3 + (1 : Int32))) dX9_findTurns_72 rfl rfl (Nat.le_of_ble_eq_true rfl) rfl rfl ?_
  refine am_goto (pc' := 11) dX9_findTurns_75 rfl ?_
  exact am_weak [true, true, true, true, false, false, false, false] (j11 v0 v1 v2 (v3 + (1 : Int32)) h2 hF)
def F_X9_findTurns_19 (k11 : Nat → Int32 → Int32 → Int32 → am_H → Option am_H) : Nat → Nat → Int32 → Int32 → Int32 → Int32 → am_H → Option am_H
  | 0, _, _, _, _, _, _ => none
  | n + 1, v0, v1, v2, v3, v4, h =>
  if v4 ≤ 0 then
    F_X9_findTurns_64 k11 v0 v1 v2 v3 v4 h
  else
    (am_gr 9 31 v0 h).bind fun x2 =>
    (am_il 0 x2 (v4 - (1 : Int32)) h).bind fun x3 =>
    (F_X9_isBefore v0 v1 v3 x3 h).bind fun x4 =>
    if x4 = 0 then
      F_X9_findTurns_64 k11 v0 v1 v2 v3 v4 h
    else
      (am_gr 9 31 v0 h).bind fun x6 =>
      (am_gr 9 31 v0 h).bind fun x7 =>
      (am_il 0 x7 (v4 - (1 : Int32)) h).bind fun x8 =>
      (am_is 0 x6 v4 x8 h).bind fun h9 =>
      F_X9_findTurns_19 k11 n v0 v1 v2 v3 (v4 + (-1 : Int32)) h9
theorem w_X9_findTurns_19 {g : am_G} {l : Launch} {h0 : am_H} {hf : am_H}  {k11 : Nat → Int32 → Int32 → Int32 → am_H → Option am_H} (j11 : ∀ (v0 : Nat) (v1 : Int32) (v2 : Int32) (v3 : Int32) (h : am_H), k11 v0 v1 v2 v3 h = some hf → am_W g l M_X9_findTurns h0 none hf 11 [some (.ref v0), some (.int v1), some (.int v2), some (.int v3), none, none, none, none] [] h) : ∀ (n : Nat) (v0 : Nat) (v1 : Int32) (v2 : Int32) (v3 : Int32) (v4 : Int32) (h : am_H), F_X9_findTurns_19 k11 n v0 v1 v2 v3 v4 h = some hf → am_W g l M_X9_findTurns h0 none hf 19 [some (.ref v0), some (.int v1), some (.int v2), some (.int v3), some (.int v4), none, none, none] [] h
  | 0, _, _, _, _, _, _, hF => by cases hF
  | n + 1, v0, v1, v2, v3, v4, h, hF => by
    rw [F_X9_findTurns_19] at hF
    refine am_iload (pc' := 21) dX9_findTurns_19 rfl rfl ?_
    rcases am_ite hF with ⟨z1, hF⟩ | ⟨z1, hF⟩
    · refine am_if_le_t (pc' := 64) dX9_findTurns_21 rfl z1 ?_
      exact w_X9_findTurns_64 j11 v0 v1 v2 v3 v4 h hF
    · refine am_if_le_f (pc' := 24) (tgt := 64) dX9_findTurns_21 rfl z1 rfl ?_
      refine am_aload_n (pc' := 25) dX9_findTurns_24 rfl rfl ?_
      refine am_iload_n (pc' := 26) dX9_findTurns_25 rfl rfl ?_
      refine am_iload_n (pc' := 27) dX9_findTurns_26 rfl rfl ?_
      refine am_aload_n (pc' := 28) dX9_findTurns_27 rfl rfl ?_
      obtain ⟨x2, ex2, hF⟩ := am_bind hF
      refine am_getr (pc' := 31) dX9_findTurns_28 fw_X9_65 ex2 rfl ?_
      refine am_iload (pc' := 33) dX9_findTurns_31 rfl rfl ?_
      refine am_iconst (v := (1 : Int32)) (pc' := 34) dX9_findTurns_33 rfl rfl ?_
      refine am_isub (pc' := 35) dX9_findTurns_34 rfl ?_
      obtain ⟨x3, ex3, hF⟩ := am_bind hF
      refine am_iald (pc' := 36) dX9_findTurns_35 ex3 rfl ?_
      obtain ⟨x4, ex4, hF⟩ := am_bind hF
      obtain ⟨ox4, px4⟩ := t_X9_isBefore ex4
      refine am_callV1 (Mc := M_X9_isBefore) (As := [.int v1, .int v3, .int x3]) (st := []) (pc' := 39) dX9_findTurns_36 cw_X9_258 wd_5_188 sl_X9_isBefore ⟨_, rfl, rfl⟩ (by decide) (by decide) rfl rfl (Nat.le_of_ble_eq_true rfl) px4 (c_X9_isBefore ex4) rfl ?_
      rcases am_ite hF with ⟨z5, hF⟩ | ⟨z5, hF⟩
      · refine am_if_eq_t (pc' := 64) dX9_findTurns_39 rfl z5 ?_
        exact w_X9_findTurns_64 j11 v0 v1 v2 v3 v4 h hF
      · refine am_if_eq_f (pc' := 42) (tgt := 64) dX9_findTurns_39 rfl z5 rfl ?_
        refine am_aload_n (pc' := 43) dX9_findTurns_42 rfl rfl ?_
        obtain ⟨x6, ex6, hF⟩ := am_bind hF
        refine am_getr (pc' := 46) dX9_findTurns_43 fw_X9_65 ex6 rfl ?_
        refine am_iload (pc' := 48) dX9_findTurns_46 rfl rfl ?_
        refine am_aload_n (pc' := 49) dX9_findTurns_48 rfl rfl ?_
        obtain ⟨x7, ex7, hF⟩ := am_bind hF
        refine am_getr (pc' := 52) dX9_findTurns_49 fw_X9_65 ex7 rfl ?_
        refine am_iload (pc' := 54) dX9_findTurns_52 rfl rfl ?_
        refine am_iconst (v := (1 : Int32)) (pc' := 55) dX9_findTurns_54 rfl rfl ?_
        refine am_isub (pc' := 56) dX9_findTurns_55 rfl ?_
        obtain ⟨x8, ex8, hF⟩ := am_bind hF
        refine am_iald (pc' := 57) dX9_findTurns_56 ex8 rfl ?_
        obtain ⟨h9, eh9, hF⟩ := am_bind hF
        refine am_iast (pc' := 58) dX9_findTurns_57 eh9 rfl ?_
        refine am_iinc (ls' := [some (.ref v0), some (.int v1), some (.int v2), some (.int v3), some (.int (v4 + (-1 : Int32))), none, none, none]) (pc' := 61) (v := (v4 + (-1 : Int32))) dX9_findTurns_58 rfl rfl (Nat.le_of_ble_eq_true rfl) rfl rfl ?_
        refine am_goto (pc' := 19) dX9_findTurns_61 rfl ?_
        exact w_X9_findTurns_19 j11 n v0 v1 v2 v3 (v4 + (-1 : Int32)) h9 hF
def F_X9_findTurns_221 (k104 : Nat → Int32 → Int32 → Int32 → Int32 → am_H → Option am_H) (v0 : Nat) (v1 : Int32) (v2 : Int32) (v3 : Int32) (v4 : Int32) (h : am_H) : Option am_H :=
  k104 v0 v1 v2 v3 (v4 + (1 : Int32)) h
theorem w_X9_findTurns_221 {g : am_G} {l : Launch} {h0 : am_H} {hf : am_H}  {k104 : Nat → Int32 → Int32 → Int32 → Int32 → am_H → Option am_H} (j104 : ∀ (v0 : Nat) (v1 : Int32) (v2 : Int32) (v3 : Int32) (v4 : Int32) (h : am_H), k104 v0 v1 v2 v3 v4 h = some hf → am_W g l M_X9_findTurns h0 none hf 104 [some (.ref v0), some (.int v1), some (.int v2), some (.int v3), some (.int v4), none, none, none] [] h) (v0 : Nat) (v1 : Int32) (v2 : Int32) (v3 : Int32) (v4 : Int32) (h : am_H) (hF : F_X9_findTurns_221 k104 v0 v1 v2 v3 v4 h = some hf) : am_W g l M_X9_findTurns h0 none hf 221 [some (.ref v0), some (.int v1), some (.int v2), some (.int v3), some (.int v4), none, none, none] [] h := by
  unfold F_X9_findTurns_221 at hF
  refine am_iinc (ls' := [some (.ref v0), some (.int v1), some (.int v2), some (.int v3), some (.int (v4 + (1 : Int32))), none, none, none]) (pc' := 224) (v := (v4 + (1 : Int32))) dX9_findTurns_221 rfl rfl (Nat.le_of_ble_eq_true rfl) rfl rfl ?_
  refine am_goto (pc' := 104) dX9_findTurns_224 rfl ?_
  exact j104 v0 v1 v2 v3 (v4 + (1 : Int32)) h hF
def F_X9_findTurns_186 (k104 : Nat → Int32 → Int32 → Int32 → Int32 → am_H → Option am_H) : Nat → Nat → Int32 → Int32 → Int32 → Int32 → Int32 → Int32 → am_H → Option am_H
  | 0, _, _, _, _, _, _, _, _ => none
  | n + 1, v0, v1, v2, v3, v4, v5, v7, h =>
  if v7 ≤ 0 then
    (am_gr 9 34 v0 h).bind fun x2 =>
    (am_is 0 x2 (0 : Int32) v5 h).bind fun h3 =>
    F_X9_findTurns_221 k104 v0 v1 v2 v3 v4 h3
  else
    (am_gr 9 34 v0 h).bind fun x4 =>
    (am_gr 9 34 v0 h).bind fun x5 =>
    (am_il 0 x5 (v7 - (1 : Int32)) h).bind fun x6 =>
    (am_is 0 x4 v7 x6 h).bind fun h7 =>
    F_X9_findTurns_186 k104 n v0 v1 v2 v3 v4 v5 (v7 + (-1 : Int32)) h7
theorem w_X9_findTurns_186 {g : am_G} {l : Launch} {h0 : am_H} {hf : am_H}  {k104 : Nat → Int32 → Int32 → Int32 → Int32 → am_H → Option am_H} (j104 : ∀ (v0 : Nat) (v1 : Int32) (v2 : Int32) (v3 : Int32) (v4 : Int32) (h : am_H), k104 v0 v1 v2 v3 v4 h = some hf → am_W g l M_X9_findTurns h0 none hf 104 [some (.ref v0), some (.int v1), some (.int v2), some (.int v3), some (.int v4), none, none, none] [] h) : ∀ (n : Nat) (v0 : Nat) (v1 : Int32) (v2 : Int32) (v3 : Int32) (v4 : Int32) (v5 : Int32) (v7 : Int32) (h : am_H), F_X9_findTurns_186 k104 n v0 v1 v2 v3 v4 v5 v7 h = some hf → am_W g l M_X9_findTurns h0 none hf 186 [some (.ref v0), some (.int v1), some (.int v2), some (.int v3), some (.int v4), some (.int v5), none, some (.int v7)] [] h
  | 0, _, _, _, _, _, _, _, _, hF => by cases hF
  | n + 1, v0, v1, v2, v3, v4, v5, v7, h, hF => by
    rw [F_X9_findTurns_186] at hF
    refine am_iload (pc' := 188) dX9_findTurns_186 rfl rfl ?_
    rcases am_ite hF with ⟨z1, hF⟩ | ⟨z1, hF⟩
    · refine am_if_le_t (pc' := 213) dX9_findTurns_188 rfl z1 ?_
      refine am_aload_n (pc' := 214) dX9_findTurns_213 rfl rfl ?_
      obtain ⟨x2, ex2, hF⟩ := am_bind hF
      refine am_getr (pc' := 217) dX9_findTurns_214 fw_X9_74 ex2 rfl ?_
      refine am_iconst (v := (0 : Int32)) (pc' := 218) dX9_findTurns_217 rfl rfl ?_
      refine am_iload (pc' := 220) dX9_findTurns_218 rfl rfl ?_
      obtain ⟨h3, eh3, hF⟩ := am_bind hF
      refine am_iast (pc' := 221) dX9_findTurns_220 eh3 rfl ?_
      exact am_weak [true, true, true, true, true, false, false, false] (w_X9_findTurns_221 j104 v0 v1 v2 v3 v4 h3 hF)
    · refine am_if_le_f (pc' := 191) (tgt := 213) dX9_findTurns_188 rfl z1 rfl ?_
      refine am_aload_n (pc' := 192) dX9_findTurns_191 rfl rfl ?_
      obtain ⟨x4, ex4, hF⟩ := am_bind hF
      refine am_getr (pc' := 195) dX9_findTurns_192 fw_X9_74 ex4 rfl ?_
      refine am_iload (pc' := 197) dX9_findTurns_195 rfl rfl ?_
      refine am_aload_n (pc' := 198) dX9_findTurns_197 rfl rfl ?_
      obtain ⟨x5, ex5, hF⟩ := am_bind hF
      refine am_getr (pc' := 201) dX9_findTurns_198 fw_X9_74 ex5 rfl ?_
      refine am_iload (pc' := 203) dX9_findTurns_201 rfl rfl ?_
      refine am_iconst (v := (1 : Int32)) (pc' := 204) dX9_findTurns_203 rfl rfl ?_
      refine am_isub (pc' := 205) dX9_findTurns_204 rfl ?_
      obtain ⟨x6, ex6, hF⟩ := am_bind hF
      refine am_iald (pc' := 206) dX9_findTurns_205 ex6 rfl ?_
      obtain ⟨h7, eh7, hF⟩ := am_bind hF
      refine am_iast (pc' := 207) dX9_findTurns_206 eh7 rfl ?_
      refine am_iinc (ls' := [some (.ref v0), some (.int v1), some (.int v2), some (.int v3), some (.int v4), some (.int v5), none, some (.int (v7 + (-1 : Int32)))]) (pc' := 210) (v := (v7 + (-1 : Int32))) dX9_findTurns_207 rfl rfl (Nat.le_of_ble_eq_true rfl) rfl rfl ?_
      refine am_goto (pc' := 186) dX9_findTurns_210 rfl ?_
      exact w_X9_findTurns_186 j104 n v0 v1 v2 v3 v4 v5 (v7 + (-1 : Int32)) h7 hF
def F_X9_findTurns_145 (k104 : Nat → Int32 → Int32 → Int32 → Int32 → am_H → Option am_H) : Nat → Nat → Int32 → Int32 → Int32 → Int32 → Int32 → Int32 → am_H → Option am_H
  | 0, _, _, _, _, _, _, _, _ => none
  | n + 1, v0, v1, v2, v3, v4, v5, v6, h =>
  (am_gr 9 34 v0 h).bind fun x1 =>
  (am_il 0 x1 v6 h).bind fun x2 =>
  if x2 = v5 then
    (am_gr 9 32 v0 h).bind fun x4 =>
    (am_is 0 x4 v3 v5 h).bind fun h5 =>
    (am_gr 9 33 v0 h5).bind fun x6 =>
    (am_is 0 x6 v3 v6 h5).bind fun h7 =>
    F_X9_findTurns_186 k104 am_F v0 v1 v2 (v3 + (1 : Int32)) v4 v5 v6 h7
  else
    F_X9_findTurns_145 k104 n v0 v1 v2 v3 v4 v5 (v6 + (1 : Int32)) h
theorem w_X9_findTurns_145 {g : am_G} {l : Launch} {h0 : am_H} {hf : am_H}  {k104 : Nat → Int32 → Int32 → Int32 → Int32 → am_H → Option am_H} (j104 : ∀ (v0 : Nat) (v1 : Int32) (v2 : Int32) (v3 : Int32) (v4 : Int32) (h : am_H), k104 v0 v1 v2 v3 v4 h = some hf → am_W g l M_X9_findTurns h0 none hf 104 [some (.ref v0), some (.int v1), some (.int v2), some (.int v3), some (.int v4), none, none, none] [] h) : ∀ (n : Nat) (v0 : Nat) (v1 : Int32) (v2 : Int32) (v3 : Int32) (v4 : Int32) (v5 : Int32) (v6 : Int32) (h : am_H), F_X9_findTurns_145 k104 n v0 v1 v2 v3 v4 v5 v6 h = some hf → am_W g l M_X9_findTurns h0 none hf 145 [some (.ref v0), some (.int v1), some (.int v2), some (.int v3), some (.int v4), some (.int v5), some (.int v6), none] [] h
  | 0, _, _, _, _, _, _, _, _, hF => by cases hF
  | n + 1, v0, v1, v2, v3, v4, v5, v6, h, hF => by
    rw [F_X9_findTurns_145] at hF
    refine am_aload_n (pc' := 146) dX9_findTurns_145 rfl rfl ?_
    obtain ⟨x1, ex1, hF⟩ := am_bind hF
    refine am_getr (pc' := 149) dX9_findTurns_146 fw_X9_74 ex1 rfl ?_
    refine am_iload (pc' := 151) dX9_findTurns_149 rfl rfl ?_
    obtain ⟨x2, ex2, hF⟩ := am_bind hF
    refine am_iald (pc' := 152) dX9_findTurns_151 ex2 rfl ?_
    refine am_iload (pc' := 154) dX9_findTurns_152 rfl rfl ?_
    rcases am_ite hF with ⟨z3, hF⟩ | ⟨z3, hF⟩
    · refine am_icmp_eq_t (pc' := 163) dX9_findTurns_154 rfl z3 ?_
      refine am_aload_n (pc' := 164) dX9_findTurns_163 rfl rfl ?_
      obtain ⟨x4, ex4, hF⟩ := am_bind hF
      refine am_getr (pc' := 167) dX9_findTurns_164 fw_X9_68 ex4 rfl ?_
      refine am_iload_n (pc' := 168) dX9_findTurns_167 rfl rfl ?_
      refine am_iload (pc' := 170) dX9_findTurns_168 rfl rfl ?_
      obtain ⟨h5, eh5, hF⟩ := am_bind hF
      refine am_iast (pc' := 171) dX9_findTurns_170 eh5 rfl ?_
      refine am_aload_n (pc' := 172) dX9_findTurns_171 rfl rfl ?_
      obtain ⟨x6, ex6, hF⟩ := am_bind hF
      refine am_getr (pc' := 175) dX9_findTurns_172 fw_X9_71 ex6 rfl ?_
      refine am_iload_n (pc' := 176) dX9_findTurns_175 rfl rfl ?_
      refine am_iload (pc' := 178) dX9_findTurns_176 rfl rfl ?_
      obtain ⟨h7, eh7, hF⟩ := am_bind hF
      refine am_iast (pc' := 179) dX9_findTurns_178 eh7 rfl ?_
      refine am_iinc (ls' := [some (.ref v0), some (.int v1), some (.int v2), some (.int (v3 + (1 : Int32))), some (.int v4), some (.int v5), some (.int v6), none]) (pc' := 182) (v := (v3 + (1 : Int32))) dX9_findTurns_179 rfl rfl (Nat.le_of_ble_eq_true rfl) rfl rfl ?_
      refine am_iload (pc' := 184) dX9_findTurns_182 rfl rfl ?_
      refine am_istore (ls' := [some (.ref v0), some (.int v1), some (.int v2), some (.int (v3 + (1 : Int32))), some (.int v4), some (.int v5), some (.int v6), some (.int v6)]) (pc' := 186) dX9_findTurns_184 (Nat.le_of_ble_eq_true rfl) rfl rfl ?_
      exact am_weak [true, true, true, true, true, true, false, true] (w_X9_findTurns_186 j104 am_F v0 v1 v2 (v3 + (1 : Int32)) v4 v5 v6 h7 hF)
    · refine am_icmp_eq_f (pc' := 157) (tgt := 163) dX9_findTurns_154 rfl z3 rfl ?_
      refine am_iinc (ls' := [some (.ref v0), some (.int v1), some (.int v2), some (.int v3), some (.int v4), some (.int v5), some (.int (v6 + (1 : Int32))), none]) (pc' := 160) (v := (v6 + (1 : Int32))) dX9_findTurns_157 rfl rfl (Nat.le_of_ble_eq_true rfl) rfl rfl ?_
      refine am_goto (pc' := 145) dX9_findTurns_160 rfl ?_
      exact w_X9_findTurns_145 j104 n v0 v1 v2 v3 v4 v5 (v6 + (1 : Int32)) h hF
def F_X9_findTurns_104 : Nat → Nat → Int32 → Int32 → Int32 → Int32 → am_H → Option am_H
  | 0, _, _, _, _, _, _ => none
  | n + 1, v0, v1, v2, v3, v4, h =>
  if v2 ≤ v4 then
    some h
  else
    (am_gr 9 31 v0 h).bind fun x2 =>
    (am_il 0 x2 v4 h).bind fun x3 =>
    (F_X9_turnedSign v0 v1 x3 (v2 - (1 : Int32)) h).bind fun x4 =>
    if x4 = (-1 : Int32) then
      (am_pi 9 35 v0 v4 h).bind fun h6 =>
      F_X9_findTurns_221 (F_X9_findTurns_104 n) v0 v1 v2 v3 v4 h6
    else
      F_X9_findTurns_145 (F_X9_findTurns_104 n) am_F v0 v1 v2 v3 v4 x4 (0 : Int32) h
theorem w_X9_findTurns_104 {g : am_G} {l : Launch} {h0 : am_H} {hf : am_H}  : ∀ (n : Nat) (v0 : Nat) (v1 : Int32) (v2 : Int32) (v3 : Int32) (v4 : Int32) (h : am_H), F_X9_findTurns_104 n v0 v1 v2 v3 v4 h = some hf → am_W g l M_X9_findTurns h0 none hf 104 [some (.ref v0), some (.int v1), some (.int v2), some (.int v3), some (.int v4), none, none, none] [] h
  | 0, _, _, _, _, _, _, hF => by cases hF
  | n + 1, v0, v1, v2, v3, v4, h, hF => by
    rw [F_X9_findTurns_104] at hF
    refine am_iload (pc' := 106) dX9_findTurns_104 rfl rfl ?_
    refine am_iload_n (pc' := 107) dX9_findTurns_106 rfl rfl ?_
    rcases am_ite hF with ⟨z1, hF⟩ | ⟨z1, hF⟩
    · refine am_icmp_ge_t (pc' := 227) dX9_findTurns_107 rfl z1 ?_
      cases hF
      exact am_vret dX9_findTurns_227 rfl
    · refine am_icmp_ge_f (pc' := 110) (tgt := 227) dX9_findTurns_107 rfl z1 rfl ?_
      refine am_aload_n (pc' := 111) dX9_findTurns_110 rfl rfl ?_
      refine am_iload_n (pc' := 112) dX9_findTurns_111 rfl rfl ?_
      refine am_aload_n (pc' := 113) dX9_findTurns_112 rfl rfl ?_
      obtain ⟨x2, ex2, hF⟩ := am_bind hF
      refine am_getr (pc' := 116) dX9_findTurns_113 fw_X9_65 ex2 rfl ?_
      refine am_iload (pc' := 118) dX9_findTurns_116 rfl rfl ?_
      obtain ⟨x3, ex3, hF⟩ := am_bind hF
      refine am_iald (pc' := 119) dX9_findTurns_118 ex3 rfl ?_
      refine am_iload_n (pc' := 120) dX9_findTurns_119 rfl rfl ?_
      refine am_iconst (v := (1 : Int32)) (pc' := 121) dX9_findTurns_120 rfl rfl ?_
      refine am_isub (pc' := 122) dX9_findTurns_121 rfl ?_
      obtain ⟨x4, ex4, hF⟩ := am_bind hF
      obtain ⟨ox4, px4⟩ := t_X9_turnedSign ex4
      refine am_callV1 (Mc := M_X9_turnedSign) (As := [.int v1, .int x3, .int (v2 - (1 : Int32))]) (st := []) (pc' := 125) dX9_findTurns_122 cw_X9_254 wd_5_192 sl_X9_turnedSign ⟨_, rfl, rfl⟩ (by decide) (by decide) rfl rfl (Nat.le_of_ble_eq_true rfl) px4 (c_X9_turnedSign ex4) rfl ?_
      refine am_istore (ls' := [some (.ref v0), some (.int v1), some (.int v2), some (.int v3), some (.int v4), some (.int x4), none, none]) (pc' := 127) dX9_findTurns_125 (Nat.le_of_ble_eq_true rfl) rfl rfl ?_
      refine am_iload (pc' := 129) dX9_findTurns_127 rfl rfl ?_
      refine am_iconst (v := (-1 : Int32)) (pc' := 130) dX9_findTurns_129 rfl rfl ?_
      rcases am_ite hF with ⟨z5, hF⟩ | ⟨z5, hF⟩
      · refine am_icmp_ne_f (pc' := 133) (tgt := 142) dX9_findTurns_130 rfl z5 rfl ?_
        refine am_aload_n (pc' := 134) dX9_findTurns_133 rfl rfl ?_
        refine am_iload (pc' := 136) dX9_findTurns_134 rfl rfl ?_
        obtain ⟨h6, eh6, hF⟩ := am_bind hF
        refine am_puti (pc' := 139) dX9_findTurns_136 fx_X9_261 eh6 rfl ?_
        refine am_goto (pc' := 221) dX9_findTurns_139 rfl ?_
        exact am_weak [true, true, true, true, true, false, false, false] (w_X9_findTurns_221 (w_X9_findTurns_104 n) v0 v1 v2 v3 v4 h6 hF)
      · refine am_icmp_ne_t (pc' := 142) dX9_findTurns_130 rfl z5 ?_
        refine am_iconst (v := (0 : Int32)) (pc' := 143) dX9_findTurns_142 rfl rfl ?_
        refine am_istore (ls' := [some (.ref v0), some (.int v1), some (.int v2), some (.int v3), some (.int v4), some (.int x4), some (.int (0 : Int32)), none]) (pc' := 145) dX9_findTurns_143 (Nat.le_of_ble_eq_true rfl) rfl rfl ?_
        exact w_X9_findTurns_145 (w_X9_findTurns_104 n) am_F v0 v1 v2 v3 v4 x4 (0 : Int32) h hF
def F_X9_findTurns_80 : Nat → Nat → Int32 → Int32 → Int32 → am_H → Option am_H
  | 0, _, _, _, _, _ => none
  | n + 1, v0, v1, v2, v3, h =>
  if (16 : Int32) ≤ v3 then
    F_X9_findTurns_104 am_F v0 v1 v2 (0 : Int32) (0 : Int32) h
  else
    (am_gr 9 34 v0 h).bind fun x2 =>
    (am_is 0 x2 v3 v3 h).bind fun h3 =>
    F_X9_findTurns_80 n v0 v1 v2 (v3 + (1 : Int32)) h3
theorem w_X9_findTurns_80 {g : am_G} {l : Launch} {h0 : am_H} {hf : am_H}  : ∀ (n : Nat) (v0 : Nat) (v1 : Int32) (v2 : Int32) (v3 : Int32) (h : am_H), F_X9_findTurns_80 n v0 v1 v2 v3 h = some hf → am_W g l M_X9_findTurns h0 none hf 80 [some (.ref v0), some (.int v1), some (.int v2), some (.int v3), none, none, none, none] [] h
  | 0, _, _, _, _, _, hF => by cases hF
  | n + 1, v0, v1, v2, v3, h, hF => by
    rw [F_X9_findTurns_80] at hF
    refine am_iload_n (pc' := 81) dX9_findTurns_80 rfl rfl ?_
    refine am_bipush (v := (16 : Int32)) (pc' := 83) dX9_findTurns_81 rfl rfl ?_
    rcases am_ite hF with ⟨z1, hF⟩ | ⟨z1, hF⟩
    · refine am_icmp_ge_t (pc' := 99) dX9_findTurns_83 rfl z1 ?_
      refine am_iconst (v := (0 : Int32)) (pc' := 100) dX9_findTurns_99 rfl rfl ?_
      refine am_istore_n (ls' := [some (.ref v0), some (.int v1), some (.int v2), some (.int (0 : Int32)), none, none, none, none]) (pc' := 101) dX9_findTurns_100 (Nat.le_of_ble_eq_true rfl) rfl rfl ?_
      refine am_iconst (v := (0 : Int32)) (pc' := 102) dX9_findTurns_101 rfl rfl ?_
      refine am_istore (ls' := [some (.ref v0), some (.int v1), some (.int v2), some (.int (0 : Int32)), some (.int (0 : Int32)), none, none, none]) (pc' := 104) dX9_findTurns_102 (Nat.le_of_ble_eq_true rfl) rfl rfl ?_
      exact w_X9_findTurns_104 am_F v0 v1 v2 (0 : Int32) (0 : Int32) h hF
    · refine am_icmp_ge_f (pc' := 86) (tgt := 99) dX9_findTurns_83 rfl z1 rfl ?_
      refine am_aload_n (pc' := 87) dX9_findTurns_86 rfl rfl ?_
      obtain ⟨x2, ex2, hF⟩ := am_bind hF
      refine am_getr (pc' := 90) dX9_findTurns_87 fw_X9_74 ex2 rfl ?_
      refine am_iload_n (pc' := 91) dX9_findTurns_90 rfl rfl ?_
      refine am_iload_n (pc' := 92) dX9_findTurns_91 rfl rfl ?_
      obtain ⟨h3, eh3, hF⟩ := am_bind hF
      refine am_iast (pc' := 93) dX9_findTurns_92 eh3 rfl ?_
      refine am_iinc (ls' := [some (.ref v0), some (.int v1), some (.int v2), some (.int (v3 + (1 : Int32))), none, none, none, none]) (pc' := 96) (v := (v3 + (1 : Int32))) dX9_findTurns_93 rfl rfl (Nat.le_of_ble_eq_true rfl) rfl rfl ?_
      refine am_goto (pc' := 80) dX9_findTurns_96 rfl ?_
      exact w_X9_findTurns_80 n v0 v1 v2 (v3 + (1 : Int32)) h3 hF
def F_X9_findTurns_11 : Nat → Nat → Int32 → Int32 → Int32 → am_H → Option am_H
  | 0, _, _, _, _, _ => none
  | n + 1, v0, v1, v2, v3, h =>
  if v2 ≤ v3 then
    F_X9_findTurns_80 am_F v0 v1 v2 (0 : Int32) h
  else
    F_X9_findTurns_19 (F_X9_findTurns_11 n) am_F v0 v1 v2 v3 v3 h
theorem w_X9_findTurns_11 {g : am_G} {l : Launch} {h0 : am_H} {hf : am_H}  : ∀ (n : Nat) (v0 : Nat) (v1 : Int32) (v2 : Int32) (v3 : Int32) (h : am_H), F_X9_findTurns_11 n v0 v1 v2 v3 h = some hf → am_W g l M_X9_findTurns h0 none hf 11 [some (.ref v0), some (.int v1), some (.int v2), some (.int v3), none, none, none, none] [] h
  | 0, _, _, _, _, _, hF => by cases hF
  | n + 1, v0, v1, v2, v3, h, hF => by
    rw [F_X9_findTurns_11] at hF
    refine am_iload_n (pc' := 12) dX9_findTurns_11 rfl rfl ?_
    refine am_iload_n (pc' := 13) dX9_findTurns_12 rfl rfl ?_
    rcases am_ite hF with ⟨z1, hF⟩ | ⟨z1, hF⟩
    · refine am_icmp_ge_t (pc' := 78) dX9_findTurns_13 rfl z1 ?_
      refine am_iconst (v := (0 : Int32)) (pc' := 79) dX9_findTurns_78 rfl rfl ?_
      refine am_istore_n (ls' := [some (.ref v0), some (.int v1), some (.int v2), some (.int (0 : Int32)), none, none, none, none]) (pc' := 80) dX9_findTurns_79 (Nat.le_of_ble_eq_true rfl) rfl rfl ?_
      exact w_X9_findTurns_80 am_F v0 v1 v2 (0 : Int32) h hF
    · refine am_icmp_ge_f (pc' := 16) (tgt := 78) dX9_findTurns_13 rfl z1 rfl ?_
      refine am_iload_n (pc' := 17) dX9_findTurns_16 rfl rfl ?_
      refine am_istore (ls' := [some (.ref v0), some (.int v1), some (.int v2), some (.int v3), some (.int v3), none, none, none]) (pc' := 19) dX9_findTurns_17 (Nat.le_of_ble_eq_true rfl) rfl rfl ?_
      exact w_X9_findTurns_19 (w_X9_findTurns_11 n) am_F v0 v1 v2 v3 v3 h hF
def F_X9_findTurns_b (v0 : Nat) (v1 : Int32) (h : am_H) : Option am_H :=
  (am_gr 9 3 v0 h).bind fun x1 =>
  (am_il 0 x1 v1 h).bind fun x2 =>
  F_X9_findTurns_11 am_F v0 v1 (x2 + (1 : Int32)) (0 : Int32) h
theorem w_X9_findTurns {g : am_G} {l : Launch} {h0 : am_H} {hf : am_H}  (v0 : Nat) (v1 : Int32) (h : am_H) (hF : F_X9_findTurns_b v0 v1 h = some hf) : am_W g l M_X9_findTurns h0 none hf 0 [some (.ref v0), some (.int v1), none, none, none, none, none, none] [] h := by
  unfold F_X9_findTurns_b at hF
  refine am_aload_n (pc' := 1) dX9_findTurns_0 rfl rfl ?_
  obtain ⟨x1, ex1, hF⟩ := am_bind hF
  refine am_getr (pc' := 4) dX9_findTurns_1 fw_X9_13 ex1 rfl ?_
  refine am_iload_n (pc' := 5) dX9_findTurns_4 rfl rfl ?_
  obtain ⟨x2, ex2, hF⟩ := am_bind hF
  refine am_iald (pc' := 6) dX9_findTurns_5 ex2 rfl ?_
  refine am_iconst (v := (1 : Int32)) (pc' := 7) dX9_findTurns_6 rfl rfl ?_
  refine am_iadd (pc' := 8) dX9_findTurns_7 rfl ?_
  refine am_istore_n (ls' := [some (.ref v0), some (.int v1), some (.int (x2 + (1 : Int32))), none, none, none, none, none]) (pc' := 9) dX9_findTurns_8 (Nat.le_of_ble_eq_true rfl) rfl rfl ?_
  refine am_iconst (v := (0 : Int32)) (pc' := 10) dX9_findTurns_9 rfl rfl ?_
  refine am_istore_n (ls' := [some (.ref v0), some (.int v1), some (.int (x2 + (1 : Int32))), some (.int (0 : Int32)), none, none, none, none]) (pc' := 11) dX9_findTurns_10 (Nat.le_of_ble_eq_true rfl) rfl rfl ?_
  exact w_X9_findTurns_11 am_F v0 v1 (x2 + (1 : Int32)) (0 : Int32) h hF
def F_X9_findTurns (v0 : Nat) (v1 : Int32) (h : am_H) : Option am_H := (am_obj v0 9 h).bind fun _ => F_X9_findTurns_b v0 v1 h
theorem t_X9_findTurns {hf : am_H}  {v0 : Nat} {v1 : Int32} {h : am_H} (hF : F_X9_findTurns v0 v1 h = some hf) : ∃ fs, am_obj v0 9 h = some fs := by
  obtain ⟨fs, e, _⟩ := am_bind hF
  exact ⟨fs, e⟩
theorem c_X9_findTurns {g : am_G} {l : Launch} {hf : am_H}  {v0 : Nat} {v1 : Int32} {h : am_H} (hF : F_X9_findTurns v0 v1 h = some hf) : am_Met g l M_X9_findTurns [.ref v0, .int v1] h none hf := by
  obtain ⟨fs, e0, e⟩ := am_bind hF
  exact am_met (n := 6) (by decide +kernel) rfl (Nat.le_of_ble_eq_true rfl) (w_X9_findTurns v0 v1 h e)
theorem cw_X9_204 : am_cw "SignCellarModel" 204 M_X9_findCuts 1 := ⟨wd_1_9, wd_5_119, ⟨by decide, by decide, by decide⟩, Or.inl wd_5_116⟩
theorem cw_X9_232 : am_cw "SignCellarModel" 232 M_X9_findRules 1 := ⟨wd_1_9, wd_5_137, ⟨by decide, by decide, by decide⟩, Or.inl wd_5_134⟩
theorem cw_X9_251 : am_cw "SignCellarModel" 251 M_X9_code 1 := ⟨wd_1_9, wd_5_169, ⟨by decide, by decide, by decide⟩, Or.inl wd_5_166⟩
theorem cw_X9_266 : am_cw "SignCellarModel" 266 M_X9_findTurns 1 := ⟨wd_1_9, wd_5_185, ⟨by decide, by decide, by decide⟩, Or.inl wd_5_182⟩
theorem sl_X9_code : Cond.selects (⟨"SignCellarModel", "code", "(I)V"⟩ : MethodName).cls ⟨"SignCellarModel", "code", "(I)V"⟩ ⟨"SignCellarModel", "code", "(I)V"⟩ ∈ am_ts := am_in_p (q := (⟨"SignCellarModel", "code", "(I)V"⟩, 42)) (by decide +kernel)
theorem sl_X9_findCuts : Cond.selects (⟨"SignCellarModel", "findCuts", "(I)V"⟩ : MethodName).cls ⟨"SignCellarModel", "findCuts", "(I)V"⟩ ⟨"SignCellarModel", "findCuts", "(I)V"⟩ ∈ am_ts := am_in_p (q := (⟨"SignCellarModel", "findCuts", "(I)V"⟩, 42)) (by decide +kernel)
theorem sl_X9_findRules : Cond.selects (⟨"SignCellarModel", "findRules", "(I)V"⟩ : MethodName).cls ⟨"SignCellarModel", "findRules", "(I)V"⟩ ⟨"SignCellarModel", "findRules", "(I)V"⟩ ∈ am_ts := am_in_p (q := (⟨"SignCellarModel", "findRules", "(I)V"⟩, 42)) (by decide +kernel)
theorem sl_X9_findTurns : Cond.selects (⟨"SignCellarModel", "findTurns", "(I)V"⟩ : MethodName).cls ⟨"SignCellarModel", "findTurns", "(I)V"⟩ ⟨"SignCellarModel", "findTurns", "(I)V"⟩ ∈ am_ts := am_in_p (q := (⟨"SignCellarModel", "findTurns", "(I)V"⟩, 42)) (by decide +kernel)
def F_X9_sizeBy_103 (k68 : Nat → Int32 → Int32 → am_H → Option (Int32 × am_H)) (v0 : Nat) (v4 : Int32) (s0 : Int32) (s1 : Int32) (h : am_H) : Option (Int32 × am_H) :=
  k68 v0 (s0 + s1) (v4 + (1 : Int32)) h
theorem w_X9_sizeBy_103 {g : am_G} {l : Launch} {h0 : am_H} {x : Int32} {hf : am_H}  {k68 : Nat → Int32 → Int32 → am_H → Option (Int32 × am_H)} (j68 : ∀ (v0 : Nat) (v3 : Int32) (v4 : Int32) (h : am_H), k68 v0 v3 v4 h = some (x, hf) → am_W g l M_X9_sizeBy h0 (some (.int x)) hf 68 [some (.ref v0), none, none, some (.int v3), some (.int v4), none] [] h) (v0 : Nat) (v4 : Int32) (s0 : Int32) (s1 : Int32) (h : am_H) (hF : F_X9_sizeBy_103 k68 v0 v4 s0 s1 h = some (x, hf)) : am_W g l M_X9_sizeBy h0 (some (.int x)) hf 103 [some (.ref v0), none, none, none, some (.int v4), none] [.int s1, .int s0] h := by
  unfold F_X9_sizeBy_103 at hF
  refine am_iadd (pc' := 104) dX9_sizeBy_103 rfl ?_
  refine am_istore_n (ls' := [some (.ref v0), none, none, some (.int (s0 + s1)), some (.int v4), none]) (pc' := 105) dX9_sizeBy_104 (Nat.le_of_ble_eq_true rfl) rfl rfl ?_
  refine am_iinc (ls' := [some (.ref v0), none, none, some (.int (s0 + s1)), some (.int (v4 + (1 : Int32))), none]) (pc' := 108) (v := (v4 + (1 : Int32))) dX9_sizeBy_105 rfl rfl (Nat.le_of_ble_eq_true rfl) rfl rfl ?_
  refine am_goto (pc' := 68) dX9_sizeBy_108 rfl ?_
  exact j68 v0 (s0 + s1) (v4 + (1 : Int32)) h hF
def F_X9_sizeBy_68 : Nat → Nat → Int32 → Int32 → am_H → Option (Int32 × am_H)
  | 0, _, _, _, _ => none
  | n + 1, v0, v3, v4, h =>
  (am_gi 9 25 v0 h).bind fun x1 =>
  if x1 ≤ v4 then
    some (v3, h)
  else
    (am_gr 9 26 v0 h).bind fun x3 =>
    (am_il 0 x3 v4 h).bind fun x4 =>
    if x4 ≤ 0 then
      F_X9_sizeBy_103 (F_X9_sizeBy_68 n) v0 v4 v3 (0 : Int32) h
    else
      (am_gr 9 26 v0 h).bind fun x6 =>
      (am_il 0 x6 v4 h).bind fun x7 =>
      F_X9_sizeBy_103 (F_X9_sizeBy_68 n) v0 v4 v3 (((5 : Int32) * x7) + (1 : Int32)) h
theorem w_X9_sizeBy_68 {g : am_G} {l : Launch} {h0 : am_H} {x : Int32} {hf : am_H}  : ∀ (n : Nat) (v0 : Nat) (v3 : Int32) (v4 : Int32) (h : am_H), F_X9_sizeBy_68 n v0 v3 v4 h = some (x, hf) → am_W g l M_X9_sizeBy h0 (some (.int x)) hf 68 [some (.ref v0), none, none, some (.int v3), some (.int v4), none] [] h
  | 0, _, _, _, _, hF => by cases hF
  | n + 1, v0, v3, v4, h, hF => by
    rw [F_X9_sizeBy_68] at hF
    refine am_iload (pc' := 70) dX9_sizeBy_68 rfl rfl ?_
    refine am_aload_n (pc' := 71) dX9_sizeBy_70 rfl rfl ?_
    obtain ⟨x1, ex1, hF⟩ := am_bind hF
    refine am_geti (pc' := 74) dX9_sizeBy_71 fw_X9_210 ex1 rfl ?_
    rcases am_ite hF with ⟨z2, hF⟩ | ⟨z2, hF⟩
    · refine am_icmp_ge_t (pc' := 111) dX9_sizeBy_74 rfl z2 ?_
      refine am_iload_n (pc' := 112) dX9_sizeBy_111 rfl rfl ?_
      cases hF
      exact am_iret dX9_sizeBy_112 rfl rfl
    · refine am_icmp_ge_f (pc' := 77) (tgt := 111) dX9_sizeBy_74 rfl z2 rfl ?_
      refine am_iload_n (pc' := 78) dX9_sizeBy_77 rfl rfl ?_
      refine am_aload_n (pc' := 79) dX9_sizeBy_78 rfl rfl ?_
      obtain ⟨x3, ex3, hF⟩ := am_bind hF
      refine am_getr (pc' := 82) dX9_sizeBy_79 fw_X9_56 ex3 rfl ?_
      refine am_iload (pc' := 84) dX9_sizeBy_82 rfl rfl ?_
      obtain ⟨x4, ex4, hF⟩ := am_bind hF
      refine am_iald (pc' := 85) dX9_sizeBy_84 ex4 rfl ?_
      rcases am_ite hF with ⟨z5, hF⟩ | ⟨z5, hF⟩
      · refine am_if_le_t (pc' := 102) dX9_sizeBy_85 rfl z5 ?_
        refine am_iconst (v := (0 : Int32)) (pc' := 103) dX9_sizeBy_102 rfl rfl ?_
        exact am_weak [true, false, false, false, true, false] (w_X9_sizeBy_103 (w_X9_sizeBy_68 n) v0 v4 v3 (0 : Int32) h hF)
      · refine am_if_le_f (pc' := 88) (tgt := 102) dX9_sizeBy_85 rfl z5 rfl ?_
        refine am_iconst (v := (5 : Int32)) (pc' := 89) dX9_sizeBy_88 rfl rfl ?_
        refine am_aload_n (pc' := 90) dX9_sizeBy_89 rfl rfl ?_
        obtain ⟨x6, ex6, hF⟩ := am_bind hF
        refine am_getr (pc' := 93) dX9_sizeBy_90 fw_X9_56 ex6 rfl ?_
        refine am_iload (pc' := 95) dX9_sizeBy_93 rfl rfl ?_
        obtain ⟨x7, ex7, hF⟩ := am_bind hF
        refine am_iald (pc' := 96) dX9_sizeBy_95 ex7 rfl ?_
        refine am_imul (pc' := 97) dX9_sizeBy_96 rfl ?_
        refine am_iconst (v := (1 : Int32)) (pc' := 98) dX9_sizeBy_97 rfl rfl ?_
        refine am_iadd (pc' := 99) dX9_sizeBy_98 rfl ?_
        refine am_goto (pc' := 103) dX9_sizeBy_99 rfl ?_
        exact am_weak [true, false, false, false, true, false] (w_X9_sizeBy_103 (w_X9_sizeBy_68 n) v0 v4 v3 (((5 : Int32) * x7) + (1 : Int32)) h hF)
def F_X9_sizeBy_158 (k133 : Nat → Int32 → Int32 → Int32 → am_H → Option (Int32 × am_H)) : Nat → Nat → Int32 → Int32 → Int32 → Int32 → am_H → Option (Int32 × am_H)
  | 0, _, _, _, _, _, _ => none
  | n + 1, v0, v1, v3, v4, v5, h =>
  if v5 ≤ (1 : Int32) then
    k133 v0 v1 v3 (v4 + (1 : Int32)) h
  else
    F_X9_sizeBy_158 k133 n v0 v1 (v3 + (2 : Int32)) v4 (v5 / (2 : Int32)) h
theorem w_X9_sizeBy_158 {g : am_G} {l : Launch} {h0 : am_H} {x : Int32} {hf : am_H}  {k133 : Nat → Int32 → Int32 → Int32 → am_H → Option (Int32 × am_H)} (j133 : ∀ (v0 : Nat) (v1 : Int32) (v3 : Int32) (v4 : Int32) (h : am_H), k133 v0 v1 v3 v4 h = some (x, hf) → am_W g l M_X9_sizeBy h0 (some (.int x)) hf 133 [some (.ref v0), some (.int v1), none, some (.int v3), some (.int v4), none] [] h) : ∀ (n : Nat) (v0 : Nat) (v1 : Int32) (v3 : Int32) (v4 : Int32) (v5 : Int32) (h : am_H), F_X9_sizeBy_158 k133 n v0 v1 v3 v4 v5 h = some (x, hf) → am_W g l M_X9_sizeBy h0 (some (.int x)) hf 158 [some (.ref v0), some (.int v1), none, some (.int v3), some (.int v4), some (.int v5)] [] h
  | 0, _, _, _, _, _, _, hF => by cases hF
  | n + 1, v0, v1, v3, v4, v5, h, hF => by
    rw [F_X9_sizeBy_158] at hF
    refine am_iload (pc' := 160) dX9_sizeBy_158 rfl rfl ?_
    refine am_iconst (v := (1 : Int32)) (pc' := 161) dX9_sizeBy_160 rfl rfl ?_
    rcases am_ite hF with ⟨z1, hF⟩ | ⟨z1, hF⟩
    · refine am_icmp_le_t (pc' := 176) dX9_sizeBy_161 rfl z1 ?_
      refine am_iinc (ls' := [some (.ref v0), some (.int v1), none, some (.int v3), some (.int (v4 + (1 : Int32))), some (.int v5)]) (pc' := 179) (v := (v4 + (1 : Int32))) dX9_sizeBy_176 rfl rfl (Nat.le_of_ble_eq_true rfl) rfl rfl ?_
      refine am_goto (pc' := 133) dX9_sizeBy_179 rfl ?_
      exact am_weak [true, true, false, true, true, false] (j133 v0 v1 v3 (v4 + (1 : Int32)) h hF)
    · refine am_icmp_le_f (pc' := 164) (tgt := 176) dX9_sizeBy_161 rfl z1 rfl ?_
      refine am_iinc (ls' := [some (.ref v0), some (.int v1), none, some (.int (v3 + (2 : Int32))), some (.int v4), some (.int v5)]) (pc' := 167) (v := (v3 + (2 : Int32))) dX9_sizeBy_164 rfl rfl (Nat.le_of_ble_eq_true rfl) rfl rfl ?_
      refine am_iload (pc' := 169) dX9_sizeBy_167 rfl rfl ?_
      refine am_iconst (v := (2 : Int32)) (pc' := 170) dX9_sizeBy_169 rfl rfl ?_
      refine am_idiv (pc' := 171) dX9_sizeBy_170 (by decide) rfl ?_
      refine am_istore (ls' := [some (.ref v0), some (.int v1), none, some (.int (v3 + (2 : Int32))), some (.int v4), some (.int (v5 / (2 : Int32)))]) (pc' := 173) dX9_sizeBy_171 (Nat.le_of_ble_eq_true rfl) rfl rfl ?_
      refine am_goto (pc' := 158) dX9_sizeBy_173 rfl ?_
      exact w_X9_sizeBy_158 j133 n v0 v1 (v3 + (2 : Int32)) v4 (v5 / (2 : Int32)) h hF
def F_X9_sizeBy_133 : Nat → Nat → Int32 → Int32 → Int32 → am_H → Option (Int32 × am_H)
  | 0, _, _, _, _, _ => none
  | n + 1, v0, v1, v3, v4, h =>
  (am_gr 9 3 v0 h).bind fun x1 =>
  (am_il 0 x1 v1 h).bind fun x2 =>
  if x2 ≤ v4 then
    some (v3, h)
  else
    (am_gr 9 33 v0 h).bind fun x4 =>
    (am_il 0 x4 v4 h).bind fun x5 =>
    F_X9_sizeBy_158 (F_X9_sizeBy_133 n) am_F v0 v1 (v3 + (1 : Int32)) v4 (x5 + (1 : Int32)) h
theorem w_X9_sizeBy_133 {g : am_G} {l : Launch} {h0 : am_H} {x : Int32} {hf : am_H}  : ∀ (n : Nat) (v0 : Nat) (v1 : Int32) (v3 : Int32) (v4 : Int32) (h : am_H), F_X9_sizeBy_133 n v0 v1 v3 v4 h = some (x, hf) → am_W g l M_X9_sizeBy h0 (some (.int x)) hf 133 [some (.ref v0), some (.int v1), none, some (.int v3), some (.int v4), none] [] h
  | 0, _, _, _, _, _, hF => by cases hF
  | n + 1, v0, v1, v3, v4, h, hF => by
    rw [F_X9_sizeBy_133] at hF
    refine am_iload (pc' := 135) dX9_sizeBy_133 rfl rfl ?_
    refine am_aload_n (pc' := 136) dX9_sizeBy_135 rfl rfl ?_
    obtain ⟨x1, ex1, hF⟩ := am_bind hF
    refine am_getr (pc' := 139) dX9_sizeBy_136 fw_X9_13 ex1 rfl ?_
    refine am_iload_n (pc' := 140) dX9_sizeBy_139 rfl rfl ?_
    obtain ⟨x2, ex2, hF⟩ := am_bind hF
    refine am_iald (pc' := 141) dX9_sizeBy_140 ex2 rfl ?_
    rcases am_ite hF with ⟨z3, hF⟩ | ⟨z3, hF⟩
    · refine am_icmp_ge_t (pc' := 182) dX9_sizeBy_141 rfl z3 ?_
      refine am_iload_n (pc' := 183) dX9_sizeBy_182 rfl rfl ?_
      cases hF
      exact am_iret dX9_sizeBy_183 rfl rfl
    · refine am_icmp_ge_f (pc' := 144) (tgt := 182) dX9_sizeBy_141 rfl z3 rfl ?_
      refine am_iinc (ls' := [some (.ref v0), some (.int v1), none, some (.int (v3 + (1 : Int32))), some (.int v4), none]) (pc' := 147) (v := (v3 + (1 : Int32))) dX9_sizeBy_144 rfl rfl (Nat.le_of_ble_eq_true rfl) rfl rfl ?_
      refine am_aload_n (pc' := 148) dX9_sizeBy_147 rfl rfl ?_
      obtain ⟨x4, ex4, hF⟩ := am_bind hF
      refine am_getr (pc' := 151) dX9_sizeBy_148 fw_X9_71 ex4 rfl ?_
      refine am_iload (pc' := 153) dX9_sizeBy_151 rfl rfl ?_
      obtain ⟨x5, ex5, hF⟩ := am_bind hF
      refine am_iald (pc' := 154) dX9_sizeBy_153 ex5 rfl ?_
      refine am_iconst (v := (1 : Int32)) (pc' := 155) dX9_sizeBy_154 rfl rfl ?_
      refine am_iadd (pc' := 156) dX9_sizeBy_155 rfl ?_
      refine am_istore (ls' := [some (.ref v0), some (.int v1), none, some (.int (v3 + (1 : Int32))), some (.int v4), some (.int (x5 + (1 : Int32)))]) (pc' := 158) dX9_sizeBy_156 (Nat.le_of_ble_eq_true rfl) rfl rfl ?_
      exact w_X9_sizeBy_158 (w_X9_sizeBy_133 n) am_F v0 v1 (v3 + (1 : Int32)) v4 (x5 + (1 : Int32)) h hF
def F_X9_sizeBy_b (v0 : Nat) (v1 : Int32) (v2 : Int32) (h : am_H) : Option (Int32 × am_H) :=
  if v2 = (0 : Int32) then
    (am_gr 9 3 v0 h).bind fun x2 =>
    (am_il 0 x2 v1 h).bind fun x3 =>
    some (((4 : Int32) * x3), h)
  else
  if v2 = (1 : Int32) then
    (F_X9_findCuts v0 v1 h).bind fun h5 =>
    (am_gr 9 20 v0 h5).bind fun x6 =>
    (am_il 0 x6 (0 : Int32) h5).bind fun x7 =>
    some (x7, h5)
  else
  if v2 = (2 : Int32) then
    (F_X9_findRules v0 v1 h).bind fun h9 =>
    (am_gi 9 24 v0 h9).bind fun x10 =>
    F_X9_sizeBy_68 am_F v0 ((5 : Int32) * x10) (0 : Int32) h9
  else
  if v2 = (3 : Int32) then
    (F_X9_code v0 v1 h).bind fun h12 =>
    (am_gi 9 29 v0 h12).bind fun x13 =>
    some (x13, h12)
  else
  (F_X9_findTurns v0 v1 h).bind fun h14 =>
  F_X9_sizeBy_133 am_F v0 v1 (5 : Int32) (0 : Int32) h14
theorem w_X9_sizeBy {g : am_G} {l : Launch} {h0 : am_H} {x : Int32} {hf : am_H}  (v0 : Nat) (v1 : Int32) (v2 : Int32) (h : am_H) (hF : F_X9_sizeBy_b v0 v1 v2 h = some (x, hf)) : am_W g l M_X9_sizeBy h0 (some (.int x)) hf 0 [some (.ref v0), some (.int v1), some (.int v2), none, none, none] [] h := by
  unfold F_X9_sizeBy_b at hF
  refine am_iconst (v := (0 : Int32)) (pc' := 1) dX9_sizeBy_0 rfl rfl ?_
  refine am_istore_n (ls' := [some (.ref v0), some (.int v1), some (.int v2), some (.int (0 : Int32)), none, none]) (pc' := 2) dX9_sizeBy_1 (Nat.le_of_ble_eq_true rfl) rfl rfl ?_
  refine am_iload_n (pc' := 3) dX9_sizeBy_2 rfl rfl ?_
  rcases am_ite hF with ⟨z1, hF⟩ | ⟨z1, hF⟩
  · refine am_tableIn (c := (0 : Int32)) (pc' := 32) dX9_sizeBy_3 z1 (by decide) (by decide) rfl rfl ?_
    refine am_iconst (v := (4 : Int32)) (pc' := 33) dX9_sizeBy_32 rfl rfl ?_
    refine am_aload_n (pc' := 34) dX9_sizeBy_33 rfl rfl ?_
    obtain ⟨x2, ex2, hF⟩ := am_bind hF
    refine am_getr (pc' := 37) dX9_sizeBy_34 fw_X9_13 ex2 rfl ?_
    refine am_iload_n (pc' := 38) dX9_sizeBy_37 rfl rfl ?_
    obtain ⟨x3, ex3, hF⟩ := am_bind hF
    refine am_iald (pc' := 39) dX9_sizeBy_38 ex3 rfl ?_
    refine am_imul (pc' := 40) dX9_sizeBy_39 rfl ?_
    cases hF
    exact am_iret dX9_sizeBy_40 rfl rfl
  rcases am_ite hF with ⟨z4, hF⟩ | ⟨z4, hF⟩
  · refine am_tableIn (c := (1 : Int32)) (pc' := 41) dX9_sizeBy_3 z4 (by decide) (by decide) rfl rfl ?_
    refine am_aload_n (pc' := 42) dX9_sizeBy_41 rfl rfl ?_
    refine am_iload_n (pc' := 43) dX9_sizeBy_42 rfl rfl ?_
    obtain ⟨h5, eh5, hF⟩ := am_bind hF
    obtain ⟨oh5, ph5⟩ := t_X9_findCuts eh5
    refine am_callV0 (Mc := M_X9_findCuts) (As := [.int v1]) (st := []) (pc' := 46) dX9_sizeBy_43 cw_X9_204 wd_5_118 sl_X9_findCuts ⟨_, rfl, rfl⟩ (by decide) (by decide) rfl rfl (Nat.le_of_ble_eq_true rfl) ph5 (c_X9_findCuts eh5) rfl ?_
    refine am_aload_n (pc' := 47) dX9_sizeBy_46 rfl rfl ?_
    obtain ⟨x6, ex6, hF⟩ := am_bind hF
    refine am_getr (pc' := 50) dX9_sizeBy_47 fw_X9_47 ex6 rfl ?_
    refine am_iconst (v := (0 : Int32)) (pc' := 51) dX9_sizeBy_50 rfl rfl ?_
    obtain ⟨x7, ex7, hF⟩ := am_bind hF
    refine am_iald (pc' := 52) dX9_sizeBy_51 ex7 rfl ?_
    cases hF
    exact am_iret dX9_sizeBy_52 rfl rfl
  rcases am_ite hF with ⟨z8, hF⟩ | ⟨z8, hF⟩
  · refine am_tableIn (c := (2 : Int32)) (pc' := 53) dX9_sizeBy_3 z8 (by decide) (by decide) rfl rfl ?_
    refine am_aload_n (pc' := 54) dX9_sizeBy_53 rfl rfl ?_
    refine am_iload_n (pc' := 55) dX9_sizeBy_54 rfl rfl ?_
    obtain ⟨h9, eh9, hF⟩ := am_bind hF
    obtain ⟨oh9, ph9⟩ := t_X9_findRules eh9
    refine am_callV0 (Mc := M_X9_findRules) (As := [.int v1]) (st := []) (pc' := 58) dX9_sizeBy_55 cw_X9_232 wd_5_136 sl_X9_findRules ⟨_, rfl, rfl⟩ (by decide) (by decide) rfl rfl (Nat.le_of_ble_eq_true rfl) ph9 (c_X9_findRules eh9) rfl ?_
    refine am_iconst (v := (5 : Int32)) (pc' := 59) dX9_sizeBy_58 rfl rfl ?_
    refine am_aload_n (pc' := 60) dX9_sizeBy_59 rfl rfl ?_
    obtain ⟨x10, ex10, hF⟩ := am_bind hF
    refine am_geti (pc' := 63) dX9_sizeBy_60 fw_X9_207 ex10 rfl ?_
    refine am_imul (pc' := 64) dX9_sizeBy_63 rfl ?_
    refine am_istore_n (ls' := [some (.ref v0), some (.int v1), some (.int v2), some (.int ((5 : Int32) * x10)), none, none]) (pc' := 65) dX9_sizeBy_64 (Nat.le_of_ble_eq_true rfl) rfl rfl ?_
    refine am_iconst (v := (0 : Int32)) (pc' := 66) dX9_sizeBy_65 rfl rfl ?_
    refine am_istore (ls' := [some (.ref v0), some (.int v1), some (.int v2), some (.int ((5 : Int32) * x10)), some (.int (0 : Int32)), none]) (pc' := 68) dX9_sizeBy_66 (Nat.le_of_ble_eq_true rfl) rfl rfl ?_
    exact am_weak [true, false, false, true, true, false] (w_X9_sizeBy_68 am_F v0 ((5 : Int32) * x10) (0 : Int32) h9 hF)
  rcases am_ite hF with ⟨z11, hF⟩ | ⟨z11, hF⟩
  · refine am_tableIn (c := (3 : Int32)) (pc' := 113) dX9_sizeBy_3 z11 (by decide) (by decide) rfl rfl ?_
    refine am_aload_n (pc' := 114) dX9_sizeBy_113 rfl rfl ?_
    refine am_iload_n (pc' := 115) dX9_sizeBy_114 rfl rfl ?_
    obtain ⟨h12, eh12, hF⟩ := am_bind hF
    obtain ⟨oh12, ph12⟩ := t_X9_code eh12
    refine am_callV0 (Mc := M_X9_code) (As := [.int v1]) (st := []) (pc' := 118) dX9_sizeBy_115 cw_X9_251 wd_5_168 sl_X9_code ⟨_, rfl, rfl⟩ (by decide) (by decide) rfl rfl (Nat.le_of_ble_eq_true rfl) ph12 (c_X9_code eh12) rfl ?_
    refine am_aload_n (pc' := 119) dX9_sizeBy_118 rfl rfl ?_
    obtain ⟨x13, ex13, hF⟩ := am_bind hF
    refine am_geti (pc' := 122) dX9_sizeBy_119 fw_X9_239 ex13 rfl ?_
    cases hF
    exact am_iret dX9_sizeBy_122 rfl rfl
  refine am_tableOut (pc' := 123) dX9_sizeBy_3 (by have tz1 := lv_neT (a := 0) z1 rfl; have tz4 := lv_neT (a := 1) z4 rfl; have tz8 := lv_neT (a := 2) z8 rfl; have tz11 := lv_neT (a := 3) z11 rfl; omega) rfl ?_
  refine am_aload_n (pc' := 124) dX9_sizeBy_123 rfl rfl ?_
  refine am_iload_n (pc' := 125) dX9_sizeBy_124 rfl rfl ?_
  obtain ⟨h14, eh14, hF⟩ := am_bind hF
  obtain ⟨oh14, ph14⟩ := t_X9_findTurns eh14
  refine am_callV0 (Mc := M_X9_findTurns) (As := [.int v1]) (st := []) (pc' := 128) dX9_sizeBy_125 cw_X9_266 wd_5_184 sl_X9_findTurns ⟨_, rfl, rfl⟩ (by decide) (by decide) rfl rfl (Nat.le_of_ble_eq_true rfl) ph14 (c_X9_findTurns eh14) rfl ?_
  refine am_iconst (v := (5 : Int32)) (pc' := 129) dX9_sizeBy_128 rfl rfl ?_
  refine am_istore_n (ls' := [some (.ref v0), some (.int v1), some (.int v2), some (.int (5 : Int32)), none, none]) (pc' := 130) dX9_sizeBy_129 (Nat.le_of_ble_eq_true rfl) rfl rfl ?_
  refine am_iconst (v := (0 : Int32)) (pc' := 131) dX9_sizeBy_130 rfl rfl ?_
  refine am_istore (ls' := [some (.ref v0), some (.int v1), some (.int v2), some (.int (5 : Int32)), some (.int (0 : Int32)), none]) (pc' := 133) dX9_sizeBy_131 (Nat.le_of_ble_eq_true rfl) rfl rfl ?_
  exact am_weak [true, true, false, true, true, false] (w_X9_sizeBy_133 am_F v0 v1 (5 : Int32) (0 : Int32) h14 hF)
def F_X9_sizeBy (v0 : Nat) (v1 : Int32) (v2 : Int32) (h : am_H) : Option (Int32 × am_H) := (am_obj v0 9 h).bind fun _ => F_X9_sizeBy_b v0 v1 v2 h
theorem t_X9_sizeBy {x : Int32} {hf : am_H}  {v0 : Nat} {v1 : Int32} {v2 : Int32} {h : am_H} (hF : F_X9_sizeBy v0 v1 v2 h = some (x, hf)) : ∃ fs, am_obj v0 9 h = some fs := by
  obtain ⟨fs, e, _⟩ := am_bind hF
  exact ⟨fs, e⟩
theorem c_X9_sizeBy {g : am_G} {l : Launch} {x : Int32} {hf : am_H}  {v0 : Nat} {v1 : Int32} {v2 : Int32} {h : am_H} (hF : F_X9_sizeBy v0 v1 v2 h = some (x, hf)) : am_Met g l M_X9_sizeBy [.ref v0, .int v1, .int v2] h (some (.int x)) hf := by
  obtain ⟨fs, e0, e⟩ := am_bind hF
  exact am_met (n := 3) (by decide +kernel) rfl (Nat.le_of_ble_eq_true rfl) (w_X9_sizeBy v0 v1 v2 h e)
theorem cw_X9_271 : am_cw "SignCellarModel" 271 M_X9_why 2 := ⟨wd_1_9, wd_5_201, ⟨by decide, by decide, by decide⟩, Or.inl wd_5_198⟩
theorem cw_X9_274 : am_cw "SignCellarModel" 274 M_X9_sizeBy 2 := ⟨wd_1_9, wd_5_206, ⟨by decide, by decide, by decide⟩, Or.inl wd_5_203⟩
theorem sl_X9_sizeBy : Cond.selects (⟨"SignCellarModel", "sizeBy", "(II)I"⟩ : MethodName).cls ⟨"SignCellarModel", "sizeBy", "(II)I"⟩ ⟨"SignCellarModel", "sizeBy", "(II)I"⟩ ∈ am_ts := am_in_p (q := (⟨"SignCellarModel", "sizeBy", "(II)I"⟩, 42)) (by decide +kernel)
theorem sl_X9_why : Cond.selects (⟨"SignCellarModel", "why", "(II)I"⟩ : MethodName).cls ⟨"SignCellarModel", "why", "(II)I"⟩ ⟨"SignCellarModel", "why", "(II)I"⟩ ∈ am_ts := am_in_p (q := (⟨"SignCellarModel", "why", "(II)I"⟩, 42)) (by decide +kernel)
def F_X9_size_21 (s0 : Int32) (h : am_H) : Option (Int32 × am_H) :=
  some (s0, h)
theorem w_X9_size_21 {g : am_G} {l : Launch} {h0 : am_H} {x : Int32} {hf : am_H}  (s0 : Int32) (h : am_H) (hF : F_X9_size_21 s0 h = some (x, hf)) : am_W g l M_X9_size h0 (some (.int x)) hf 21 [none, none, none, none] [.int s0] h := by
  unfold F_X9_size_21 at hF
  cases hF
  exact am_iret dX9_size_21 rfl rfl
def F_X9_size_b (v0 : Nat) (v1 : Int32) (v2 : Int32) (h : am_H) : Option (Int32 × am_H) :=
  (F_X9_why v0 v1 v2 h).bind fun x1 =>
  if x1 = 0 then
    (F_X9_sizeBy v0 v1 v2 h).bind fun q3 =>
    F_X9_size_21 q3.1 q3.2
  else
    F_X9_size_21 x1 h
theorem w_X9_size {g : am_G} {l : Launch} {h0 : am_H} {x : Int32} {hf : am_H}  (v0 : Nat) (v1 : Int32) (v2 : Int32) (h : am_H) (hF : F_X9_size_b v0 v1 v2 h = some (x, hf)) : am_W g l M_X9_size h0 (some (.int x)) hf 0 [some (.ref v0), some (.int v1), some (.int v2), none] [] h := by
  unfold F_X9_size_b at hF
  refine am_aload_n (pc' := 1) dX9_size_0 rfl rfl ?_
  refine am_iload_n (pc' := 2) dX9_size_1 rfl rfl ?_
  refine am_iload_n (pc' := 3) dX9_size_2 rfl rfl ?_
  obtain ⟨x1, ex1, hF⟩ := am_bind hF
  obtain ⟨ox1, px1⟩ := t_X9_why ex1
  refine am_callV1 (Mc := M_X9_why) (As := [.int v1, .int v2]) (st := []) (pc' := 6) dX9_size_3 cw_X9_271 wd_5_200 sl_X9_why ⟨_, rfl, rfl⟩ (by decide) (by decide) rfl rfl (Nat.le_of_ble_eq_true rfl) px1 (c_X9_why ex1) rfl ?_
  refine am_istore_n (ls' := [some (.ref v0), some (.int v1), some (.int v2), some (.int x1)]) (pc' := 7) dX9_size_6 (Nat.le_of_ble_eq_true rfl) rfl rfl ?_
  refine am_iload_n (pc' := 8) dX9_size_7 rfl rfl ?_
  rcases am_ite hF with ⟨z2, hF⟩ | ⟨z2, hF⟩
  · refine am_if_eq_t (pc' := 15) dX9_size_8 rfl z2 ?_
    refine am_aload_n (pc' := 16) dX9_size_15 rfl rfl ?_
    refine am_iload_n (pc' := 17) dX9_size_16 rfl rfl ?_
    refine am_iload_n (pc' := 18) dX9_size_17 rfl rfl ?_
    obtain ⟨q3, eq3, hF⟩ := am_bind hF
    obtain ⟨oq3, pq3⟩ := t_X9_sizeBy eq3
    refine am_callV1 (Mc := M_X9_sizeBy) (As := [.int v1, .int v2]) (st := []) (pc' := 21) dX9_size_18 cw_X9_274 wd_5_205 sl_X9_sizeBy ⟨_, rfl, rfl⟩ (by decide) (by decide) rfl rfl (Nat.le_of_ble_eq_true rfl) pq3 (c_X9_sizeBy eq3) rfl ?_
    exact am_weak [false, false, false, false] (w_X9_size_21 q3.1 q3.2 hF)
  · refine am_if_eq_f (pc' := 11) (tgt := 15) dX9_size_8 rfl z2 rfl ?_
    refine am_iload_n (pc' := 12) dX9_size_11 rfl rfl ?_
    refine am_goto (pc' := 21) dX9_size_12 rfl ?_
    exact am_weak [false, false, false, false] (w_X9_size_21 x1 h hF)
def F_X9_size (v0 : Nat) (v1 : Int32) (v2 : Int32) (h : am_H) : Option (Int32 × am_H) := (am_obj v0 9 h).bind fun _ => F_X9_size_b v0 v1 v2 h
theorem t_X9_size {x : Int32} {hf : am_H}  {v0 : Nat} {v1 : Int32} {v2 : Int32} {h : am_H} (hF : F_X9_size v0 v1 v2 h = some (x, hf)) : ∃ fs, am_obj v0 9 h = some fs := by
  obtain ⟨fs, e, _⟩ := am_bind hF
  exact ⟨fs, e⟩
theorem c_X9_size {g : am_G} {l : Launch} {x : Int32} {hf : am_H}  {v0 : Nat} {v1 : Int32} {v2 : Int32} {h : am_H} (hF : F_X9_size v0 v1 v2 h = some (x, hf)) : am_Met g l M_X9_size [.ref v0, .int v1, .int v2] h (some (.int x)) hf := by
  obtain ⟨fs, e0, e⟩ := am_bind hF
  exact am_met (n := 1) (by decide +kernel) rfl (Nat.le_of_ble_eq_true rfl) (w_X9_size v0 v1 v2 h e)
theorem fw_X8_215 : am_fw "SignCellar" 215 0 2 := ⟨(RX0, TX0, 4), rfl, by decide, inX0, Or.inr ⟨_, wd_2_62⟩⟩
def F_X8_time_22 (v4 : Int32) (h : am_H) : Option (Int32 × am_H) :=
  some (v4, h)
theorem w_X8_time_22 {g : am_G} {l : Launch} {h0 : am_H} {x : Int32} {hf : am_H}  (v4 : Int32) (h : am_H) (hF : F_X8_time_22 v4 h = some (x, hf)) : am_W g l M_X8_time h0 (some (.int x)) hf 22 [none, none, none, none, some (.int v4)] [] h := by
  unfold F_X8_time_22 at hF
  refine am_iload (pc' := 24) dX8_time_22 rfl rfl ?_
  cases hF
  exact am_iret dX8_time_24 rfl rfl
def F_X8_time_b (v0 : Nat) (v1 : Int32) (v2 : Int32) (h : am_H) : Option (Int32 × am_H) :=
  (F_X8_blockOf v0 v1 h).bind fun x1 =>
  (F_X8_refusalOfKind x1 v2 h).bind fun x2 =>
  if x1 = 0 then
    F_X8_time_22 x2 h
  else
    if x2 = 0 then
      (F_X8_weigh v0 x1 h).bind fun h5 =>
      (am_gr 0 2 x1 h5).bind fun x6 =>
      (F_X4_at x6 v2 h5).bind fun x7 =>
      some (x7, h5)
    else
      F_X8_time_22 x2 h
theorem w_X8_time {g : am_G} {l : Launch} {h0 : am_H} {x : Int32} {hf : am_H}  (v0 : Nat) (v1 : Int32) (v2 : Int32) (h : am_H) (hF : F_X8_time_b v0 v1 v2 h = some (x, hf)) : am_W g l M_X8_time h0 (some (.int x)) hf 0 [some (.ref v0), some (.int v1), some (.int v2), none, none] [] h := by
  unfold F_X8_time_b at hF
  refine am_aload_n (pc' := 1) dX8_time_0 rfl rfl ?_
  refine am_iload_n (pc' := 2) dX8_time_1 rfl rfl ?_
  obtain ⟨x1, ex1, hF⟩ := am_bind hF
  obtain ⟨ox1, px1⟩ := t_X8_blockOf ex1
  refine am_callV1 (Mc := M_X8_blockOf) (As := [.int v1]) (st := []) (pc' := 5) dX8_time_2 cw_X8_176 wd_2_33 sl_X8_blockOf ⟨_, rfl, rfl⟩ (by decide) (by decide) rfl rfl (Nat.le_of_ble_eq_true rfl) px1 (c_X8_blockOf ex1) rfl ?_
  refine am_astore_n (ls' := [some (.ref v0), some (.int v1), some (.int v2), some (.ref x1), none]) (pc' := 6) dX8_time_5 (Nat.le_of_ble_eq_true rfl) rfl rfl ?_
  refine am_aload_n (pc' := 7) dX8_time_6 rfl rfl ?_
  refine am_iload_n (pc' := 8) dX8_time_7 rfl rfl ?_
  obtain ⟨x2, ex2, hF⟩ := am_bind hF
  refine am_callS1 (Mc := M_X8_refusalOfKind) (As := [.ref x1, .int v2]) (st := []) (pc' := 11) dX8_time_8 cw_X8_204 wd_2_234 (by decide) (by decide) rfl rfl (Nat.le_of_ble_eq_true rfl) (c_X8_refusalOfKind ex2) rfl ?_
  refine am_istore (ls' := [some (.ref v0), some (.int v1), some (.int v2), some (.ref x1), some (.int x2)]) (pc' := 13) dX8_time_11 (Nat.le_of_ble_eq_true rfl) rfl rfl ?_
  refine am_aload_n (pc' := 14) dX8_time_13 rfl rfl ?_
  rcases am_ite hF with ⟨z3, hF⟩ | ⟨z3, hF⟩
  · refine am_ifnull_t (pc' := 22) dX8_time_14 rfl z3 ?_
    exact am_weak [false, false, false, false, true] (w_X8_time_22 x2 h hF)
  · refine am_ifnull_f (pc' := 17) dX8_time_14 z3 rfl ?_
    refine am_iload (pc' := 19) dX8_time_17 rfl rfl ?_
    rcases am_ite hF with ⟨z4, hF⟩ | ⟨z4, hF⟩
    · refine am_if_eq_t (pc' := 25) dX8_time_19 rfl z4 ?_
      refine am_aload_n (pc' := 26) dX8_time_25 rfl rfl ?_
      refine am_aload_n (pc' := 27) dX8_time_26 rfl rfl ?_
      obtain ⟨h5, eh5, hF⟩ := am_bind hF
      obtain ⟨oh5, ph5⟩ := t_X8_weigh eh5
      refine am_callV0 (Mc := M_X8_weigh) (As := [.ref x1]) (st := []) (pc' := 30) dX8_time_27 cw_X8_208 wd_2_238 sl_X8_weigh ⟨_, rfl, rfl⟩ (by decide) (by decide) rfl rfl (Nat.le_of_ble_eq_true rfl) ph5 (c_X8_weigh eh5) rfl ?_
      refine am_aload_n (pc' := 31) dX8_time_30 rfl rfl ?_
      obtain ⟨x6, ex6, hF⟩ := am_bind hF
      refine am_getr (pc' := 34) dX8_time_31 fw_X8_215 ex6 rfl ?_
      refine am_iload_n (pc' := 35) dX8_time_34 rfl rfl ?_
      obtain ⟨x7, ex7, hF⟩ := am_bind hF
      obtain ⟨ox7, px7⟩ := t_X4_at ex7
      refine am_callV1 (Mc := M_X4_at) (As := [.int v2]) (st := []) (pc' := 38) dX8_time_35 cw_X8_161 wd_2_40 wd_2_41 ⟨_, rfl, rfl⟩ (by decide) (by decide) rfl rfl (Nat.le_of_ble_eq_true rfl) px7 (c_X4_at ex7) rfl ?_
      cases hF
      exact am_iret dX8_time_38 rfl rfl
    · refine am_if_eq_f (pc' := 22) (tgt := 25) dX8_time_19 rfl z4 rfl ?_
      exact am_weak [false, false, false, false, true] (w_X8_time_22 x2 h hF)
def F_X8_time (v0 : Nat) (v1 : Int32) (v2 : Int32) (h : am_H) : Option (Int32 × am_H) := (am_obj v0 8 h).bind fun _ => F_X8_time_b v0 v1 v2 h
theorem t_X8_time {x : Int32} {hf : am_H}  {v0 : Nat} {v1 : Int32} {v2 : Int32} {h : am_H} (hF : F_X8_time v0 v1 v2 h = some (x, hf)) : ∃ fs, am_obj v0 8 h = some fs := by
  obtain ⟨fs, e, _⟩ := am_bind hF
  exact ⟨fs, e⟩
theorem c_X8_time {g : am_G} {l : Launch} {x : Int32} {hf : am_H}  {v0 : Nat} {v1 : Int32} {v2 : Int32} {h : am_H} (hF : F_X8_time v0 v1 v2 h = some (x, hf)) : am_Met g l M_X8_time [.ref v0, .int v1, .int v2] h (some (.int x)) hf := by
  obtain ⟨fs, e0, e⟩ := am_bind hF
  exact am_met (n := 2) (by decide +kernel) rfl (Nat.le_of_ble_eq_true rfl) (w_X8_time v0 v1 v2 h e)
def F_X9_rulesLeft_27 (k4 : Nat → Int32 → Int32 → am_H → Option Int32) (v0 : Nat) (v2 : Int32) (s0 : Int32) (s1 : Int32) (h : am_H) : Option Int32 :=
  (F_X9_one s1 h).bind fun x1 =>
  k4 v0 (s0 + x1) (v2 + (1 : Int32)) h
theorem w_X9_rulesLeft_27 {g : am_G} {l : Launch} {h0 : am_H} {x : Int32}  {k4 : Nat → Int32 → Int32 → am_H → Option Int32} (j4 : ∀ (v0 : Nat) (v1 : Int32) (v2 : Int32) (h : am_H), k4 v0 v1 v2 h = some x → am_W g l M_X9_rulesLeft h0 (some (.int x)) h 4 [some (.ref v0), some (.int v1), some (.int v2)] [] h) (v0 : Nat) (v2 : Int32) (s0 : Int32) (s1 : Int32) (h : am_H) (hF : F_X9_rulesLeft_27 k4 v0 v2 s0 s1 h = some x) : am_W g l M_X9_rulesLeft h0 (some (.int x)) h 27 [some (.ref v0), none, some (.int v2)] [.int s1, .int s0] h := by
  unfold F_X9_rulesLeft_27 at hF
  obtain ⟨x1, ex1, hF⟩ := am_bind hF
  refine am_callS1 (Mc := M_X9_one) (As := [.int s1]) (st := [.int s0]) (pc' := 30) dX9_rulesLeft_27 cw_X9_150 wd_5_53 (by decide) (by decide) rfl rfl (Nat.le_of_ble_eq_true rfl) (c_X9_one ex1) rfl ?_
  refine am_iadd (pc' := 31) dX9_rulesLeft_30 rfl ?_
  refine am_istore_n (ls' := [some (.ref v0), some (.int (s0 + x1)), some (.int v2)]) (pc' := 32) dX9_rulesLeft_31 (Nat.le_of_ble_eq_true rfl) rfl rfl ?_
  refine am_iinc (ls' := [some (.ref v0), some (.int (s0 + x1)), some (.int (v2 + (1 : Int32)))]) (pc' := 35) (v := (v2 + (1 : Int32))) dX9_rulesLeft_32 rfl rfl (Nat.le_of_ble_eq_true rfl) rfl rfl ?_
  refine am_goto (pc' := 4) dX9_rulesLeft_35 rfl ?_
  exact j4 v0 (s0 + x1) (v2 + (1 : Int32)) h hF
def F_X9_rulesLeft_4 : Nat → Nat → Int32 → Int32 → am_H → Option Int32
  | 0, _, _, _, _ => none
  | n + 1, v0, v1, v2, h =>
  (am_gi 9 25 v0 h).bind fun x1 =>
  if x1 ≤ v2 then
    some v1
  else
    (am_gr 9 26 v0 h).bind fun x3 =>
    (am_il 0 x3 v2 h).bind fun x4 =>
    if x4 ≤ 0 then
      F_X9_rulesLeft_27 (F_X9_rulesLeft_4 n) v0 v2 v1 (0 : Int32) h
    else
      F_X9_rulesLeft_27 (F_X9_rulesLeft_4 n) v0 v2 v1 (1 : Int32) h
theorem w_X9_rulesLeft_4 {g : am_G} {l : Launch} {h0 : am_H} {x : Int32}  : ∀ (n : Nat) (v0 : Nat) (v1 : Int32) (v2 : Int32) (h : am_H), F_X9_rulesLeft_4 n v0 v1 v2 h = some x → am_W g l M_X9_rulesLeft h0 (some (.int x)) h 4 [some (.ref v0), some (.int v1), some (.int v2)] [] h
  | 0, _, _, _, _, hF => by cases hF
  | n + 1, v0, v1, v2, h, hF => by
    rw [F_X9_rulesLeft_4] at hF
    refine am_iload_n (pc' := 5) dX9_rulesLeft_4 rfl rfl ?_
    refine am_aload_n (pc' := 6) dX9_rulesLeft_5 rfl rfl ?_
    obtain ⟨x1, ex1, hF⟩ := am_bind hF
    refine am_geti (pc' := 9) dX9_rulesLeft_6 fw_X9_210 ex1 rfl ?_
    rcases am_ite hF with ⟨z2, hF⟩ | ⟨z2, hF⟩
    · refine am_icmp_ge_t (pc' := 38) dX9_rulesLeft_9 rfl z2 ?_
      refine am_iload_n (pc' := 39) dX9_rulesLeft_38 rfl rfl ?_
      cases hF
      exact am_iret dX9_rulesLeft_39 rfl rfl
    · refine am_icmp_ge_f (pc' := 12) (tgt := 38) dX9_rulesLeft_9 rfl z2 rfl ?_
      refine am_iload_n (pc' := 13) dX9_rulesLeft_12 rfl rfl ?_
      refine am_aload_n (pc' := 14) dX9_rulesLeft_13 rfl rfl ?_
      obtain ⟨x3, ex3, hF⟩ := am_bind hF
      refine am_getr (pc' := 17) dX9_rulesLeft_14 fw_X9_56 ex3 rfl ?_
      refine am_iload_n (pc' := 18) dX9_rulesLeft_17 rfl rfl ?_
      obtain ⟨x4, ex4, hF⟩ := am_bind hF
      refine am_iald (pc' := 19) dX9_rulesLeft_18 ex4 rfl ?_
      rcases am_ite hF with ⟨z5, hF⟩ | ⟨z5, hF⟩
      · refine am_if_le_t (pc' := 26) dX9_rulesLeft_19 rfl z5 ?_
        refine am_iconst (v := (0 : Int32)) (pc' := 27) dX9_rulesLeft_26 rfl rfl ?_
        exact am_weak [true, false, true] (w_X9_rulesLeft_27 (w_X9_rulesLeft_4 n) v0 v2 v1 (0 : Int32) h hF)
      · refine am_if_le_f (pc' := 22) (tgt := 26) dX9_rulesLeft_19 rfl z5 rfl ?_
        refine am_iconst (v := (1 : Int32)) (pc' := 23) dX9_rulesLeft_22 rfl rfl ?_
        refine am_goto (pc' := 27) dX9_rulesLeft_23 rfl ?_
        exact am_weak [true, false, true] (w_X9_rulesLeft_27 (w_X9_rulesLeft_4 n) v0 v2 v1 (1 : Int32) h hF)
def F_X9_rulesLeft_b (v0 : Nat) (h : am_H) : Option Int32 :=
  F_X9_rulesLeft_4 am_F v0 (0 : Int32) (0 : Int32) h
theorem w_X9_rulesLeft {g : am_G} {l : Launch} {h0 : am_H} {x : Int32}  (v0 : Nat) (h : am_H) (hF : F_X9_rulesLeft_b v0 h = some x) : am_W g l M_X9_rulesLeft h0 (some (.int x)) h 0 [some (.ref v0), none, none] [] h := by
  unfold F_X9_rulesLeft_b at hF
  refine am_iconst (v := (0 : Int32)) (pc' := 1) dX9_rulesLeft_0 rfl rfl ?_
  refine am_istore_n (ls' := [some (.ref v0), some (.int (0 : Int32)), none]) (pc' := 2) dX9_rulesLeft_1 (Nat.le_of_ble_eq_true rfl) rfl rfl ?_
  refine am_iconst (v := (0 : Int32)) (pc' := 3) dX9_rulesLeft_2 rfl rfl ?_
  refine am_istore_n (ls' := [some (.ref v0), some (.int (0 : Int32)), some (.int (0 : Int32))]) (pc' := 4) dX9_rulesLeft_3 (Nat.le_of_ble_eq_true rfl) rfl rfl ?_
  exact w_X9_rulesLeft_4 am_F v0 (0 : Int32) (0 : Int32) h hF
def F_X9_rulesLeft (v0 : Nat) (h : am_H) : Option Int32 := (am_obj v0 9 h).bind fun _ => F_X9_rulesLeft_b v0 h
theorem t_X9_rulesLeft {x : Int32}  {v0 : Nat} {h : am_H} (hF : F_X9_rulesLeft v0 h = some x) : ∃ fs, am_obj v0 9 h = some fs := by
  obtain ⟨fs, e, _⟩ := am_bind hF
  exact ⟨fs, e⟩
theorem c_X9_rulesLeft {g : am_G} {l : Launch} {x : Int32}  {v0 : Nat} {h : am_H} (hF : F_X9_rulesLeft v0 h = some x) : am_Met g l M_X9_rulesLeft [.ref v0] h (some (.int x)) h := by
  obtain ⟨fs, e0, e⟩ := am_bind hF
  exact am_met (n := 2) (by decide +kernel) rfl (Nat.le_of_ble_eq_true rfl) (w_X9_rulesLeft v0 h e)
theorem cw_X9_235 : am_cw "SignCellarModel" 235 M_X9_rulesLeft 0 := ⟨wd_1_9, wd_5_161, ⟨by decide, by decide, by decide⟩, Or.inl wd_5_158⟩
theorem sl_X9_rulesLeft : Cond.selects (⟨"SignCellarModel", "rulesLeft", "()I"⟩ : MethodName).cls ⟨"SignCellarModel", "rulesLeft", "()I"⟩ ⟨"SignCellarModel", "rulesLeft", "()I"⟩ ∈ am_ts := am_in_p (q := (⟨"SignCellarModel", "rulesLeft", "()I"⟩, 42)) (by decide +kernel)
def F_X9_timeBy_b (v0 : Nat) (v1 : Int32) (v2 : Int32) (h : am_H) : Option (Int32 × am_H) :=
  (am_gr 9 3 v0 h).bind fun x1 =>
  (am_il 0 x1 v1 h).bind fun x2 =>
  if v2 = (0 : Int32) then
    some (x2, h)
  else
  if v2 = (1 : Int32) then
    (F_X9_findCuts v0 v1 h).bind fun h5 =>
    (am_gi 9 22 v0 h5).bind fun x6 =>
    some ((x6 + x2), h5)
  else
  if v2 = (2 : Int32) then
    (F_X9_findRules v0 v1 h).bind fun h8 =>
    (F_X9_rulesLeft v0 h8).bind fun x9 =>
    some ((((2 : Int32) * x2) + x9), h8)
  else
  if v2 = (3 : Int32) then
    some (((6 : Int32) * x2), h)
  else
  some (((3 : Int32) * x2), h)
theorem w_X9_timeBy {g : am_G} {l : Launch} {h0 : am_H} {x : Int32} {hf : am_H}  (v0 : Nat) (v1 : Int32) (v2 : Int32) (h : am_H) (hF : F_X9_timeBy_b v0 v1 v2 h = some (x, hf)) : am_W g l M_X9_timeBy h0 (some (.int x)) hf 0 [some (.ref v0), some (.int v1), some (.int v2), none] [] h := by
  unfold F_X9_timeBy_b at hF
  refine am_aload_n (pc' := 1) dX9_timeBy_0 rfl rfl ?_
  obtain ⟨x1, ex1, hF⟩ := am_bind hF
  refine am_getr (pc' := 4) dX9_timeBy_1 fw_X9_13 ex1 rfl ?_
  refine am_iload_n (pc' := 5) dX9_timeBy_4 rfl rfl ?_
  obtain ⟨x2, ex2, hF⟩ := am_bind hF
  refine am_iald (pc' := 6) dX9_timeBy_5 ex2 rfl ?_
  refine am_istore_n (ls' := [some (.ref v0), some (.int v1), some (.int v2), some (.int x2)]) (pc' := 7) dX9_timeBy_6 (Nat.le_of_ble_eq_true rfl) rfl rfl ?_
  refine am_iload_n (pc' := 8) dX9_timeBy_7 rfl rfl ?_
  rcases am_ite hF with ⟨z3, hF⟩ | ⟨z3, hF⟩
  · refine am_tableIn (c := (0 : Int32)) (pc' := 40) dX9_timeBy_8 z3 (by decide) (by decide) rfl rfl ?_
    refine am_iload_n (pc' := 41) dX9_timeBy_40 rfl rfl ?_
    cases hF
    exact am_iret dX9_timeBy_41 rfl rfl
  rcases am_ite hF with ⟨z4, hF⟩ | ⟨z4, hF⟩
  · refine am_tableIn (c := (1 : Int32)) (pc' := 42) dX9_timeBy_8 z4 (by decide) (by decide) rfl rfl ?_
    refine am_aload_n (pc' := 43) dX9_timeBy_42 rfl rfl ?_
    refine am_iload_n (pc' := 44) dX9_timeBy_43 rfl rfl ?_
    obtain ⟨h5, eh5, hF⟩ := am_bind hF
    obtain ⟨oh5, ph5⟩ := t_X9_findCuts eh5
    refine am_callV0 (Mc := M_X9_findCuts) (As := [.int v1]) (st := []) (pc' := 47) dX9_timeBy_44 cw_X9_204 wd_5_118 sl_X9_findCuts ⟨_, rfl, rfl⟩ (by decide) (by decide) rfl rfl (Nat.le_of_ble_eq_true rfl) ph5 (c_X9_findCuts eh5) rfl ?_
    refine am_aload_n (pc' := 48) dX9_timeBy_47 rfl rfl ?_
    obtain ⟨x6, ex6, hF⟩ := am_bind hF
    refine am_geti (pc' := 51) dX9_timeBy_48 fw_X9_198 ex6 rfl ?_
    refine am_iload_n (pc' := 52) dX9_timeBy_51 rfl rfl ?_
    refine am_iadd (pc' := 53) dX9_timeBy_52 rfl ?_
    cases hF
    exact am_iret dX9_timeBy_53 rfl rfl
  rcases am_ite hF with ⟨z7, hF⟩ | ⟨z7, hF⟩
  · refine am_tableIn (c := (2 : Int32)) (pc' := 54) dX9_timeBy_8 z7 (by decide) (by decide) rfl rfl ?_
    refine am_aload_n (pc' := 55) dX9_timeBy_54 rfl rfl ?_
    refine am_iload_n (pc' := 56) dX9_timeBy_55 rfl rfl ?_
    obtain ⟨h8, eh8, hF⟩ := am_bind hF
    obtain ⟨oh8, ph8⟩ := t_X9_findRules eh8
    refine am_callV0 (Mc := M_X9_findRules) (As := [.int v1]) (st := []) (pc' := 59) dX9_timeBy_56 cw_X9_232 wd_5_136 sl_X9_findRules ⟨_, rfl, rfl⟩ (by decide) (by decide) rfl rfl (Nat.le_of_ble_eq_true rfl) ph8 (c_X9_findRules eh8) rfl ?_
    refine am_iconst (v := (2 : Int32)) (pc' := 60) dX9_timeBy_59 rfl rfl ?_
    refine am_iload_n (pc' := 61) dX9_timeBy_60 rfl rfl ?_
    refine am_imul (pc' := 62) dX9_timeBy_61 rfl ?_
    refine am_aload_n (pc' := 63) dX9_timeBy_62 rfl rfl ?_
    obtain ⟨x9, ex9, hF⟩ := am_bind hF
    obtain ⟨ox9, px9⟩ := t_X9_rulesLeft ex9
    refine am_callV1 (Mc := M_X9_rulesLeft) (As := []) (st := [.int ((2 : Int32) * x2)]) (pc' := 66) dX9_timeBy_63 cw_X9_235 wd_5_160 sl_X9_rulesLeft ⟨_, rfl, rfl⟩ (by decide) (by decide) rfl rfl (Nat.le_of_ble_eq_true rfl) px9 (c_X9_rulesLeft ex9) rfl ?_
    refine am_iadd (pc' := 67) dX9_timeBy_66 rfl ?_
    cases hF
    exact am_iret dX9_timeBy_67 rfl rfl
  rcases am_ite hF with ⟨z10, hF⟩ | ⟨z10, hF⟩
  · refine am_tableIn (c := (3 : Int32)) (pc' := 68) dX9_timeBy_8 z10 (by decide) (by decide) rfl rfl ?_
    refine am_bipush (v := (6 : Int32)) (pc' := 70) dX9_timeBy_68 rfl rfl ?_
    refine am_iload_n (pc' := 71) dX9_timeBy_70 rfl rfl ?_
    refine am_imul (pc' := 72) dX9_timeBy_71 rfl ?_
    cases hF
    exact am_iret dX9_timeBy_72 rfl rfl
  refine am_tableOut (pc' := 73) dX9_timeBy_8 (by have tz3 := lv_neT (a := 0) z3 rfl; have tz4 := lv_neT (a := 1) z4 rfl; have tz7 := lv_neT (a := 2) z7 rfl; have tz10 := lv_neT (a := 3) z10 rfl; omega) rfl ?_
  refine am_iconst (v := (3 : Int32)) (pc' := 74) dX9_timeBy_73 rfl rfl ?_
  refine am_iload_n (pc' := 75) dX9_timeBy_74 rfl rfl ?_
  refine am_imul (pc' := 76) dX9_timeBy_75 rfl ?_
  cases hF
  exact am_iret dX9_timeBy_76 rfl rfl
def F_X9_timeBy (v0 : Nat) (v1 : Int32) (v2 : Int32) (h : am_H) : Option (Int32 × am_H) := (am_obj v0 9 h).bind fun _ => F_X9_timeBy_b v0 v1 v2 h
theorem t_X9_timeBy {x : Int32} {hf : am_H}  {v0 : Nat} {v1 : Int32} {v2 : Int32} {h : am_H} (hF : F_X9_timeBy v0 v1 v2 h = some (x, hf)) : ∃ fs, am_obj v0 9 h = some fs := by
  obtain ⟨fs, e, _⟩ := am_bind hF
  exact ⟨fs, e⟩
theorem c_X9_timeBy {g : am_G} {l : Launch} {x : Int32} {hf : am_H}  {v0 : Nat} {v1 : Int32} {v2 : Int32} {h : am_H} (hF : F_X9_timeBy v0 v1 v2 h = some (x, hf)) : am_Met g l M_X9_timeBy [.ref v0, .int v1, .int v2] h (some (.int x)) hf := by
  obtain ⟨fs, e0, e⟩ := am_bind hF
  exact am_met (n := 1) (by decide +kernel) rfl (Nat.le_of_ble_eq_true rfl) (w_X9_timeBy v0 v1 v2 h e)
theorem cw_X9_277 : am_cw "SignCellarModel" 277 M_X9_timeBy 2 := ⟨wd_1_9, wd_5_214, ⟨by decide, by decide, by decide⟩, Or.inl wd_5_211⟩
theorem sl_X9_timeBy : Cond.selects (⟨"SignCellarModel", "timeBy", "(II)I"⟩ : MethodName).cls ⟨"SignCellarModel", "timeBy", "(II)I"⟩ ⟨"SignCellarModel", "timeBy", "(II)I"⟩ ∈ am_ts := am_in_p (q := (⟨"SignCellarModel", "timeBy", "(II)I"⟩, 42)) (by decide +kernel)
def F_X9_time_21 (s0 : Int32) (h : am_H) : Option (Int32 × am_H) :=
  some (s0, h)
theorem w_X9_time_21 {g : am_G} {l : Launch} {h0 : am_H} {x : Int32} {hf : am_H}  (s0 : Int32) (h : am_H) (hF : F_X9_time_21 s0 h = some (x, hf)) : am_W g l M_X9_time h0 (some (.int x)) hf 21 [none, none, none, none] [.int s0] h := by
  unfold F_X9_time_21 at hF
  cases hF
  exact am_iret dX9_time_21 rfl rfl
def F_X9_time_b (v0 : Nat) (v1 : Int32) (v2 : Int32) (h : am_H) : Option (Int32 × am_H) :=
  (F_X9_why v0 v1 v2 h).bind fun x1 =>
  if x1 = 0 then
    (F_X9_timeBy v0 v1 v2 h).bind fun q3 =>
    F_X9_time_21 q3.1 q3.2
  else
    F_X9_time_21 x1 h
theorem w_X9_time {g : am_G} {l : Launch} {h0 : am_H} {x : Int32} {hf : am_H}  (v0 : Nat) (v1 : Int32) (v2 : Int32) (h : am_H) (hF : F_X9_time_b v0 v1 v2 h = some (x, hf)) : am_W g l M_X9_time h0 (some (.int x)) hf 0 [some (.ref v0), some (.int v1), some (.int v2), none] [] h := by
  unfold F_X9_time_b at hF
  refine am_aload_n (pc' := 1) dX9_time_0 rfl rfl ?_
  refine am_iload_n (pc' := 2) dX9_time_1 rfl rfl ?_
  refine am_iload_n (pc' := 3) dX9_time_2 rfl rfl ?_
  obtain ⟨x1, ex1, hF⟩ := am_bind hF
  obtain ⟨ox1, px1⟩ := t_X9_why ex1
  refine am_callV1 (Mc := M_X9_why) (As := [.int v1, .int v2]) (st := []) (pc' := 6) dX9_time_3 cw_X9_271 wd_5_200 sl_X9_why ⟨_, rfl, rfl⟩ (by decide) (by decide) rfl rfl (Nat.le_of_ble_eq_true rfl) px1 (c_X9_why ex1) rfl ?_
  refine am_istore_n (ls' := [some (.ref v0), some (.int v1), some (.int v2), some (.int x1)]) (pc' := 7) dX9_time_6 (Nat.le_of_ble_eq_true rfl) rfl rfl ?_
  refine am_iload_n (pc' := 8) dX9_time_7 rfl rfl ?_
  rcases am_ite hF with ⟨z2, hF⟩ | ⟨z2, hF⟩
  · refine am_if_eq_t (pc' := 15) dX9_time_8 rfl z2 ?_
    refine am_aload_n (pc' := 16) dX9_time_15 rfl rfl ?_
    refine am_iload_n (pc' := 17) dX9_time_16 rfl rfl ?_
    refine am_iload_n (pc' := 18) dX9_time_17 rfl rfl ?_
    obtain ⟨q3, eq3, hF⟩ := am_bind hF
    obtain ⟨oq3, pq3⟩ := t_X9_timeBy eq3
    refine am_callV1 (Mc := M_X9_timeBy) (As := [.int v1, .int v2]) (st := []) (pc' := 21) dX9_time_18 cw_X9_277 wd_5_213 sl_X9_timeBy ⟨_, rfl, rfl⟩ (by decide) (by decide) rfl rfl (Nat.le_of_ble_eq_true rfl) pq3 (c_X9_timeBy eq3) rfl ?_
    exact am_weak [false, false, false, false] (w_X9_time_21 q3.1 q3.2 hF)
  · refine am_if_eq_f (pc' := 11) (tgt := 15) dX9_time_8 rfl z2 rfl ?_
    refine am_iload_n (pc' := 12) dX9_time_11 rfl rfl ?_
    refine am_goto (pc' := 21) dX9_time_12 rfl ?_
    exact am_weak [false, false, false, false] (w_X9_time_21 x1 h hF)
def F_X9_time (v0 : Nat) (v1 : Int32) (v2 : Int32) (h : am_H) : Option (Int32 × am_H) := (am_obj v0 9 h).bind fun _ => F_X9_time_b v0 v1 v2 h
theorem t_X9_time {x : Int32} {hf : am_H}  {v0 : Nat} {v1 : Int32} {v2 : Int32} {h : am_H} (hF : F_X9_time v0 v1 v2 h = some (x, hf)) : ∃ fs, am_obj v0 9 h = some fs := by
  obtain ⟨fs, e, _⟩ := am_bind hF
  exact ⟨fs, e⟩
theorem c_X9_time {g : am_G} {l : Launch} {x : Int32} {hf : am_H}  {v0 : Nat} {v1 : Int32} {v2 : Int32} {h : am_H} (hF : F_X9_time v0 v1 v2 h = some (x, hf)) : am_Met g l M_X9_time [.ref v0, .int v1, .int v2] h (some (.int x)) hf := by
  obtain ⟨fs, e0, e⟩ := am_bind hF
  exact am_met (n := 1) (by decide +kernel) rfl (Nat.le_of_ble_eq_true rfl) (w_X9_time v0 v1 v2 h e)
def F_X8_cut_63 (s0 : Int32) (h : am_H) : Option (Int32 × am_H) :=
  some (s0, h)
theorem w_X8_cut_63 {g : am_G} {l : Launch} {h0 : am_H} {x : Int32} {hf : am_H}  (s0 : Int32) (h : am_H) (hF : F_X8_cut_63 s0 h = some (x, hf)) : am_W g l M_X8_cut h0 (some (.int x)) hf 63 [none, none, none, none] [.int s0] h := by
  unfold F_X8_cut_63 at hF
  cases hF
  exact am_iret dX8_cut_63 rfl rfl
def F_X8_cut_b (v0 : Nat) (v1 : Int32) (v2 : Int32) (h : am_H) : Option (Int32 × am_H) :=
  (F_X8_blockOf v0 v1 h).bind fun x1 =>
  if x1 = 0 then
    some ((-100001 : Int32), h)
  else
    (am_gi 0 3 x1 h).bind fun x3 =>
    if x3 = 0 then
      (am_gr 8 11 v0 h).bind fun x5 =>
      (am_gr 0 0 x1 h).bind fun x6 =>
      (F_X2_squeeze x5 x6 h).bind fun h7 =>
      if v2 = (-1 : Int32) then
        (am_gr 8 11 v0 h7).bind fun x9 =>
        (am_gr 2 3 x9 h7).bind fun x10 =>
        (F_X4_length x10 h7).bind fun x11 =>
        F_X8_cut_63 x11 h7
      else
        (am_gr 8 11 v0 h7).bind fun x12 =>
        (am_gr 2 3 x12 h7).bind fun x13 =>
        (F_X4_at x13 v2 h7).bind fun x14 =>
        F_X8_cut_63 x14 h7
    else
      some ((-100005 : Int32), h)
theorem w_X8_cut {g : am_G} {l : Launch} {h0 : am_H} {x : Int32} {hf : am_H}  (v0 : Nat) (v1 : Int32) (v2 : Int32) (h : am_H) (hF : F_X8_cut_b v0 v1 v2 h = some (x, hf)) : am_W g l M_X8_cut h0 (some (.int x)) hf 0 [some (.ref v0), some (.int v1), some (.int v2), none] [] h := by
  unfold F_X8_cut_b at hF
  refine am_aload_n (pc' := 1) dX8_cut_0 rfl rfl ?_
  refine am_iload_n (pc' := 2) dX8_cut_1 rfl rfl ?_
  obtain ⟨x1, ex1, hF⟩ := am_bind hF
  obtain ⟨ox1, px1⟩ := t_X8_blockOf ex1
  refine am_callV1 (Mc := M_X8_blockOf) (As := [.int v1]) (st := []) (pc' := 5) dX8_cut_2 cw_X8_176 wd_2_33 sl_X8_blockOf ⟨_, rfl, rfl⟩ (by decide) (by decide) rfl rfl (Nat.le_of_ble_eq_true rfl) px1 (c_X8_blockOf ex1) rfl ?_
  refine am_astore_n (ls' := [some (.ref v0), some (.int v1), some (.int v2), some (.ref x1)]) (pc' := 6) dX8_cut_5 (Nat.le_of_ble_eq_true rfl) rfl rfl ?_
  refine am_aload_n (pc' := 7) dX8_cut_6 rfl rfl ?_
  rcases am_ite hF with ⟨z2, hF⟩ | ⟨z2, hF⟩
  · refine am_ifnonnull_f (pc' := 10) dX8_cut_7 z2 rfl ?_
    refine am_ldc (v := (-100001 : Int32)) (pc' := 12) dX8_cut_10 wd_2_137 rfl ?_
    cases hF
    exact am_iret dX8_cut_12 rfl rfl
  · refine am_ifnonnull_t (pc' := 13) dX8_cut_7 rfl z2 ?_
    refine am_aload_n (pc' := 14) dX8_cut_13 rfl rfl ?_
    obtain ⟨x3, ex3, hF⟩ := am_bind hF
    refine am_geti (pc' := 17) dX8_cut_14 fw_X8_182 ex3 rfl ?_
    rcases am_ite hF with ⟨z4, hF⟩ | ⟨z4, hF⟩
    · refine am_if_eq_t (pc' := 23) dX8_cut_17 rfl z4 ?_
      refine am_aload_n (pc' := 24) dX8_cut_23 rfl rfl ?_
      obtain ⟨x5, ex5, hF⟩ := am_bind hF
      refine am_getr (pc' := 27) dX8_cut_24 fw_X8_60 ex5 rfl ?_
      refine am_aload_n (pc' := 28) dX8_cut_27 rfl rfl ?_
      obtain ⟨x6, ex6, hF⟩ := am_bind hF
      refine am_getr (pc' := 31) dX8_cut_28 fw_X8_180 ex6 rfl ?_
      obtain ⟨h7, eh7, hF⟩ := am_bind hF
      obtain ⟨oh7, ph7⟩ := t_X2_squeeze eh7
      refine am_callV0 (Mc := M_X2_squeeze) (As := [.ref x6]) (st := []) (pc' := 34) dX8_cut_31 cw_X8_218 wd_3_1 wd_3_2 ⟨_, rfl, rfl⟩ (by decide) (by decide) rfl rfl (Nat.le_of_ble_eq_true rfl) ph7 (c_X2_squeeze eh7) rfl ?_
      refine am_iload_n (pc' := 35) dX8_cut_34 rfl rfl ?_
      refine am_iconst (v := (-1 : Int32)) (pc' := 36) dX8_cut_35 rfl rfl ?_
      rcases am_ite hF with ⟨z8, hF⟩ | ⟨z8, hF⟩
      · refine am_icmp_ne_f (pc' := 39) (tgt := 52) dX8_cut_36 rfl z8 rfl ?_
        refine am_aload_n (pc' := 40) dX8_cut_39 rfl rfl ?_
        obtain ⟨x9, ex9, hF⟩ := am_bind hF
        refine am_getr (pc' := 43) dX8_cut_40 fw_X8_60 ex9 rfl ?_
        obtain ⟨x10, ex10, hF⟩ := am_bind hF
        refine am_getr (pc' := 46) dX8_cut_43 fw_X8_222 ex10 rfl ?_
        obtain ⟨x11, ex11, hF⟩ := am_bind hF
        obtain ⟨ox11, px11⟩ := t_X4_length ex11
        refine am_callV1 (Mc := M_X4_length) (As := []) (st := []) (pc' := 49) dX8_cut_46 cw_X8_93 wd_1_235 wd_1_236 ⟨_, rfl, rfl⟩ (by decide) (by decide) rfl rfl (Nat.le_of_ble_eq_true rfl) px11 (c_X4_length ex11) rfl ?_
        refine am_goto (pc' := 63) dX8_cut_49 rfl ?_
        exact am_weak [false, false, false, false] (w_X8_cut_63 x11 h7 hF)
      · refine am_icmp_ne_t (pc' := 52) dX8_cut_36 rfl z8 ?_
        refine am_aload_n (pc' := 53) dX8_cut_52 rfl rfl ?_
        obtain ⟨x12, ex12, hF⟩ := am_bind hF
        refine am_getr (pc' := 56) dX8_cut_53 fw_X8_60 ex12 rfl ?_
        obtain ⟨x13, ex13, hF⟩ := am_bind hF
        refine am_getr (pc' := 59) dX8_cut_56 fw_X8_222 ex13 rfl ?_
        refine am_iload_n (pc' := 60) dX8_cut_59 rfl rfl ?_
        obtain ⟨x14, ex14, hF⟩ := am_bind hF
        obtain ⟨ox14, px14⟩ := t_X4_at ex14
        refine am_callV1 (Mc := M_X4_at) (As := [.int v2]) (st := []) (pc' := 63) dX8_cut_60 cw_X8_161 wd_2_40 wd_2_41 ⟨_, rfl, rfl⟩ (by decide) (by decide) rfl rfl (Nat.le_of_ble_eq_true rfl) px14 (c_X4_at ex14) rfl ?_
        exact am_weak [false, false, false, false] (w_X8_cut_63 x14 h7 hF)
    · refine am_if_eq_f (pc' := 20) (tgt := 23) dX8_cut_17 rfl z4 rfl ?_
      refine am_ldc (v := (-100005 : Int32)) (pc' := 22) dX8_cut_20 wd_2_153 rfl ?_
      cases hF
      exact am_iret dX8_cut_22 rfl rfl
def F_X8_cut (v0 : Nat) (v1 : Int32) (v2 : Int32) (h : am_H) : Option (Int32 × am_H) := (am_obj v0 8 h).bind fun _ => F_X8_cut_b v0 v1 v2 h
theorem t_X8_cut {x : Int32} {hf : am_H}  {v0 : Nat} {v1 : Int32} {v2 : Int32} {h : am_H} (hF : F_X8_cut v0 v1 v2 h = some (x, hf)) : ∃ fs, am_obj v0 8 h = some fs := by
  obtain ⟨fs, e, _⟩ := am_bind hF
  exact ⟨fs, e⟩
theorem c_X8_cut {g : am_G} {l : Launch} {x : Int32} {hf : am_H}  {v0 : Nat} {v1 : Int32} {v2 : Int32} {h : am_H} (hF : F_X8_cut v0 v1 v2 h = some (x, hf)) : am_Met g l M_X8_cut [.ref v0, .int v1, .int v2] h (some (.int x)) hf := by
  obtain ⟨fs, e0, e⟩ := am_bind hF
  exact am_met (n := 1) (by decide +kernel) rfl (Nat.le_of_ble_eq_true rfl) (w_X8_cut v0 v1 v2 h e)
def F_X9_cut_66 (s0 : Int32) (h : am_H) : Option (Int32 × am_H) :=
  some (s0, h)
theorem w_X9_cut_66 {g : am_G} {l : Launch} {h0 : am_H} {x : Int32} {hf : am_H}  (s0 : Int32) (h : am_H) (hF : F_X9_cut_66 s0 h = some (x, hf)) : am_W g l M_X9_cut h0 (some (.int x)) hf 66 [none, none, none] [.int s0] h := by
  unfold F_X9_cut_66 at hF
  cases hF
  exact am_iret dX9_cut_66 rfl rfl
def F_X9_cut_b (v0 : Nat) (v1 : Int32) (v2 : Int32) (h : am_H) : Option (Int32 × am_H) :=
  (F_X9_noBlock v0 v1 h).bind fun x1 =>
  if x1 = 0 then
    (am_gr 9 5 v0 h).bind fun x3 =>
    (am_il 1 x3 v1 h).bind fun x4 =>
    if x4 = 0 then
      (F_X9_findCuts v0 v1 h).bind fun h6 =>
      if v2 = (-1 : Int32) then
        (am_gi 9 22 v0 h6).bind fun x8 =>
        F_X9_cut_66 x8 h6
      else
        (am_gi 9 22 v0 h6).bind fun x9 =>
        (F_X9_in (Int32.toInt64 v2) (0 : Int64) (Int32.toInt64 (x9 - (1 : Int32))) h6).bind fun x10 =>
        if x10 = 0 then
          F_X9_cut_66 (-1 : Int32) h6
        else
          (am_gr 9 21 v0 h6).bind fun x12 =>
          (am_il 0 x12 v2 h6).bind fun x13 =>
          F_X9_cut_66 x13 h6
    else
      some ((-100005 : Int32), h)
  else
    some ((-100001 : Int32), h)
theorem w_X9_cut {g : am_G} {l : Launch} {h0 : am_H} {x : Int32} {hf : am_H}  (v0 : Nat) (v1 : Int32) (v2 : Int32) (h : am_H) (hF : F_X9_cut_b v0 v1 v2 h = some (x, hf)) : am_W g l M_X9_cut h0 (some (.int x)) hf 0 [some (.ref v0), some (.int v1), some (.int v2)] [] h := by
  unfold F_X9_cut_b at hF
  refine am_aload_n (pc' := 1) dX9_cut_0 rfl rfl ?_
  refine am_iload_n (pc' := 2) dX9_cut_1 rfl rfl ?_
  obtain ⟨x1, ex1, hF⟩ := am_bind hF
  obtain ⟨ox1, px1⟩ := t_X9_noBlock ex1
  refine am_callV1 (Mc := M_X9_noBlock) (As := [.int v1]) (st := []) (pc' := 5) dX9_cut_2 cw_X9_184 wd_5_98 sl_X9_noBlock ⟨_, rfl, rfl⟩ (by decide) (by decide) rfl rfl (Nat.le_of_ble_eq_true rfl) px1 (c_X9_noBlock ex1) rfl ?_
  rcases am_ite hF with ⟨z2, hF⟩ | ⟨z2, hF⟩
  · refine am_if_eq_t (pc' := 11) dX9_cut_5 rfl z2 ?_
    refine am_aload_n (pc' := 12) dX9_cut_11 rfl rfl ?_
    obtain ⟨x3, ex3, hF⟩ := am_bind hF
    refine am_getr (pc' := 15) dX9_cut_12 fw_X9_19 ex3 rfl ?_
    refine am_iload_n (pc' := 16) dX9_cut_15 rfl rfl ?_
    obtain ⟨x4, ex4, hF⟩ := am_bind hF
    refine am_bald (pc' := 17) dX9_cut_16 ex4 rfl ?_
    rcases am_ite hF with ⟨z5, hF⟩ | ⟨z5, hF⟩
    · refine am_if_eq_t (pc' := 23) dX9_cut_17 rfl z5 ?_
      refine am_aload_n (pc' := 24) dX9_cut_23 rfl rfl ?_
      refine am_iload_n (pc' := 25) dX9_cut_24 rfl rfl ?_
      obtain ⟨h6, eh6, hF⟩ := am_bind hF
      obtain ⟨oh6, ph6⟩ := t_X9_findCuts eh6
      refine am_callV0 (Mc := M_X9_findCuts) (As := [.int v1]) (st := []) (pc' := 28) dX9_cut_25 cw_X9_204 wd_5_118 sl_X9_findCuts ⟨_, rfl, rfl⟩ (by decide) (by decide) rfl rfl (Nat.le_of_ble_eq_true rfl) ph6 (c_X9_findCuts eh6) rfl ?_
      refine am_iload_n (pc' := 29) dX9_cut_28 rfl rfl ?_
      refine am_iconst (v := (-1 : Int32)) (pc' := 30) dX9_cut_29 rfl rfl ?_
      rcases am_ite hF with ⟨z7, hF⟩ | ⟨z7, hF⟩
      · refine am_icmp_ne_f (pc' := 33) (tgt := 40) dX9_cut_30 rfl z7 rfl ?_
        refine am_aload_n (pc' := 34) dX9_cut_33 rfl rfl ?_
        obtain ⟨x8, ex8, hF⟩ := am_bind hF
        refine am_geti (pc' := 37) dX9_cut_34 fw_X9_198 ex8 rfl ?_
        refine am_goto (pc' := 66) dX9_cut_37 rfl ?_
        exact am_weak [false, false, false] (w_X9_cut_66 x8 h6 hF)
      · refine am_icmp_ne_t (pc' := 40) dX9_cut_30 rfl z7 ?_
        refine am_iload_n (pc' := 41) dX9_cut_40 rfl rfl ?_
        refine am_i2l (pc' := 42) dX9_cut_41 rfl ?_
        refine am_lconst (v := (0 : Int64)) (pc' := 43) dX9_cut_42 rfl rfl ?_
        refine am_aload_n (pc' := 44) dX9_cut_43 rfl rfl ?_
        obtain ⟨x9, ex9, hF⟩ := am_bind hF
        refine am_geti (pc' := 47) dX9_cut_44 fw_X9_198 ex9 rfl ?_
        refine am_iconst (v := (1 : Int32)) (pc' := 48) dX9_cut_47 rfl rfl ?_
        refine am_isub (pc' := 49) dX9_cut_48 rfl ?_
        refine am_i2l (pc' := 50) dX9_cut_49 rfl ?_
        obtain ⟨x10, ex10, hF⟩ := am_bind hF
        refine am_callS1 (Mc := M_X9_in) (As := [.long (Int32.toInt64 v2), .long (0 : Int64), .long (Int32.toInt64 (x9 - (1 : Int32)))]) (st := []) (pc' := 53) dX9_cut_50 cw_X9_96 wd_4_234 (by decide) (by decide) rfl rfl (Nat.le_of_ble_eq_true rfl) (c_X9_in ex10) rfl ?_
        rcases am_ite hF with ⟨z11, hF⟩ | ⟨z11, hF⟩
        · refine am_if_eq_t (pc' := 65) dX9_cut_53 rfl z11 ?_
          refine am_iconst (v := (-1 : Int32)) (pc' := 66) dX9_cut_65 rfl rfl ?_
          exact am_weak [false, false, false] (w_X9_cut_66 (-1 : Int32) h6 hF)
        · refine am_if_eq_f (pc' := 56) (tgt := 65) dX9_cut_53 rfl z11 rfl ?_
          refine am_aload_n (pc' := 57) dX9_cut_56 rfl rfl ?_
          obtain ⟨x12, ex12, hF⟩ := am_bind hF
          refine am_getr (pc' := 60) dX9_cut_57 fw_X9_50 ex12 rfl ?_
          refine am_iload_n (pc' := 61) dX9_cut_60 rfl rfl ?_
          obtain ⟨x13, ex13, hF⟩ := am_bind hF
          refine am_iald (pc' := 62) dX9_cut_61 ex13 rfl ?_
          refine am_goto (pc' := 66) dX9_cut_62 rfl ?_
          exact am_weak [false, false, false] (w_X9_cut_66 x13 h6 hF)
    · refine am_if_eq_f (pc' := 20) (tgt := 23) dX9_cut_17 rfl z5 rfl ?_
      refine am_ldc (v := (-100005 : Int32)) (pc' := 22) dX9_cut_20 wd_5_55 rfl ?_
      cases hF
      exact am_iret dX9_cut_22 rfl rfl
  · refine am_if_eq_f (pc' := 8) (tgt := 11) dX9_cut_5 rfl z2 rfl ?_
    refine am_ldc (v := (-100001 : Int32)) (pc' := 10) dX9_cut_8 wd_5_47 rfl ?_
    cases hF
    exact am_iret dX9_cut_10 rfl rfl
def F_X9_cut (v0 : Nat) (v1 : Int32) (v2 : Int32) (h : am_H) : Option (Int32 × am_H) := (am_obj v0 9 h).bind fun _ => F_X9_cut_b v0 v1 v2 h
theorem t_X9_cut {x : Int32} {hf : am_H}  {v0 : Nat} {v1 : Int32} {v2 : Int32} {h : am_H} (hF : F_X9_cut v0 v1 v2 h = some (x, hf)) : ∃ fs, am_obj v0 9 h = some fs := by
  obtain ⟨fs, e, _⟩ := am_bind hF
  exact ⟨fs, e⟩
theorem c_X9_cut {g : am_G} {l : Launch} {x : Int32} {hf : am_H}  {v0 : Nat} {v1 : Int32} {v2 : Int32} {h : am_H} (hF : F_X9_cut v0 v1 v2 h = some (x, hf)) : am_Met g l M_X9_cut [.ref v0, .int v1, .int v2] h (some (.int x)) hf := by
  obtain ⟨fs, e0, e⟩ := am_bind hF
  exact am_met (n := 0) (by decide +kernel) rfl (Nat.le_of_ble_eq_true rfl) (w_X9_cut v0 v1 v2 h e)
def F_X5_pieceOf_35 (s0 : Int32) (h : am_H) : Option Int32 :=
  some s0
theorem w_X5_pieceOf_35 {g : am_G} {l : Launch} {h0 : am_H} {x : Int32}  (s0 : Int32) (h : am_H) (hF : F_X5_pieceOf_35 s0 h = some x) : am_W g l M_X5_pieceOf h0 (some (.int x)) h 35 [none, none, none] [.int s0] h := by
  unfold F_X5_pieceOf_35 at hF
  cases hF
  exact am_iret dX5_pieceOf_35 rfl rfl
def F_X5_pieceOf_34 (h : am_H) : Option Int32 :=
  F_X5_pieceOf_35 (-1 : Int32) h
theorem w_X5_pieceOf_34 {g : am_G} {l : Launch} {h0 : am_H} {x : Int32}  (h : am_H) (hF : F_X5_pieceOf_34 h = some x) : am_W g l M_X5_pieceOf h0 (some (.int x)) h 34 [none, none, none] [] h := by
  unfold F_X5_pieceOf_34 at hF
  refine am_iconst (v := (-1 : Int32)) (pc' := 35) dX5_pieceOf_34 rfl rfl ?_
  exact w_X5_pieceOf_35 (-1 : Int32) h hF
def F_X5_pieceOf_b (v0 : Nat) (v1 : Int32) (v2 : Int32) (h : am_H) : Option Int32 :=
  if v1 < 0 then
    F_X5_pieceOf_34 h
  else
    (am_gi 5 3 v0 h).bind fun x2 =>
    if x2 ≤ v1 then
      F_X5_pieceOf_34 h
    else
      (am_gr 5 1 v0 h).bind fun x4 =>
      (am_ln x4 h).bind fun x5 =>
      if x5 ≤ v1 then
        F_X5_pieceOf_34 h
      else
        (am_gr 5 1 v0 h).bind fun x7 =>
        (am_al 4 x7 v1 h).bind fun x8 =>
        (F_X4_at x8 v2 h).bind fun x9 =>
        F_X5_pieceOf_35 x9 h
theorem w_X5_pieceOf {g : am_G} {l : Launch} {h0 : am_H} {x : Int32}  (v0 : Nat) (v1 : Int32) (v2 : Int32) (h : am_H) (hF : F_X5_pieceOf_b v0 v1 v2 h = some x) : am_W g l M_X5_pieceOf h0 (some (.int x)) h 0 [some (.ref v0), some (.int v1), some (.int v2)] [] h := by
  unfold F_X5_pieceOf_b at hF
  refine am_iload_n (pc' := 1) dX5_pieceOf_0 rfl rfl ?_
  rcases am_ite hF with ⟨z1, hF⟩ | ⟨z1, hF⟩
  · refine am_if_lt_t (pc' := 34) dX5_pieceOf_1 rfl z1 ?_
    exact am_weak [false, false, false] (w_X5_pieceOf_34 h hF)
  · refine am_if_lt_f (pc' := 4) (tgt := 34) dX5_pieceOf_1 rfl z1 rfl ?_
    refine am_iload_n (pc' := 5) dX5_pieceOf_4 rfl rfl ?_
    refine am_aload_n (pc' := 6) dX5_pieceOf_5 rfl rfl ?_
    obtain ⟨x2, ex2, hF⟩ := am_bind hF
    refine am_geti (pc' := 9) dX5_pieceOf_6 fw_X5_27 ex2 rfl ?_
    rcases am_ite hF with ⟨z3, hF⟩ | ⟨z3, hF⟩
    · refine am_icmp_ge_t (pc' := 34) dX5_pieceOf_9 rfl z3 ?_
      exact am_weak [false, false, false] (w_X5_pieceOf_34 h hF)
    · refine am_icmp_ge_f (pc' := 12) (tgt := 34) dX5_pieceOf_9 rfl z3 rfl ?_
      refine am_iload_n (pc' := 13) dX5_pieceOf_12 rfl rfl ?_
      refine am_aload_n (pc' := 14) dX5_pieceOf_13 rfl rfl ?_
      obtain ⟨x4, ex4, hF⟩ := am_bind hF
      refine am_getr (pc' := 17) dX5_pieceOf_14 fw_X5_20 ex4 rfl ?_
      obtain ⟨x5, ex5, hF⟩ := am_bind hF
      refine am_alen (pc' := 18) dX5_pieceOf_17 ex5 rfl ?_
      rcases am_ite hF with ⟨z6, hF⟩ | ⟨z6, hF⟩
      · refine am_icmp_ge_t (pc' := 34) dX5_pieceOf_18 rfl z6 ?_
        exact am_weak [false, false, false] (w_X5_pieceOf_34 h hF)
      · refine am_icmp_ge_f (pc' := 21) (tgt := 34) dX5_pieceOf_18 rfl z6 rfl ?_
        refine am_aload_n (pc' := 22) dX5_pieceOf_21 rfl rfl ?_
        obtain ⟨x7, ex7, hF⟩ := am_bind hF
        refine am_getr (pc' := 25) dX5_pieceOf_22 fw_X5_20 ex7 rfl ?_
        refine am_iload_n (pc' := 26) dX5_pieceOf_25 rfl rfl ?_
        obtain ⟨x8, ex8, hF⟩ := am_bind hF
        refine am_aald (pc' := 27) dX5_pieceOf_26 rfl ex8 rfl ?_
        refine am_iload_n (pc' := 28) dX5_pieceOf_27 rfl rfl ?_
        obtain ⟨x9, ex9, hF⟩ := am_bind hF
        obtain ⟨ox9, px9⟩ := t_X4_at ex9
        refine am_callV1 (Mc := M_X4_at) (As := [.int v2]) (st := []) (pc' := 31) dX5_pieceOf_28 cw_X5_71 wd_2_40 wd_2_41 ⟨_, rfl, rfl⟩ (by decide) (by decide) rfl rfl (Nat.le_of_ble_eq_true rfl) px9 (c_X4_at ex9) rfl ?_
        refine am_goto (pc' := 35) dX5_pieceOf_31 rfl ?_
        exact am_weak [false, false, false] (w_X5_pieceOf_35 x9 h hF)
def F_X5_pieceOf (v0 : Nat) (v1 : Int32) (v2 : Int32) (h : am_H) : Option Int32 := (am_obj v0 5 h).bind fun _ => F_X5_pieceOf_b v0 v1 v2 h
theorem t_X5_pieceOf {x : Int32}  {v0 : Nat} {v1 : Int32} {v2 : Int32} {h : am_H} (hF : F_X5_pieceOf v0 v1 v2 h = some x) : ∃ fs, am_obj v0 5 h = some fs := by
  obtain ⟨fs, e, _⟩ := am_bind hF
  exact ⟨fs, e⟩
theorem c_X5_pieceOf {g : am_G} {l : Launch} {x : Int32}  {v0 : Nat} {v1 : Int32} {v2 : Int32} {h : am_H} (hF : F_X5_pieceOf v0 v1 v2 h = some x) : am_Met g l M_X5_pieceOf [.ref v0, .int v1, .int v2] h (some (.int x)) h := by
  obtain ⟨fs, e0, e⟩ := am_bind hF
  exact am_met (n := 0) (by decide +kernel) rfl (Nat.le_of_ble_eq_true rfl) (w_X5_pieceOf v0 v1 v2 h e)
