abbrev M_X9_sums : am_M := ((⟨"SignCellarModel", "sums", "(III)I"⟩ : MethodName), prog_11_method_66_code, 4, (some .int), 2, 46)
theorem dX9_sums_0 : decode prog_11_method_66_code 0 = .ok (.aload_n 0, 1) := by decide +kernel
theorem dX9_sums_1 : decode prog_11_method_66_code 1 = .ok (.iload_n 1, 1) := by decide +kernel
theorem dX9_sums_2 : decode prog_11_method_66_code 2 = .ok (.invokevirtual 154, 3) := by decide +kernel
theorem dX9_sums_5 : decode prog_11_method_66_code 5 = .ok (.ifCond .eq 6, 3) := by decide +kernel
theorem dX9_sums_8 : decode prog_11_method_66_code 8 = .ok (.ldc 164, 2) := by decide +kernel
theorem dX9_sums_10 : decode prog_11_method_66_code 10 = .ok (.ireturn, 1) := by decide +kernel
theorem dX9_sums_11 : decode prog_11_method_66_code 11 = .ok (.iload_n 2, 1) := by decide +kernel
theorem dX9_sums_12 : decode prog_11_method_66_code 12 = .ok (.i2l, 1) := by decide +kernel
theorem dX9_sums_13 : decode prog_11_method_66_code 13 = .ok (.lconst 0, 1) := by decide +kernel
theorem dX9_sums_14 : decode prog_11_method_66_code 14 = .ok (.lconst 1, 1) := by decide +kernel
theorem dX9_sums_15 : decode prog_11_method_66_code 15 = .ok (.invokestatic 96, 3) := by decide +kernel
theorem dX9_sums_18 : decode prog_11_method_66_code 18 = .ok (.ifCond .eq 15, 3) := by decide +kernel
theorem dX9_sums_21 : decode prog_11_method_66_code 21 = .ok (.iload_n 3, 1) := by decide +kernel
theorem dX9_sums_22 : decode prog_11_method_66_code 22 = .ok (.i2l, 1) := by decide +kernel
theorem dX9_sums_23 : decode prog_11_method_66_code 23 = .ok (.lconst 0, 1) := by decide +kernel
theorem dX9_sums_24 : decode prog_11_method_66_code 24 = .ok (.ldc2_w 296, 3) := by decide +kernel
theorem dX9_sums_27 : decode prog_11_method_66_code 27 = .ok (.invokestatic 96, 3) := by decide +kernel
theorem dX9_sums_30 : decode prog_11_method_66_code 30 = .ok (.ifCond .ne 6, 3) := by decide +kernel
theorem dX9_sums_33 : decode prog_11_method_66_code 33 = .ok (.ldc 105, 2) := by decide +kernel
theorem dX9_sums_35 : decode prog_11_method_66_code 35 = .ok (.ireturn, 1) := by decide +kernel
theorem dX9_sums_36 : decode prog_11_method_66_code 36 = .ok (.iload_n 2, 1) := by decide +kernel
theorem dX9_sums_37 : decode prog_11_method_66_code 37 = .ok (.ifCond .ne 17, 3) := by decide +kernel
theorem dX9_sums_40 : decode prog_11_method_66_code 40 = .ok (.aload_n 0, 1) := by decide +kernel
theorem dX9_sums_41 : decode prog_11_method_66_code 41 = .ok (.getfield 35, 3) := by decide +kernel
theorem dX9_sums_44 : decode prog_11_method_66_code 44 = .ok (.bipush 24, 2) := by decide +kernel
theorem dX9_sums_46 : decode prog_11_method_66_code 46 = .ok (.iload_n 1, 1) := by decide +kernel
theorem dX9_sums_47 : decode prog_11_method_66_code 47 = .ok (.imul, 1) := by decide +kernel
theorem dX9_sums_48 : decode prog_11_method_66_code 48 = .ok (.iload_n 3, 1) := by decide +kernel
theorem dX9_sums_49 : decode prog_11_method_66_code 49 = .ok (.iadd, 1) := by decide +kernel
theorem dX9_sums_50 : decode prog_11_method_66_code 50 = .ok (.iaload, 1) := by decide +kernel
theorem dX9_sums_51 : decode prog_11_method_66_code 51 = .ok (.goto 14, 3) := by decide +kernel
theorem dX9_sums_54 : decode prog_11_method_66_code 54 = .ok (.aload_n 0, 1) := by decide +kernel
theorem dX9_sums_55 : decode prog_11_method_66_code 55 = .ok (.getfield 38, 3) := by decide +kernel
theorem dX9_sums_58 : decode prog_11_method_66_code 58 = .ok (.bipush 24, 2) := by decide +kernel
theorem dX9_sums_60 : decode prog_11_method_66_code 60 = .ok (.iload_n 1, 1) := by decide +kernel
theorem dX9_sums_61 : decode prog_11_method_66_code 61 = .ok (.imul, 1) := by decide +kernel
theorem dX9_sums_62 : decode prog_11_method_66_code 62 = .ok (.iload_n 3, 1) := by decide +kernel
theorem dX9_sums_63 : decode prog_11_method_66_code 63 = .ok (.iadd, 1) := by decide +kernel
theorem dX9_sums_64 : decode prog_11_method_66_code 64 = .ok (.iaload, 1) := by decide +kernel
theorem dX9_sums_65 : decode prog_11_method_66_code 65 = .ok (.ireturn, 1) := by decide +kernel
abbrev M_X8_nextTorn : am_M := ((⟨"SignCellar", "nextTorn", "(LSignCellar$Version;I)I"⟩ : MethodName), prog_1_method_40_code, 4, (some .int), 2, 44)
theorem dX8_nextTorn_0 : decode prog_1_method_40_code 0 = .ok (.iconst 0, 1) := by decide +kernel
theorem dX8_nextTorn_1 : decode prog_1_method_40_code 1 = .ok (.iload_n 2, 1) := by decide +kernel
theorem dX8_nextTorn_2 : decode prog_1_method_40_code 2 = .ok (.invokestatic 328, 3) := by decide +kernel
theorem dX8_nextTorn_5 : decode prog_1_method_40_code 5 = .ok (.istore_n 3, 1) := by decide +kernel
theorem dX8_nextTorn_6 : decode prog_1_method_40_code 6 = .ok (.iload_n 3, 1) := by decide +kernel
theorem dX8_nextTorn_7 : decode prog_1_method_40_code 7 = .ok (.aload_n 1, 1) := by decide +kernel
theorem dX8_nextTorn_8 : decode prog_1_method_40_code 8 = .ok (.getfield 148, 3) := by decide +kernel
theorem dX8_nextTorn_11 : decode prog_1_method_40_code 11 = .ok (.invokevirtual 93, 3) := by decide +kernel
theorem dX8_nextTorn_14 : decode prog_1_method_40_code 14 = .ok (.if_icmp .ge 20, 3) := by decide +kernel
theorem dX8_nextTorn_17 : decode prog_1_method_40_code 17 = .ok (.aload_n 0, 1) := by decide +kernel
theorem dX8_nextTorn_18 : decode prog_1_method_40_code 18 = .ok (.aload_n 1, 1) := by decide +kernel
theorem dX8_nextTorn_19 : decode prog_1_method_40_code 19 = .ok (.iload_n 3, 1) := by decide +kernel
theorem dX8_nextTorn_20 : decode prog_1_method_40_code 20 = .ok (.invokevirtual 164, 3) := by decide +kernel
theorem dX8_nextTorn_23 : decode prog_1_method_40_code 23 = .ok (.ifCond .eq 5, 3) := by decide +kernel
theorem dX8_nextTorn_26 : decode prog_1_method_40_code 26 = .ok (.iload_n 3, 1) := by decide +kernel
theorem dX8_nextTorn_27 : decode prog_1_method_40_code 27 = .ok (.ireturn, 1) := by decide +kernel
theorem dX8_nextTorn_28 : decode prog_1_method_40_code 28 = .ok (.iinc 3 1, 3) := by decide +kernel
theorem dX8_nextTorn_31 : decode prog_1_method_40_code 31 = .ok (.goto (-25), 3) := by decide +kernel
theorem dX8_nextTorn_34 : decode prog_1_method_40_code 34 = .ok (.iconst (-1), 1) := by decide +kernel
theorem dX8_nextTorn_35 : decode prog_1_method_40_code 35 = .ok (.ireturn, 1) := by decide +kernel
abbrev M_X8_inverse : am_M := ((⟨"SignCellar", "inverse", "(I)I"⟩ : MethodName), prog_1_method_56_code, 1, (some .int), 0, 0)
theorem dX8_inverse_0 : decode prog_1_method_56_code 0 = .ok (.iload_n 0, 1) := by decide +kernel
theorem dX8_inverse_1 : decode prog_1_method_56_code 1 = .ok (.ifCond .lt 19, 3) := by decide +kernel
theorem dX8_inverse_4 : decode prog_1_method_56_code 4 = .ok (.iload_n 0, 1) := by decide +kernel
theorem dX8_inverse_5 : decode prog_1_method_56_code 5 = .ok (.getstatic 371, 3) := by decide +kernel
theorem dX8_inverse_8 : decode prog_1_method_56_code 8 = .ok (.arraylength, 1) := by decide +kernel
theorem dX8_inverse_9 : decode prog_1_method_56_code 9 = .ok (.if_icmp .ge 11, 3) := by decide +kernel
theorem dX8_inverse_12 : decode prog_1_method_56_code 12 = .ok (.getstatic 371, 3) := by decide +kernel
theorem dX8_inverse_15 : decode prog_1_method_56_code 15 = .ok (.iload_n 0, 1) := by decide +kernel
theorem dX8_inverse_16 : decode prog_1_method_56_code 16 = .ok (.iaload, 1) := by decide +kernel
theorem dX8_inverse_17 : decode prog_1_method_56_code 17 = .ok (.goto 4, 3) := by decide +kernel
theorem dX8_inverse_20 : decode prog_1_method_56_code 20 = .ok (.iconst 0, 1) := by decide +kernel
theorem dX8_inverse_21 : decode prog_1_method_56_code 21 = .ok (.ireturn, 1) := by decide +kernel
abbrev M_J9_floorMod_7cf53 : am_M := ((⟨"java/lang/Math", "floorMod", "(II)I"⟩ : MethodName), prog_12_method_50_code, 3, (some .int), 0, 0)
theorem dJ9_floorMod_7cf53_0 : decode prog_12_method_50_code 0 = .ok (.iload_n 0, 1) := by decide +kernel
theorem dJ9_floorMod_7cf53_1 : decode prog_12_method_50_code 1 = .ok (.iload_n 1, 1) := by decide +kernel
theorem dJ9_floorMod_7cf53_2 : decode prog_12_method_50_code 2 = .ok (.irem, 1) := by decide +kernel
theorem dJ9_floorMod_7cf53_3 : decode prog_12_method_50_code 3 = .ok (.istore_n 2, 1) := by decide +kernel
theorem dJ9_floorMod_7cf53_4 : decode prog_12_method_50_code 4 = .ok (.iload_n 0, 1) := by decide +kernel
theorem dJ9_floorMod_7cf53_5 : decode prog_12_method_50_code 5 = .ok (.iload_n 1, 1) := by decide +kernel
theorem dJ9_floorMod_7cf53_6 : decode prog_12_method_50_code 6 = .ok (.ixor, 1) := by decide +kernel
theorem dJ9_floorMod_7cf53_7 : decode prog_12_method_50_code 7 = .ok (.ifCond .ge 11, 3) := by decide +kernel
theorem dJ9_floorMod_7cf53_10 : decode prog_12_method_50_code 10 = .ok (.iload_n 2, 1) := by decide +kernel
theorem dJ9_floorMod_7cf53_11 : decode prog_12_method_50_code 11 = .ok (.ifCond .eq 7, 3) := by decide +kernel
theorem dJ9_floorMod_7cf53_14 : decode prog_12_method_50_code 14 = .ok (.iload_n 2, 1) := by decide +kernel
theorem dJ9_floorMod_7cf53_15 : decode prog_12_method_50_code 15 = .ok (.iload_n 1, 1) := by decide +kernel
theorem dJ9_floorMod_7cf53_16 : decode prog_12_method_50_code 16 = .ok (.iadd, 1) := by decide +kernel
theorem dJ9_floorMod_7cf53_17 : decode prog_12_method_50_code 17 = .ok (.ireturn, 1) := by decide +kernel
theorem dJ9_floorMod_7cf53_18 : decode prog_12_method_50_code 18 = .ok (.iload_n 2, 1) := by decide +kernel
theorem dJ9_floorMod_7cf53_19 : decode prog_12_method_50_code 19 = .ok (.ireturn, 1) := by decide +kernel
abbrev M_X8_mend : am_M := ((⟨"SignCellar", "mend", "(LSignCellar$Block;)V"⟩ : MethodName), prog_1_method_57_code, 1, none, 0, 0)
theorem dX8_mend_0 : decode prog_1_method_57_code 0 = .ok (.aload_n 0, 1) := by decide +kernel
theorem dX8_mend_1 : decode prog_1_method_57_code 1 = .ok (.ifnull 8, 3) := by decide +kernel
theorem dX8_mend_4 : decode prog_1_method_57_code 4 = .ok (.aload_n 0, 1) := by decide +kernel
theorem dX8_mend_5 : decode prog_1_method_57_code 5 = .ok (.iconst 0, 1) := by decide +kernel
theorem dX8_mend_6 : decode prog_1_method_57_code 6 = .ok (.putfield 182, 3) := by decide +kernel
theorem dX8_mend_9 : decode prog_1_method_57_code 9 = .ok (.return_, 1) := by decide +kernel
abbrev M_X8_solve : am_M := ((⟨"SignCellar", "solve", "(LSignCellar$Version;II)V"⟩ : MethodName), prog_1_method_55_code, 10, none, 3, 69)
theorem dX8_solve_0 : decode prog_1_method_55_code 0 = .ok (.aload_n 0, 1) := by decide +kernel
theorem dX8_solve_1 : decode prog_1_method_55_code 1 = .ok (.aload_n 1, 1) := by decide +kernel
theorem dX8_solve_2 : decode prog_1_method_55_code 2 = .ok (.getfield 148, 3) := by decide +kernel
theorem dX8_solve_5 : decode prog_1_method_55_code 5 = .ok (.iload_n 2, 1) := by decide +kernel
theorem dX8_solve_6 : decode prog_1_method_55_code 6 = .ok (.invokevirtual 161, 3) := by decide +kernel
theorem dX8_solve_9 : decode prog_1_method_55_code 9 = .ok (.invokevirtual 176, 3) := by decide +kernel
theorem dX8_solve_12 : decode prog_1_method_55_code 12 = .ok (.astore 4, 2) := by decide +kernel
theorem dX8_solve_14 : decode prog_1_method_55_code 14 = .ok (.aload_n 0, 1) := by decide +kernel
theorem dX8_solve_15 : decode prog_1_method_55_code 15 = .ok (.aload_n 1, 1) := by decide +kernel
theorem dX8_solve_16 : decode prog_1_method_55_code 16 = .ok (.getfield 148, 3) := by decide +kernel
theorem dX8_solve_19 : decode prog_1_method_55_code 19 = .ok (.iload_n 3, 1) := by decide +kernel
theorem dX8_solve_20 : decode prog_1_method_55_code 20 = .ok (.invokevirtual 161, 3) := by decide +kernel
theorem dX8_solve_23 : decode prog_1_method_55_code 23 = .ok (.invokevirtual 176, 3) := by decide +kernel
theorem dX8_solve_26 : decode prog_1_method_55_code 26 = .ok (.astore 5, 2) := by decide +kernel
theorem dX8_solve_28 : decode prog_1_method_55_code 28 = .ok (.iconst 0, 1) := by decide +kernel
theorem dX8_solve_29 : decode prog_1_method_55_code 29 = .ok (.istore 6, 2) := by decide +kernel
theorem dX8_solve_31 : decode prog_1_method_55_code 31 = .ok (.iload 6, 2) := by decide +kernel
theorem dX8_solve_33 : decode prog_1_method_55_code 33 = .ok (.bipush 24, 2) := by decide +kernel
theorem dX8_solve_35 : decode prog_1_method_55_code 35 = .ok (.if_icmp .ge 165, 3) := by decide +kernel
theorem dX8_solve_38 : decode prog_1_method_55_code 38 = .ok (.aload_n 1, 1) := by decide +kernel
theorem dX8_solve_39 : decode prog_1_method_55_code 39 = .ok (.getfield 294, 3) := by decide +kernel
theorem dX8_solve_42 : decode prog_1_method_55_code 42 = .ok (.iload 6, 2) := by decide +kernel
theorem dX8_solve_44 : decode prog_1_method_55_code 44 = .ok (.invokevirtual 161, 3) := by decide +kernel
theorem dX8_solve_47 : decode prog_1_method_55_code 47 = .ok (.istore 7, 2) := by decide +kernel
theorem dX8_solve_49 : decode prog_1_method_55_code 49 = .ok (.aload_n 1, 1) := by decide +kernel
theorem dX8_solve_50 : decode prog_1_method_55_code 50 = .ok (.getfield 297, 3) := by decide +kernel
theorem dX8_solve_53 : decode prog_1_method_55_code 53 = .ok (.iload 6, 2) := by decide +kernel
theorem dX8_solve_55 : decode prog_1_method_55_code 55 = .ok (.invokevirtual 161, 3) := by decide +kernel
theorem dX8_solve_58 : decode prog_1_method_55_code 58 = .ok (.istore 8, 2) := by decide +kernel
theorem dX8_solve_60 : decode prog_1_method_55_code 60 = .ok (.iconst 0, 1) := by decide +kernel
theorem dX8_solve_61 : decode prog_1_method_55_code 61 = .ok (.istore 9, 2) := by decide +kernel
theorem dX8_solve_63 : decode prog_1_method_55_code 63 = .ok (.iload 9, 2) := by decide +kernel
theorem dX8_solve_65 : decode prog_1_method_55_code 65 = .ok (.aload_n 1, 1) := by decide +kernel
theorem dX8_solve_66 : decode prog_1_method_55_code 66 = .ok (.getfield 148, 3) := by decide +kernel
theorem dX8_solve_69 : decode prog_1_method_55_code 69 = .ok (.invokevirtual 93, 3) := by decide +kernel
theorem dX8_solve_72 : decode prog_1_method_55_code 72 = .ok (.if_icmp .ge 54, 3) := by decide +kernel
theorem dX8_solve_75 : decode prog_1_method_55_code 75 = .ok (.iload 9, 2) := by decide +kernel
theorem dX8_solve_77 : decode prog_1_method_55_code 77 = .ok (.iload_n 2, 1) := by decide +kernel
theorem dX8_solve_78 : decode prog_1_method_55_code 78 = .ok (.if_icmp .eq 42, 3) := by decide +kernel
theorem dX8_solve_81 : decode prog_1_method_55_code 81 = .ok (.iload 9, 2) := by decide +kernel
theorem dX8_solve_83 : decode prog_1_method_55_code 83 = .ok (.iload_n 3, 1) := by decide +kernel
theorem dX8_solve_84 : decode prog_1_method_55_code 84 = .ok (.if_icmp .eq 36, 3) := by decide +kernel
theorem dX8_solve_87 : decode prog_1_method_55_code 87 = .ok (.iload 7, 2) := by decide +kernel
theorem dX8_solve_89 : decode prog_1_method_55_code 89 = .ok (.aload_n 0, 1) := by decide +kernel
theorem dX8_solve_90 : decode prog_1_method_55_code 90 = .ok (.aload_n 1, 1) := by decide +kernel
theorem dX8_solve_91 : decode prog_1_method_55_code 91 = .ok (.iload 9, 2) := by decide +kernel
theorem dX8_solve_93 : decode prog_1_method_55_code 93 = .ok (.iload 6, 2) := by decide +kernel
theorem dX8_solve_95 : decode prog_1_method_55_code 95 = .ok (.invokevirtual 355, 3) := by decide +kernel
theorem dX8_solve_98 : decode prog_1_method_55_code 98 = .ok (.isub, 1) := by decide +kernel
theorem dX8_solve_99 : decode prog_1_method_55_code 99 = .ok (.istore 7, 2) := by decide +kernel
theorem dX8_solve_101 : decode prog_1_method_55_code 101 = .ok (.iload 8, 2) := by decide +kernel
theorem dX8_solve_103 : decode prog_1_method_55_code 103 = .ok (.iload 9, 2) := by decide +kernel
theorem dX8_solve_105 : decode prog_1_method_55_code 105 = .ok (.iconst 1, 1) := by decide +kernel
theorem dX8_solve_106 : decode prog_1_method_55_code 106 = .ok (.iadd, 1) := by decide +kernel
theorem dX8_solve_107 : decode prog_1_method_55_code 107 = .ok (.aload_n 0, 1) := by decide +kernel
theorem dX8_solve_108 : decode prog_1_method_55_code 108 = .ok (.aload_n 1, 1) := by decide +kernel
theorem dX8_solve_109 : decode prog_1_method_55_code 109 = .ok (.iload 9, 2) := by decide +kernel
theorem dX8_solve_111 : decode prog_1_method_55_code 111 = .ok (.iload 6, 2) := by decide +kernel
theorem dX8_solve_113 : decode prog_1_method_55_code 113 = .ok (.invokevirtual 355, 3) := by decide +kernel
theorem dX8_solve_116 : decode prog_1_method_55_code 116 = .ok (.imul, 1) := by decide +kernel
theorem dX8_solve_117 : decode prog_1_method_55_code 117 = .ok (.isub, 1) := by decide +kernel
theorem dX8_solve_118 : decode prog_1_method_55_code 118 = .ok (.istore 8, 2) := by decide +kernel
theorem dX8_solve_120 : decode prog_1_method_55_code 120 = .ok (.iinc 9 1, 3) := by decide +kernel
theorem dX8_solve_123 : decode prog_1_method_55_code 123 = .ok (.goto (-60), 3) := by decide +kernel
theorem dX8_solve_126 : decode prog_1_method_55_code 126 = .ok (.iconst 0, 1) := by decide +kernel
theorem dX8_solve_127 : decode prog_1_method_55_code 127 = .ok (.istore 9, 2) := by decide +kernel
theorem dX8_solve_129 : decode prog_1_method_55_code 129 = .ok (.aload 5, 2) := by decide +kernel
theorem dX8_solve_131 : decode prog_1_method_55_code 131 = .ok (.ifnull 38, 3) := by decide +kernel
theorem dX8_solve_134 : decode prog_1_method_55_code 134 = .ok (.iload 8, 2) := by decide +kernel
theorem dX8_solve_136 : decode prog_1_method_55_code 136 = .ok (.iload_n 2, 1) := by decide +kernel
theorem dX8_solve_137 : decode prog_1_method_55_code 137 = .ok (.iconst 1, 1) := by decide +kernel
theorem dX8_solve_138 : decode prog_1_method_55_code 138 = .ok (.iadd, 1) := by decide +kernel
theorem dX8_solve_139 : decode prog_1_method_55_code 139 = .ok (.iload 7, 2) := by decide +kernel
theorem dX8_solve_141 : decode prog_1_method_55_code 141 = .ok (.imul, 1) := by decide +kernel
theorem dX8_solve_142 : decode prog_1_method_55_code 142 = .ok (.isub, 1) := by decide +kernel
theorem dX8_solve_143 : decode prog_1_method_55_code 143 = .ok (.iload_n 3, 1) := by decide +kernel
theorem dX8_solve_144 : decode prog_1_method_55_code 144 = .ok (.iload_n 2, 1) := by decide +kernel
theorem dX8_solve_145 : decode prog_1_method_55_code 145 = .ok (.isub, 1) := by decide +kernel
theorem dX8_solve_146 : decode prog_1_method_55_code 146 = .ok (.invokestatic 358, 3) := by decide +kernel
theorem dX8_solve_149 : decode prog_1_method_55_code 149 = .ok (.imul, 1) := by decide +kernel
theorem dX8_solve_150 : decode prog_1_method_55_code 150 = .ok (.bipush 17, 2) := by decide +kernel
theorem dX8_solve_152 : decode prog_1_method_55_code 152 = .ok (.invokestatic 361, 3) := by decide +kernel
theorem dX8_solve_155 : decode prog_1_method_55_code 155 = .ok (.istore 9, 2) := by decide +kernel
theorem dX8_solve_157 : decode prog_1_method_55_code 157 = .ok (.aload 5, 2) := by decide +kernel
theorem dX8_solve_159 : decode prog_1_method_55_code 159 = .ok (.getfield 180, 3) := by decide +kernel
theorem dX8_solve_162 : decode prog_1_method_55_code 162 = .ok (.iload 6, 2) := by decide +kernel
theorem dX8_solve_164 : decode prog_1_method_55_code 164 = .ok (.iload 9, 2) := by decide +kernel
theorem dX8_solve_166 : decode prog_1_method_55_code 166 = .ok (.invokevirtual 364, 3) := by decide +kernel
theorem dX8_solve_169 : decode prog_1_method_55_code 169 = .ok (.aload 4, 2) := by decide +kernel
theorem dX8_solve_171 : decode prog_1_method_55_code 171 = .ok (.ifnull 23, 3) := by decide +kernel
theorem dX8_solve_174 : decode prog_1_method_55_code 174 = .ok (.aload 4, 2) := by decide +kernel
theorem dX8_solve_176 : decode prog_1_method_55_code 176 = .ok (.getfield 180, 3) := by decide +kernel
theorem dX8_solve_179 : decode prog_1_method_55_code 179 = .ok (.iload 6, 2) := by decide +kernel
theorem dX8_solve_181 : decode prog_1_method_55_code 181 = .ok (.iload 7, 2) := by decide +kernel
theorem dX8_solve_183 : decode prog_1_method_55_code 183 = .ok (.iload 9, 2) := by decide +kernel
theorem dX8_solve_185 : decode prog_1_method_55_code 185 = .ok (.isub, 1) := by decide +kernel
theorem dX8_solve_186 : decode prog_1_method_55_code 186 = .ok (.bipush 17, 2) := by decide +kernel
theorem dX8_solve_188 : decode prog_1_method_55_code 188 = .ok (.invokestatic 361, 3) := by decide +kernel
theorem dX8_solve_191 : decode prog_1_method_55_code 191 = .ok (.invokevirtual 364, 3) := by decide +kernel
theorem dX8_solve_194 : decode prog_1_method_55_code 194 = .ok (.iinc 6 1, 3) := by decide +kernel
theorem dX8_solve_197 : decode prog_1_method_55_code 197 = .ok (.goto (-166), 3) := by decide +kernel
theorem dX8_solve_200 : decode prog_1_method_55_code 200 = .ok (.aload 4, 2) := by decide +kernel
theorem dX8_solve_202 : decode prog_1_method_55_code 202 = .ok (.invokestatic 368, 3) := by decide +kernel
theorem dX8_solve_205 : decode prog_1_method_55_code 205 = .ok (.aload 5, 2) := by decide +kernel
theorem dX8_solve_207 : decode prog_1_method_55_code 207 = .ok (.invokestatic 368, 3) := by decide +kernel
theorem dX8_solve_210 : decode prog_1_method_55_code 210 = .ok (.return_, 1) := by decide +kernel
abbrev M_X8_restore : am_M := ((⟨"SignCellar", "restore", "(I)I"⟩ : MethodName), prog_1_method_26_code, 6, (some .int), 4, 98)
theorem dX8_restore_0 : decode prog_1_method_26_code 0 = .ok (.aload_n 0, 1) := by decide +kernel
theorem dX8_restore_1 : decode prog_1_method_26_code 1 = .ok (.iload_n 1, 1) := by decide +kernel
theorem dX8_restore_2 : decode prog_1_method_26_code 2 = .ok (.invokevirtual 126, 3) := by decide +kernel
theorem dX8_restore_5 : decode prog_1_method_26_code 5 = .ok (.astore_n 2, 1) := by decide +kernel
theorem dX8_restore_6 : decode prog_1_method_26_code 6 = .ok (.aload_n 2, 1) := by decide +kernel
theorem dX8_restore_7 : decode prog_1_method_26_code 7 = .ok (.ifnonnull 6, 3) := by decide +kernel
theorem dX8_restore_10 : decode prog_1_method_26_code 10 = .ok (.ldc 133, 2) := by decide +kernel
theorem dX8_restore_12 : decode prog_1_method_26_code 12 = .ok (.ireturn, 1) := by decide +kernel
theorem dX8_restore_13 : decode prog_1_method_26_code 13 = .ok (.aload_n 0, 1) := by decide +kernel
theorem dX8_restore_14 : decode prog_1_method_26_code 14 = .ok (.aload_n 2, 1) := by decide +kernel
theorem dX8_restore_15 : decode prog_1_method_26_code 15 = .ok (.invokevirtual 157, 3) := by decide +kernel
theorem dX8_restore_18 : decode prog_1_method_26_code 18 = .ok (.istore_n 3, 1) := by decide +kernel
theorem dX8_restore_19 : decode prog_1_method_26_code 19 = .ok (.iload_n 3, 1) := by decide +kernel
theorem dX8_restore_20 : decode prog_1_method_26_code 20 = .ok (.iconst 1, 1) := by decide +kernel
theorem dX8_restore_21 : decode prog_1_method_26_code 21 = .ok (.if_icmp .lt 8, 3) := by decide +kernel
theorem dX8_restore_24 : decode prog_1_method_26_code 24 = .ok (.iload_n 3, 1) := by decide +kernel
theorem dX8_restore_25 : decode prog_1_method_26_code 25 = .ok (.iconst 2, 1) := by decide +kernel
theorem dX8_restore_26 : decode prog_1_method_26_code 26 = .ok (.if_icmp .le 6, 3) := by decide +kernel
theorem dX8_restore_29 : decode prog_1_method_26_code 29 = .ok (.ldc 101, 2) := by decide +kernel
theorem dX8_restore_31 : decode prog_1_method_26_code 31 = .ok (.ireturn, 1) := by decide +kernel
theorem dX8_restore_32 : decode prog_1_method_26_code 32 = .ok (.aload_n 0, 1) := by decide +kernel
theorem dX8_restore_33 : decode prog_1_method_26_code 33 = .ok (.aload_n 2, 1) := by decide +kernel
theorem dX8_restore_34 : decode prog_1_method_26_code 34 = .ok (.iconst 0, 1) := by decide +kernel
theorem dX8_restore_35 : decode prog_1_method_26_code 35 = .ok (.invokevirtual 300, 3) := by decide +kernel
theorem dX8_restore_38 : decode prog_1_method_26_code 38 = .ok (.istore 4, 2) := by decide +kernel
theorem dX8_restore_40 : decode prog_1_method_26_code 40 = .ok (.aload_n 0, 1) := by decide +kernel
theorem dX8_restore_41 : decode prog_1_method_26_code 41 = .ok (.aload_n 2, 1) := by decide +kernel
theorem dX8_restore_42 : decode prog_1_method_26_code 42 = .ok (.iload 4, 2) := by decide +kernel
theorem dX8_restore_44 : decode prog_1_method_26_code 44 = .ok (.iconst 1, 1) := by decide +kernel
theorem dX8_restore_45 : decode prog_1_method_26_code 45 = .ok (.iadd, 1) := by decide +kernel
theorem dX8_restore_46 : decode prog_1_method_26_code 46 = .ok (.invokevirtual 300, 3) := by decide +kernel
theorem dX8_restore_49 : decode prog_1_method_26_code 49 = .ok (.istore 5, 2) := by decide +kernel
theorem dX8_restore_51 : decode prog_1_method_26_code 51 = .ok (.aload_n 2, 1) := by decide +kernel
theorem dX8_restore_52 : decode prog_1_method_26_code 52 = .ok (.getfield 148, 3) := by decide +kernel
theorem dX8_restore_55 : decode prog_1_method_26_code 55 = .ok (.iload 4, 2) := by decide +kernel
theorem dX8_restore_57 : decode prog_1_method_26_code 57 = .ok (.invokevirtual 161, 3) := by decide +kernel
theorem dX8_restore_60 : decode prog_1_method_26_code 60 = .ok (.aload_n 2, 1) := by decide +kernel
theorem dX8_restore_61 : decode prog_1_method_26_code 61 = .ok (.getfield 148, 3) := by decide +kernel
theorem dX8_restore_64 : decode prog_1_method_26_code 64 = .ok (.iload 5, 2) := by decide +kernel
theorem dX8_restore_66 : decode prog_1_method_26_code 66 = .ok (.invokevirtual 161, 3) := by decide +kernel
theorem dX8_restore_69 : decode prog_1_method_26_code 69 = .ok (.if_icmp .ne 6, 3) := by decide +kernel
theorem dX8_restore_72 : decode prog_1_method_26_code 72 = .ok (.ldc 101, 2) := by decide +kernel
theorem dX8_restore_74 : decode prog_1_method_26_code 74 = .ok (.ireturn, 1) := by decide +kernel
theorem dX8_restore_75 : decode prog_1_method_26_code 75 = .ok (.aload_n 0, 1) := by decide +kernel
theorem dX8_restore_76 : decode prog_1_method_26_code 76 = .ok (.aload_n 2, 1) := by decide +kernel
theorem dX8_restore_77 : decode prog_1_method_26_code 77 = .ok (.iload 4, 2) := by decide +kernel
theorem dX8_restore_79 : decode prog_1_method_26_code 79 = .ok (.iload 5, 2) := by decide +kernel
theorem dX8_restore_81 : decode prog_1_method_26_code 81 = .ok (.invokevirtual 303, 3) := by decide +kernel
theorem dX8_restore_84 : decode prog_1_method_26_code 84 = .ok (.iload_n 3, 1) := by decide +kernel
theorem dX8_restore_85 : decode prog_1_method_26_code 85 = .ok (.ireturn, 1) := by decide +kernel
abbrev M_X9_restore : am_M := ((⟨"SignCellarModel", "restore", "(I)I"⟩ : MethodName), prog_11_method_67_code, 6, (some .int), 2, 46)
theorem dX9_restore_0 : decode prog_11_method_67_code 0 = .ok (.aload_n 0, 1) := by decide +kernel
theorem dX9_restore_1 : decode prog_11_method_67_code 1 = .ok (.iload_n 1, 1) := by decide +kernel
theorem dX9_restore_2 : decode prog_11_method_67_code 2 = .ok (.invokevirtual 154, 3) := by decide +kernel
theorem dX9_restore_5 : decode prog_11_method_67_code 5 = .ok (.ifCond .eq 6, 3) := by decide +kernel
theorem dX9_restore_8 : decode prog_11_method_67_code 8 = .ok (.ldc 164, 2) := by decide +kernel
theorem dX9_restore_10 : decode prog_11_method_67_code 10 = .ok (.ireturn, 1) := by decide +kernel
theorem dX9_restore_11 : decode prog_11_method_67_code 11 = .ok (.aload_n 0, 1) := by decide +kernel
theorem dX9_restore_12 : decode prog_11_method_67_code 12 = .ok (.iload_n 1, 1) := by decide +kernel
theorem dX9_restore_13 : decode prog_11_method_67_code 13 = .ok (.invokevirtual 165, 3) := by decide +kernel
theorem dX9_restore_16 : decode prog_11_method_67_code 16 = .ok (.istore_n 2, 1) := by decide +kernel
theorem dX9_restore_17 : decode prog_11_method_67_code 17 = .ok (.iconst 0, 1) := by decide +kernel
theorem dX9_restore_18 : decode prog_11_method_67_code 18 = .ok (.istore_n 3, 1) := by decide +kernel
theorem dX9_restore_19 : decode prog_11_method_67_code 19 = .ok (.iconst 0, 1) := by decide +kernel
theorem dX9_restore_20 : decode prog_11_method_67_code 20 = .ok (.istore 4, 2) := by decide +kernel
theorem dX9_restore_22 : decode prog_11_method_67_code 22 = .ok (.iload 4, 2) := by decide +kernel
theorem dX9_restore_24 : decode prog_11_method_67_code 24 = .ok (.aload_n 0, 1) := by decide +kernel
theorem dX9_restore_25 : decode prog_11_method_67_code 25 = .ok (.getfield 23, 3) := by decide +kernel
theorem dX9_restore_28 : decode prog_11_method_67_code 28 = .ok (.iload_n 1, 1) := by decide +kernel
theorem dX9_restore_29 : decode prog_11_method_67_code 29 = .ok (.iaload, 1) := by decide +kernel
theorem dX9_restore_30 : decode prog_11_method_67_code 30 = .ok (.if_icmp .ge 67, 3) := by decide +kernel
theorem dX9_restore_33 : decode prog_11_method_67_code 33 = .ok (.iconst 0, 1) := by decide +kernel
theorem dX9_restore_34 : decode prog_11_method_67_code 34 = .ok (.istore 5, 2) := by decide +kernel
theorem dX9_restore_36 : decode prog_11_method_67_code 36 = .ok (.iload 5, 2) := by decide +kernel
theorem dX9_restore_38 : decode prog_11_method_67_code 38 = .ok (.iload 4, 2) := by decide +kernel
theorem dX9_restore_40 : decode prog_11_method_67_code 40 = .ok (.if_icmp .ge 51, 3) := by decide +kernel
theorem dX9_restore_43 : decode prog_11_method_67_code 43 = .ok (.iload_n 3, 1) := by decide +kernel
theorem dX9_restore_44 : decode prog_11_method_67_code 44 = .ok (.ifCond .ne 35, 3) := by decide +kernel
theorem dX9_restore_47 : decode prog_11_method_67_code 47 = .ok (.aload_n 0, 1) := by decide +kernel
theorem dX9_restore_48 : decode prog_11_method_67_code 48 = .ok (.getfield 19, 3) := by decide +kernel
theorem dX9_restore_51 : decode prog_11_method_67_code 51 = .ok (.aload_n 0, 1) := by decide +kernel
theorem dX9_restore_52 : decode prog_11_method_67_code 52 = .ok (.iload_n 1, 1) := by decide +kernel
theorem dX9_restore_53 : decode prog_11_method_67_code 53 = .ok (.iload 4, 2) := by decide +kernel
theorem dX9_restore_55 : decode prog_11_method_67_code 55 = .ok (.invokevirtual 141, 3) := by decide +kernel
theorem dX9_restore_58 : decode prog_11_method_67_code 58 = .ok (.baload, 1) := by decide +kernel
theorem dX9_restore_59 : decode prog_11_method_67_code 59 = .ok (.ifCond .eq 24, 3) := by decide +kernel
theorem dX9_restore_62 : decode prog_11_method_67_code 62 = .ok (.aload_n 0, 1) := by decide +kernel
theorem dX9_restore_63 : decode prog_11_method_67_code 63 = .ok (.iload_n 1, 1) := by decide +kernel
theorem dX9_restore_64 : decode prog_11_method_67_code 64 = .ok (.iload 4, 2) := by decide +kernel
theorem dX9_restore_66 : decode prog_11_method_67_code 66 = .ok (.invokevirtual 141, 3) := by decide +kernel
theorem dX9_restore_69 : decode prog_11_method_67_code 69 = .ok (.aload_n 0, 1) := by decide +kernel
theorem dX9_restore_70 : decode prog_11_method_67_code 70 = .ok (.iload_n 1, 1) := by decide +kernel
theorem dX9_restore_71 : decode prog_11_method_67_code 71 = .ok (.iload 5, 2) := by decide +kernel
theorem dX9_restore_73 : decode prog_11_method_67_code 73 = .ok (.invokevirtual 141, 3) := by decide +kernel
theorem dX9_restore_76 : decode prog_11_method_67_code 76 = .ok (.if_icmp .ne 7, 3) := by decide +kernel
theorem dX9_restore_79 : decode prog_11_method_67_code 79 = .ok (.iconst 1, 1) := by decide +kernel
theorem dX9_restore_80 : decode prog_11_method_67_code 80 = .ok (.goto 4, 3) := by decide +kernel
theorem dX9_restore_83 : decode prog_11_method_67_code 83 = .ok (.iconst 0, 1) := by decide +kernel
theorem dX9_restore_84 : decode prog_11_method_67_code 84 = .ok (.istore_n 3, 1) := by decide +kernel
theorem dX9_restore_85 : decode prog_11_method_67_code 85 = .ok (.iinc 5 1, 3) := by decide +kernel
theorem dX9_restore_88 : decode prog_11_method_67_code 88 = .ok (.goto (-52), 3) := by decide +kernel
theorem dX9_restore_91 : decode prog_11_method_67_code 91 = .ok (.iinc 4 1, 3) := by decide +kernel
theorem dX9_restore_94 : decode prog_11_method_67_code 94 = .ok (.goto (-72), 3) := by decide +kernel
theorem dX9_restore_97 : decode prog_11_method_67_code 97 = .ok (.iload_n 2, 1) := by decide +kernel
theorem dX9_restore_98 : decode prog_11_method_67_code 98 = .ok (.i2l, 1) := by decide +kernel
theorem dX9_restore_99 : decode prog_11_method_67_code 99 = .ok (.lconst 1, 1) := by decide +kernel
theorem dX9_restore_100 : decode prog_11_method_67_code 100 = .ok (.ldc2_w 264, 3) := by decide +kernel
theorem dX9_restore_103 : decode prog_11_method_67_code 103 = .ok (.invokestatic 96, 3) := by decide +kernel
theorem dX9_restore_106 : decode prog_11_method_67_code 106 = .ok (.ifCond .eq 7, 3) := by decide +kernel
theorem dX9_restore_109 : decode prog_11_method_67_code 109 = .ok (.iload_n 3, 1) := by decide +kernel
theorem dX9_restore_110 : decode prog_11_method_67_code 110 = .ok (.ifCond .eq 6, 3) := by decide +kernel
theorem dX9_restore_113 : decode prog_11_method_67_code 113 = .ok (.ldc 127, 2) := by decide +kernel
theorem dX9_restore_115 : decode prog_11_method_67_code 115 = .ok (.ireturn, 1) := by decide +kernel
theorem dX9_restore_116 : decode prog_11_method_67_code 116 = .ok (.iconst 0, 1) := by decide +kernel
theorem dX9_restore_117 : decode prog_11_method_67_code 117 = .ok (.istore 4, 2) := by decide +kernel
theorem dX9_restore_119 : decode prog_11_method_67_code 119 = .ok (.iload 4, 2) := by decide +kernel
theorem dX9_restore_121 : decode prog_11_method_67_code 121 = .ok (.aload_n 0, 1) := by decide +kernel
theorem dX9_restore_122 : decode prog_11_method_67_code 122 = .ok (.getfield 23, 3) := by decide +kernel
theorem dX9_restore_125 : decode prog_11_method_67_code 125 = .ok (.iload_n 1, 1) := by decide +kernel
theorem dX9_restore_126 : decode prog_11_method_67_code 126 = .ok (.iaload, 1) := by decide +kernel
theorem dX9_restore_127 : decode prog_11_method_67_code 127 = .ok (.if_icmp .ge 22, 3) := by decide +kernel
theorem dX9_restore_130 : decode prog_11_method_67_code 130 = .ok (.aload_n 0, 1) := by decide +kernel
theorem dX9_restore_131 : decode prog_11_method_67_code 131 = .ok (.getfield 19, 3) := by decide +kernel
theorem dX9_restore_134 : decode prog_11_method_67_code 134 = .ok (.aload_n 0, 1) := by decide +kernel
theorem dX9_restore_135 : decode prog_11_method_67_code 135 = .ok (.iload_n 1, 1) := by decide +kernel
theorem dX9_restore_136 : decode prog_11_method_67_code 136 = .ok (.iload 4, 2) := by decide +kernel
theorem dX9_restore_138 : decode prog_11_method_67_code 138 = .ok (.invokevirtual 141, 3) := by decide +kernel
theorem dX9_restore_141 : decode prog_11_method_67_code 141 = .ok (.iconst 0, 1) := by decide +kernel
theorem dX9_restore_142 : decode prog_11_method_67_code 142 = .ok (.bastore, 1) := by decide +kernel
theorem dX9_restore_143 : decode prog_11_method_67_code 143 = .ok (.iinc 4 1, 3) := by decide +kernel
theorem dX9_restore_146 : decode prog_11_method_67_code 146 = .ok (.goto (-27), 3) := by decide +kernel
theorem dX9_restore_149 : decode prog_11_method_67_code 149 = .ok (.iload_n 2, 1) := by decide +kernel
theorem dX9_restore_150 : decode prog_11_method_67_code 150 = .ok (.ireturn, 1) := by decide +kernel
abbrev M_X8_goesWhole : am_M := ((⟨"SignCellar", "goesWhole", "(LSignCellar$Version;LSignCellar$Version;I)Z"⟩ : MethodName), prog_1_method_64_code, 4, (some .boolean), 3, 64)
theorem dX8_goesWhole_0 : decode prog_1_method_64_code 0 = .ok (.aload_n 1, 1) := by decide +kernel
theorem dX8_goesWhole_1 : decode prog_1_method_64_code 1 = .ok (.getfield 148, 3) := by decide +kernel
theorem dX8_goesWhole_4 : decode prog_1_method_64_code 4 = .ok (.iload_n 2, 1) := by decide +kernel
theorem dX8_goesWhole_5 : decode prog_1_method_64_code 5 = .ok (.invokevirtual 161, 3) := by decide +kernel
theorem dX8_goesWhole_8 : decode prog_1_method_64_code 8 = .ok (.istore_n 3, 1) := by decide +kernel
theorem dX8_goesWhole_9 : decode prog_1_method_64_code 9 = .ok (.aload_n 0, 1) := by decide +kernel
theorem dX8_goesWhole_10 : decode prog_1_method_64_code 10 = .ok (.getfield 148, 3) := by decide +kernel
theorem dX8_goesWhole_13 : decode prog_1_method_64_code 13 = .ok (.iload_n 3, 1) := by decide +kernel
theorem dX8_goesWhole_14 : decode prog_1_method_64_code 14 = .ok (.invokevirtual 198, 3) := by decide +kernel
theorem dX8_goesWhole_17 : decode prog_1_method_64_code 17 = .ok (.ifCond .ne 19, 3) := by decide +kernel
theorem dX8_goesWhole_20 : decode prog_1_method_64_code 20 = .ok (.aload_n 1, 1) := by decide +kernel
theorem dX8_goesWhole_21 : decode prog_1_method_64_code 21 = .ok (.getfield 148, 3) := by decide +kernel
theorem dX8_goesWhole_24 : decode prog_1_method_64_code 24 = .ok (.iload_n 3, 1) := by decide +kernel
theorem dX8_goesWhole_25 : decode prog_1_method_64_code 25 = .ok (.invokevirtual 201, 3) := by decide +kernel
theorem dX8_goesWhole_28 : decode prog_1_method_64_code 28 = .ok (.iload_n 2, 1) := by decide +kernel
theorem dX8_goesWhole_29 : decode prog_1_method_64_code 29 = .ok (.if_icmp .ne 7, 3) := by decide +kernel
theorem dX8_goesWhole_32 : decode prog_1_method_64_code 32 = .ok (.iconst 1, 1) := by decide +kernel
theorem dX8_goesWhole_33 : decode prog_1_method_64_code 33 = .ok (.goto 4, 3) := by decide +kernel
theorem dX8_goesWhole_36 : decode prog_1_method_64_code 36 = .ok (.iconst 0, 1) := by decide +kernel
theorem dX8_goesWhole_37 : decode prog_1_method_64_code 37 = .ok (.ireturn, 1) := by decide +kernel
abbrev M_X8_sentBits : am_M := ((⟨"SignCellar", "sentBits", "(LSignCellar$Version;LSignCellar$Version;)I"⟩ : MethodName), prog_1_method_65_code, 5, (some .int), 4, 87)
theorem dX8_sentBits_0 : decode prog_1_method_65_code 0 = .ok (.iconst 0, 1) := by decide +kernel
theorem dX8_sentBits_1 : decode prog_1_method_65_code 1 = .ok (.istore_n 3, 1) := by decide +kernel
theorem dX8_sentBits_2 : decode prog_1_method_65_code 2 = .ok (.iconst 0, 1) := by decide +kernel
theorem dX8_sentBits_3 : decode prog_1_method_65_code 3 = .ok (.istore 4, 2) := by decide +kernel
theorem dX8_sentBits_5 : decode prog_1_method_65_code 5 = .ok (.iload 4, 2) := by decide +kernel
theorem dX8_sentBits_7 : decode prog_1_method_65_code 7 = .ok (.aload_n 2, 1) := by decide +kernel
theorem dX8_sentBits_8 : decode prog_1_method_65_code 8 = .ok (.getfield 148, 3) := by decide +kernel
theorem dX8_sentBits_11 : decode prog_1_method_65_code 11 = .ok (.invokevirtual 93, 3) := by decide +kernel
theorem dX8_sentBits_14 : decode prog_1_method_65_code 14 = .ok (.if_icmp .ge 37, 3) := by decide +kernel
theorem dX8_sentBits_17 : decode prog_1_method_65_code 17 = .ok (.iload_n 3, 1) := by decide +kernel
theorem dX8_sentBits_18 : decode prog_1_method_65_code 18 = .ok (.aload_n 1, 1) := by decide +kernel
theorem dX8_sentBits_19 : decode prog_1_method_65_code 19 = .ok (.aload_n 2, 1) := by decide +kernel
theorem dX8_sentBits_20 : decode prog_1_method_65_code 20 = .ok (.iload 4, 2) := by decide +kernel
theorem dX8_sentBits_22 : decode prog_1_method_65_code 22 = .ok (.invokestatic 387, 3) := by decide +kernel
theorem dX8_sentBits_25 : decode prog_1_method_65_code 25 = .ok (.ifCond .eq 17, 3) := by decide +kernel
theorem dX8_sentBits_28 : decode prog_1_method_65_code 28 = .ok (.iconst 4, 1) := by decide +kernel
theorem dX8_sentBits_29 : decode prog_1_method_65_code 29 = .ok (.aload_n 0, 1) := by decide +kernel
theorem dX8_sentBits_30 : decode prog_1_method_65_code 30 = .ok (.aload_n 2, 1) := by decide +kernel
theorem dX8_sentBits_31 : decode prog_1_method_65_code 31 = .ok (.iload 4, 2) := by decide +kernel
theorem dX8_sentBits_33 : decode prog_1_method_65_code 33 = .ok (.invokevirtual 145, 3) := by decide +kernel
theorem dX8_sentBits_36 : decode prog_1_method_65_code 36 = .ok (.imul, 1) := by decide +kernel
theorem dX8_sentBits_37 : decode prog_1_method_65_code 37 = .ok (.iconst 3, 1) := by decide +kernel
theorem dX8_sentBits_38 : decode prog_1_method_65_code 38 = .ok (.iadd, 1) := by decide +kernel
theorem dX8_sentBits_39 : decode prog_1_method_65_code 39 = .ok (.goto 4, 3) := by decide +kernel
theorem dX8_sentBits_42 : decode prog_1_method_65_code 42 = .ok (.iconst 4, 1) := by decide +kernel
theorem dX8_sentBits_43 : decode prog_1_method_65_code 43 = .ok (.iadd, 1) := by decide +kernel
theorem dX8_sentBits_44 : decode prog_1_method_65_code 44 = .ok (.istore_n 3, 1) := by decide +kernel
theorem dX8_sentBits_45 : decode prog_1_method_65_code 45 = .ok (.iinc 4 1, 3) := by decide +kernel
theorem dX8_sentBits_48 : decode prog_1_method_65_code 48 = .ok (.goto (-43), 3) := by decide +kernel
theorem dX8_sentBits_51 : decode prog_1_method_65_code 51 = .ok (.iload_n 3, 1) := by decide +kernel
theorem dX8_sentBits_52 : decode prog_1_method_65_code 52 = .ok (.ireturn, 1) := by decide +kernel
abbrev M_X8_sentWhole : am_M := ((⟨"SignCellar", "sentWhole", "(LSignCellar$Version;LSignCellar$Version;)I"⟩ : MethodName), prog_1_method_66_code, 4, (some .int), 4, 87)
theorem dX8_sentWhole_0 : decode prog_1_method_66_code 0 = .ok (.iconst 0, 1) := by decide +kernel
theorem dX8_sentWhole_1 : decode prog_1_method_66_code 1 = .ok (.istore_n 2, 1) := by decide +kernel
theorem dX8_sentWhole_2 : decode prog_1_method_66_code 2 = .ok (.iconst 0, 1) := by decide +kernel
theorem dX8_sentWhole_3 : decode prog_1_method_66_code 3 = .ok (.istore_n 3, 1) := by decide +kernel
theorem dX8_sentWhole_4 : decode prog_1_method_66_code 4 = .ok (.iload_n 3, 1) := by decide +kernel
theorem dX8_sentWhole_5 : decode prog_1_method_66_code 5 = .ok (.aload_n 1, 1) := by decide +kernel
theorem dX8_sentWhole_6 : decode prog_1_method_66_code 6 = .ok (.getfield 148, 3) := by decide +kernel
theorem dX8_sentWhole_9 : decode prog_1_method_66_code 9 = .ok (.invokevirtual 93, 3) := by decide +kernel
theorem dX8_sentWhole_12 : decode prog_1_method_66_code 12 = .ok (.if_icmp .ge 21, 3) := by decide +kernel
theorem dX8_sentWhole_15 : decode prog_1_method_66_code 15 = .ok (.aload_n 0, 1) := by decide +kernel
theorem dX8_sentWhole_16 : decode prog_1_method_66_code 16 = .ok (.aload_n 1, 1) := by decide +kernel
theorem dX8_sentWhole_17 : decode prog_1_method_66_code 17 = .ok (.iload_n 3, 1) := by decide +kernel
theorem dX8_sentWhole_18 : decode prog_1_method_66_code 18 = .ok (.invokestatic 387, 3) := by decide +kernel
theorem dX8_sentWhole_21 : decode prog_1_method_66_code 21 = .ok (.ifCond .eq 6, 3) := by decide +kernel
theorem dX8_sentWhole_24 : decode prog_1_method_66_code 24 = .ok (.iinc 2 1, 3) := by decide +kernel
theorem dX8_sentWhole_27 : decode prog_1_method_66_code 27 = .ok (.iinc 3 1, 3) := by decide +kernel
theorem dX8_sentWhole_30 : decode prog_1_method_66_code 30 = .ok (.goto (-26), 3) := by decide +kernel
theorem dX8_sentWhole_33 : decode prog_1_method_66_code 33 = .ok (.iload_n 2, 1) := by decide +kernel
theorem dX8_sentWhole_34 : decode prog_1_method_66_code 34 = .ok (.ireturn, 1) := by decide +kernel
def F_X9_sums_33 (h : am_H) : Option Int32 :=
  some (-100002 : Int32)
theorem w_X9_sums_33 {g : am_G} {l : Launch} {h0 : am_H} {x : Int32}  (h : am_H) (hF : F_X9_sums_33 h = some x) : am_W g l M_X9_sums h0 (some (.int x)) h 33 [none, none, none, none] [] h := by
  unfold F_X9_sums_33 at hF
  refine am_ldc (v := (-100002 : Int32)) (pc' := 35) dX9_sums_33 wd_4_236 rfl ?_
  cases hF
  exact am_iret dX9_sums_35 rfl rfl
def F_X9_sums_65 (s0 : Int32) (h : am_H) : Option Int32 :=
  some s0
theorem w_X9_sums_65 {g : am_G} {l : Launch} {h0 : am_H} {x : Int32}  (s0 : Int32) (h : am_H) (hF : F_X9_sums_65 s0 h = some x) : am_W g l M_X9_sums h0 (some (.int x)) h 65 [none, none, none, none] [.int s0] h := by
  unfold F_X9_sums_65 at hF
  cases hF
  exact am_iret dX9_sums_65 rfl rfl
def F_X9_sums_b (v0 : Nat) (v1 : Int32) (v2 : Int32) (v3 : Int32) (h : am_H) : Option Int32 :=
  (F_X9_noVersion v0 v1 h).bind fun x1 =>
  if x1 = 0 then
    (F_X9_in (Int32.toInt64 v2) (0 : Int64) (1 : Int64) h).bind fun x3 =>
    if x3 = 0 then
      F_X9_sums_33 h
    else
      (F_X9_in (Int32.toInt64 v3) (0 : Int64) (23 : Int64) h).bind fun x5 =>
      if x5 = 0 then
        F_X9_sums_33 h
      else
        if v2 = 0 then
          (am_gr 9 11 v0 h).bind fun x8 =>
          (am_il 0 x8 (((24 : Int32) * v1) + v3) h).bind fun x9 =>
          F_X9_sums_65 x9 h
        else
          (am_gr 9 12 v0 h).bind fun x10 =>
          (am_il 0 x10 (((24 : Int32) * v1) + v3) h).bind fun x11 =>
          F_X9_sums_65 x11 h
  else
    some (-100001 : Int32)
theorem w_X9_sums {g : am_G} {l : Launch} {h0 : am_H} {x : Int32}  (v0 : Nat) (v1 : Int32) (v2 : Int32) (v3 : Int32) (h : am_H) (hF : F_X9_sums_b v0 v1 v2 v3 h = some x) : am_W g l M_X9_sums h0 (some (.int x)) h 0 [some (.ref v0), some (.int v1), some (.int v2), some (.int v3)] [] h := by
  unfold F_X9_sums_b at hF
  refine am_aload_n (pc' := 1) dX9_sums_0 rfl rfl ?_
  refine am_iload_n (pc' := 2) dX9_sums_1 rfl rfl ?_
  obtain ⟨x1, ex1, hF⟩ := am_bind hF
  obtain ⟨ox1, px1⟩ := t_X9_noVersion ex1
  refine am_callV1 (Mc := M_X9_noVersion) (As := [.int v1]) (st := []) (pc' := 5) dX9_sums_2 cw_X9_154 wd_5_37 sl_X9_noVersion ⟨_, rfl, rfl⟩ (by decide) (by decide) rfl rfl (Nat.le_of_ble_eq_true rfl) px1 (c_X9_noVersion ex1) rfl ?_
  rcases am_ite hF with ⟨z2, hF⟩ | ⟨z2, hF⟩
  · refine am_if_eq_t (pc' := 11) dX9_sums_5 rfl z2 ?_
    refine am_iload_n (pc' := 12) dX9_sums_11 rfl rfl ?_
    refine am_i2l (pc' := 13) dX9_sums_12 rfl ?_
    refine am_lconst (v := (0 : Int64)) (pc' := 14) dX9_sums_13 rfl rfl ?_
    refine am_lconst (v := (1 : Int64)) (pc' := 15) dX9_sums_14 rfl rfl ?_
    obtain ⟨x3, ex3, hF⟩ := am_bind hF
    refine am_callS1 (Mc := M_X9_in) (As := [.long (Int32.toInt64 v2), .long (0 : Int64), .long (1 : Int64)]) (st := []) (pc' := 18) dX9_sums_15 cw_X9_96 wd_4_234 (by decide) (by decide) rfl rfl (Nat.le_of_ble_eq_true rfl) (c_X9_in ex3) rfl ?_
    rcases am_ite hF with ⟨z4, hF⟩ | ⟨z4, hF⟩
    · refine am_if_eq_t (pc' := 33) dX9_sums_18 rfl z4 ?_
      exact am_weak [false, false, false, false] (w_X9_sums_33 h hF)
    · refine am_if_eq_f (pc' := 21) (tgt := 33) dX9_sums_18 rfl z4 rfl ?_
      refine am_iload_n (pc' := 22) dX9_sums_21 rfl rfl ?_
      refine am_i2l (pc' := 23) dX9_sums_22 rfl ?_
      refine am_lconst (v := (0 : Int64)) (pc' := 24) dX9_sums_23 rfl rfl ?_
      refine am_ldc2 (v := (23 : Int64)) (pc' := 27) dX9_sums_24 wd_6_18 rfl ?_
      obtain ⟨x5, ex5, hF⟩ := am_bind hF
      refine am_callS1 (Mc := M_X9_in) (As := [.long (Int32.toInt64 v3), .long (0 : Int64), .long (23 : Int64)]) (st := []) (pc' := 30) dX9_sums_27 cw_X9_96 wd_4_234 (by decide) (by decide) rfl rfl (Nat.le_of_ble_eq_true rfl) (c_X9_in ex5) rfl ?_
      rcases am_ite hF with ⟨z6, hF⟩ | ⟨z6, hF⟩
      · refine am_if_ne_f (pc' := 33) (tgt := 36) dX9_sums_30 rfl z6 rfl ?_
        exact am_weak [false, false, false, false] (w_X9_sums_33 h hF)
      · refine am_if_ne_t (pc' := 36) dX9_sums_30 rfl z6 ?_
        refine am_iload_n (pc' := 37) dX9_sums_36 rfl rfl ?_
        rcases am_ite hF with ⟨z7, hF⟩ | ⟨z7, hF⟩
        · refine am_if_ne_f (pc' := 40) (tgt := 54) dX9_sums_37 rfl z7 rfl ?_
          refine am_aload_n (pc' := 41) dX9_sums_40 rfl rfl ?_
          obtain ⟨x8, ex8, hF⟩ := am_bind hF
          refine am_getr (pc' := 44) dX9_sums_41 fw_X9_35 ex8 rfl ?_
          refine am_bipush (v := (24 : Int32)) (pc' := 46) dX9_sums_44 rfl rfl ?_
          refine am_iload_n (pc' := 47) dX9_sums_46 rfl rfl ?_
          refine am_imul (pc' := 48) dX9_sums_47 rfl ?_
          refine am_iload_n (pc' := 49) dX9_sums_48 rfl rfl ?_
          refine am_iadd (pc' := 50) dX9_sums_49 rfl ?_
          obtain ⟨x9, ex9, hF⟩ := am_bind hF
          refine am_iald (pc' := 51) dX9_sums_50 ex9 rfl ?_
          refine am_goto (pc' := 65) dX9_sums_51 rfl ?_
          exact am_weak [false, false, false, false] (w_X9_sums_65 x9 h hF)
        · refine am_if_ne_t (pc' := 54) dX9_sums_37 rfl z7 ?_
          refine am_aload_n (pc' := 55) dX9_sums_54 rfl rfl ?_
          obtain ⟨x10, ex10, hF⟩ := am_bind hF
          refine am_getr (pc' := 58) dX9_sums_55 fw_X9_38 ex10 rfl ?_
          refine am_bipush (v := (24 : Int32)) (pc' := 60) dX9_sums_58 rfl rfl ?_
          refine am_iload_n (pc' := 61) dX9_sums_60 rfl rfl ?_
          refine am_imul (pc' := 62) dX9_sums_61 rfl ?_
          refine am_iload_n (pc' := 63) dX9_sums_62 rfl rfl ?_
          refine am_iadd (pc' := 64) dX9_sums_63 rfl ?_
          obtain ⟨x11, ex11, hF⟩ := am_bind hF
          refine am_iald (pc' := 65) dX9_sums_64 ex11 rfl ?_
          exact am_weak [false, false, false, false] (w_X9_sums_65 x11 h hF)
  · refine am_if_eq_f (pc' := 8) (tgt := 11) dX9_sums_5 rfl z2 rfl ?_
    refine am_ldc (v := (-100001 : Int32)) (pc' := 10) dX9_sums_8 wd_5_47 rfl ?_
    cases hF
    exact am_iret dX9_sums_10 rfl rfl
def F_X9_sums (v0 : Nat) (v1 : Int32) (v2 : Int32) (v3 : Int32) (h : am_H) : Option Int32 := (am_obj v0 9 h).bind fun _ => F_X9_sums_b v0 v1 v2 v3 h
theorem t_X9_sums {x : Int32}  {v0 : Nat} {v1 : Int32} {v2 : Int32} {v3 : Int32} {h : am_H} (hF : F_X9_sums v0 v1 v2 v3 h = some x) : ∃ fs, am_obj v0 9 h = some fs := by
  obtain ⟨fs, e, _⟩ := am_bind hF
  exact ⟨fs, e⟩
theorem c_X9_sums {g : am_G} {l : Launch} {x : Int32}  {v0 : Nat} {v1 : Int32} {v2 : Int32} {v3 : Int32} {h : am_H} (hF : F_X9_sums v0 v1 v2 v3 h = some x) : am_Met g l M_X9_sums [.ref v0, .int v1, .int v2, .int v3] h (some (.int x)) h := by
  obtain ⟨fs, e0, e⟩ := am_bind hF
  exact am_met (n := 0) (by decide +kernel) rfl (Nat.le_of_ble_eq_true rfl) (w_X9_sums v0 v1 v2 v3 h e)
def F_X8_nextTorn_6 : Nat → Nat → Nat → Int32 → am_H → Option Int32
  | 0, _, _, _, _ => none
  | n + 1, v0, v1, v3, h =>
  (am_gr 7 0 v1 h).bind fun x1 =>
  (F_X4_length x1 h).bind fun x2 =>
  if x2 ≤ v3 then
    some (-1 : Int32)
  else
    (F_X8_isTornIn v0 v1 v3 h).bind fun x4 =>
    if x4 = 0 then
      F_X8_nextTorn_6 n v0 v1 (v3 + (1 : Int32)) h
    else
      some v3
theorem w_X8_nextTorn_6 {g : am_G} {l : Launch} {h0 : am_H} {x : Int32}  : ∀ (n : Nat) (v0 : Nat) (v1 : Nat) (v3 : Int32) (h : am_H), F_X8_nextTorn_6 n v0 v1 v3 h = some x → am_W g l M_X8_nextTorn h0 (some (.int x)) h 6 [some (.ref v0), some (.ref v1), none, some (.int v3)] [] h
  | 0, _, _, _, _, hF => by cases hF
  | n + 1, v0, v1, v3, h, hF => by
    rw [F_X8_nextTorn_6] at hF
    refine am_iload_n (pc' := 7) dX8_nextTorn_6 rfl rfl ?_
    refine am_aload_n (pc' := 8) dX8_nextTorn_7 rfl rfl ?_
    obtain ⟨x1, ex1, hF⟩ := am_bind hF
    refine am_getr (pc' := 11) dX8_nextTorn_8 fw_X8_148 ex1 rfl ?_
    obtain ⟨x2, ex2, hF⟩ := am_bind hF
    obtain ⟨ox2, px2⟩ := t_X4_length ex2
    refine am_callV1 (Mc := M_X4_length) (As := []) (st := [.int v3]) (pc' := 14) dX8_nextTorn_11 cw_X8_93 wd_1_235 wd_1_236 ⟨_, rfl, rfl⟩ (by decide) (by decide) rfl rfl (Nat.le_of_ble_eq_true rfl) px2 (c_X4_length ex2) rfl ?_
    rcases am_ite hF with ⟨z3, hF⟩ | ⟨z3, hF⟩
    · refine am_icmp_ge_t (pc' := 34) dX8_nextTorn_14 rfl z3 ?_
      refine am_iconst (v := (-1 : Int32)) (pc' := 35) dX8_nextTorn_34 rfl rfl ?_
      cases hF
      exact am_iret dX8_nextTorn_35 rfl rfl
    · refine am_icmp_ge_f (pc' := 17) (tgt := 34) dX8_nextTorn_14 rfl z3 rfl ?_
      refine am_aload_n (pc' := 18) dX8_nextTorn_17 rfl rfl ?_
      refine am_aload_n (pc' := 19) dX8_nextTorn_18 rfl rfl ?_
      refine am_iload_n (pc' := 20) dX8_nextTorn_19 rfl rfl ?_
      obtain ⟨x4, ex4, hF⟩ := am_bind hF
      obtain ⟨ox4, px4⟩ := t_X8_isTornIn ex4
      refine am_callV1 (Mc := M_X8_isTornIn) (As := [.ref v1, .int v3]) (st := []) (pc' := 23) dX8_nextTorn_20 cw_X8_164 wd_2_151 sl_X8_isTornIn ⟨_, rfl, rfl⟩ (by decide) (by decide) rfl rfl (Nat.le_of_ble_eq_true rfl) px4 (c_X8_isTornIn ex4) rfl ?_
      rcases am_ite hF with ⟨z5, hF⟩ | ⟨z5, hF⟩
      · refine am_if_eq_t (pc' := 28) dX8_nextTorn_23 rfl z5 ?_
        refine am_iinc (ls' := [some (.ref v0), some (.ref v1), none, some (.int (v3 + (1 : Int32)))]) (pc' := 31) (v := (v3 + (1 : Int32))) dX8_nextTorn_28 rfl rfl (Nat.le_of_ble_eq_true rfl) rfl rfl ?_
        refine am_goto (pc' := 6) dX8_nextTorn_31 rfl ?_
        exact w_X8_nextTorn_6 n v0 v1 (v3 + (1 : Int32)) h hF
      · refine am_if_eq_f (pc' := 26) (tgt := 28) dX8_nextTorn_23 rfl z5 rfl ?_
        refine am_iload_n (pc' := 27) dX8_nextTorn_26 rfl rfl ?_
        cases hF
        exact am_iret dX8_nextTorn_27 rfl rfl
def F_X8_nextTorn_b (v0 : Nat) (v1 : Nat) (v2 : Int32) (h : am_H) : Option Int32 :=
  (F_J9_max_7cf53 (0 : Int32) v2 h).bind fun x1 =>
  F_X8_nextTorn_6 am_F v0 v1 x1 h
theorem w_X8_nextTorn {g : am_G} {l : Launch} {h0 : am_H} {x : Int32}  (v0 : Nat) (v1 : Nat) (v2 : Int32) (h : am_H) (hF : F_X8_nextTorn_b v0 v1 v2 h = some x) : am_W g l M_X8_nextTorn h0 (some (.int x)) h 0 [some (.ref v0), some (.ref v1), some (.int v2), none] [] h := by
  unfold F_X8_nextTorn_b at hF
  refine am_iconst (v := (0 : Int32)) (pc' := 1) dX8_nextTorn_0 rfl rfl ?_
  refine am_iload_n (pc' := 2) dX8_nextTorn_1 rfl rfl ?_
  obtain ⟨x1, ex1, hF⟩ := am_bind hF
  refine am_callS1 (Mc := M_J9_max_7cf53) (As := [.int (0 : Int32), .int v2]) (st := []) (pc' := 5) dX8_nextTorn_2 cw_X8_328 wd_1_28 (by decide) (by decide) rfl rfl (Nat.le_of_ble_eq_true rfl) (c_J9_max_7cf53 ex1) rfl ?_
  refine am_istore_n (ls' := [some (.ref v0), some (.ref v1), some (.int v2), some (.int x1)]) (pc' := 6) dX8_nextTorn_5 (Nat.le_of_ble_eq_true rfl) rfl rfl ?_
  exact am_weak [true, true, false, true] (w_X8_nextTorn_6 am_F v0 v1 x1 h hF)
def F_X8_nextTorn (v0 : Nat) (v1 : Nat) (v2 : Int32) (h : am_H) : Option Int32 := (am_obj v0 8 h).bind fun _ => F_X8_nextTorn_b v0 v1 v2 h
theorem t_X8_nextTorn {x : Int32}  {v0 : Nat} {v1 : Nat} {v2 : Int32} {h : am_H} (hF : F_X8_nextTorn v0 v1 v2 h = some x) : ∃ fs, am_obj v0 8 h = some fs := by
  obtain ⟨fs, e, _⟩ := am_bind hF
  exact ⟨fs, e⟩
theorem c_X8_nextTorn {g : am_G} {l : Launch} {x : Int32}  {v0 : Nat} {v1 : Nat} {v2 : Int32} {h : am_H} (hF : F_X8_nextTorn v0 v1 v2 h = some x) : am_Met g l M_X8_nextTorn [.ref v0, .ref v1, .int v2] h (some (.int x)) h := by
  obtain ⟨fs, e0, e⟩ := am_bind hF
  exact am_met (n := 1) (by decide +kernel) rfl (Nat.le_of_ble_eq_true rfl) (w_X8_nextTorn v0 v1 v2 h e)
def F_X8_inverse_21 (s0 : Int32) (h : am_H) : Option Int32 :=
  some s0
theorem w_X8_inverse_21 {g : am_G} {l : Launch} {h0 : am_H} {x : Int32}  (s0 : Int32) (h : am_H) (hF : F_X8_inverse_21 s0 h = some x) : am_W g l M_X8_inverse h0 (some (.int x)) h 21 [none] [.int s0] h := by
  unfold F_X8_inverse_21 at hF
  cases hF
  exact am_iret dX8_inverse_21 rfl rfl
def F_X8_inverse_20 (h : am_H) : Option Int32 :=
  F_X8_inverse_21 (0 : Int32) h
theorem w_X8_inverse_20 {g : am_G} {l : Launch} {h0 : am_H} {x : Int32}  (h : am_H) (hF : F_X8_inverse_20 h = some x) : am_W g l M_X8_inverse h0 (some (.int x)) h 20 [none] [] h := by
  unfold F_X8_inverse_20 at hF
  refine am_iconst (v := (0 : Int32)) (pc' := 21) dX8_inverse_20 rfl rfl ?_
  exact w_X8_inverse_21 (0 : Int32) h hF
def F_X8_inverse_b (v0 : Int32) (h : am_H) : Option Int32 :=
  if v0 < 0 then
    F_X8_inverse_20 h
  else
    if (8 : Int32) ≤ v0 then
      F_X8_inverse_20 h
    else
      (am_xl v0).bind fun x3 =>
      F_X8_inverse_21 x3 h
theorem w_X8_inverse {g : am_G} {l : Launch} {h0 : am_H} {x : Int32}  (v0 : Int32) (h : am_H) (hF : F_X8_inverse_b v0 h = some x) : am_W g l M_X8_inverse h0 (some (.int x)) h 0 [some (.int v0)] [] h := by
  unfold F_X8_inverse_b at hF
  refine am_iload_n (pc' := 1) dX8_inverse_0 rfl rfl ?_
  rcases am_ite hF with ⟨z1, hF⟩ | ⟨z1, hF⟩
  · refine am_if_lt_t (pc' := 20) dX8_inverse_1 rfl z1 ?_
    exact am_weak [false] (w_X8_inverse_20 h hF)
  · refine am_if_lt_f (pc' := 4) (tgt := 20) dX8_inverse_1 rfl z1 rfl ?_
    refine am_iload_n (pc' := 5) dX8_inverse_4 rfl rfl ?_
    refine am_gets (pc' := 8) dX8_inverse_5 wd_4_48 rfl ?_
    refine am_xlen (pc' := 9) dX8_inverse_8 rfl ?_
    rcases am_ite hF with ⟨z2, hF⟩ | ⟨z2, hF⟩
    · refine am_icmp_ge_t (pc' := 20) dX8_inverse_9 rfl z2 ?_
      exact am_weak [false] (w_X8_inverse_20 h hF)
    · refine am_icmp_ge_f (pc' := 12) (tgt := 20) dX8_inverse_9 rfl z2 rfl ?_
      refine am_gets (pc' := 15) dX8_inverse_12 wd_4_48 rfl ?_
      refine am_iload_n (pc' := 16) dX8_inverse_15 rfl rfl ?_
      obtain ⟨x3, ex3, hF⟩ := am_bind hF
      refine am_xald (pc' := 17) dX8_inverse_16 ex3 rfl ?_
      refine am_goto (pc' := 21) dX8_inverse_17 rfl ?_
      exact am_weak [false] (w_X8_inverse_21 x3 h hF)
def F_X8_inverse (v0 : Int32) (h : am_H) : Option Int32 := F_X8_inverse_b v0 h
theorem c_X8_inverse {g : am_G} {l : Launch} {x : Int32}  {v0 : Int32} {h : am_H} (hF : F_X8_inverse v0 h = some x) : am_Met g l M_X8_inverse [.int v0] h (some (.int x)) h := by
  exact am_met (n := 0) (by decide +kernel) rfl (Nat.le_of_ble_eq_true rfl) (w_X8_inverse v0 h hF)
def F_J9_floorMod_7cf53_18 (v2 : Int32) (h : am_H) : Option Int32 :=
  some v2
theorem w_J9_floorMod_7cf53_18 {g : am_G} {l : Launch} {h0 : am_H} {x : Int32}  (v2 : Int32) (h : am_H) (hF : F_J9_floorMod_7cf53_18 v2 h = some x) : am_W g l M_J9_floorMod_7cf53 h0 (some (.int x)) h 18 [none, none, some (.int v2)] [] h := by
  unfold F_J9_floorMod_7cf53_18 at hF
  refine am_iload_n (pc' := 19) dJ9_floorMod_7cf53_18 rfl rfl ?_
  cases hF
  exact am_iret dJ9_floorMod_7cf53_19 rfl rfl
def F_J9_floorMod_7cf53_b (v0 : Int32) (v1 : Int32) (h : am_H) : Option Int32 :=
  if v1 = 0 then none else
  if 0 ≤ (v0 ^^^ v1) then
    F_J9_floorMod_7cf53_18 (v0 - v0 / v1 * v1) h
  else
    if (v0 - v0 / v1 * v1) = 0 then
      F_J9_floorMod_7cf53_18 (v0 - v0 / v1 * v1) h
    else
      some ((v0 - v0 / v1 * v1) + v1)
theorem w_J9_floorMod_7cf53 {g : am_G} {l : Launch} {h0 : am_H} {x : Int32}  (v0 : Int32) (v1 : Int32) (h : am_H) (hF : F_J9_floorMod_7cf53_b v0 v1 h = some x) : am_W g l M_J9_floorMod_7cf53 h0 (some (.int x)) h 0 [some (.int v0), some (.int v1), none] [] h := by
  unfold F_J9_floorMod_7cf53_b at hF
  refine am_iload_n (pc' := 1) dJ9_floorMod_7cf53_0 rfl rfl ?_
  refine am_iload_n (pc' := 2) dJ9_floorMod_7cf53_1 rfl rfl ?_
  rcases am_ite hF with ⟨z1, hF⟩ | ⟨z1, hF⟩
  · cases hF
  refine am_irem (pc' := 3) dJ9_floorMod_7cf53_2 z1 rfl ?_
  refine am_istore_n (ls' := [some (.int v0), some (.int v1), some (.int (v0 - v0 / v1 * v1))]) (pc' := 4) dJ9_floorMod_7cf53_3 (Nat.le_of_ble_eq_true rfl) rfl rfl ?_
  refine am_iload_n (pc' := 5) dJ9_floorMod_7cf53_4 rfl rfl ?_
  refine am_iload_n (pc' := 6) dJ9_floorMod_7cf53_5 rfl rfl ?_
  refine am_ixor (pc' := 7) dJ9_floorMod_7cf53_6 rfl ?_
  rcases am_ite hF with ⟨z2, hF⟩ | ⟨z2, hF⟩
  · refine am_if_ge_t (pc' := 18) dJ9_floorMod_7cf53_7 rfl z2 ?_
    exact am_weak [false, false, true] (w_J9_floorMod_7cf53_18 (v0 - v0 / v1 * v1) h hF)
  · refine am_if_ge_f (pc' := 10) (tgt := 18) dJ9_floorMod_7cf53_7 rfl z2 rfl ?_
    refine am_iload_n (pc' := 11) dJ9_floorMod_7cf53_10 rfl rfl ?_
    rcases am_ite hF with ⟨z3, hF⟩ | ⟨z3, hF⟩
    · refine am_if_eq_t (pc' := 18) dJ9_floorMod_7cf53_11 rfl z3 ?_
      exact am_weak [false, false, true] (w_J9_floorMod_7cf53_18 (v0 - v0 / v1 * v1) h hF)
    · refine am_if_eq_f (pc' := 14) (tgt := 18) dJ9_floorMod_7cf53_11 rfl z3 rfl ?_
      refine am_iload_n (pc' := 15) dJ9_floorMod_7cf53_14 rfl rfl ?_
      refine am_iload_n (pc' := 16) dJ9_floorMod_7cf53_15 rfl rfl ?_
      refine am_iadd (pc' := 17) dJ9_floorMod_7cf53_16 rfl ?_
      cases hF
      exact am_iret dJ9_floorMod_7cf53_17 rfl rfl
def F_J9_floorMod_7cf53 (v0 : Int32) (v1 : Int32) (h : am_H) : Option Int32 := F_J9_floorMod_7cf53_b v0 v1 h
theorem c_J9_floorMod_7cf53 {g : am_G} {l : Launch} {x : Int32}  {v0 : Int32} {v1 : Int32} {h : am_H} (hF : F_J9_floorMod_7cf53 v0 v1 h = some x) : am_Met g l M_J9_floorMod_7cf53 [.int v0, .int v1] h (some (.int x)) h := by
  exact am_met (n := 1) (by decide +kernel) rfl (Nat.le_of_ble_eq_true rfl) (w_J9_floorMod_7cf53 v0 v1 h hF)
theorem fx_X8_182 {nm : String} : am_fx "SignCellar" 182 0 3 .boolean nm := ⟨(RX0, TX0, 4), tyX0, rfl, by decide, inX0, tyX0_ok, nmX0, rfl, Or.inr ⟨rfl, _, wd_2_64⟩⟩
def F_X8_mend_9 (h : am_H) : Option am_H :=
  some h
theorem w_X8_mend_9 {g : am_G} {l : Launch} {h0 : am_H} {hf : am_H}  (h : am_H) (hF : F_X8_mend_9 h = some hf) : am_W g l M_X8_mend h0 none hf 9 [none] [] h := by
  unfold F_X8_mend_9 at hF
  cases hF
  exact am_vret dX8_mend_9 rfl
def F_X8_mend_b (v0 : Nat) (h : am_H) : Option am_H :=
  if v0 = 0 then
    F_X8_mend_9 h
  else
    (am_pz 0 3 v0 (0 : Int32) h).bind fun h2 =>
    F_X8_mend_9 h2
theorem w_X8_mend {g : am_G} {l : Launch} {h0 : am_H} {hf : am_H}  (v0 : Nat) (h : am_H) (hF : F_X8_mend_b v0 h = some hf) : am_W g l M_X8_mend h0 none hf 0 [some (.ref v0)] [] h := by
  unfold F_X8_mend_b at hF
  refine am_aload_n (pc' := 1) dX8_mend_0 rfl rfl ?_
  rcases am_ite hF with ⟨z1, hF⟩ | ⟨z1, hF⟩
  · refine am_ifnull_t (pc' := 9) dX8_mend_1 rfl z1 ?_
    exact am_weak [false] (w_X8_mend_9 h hF)
  · refine am_ifnull_f (pc' := 4) dX8_mend_1 z1 rfl ?_
    refine am_aload_n (pc' := 5) dX8_mend_4 rfl rfl ?_
    refine am_iconst (v := (0 : Int32)) (pc' := 6) dX8_mend_5 rfl rfl ?_
    obtain ⟨h2, eh2, hF⟩ := am_bind hF
    refine am_putz (pc' := 9) dX8_mend_6 fx_X8_182 eh2 rfl ?_
    exact am_weak [false] (w_X8_mend_9 h2 hF)
def F_X8_mend (v0 : Nat) (h : am_H) : Option am_H := F_X8_mend_b v0 h
theorem c_X8_mend {g : am_G} {l : Launch} {hf : am_H}  {v0 : Nat} {h : am_H} (hF : F_X8_mend v0 h = some hf) : am_Met g l M_X8_mend [.ref v0] h none hf := by
  exact am_met (n := 0) (by decide +kernel) rfl (Nat.le_of_ble_eq_true rfl) (w_X8_mend v0 h hF)
theorem cw_X8_358 : am_cw "SignCellar" 358 M_X8_inverse 1 := ⟨wd_1_1, wd_4_47, ⟨by decide, by decide, by decide⟩, Or.inl wd_4_45⟩
theorem cw_X8_361 : am_cw "SignCellar" 361 M_J9_floorMod_7cf53 2 := ⟨wd_1_3, wd_4_52, ⟨by decide, by decide, by decide⟩, Or.inl wd_4_50⟩
theorem cw_X8_364 : am_cw "SignCellar" 364 M_X4_set 2 := ⟨wd_1_2, wd_4_28, ⟨by decide, by decide, by decide⟩, Or.inl wd_4_53⟩
theorem cw_X8_368 : am_cw "SignCellar" 368 M_X8_mend 1 := ⟨wd_1_1, wd_4_56, ⟨by decide, by decide, by decide⟩, Or.inl wd_4_54⟩
def F_X8_solve_120 (k31 : Nat → Nat → Int32 → Int32 → Nat → Nat → Int32 → am_H → Option am_H) (k63 : Nat → Nat → Int32 → Int32 → Nat → Nat → Int32 → Int32 → Int32 → Int32 → am_H → Option am_H) (v0 : Nat) (v1 : Nat) (v2 : Int32) (v3 : Int32) (v4 : Nat) (v5 : Nat) (v6 : Int32) (v7 : Int32) (v8 : Int32) (v9 : Int32) (h : am_H) : Option am_H :=
  k63 v0 v1 v2 v3 v4 v5 v6 v7 v8 (v9 + (1 : Int32)) h
theorem w_X8_solve_120 {g : am_G} {l : Launch} {h0 : am_H} {hf : am_H}  {k31 : Nat → Nat → Int32 → Int32 → Nat → Nat → Int32 → am_H → Option am_H} {k63 : Nat → Nat → Int32 → Int32 → Nat → Nat → Int32 → Int32 → Int32 → Int32 → am_H → Option am_H} (j31 : ∀ (v0 : Nat) (v1 : Nat) (v2 : Int32) (v3 : Int32) (v4 : Nat) (v5 : Nat) (v6 : Int32) (h : am_H), k31 v0 v1 v2 v3 v4 v5 v6 h = some hf → am_W g l M_X8_solve h0 none hf 31 [some (.ref v0), some (.ref v1), some (.int v2), some (.int v3), some (.ref v4), some (.ref v5), some (.int v6), none, none, none] [] h) (j63 : ∀ (v0 : Nat) (v1 : Nat) (v2 : Int32) (v3 : Int32) (v4 : Nat) (v5 : Nat) (v6 : Int32) (v7 : Int32) (v8 : Int32) (v9 : Int32) (h : am_H), k63 v0 v1 v2 v3 v4 v5 v6 v7 v8 v9 h = some hf → am_W g l M_X8_solve h0 none hf 63 [some (.ref v0), some (.ref v1), some (.int v2), some (.int v3), some (.ref v4), some (.ref v5), some (.int v6), some (.int v7), some (.int v8), some (.int v9)] [] h) (v0 : Nat) (v1 : Nat) (v2 : Int32) (v3 : Int32) (v4 : Nat) (v5 : Nat) (v6 : Int32) (v7 : Int32) (v8 : Int32) (v9 : Int32) (h : am_H) (hF : F_X8_solve_120 k31 k63 v0 v1 v2 v3 v4 v5 v6 v7 v8 v9 h = some hf) : am_W g l M_X8_solve h0 none hf 120 [some (.ref v0), some (.ref v1), some (.int v2), some (.int v3), some (.ref v4), some (.ref v5), some (.int v6), some (.int v7), some (.int v8), some (.int v9)] [] h := by
  unfold F_X8_solve_120 at hF
  refine am_iinc (ls' := [some (.ref v0), some (.ref v1), some (.int v2), some (.int v3), some (.ref v4), some (.ref v5), some (.int v6), some (.int v7), some (.int v8), some (.int (v9 + (1 : Int32)))]) (pc' := 123) (v := (v9 + (1 : Int32))) dX8_solve_120 rfl rfl (Nat.le_of_ble_eq_true rfl) rfl rfl ?_
  refine am_goto (pc' := 63) dX8_solve_123 rfl ?_
  exact j63 v0 v1 v2 v3 v4 v5 v6 v7 v8 (v9 + (1 : Int32)) h hF
def F_X8_solve_194 (k31 : Nat → Nat → Int32 → Int32 → Nat → Nat → Int32 → am_H → Option am_H) (v0 : Nat) (v1 : Nat) (v2 : Int32) (v3 : Int32) (v4 : Nat) (v5 : Nat) (v6 : Int32) (h : am_H) : Option am_H :=
  k31 v0 v1 v2 v3 v4 v5 (v6 + (1 : Int32)) h
theorem w_X8_solve_194 {g : am_G} {l : Launch} {h0 : am_H} {hf : am_H}  {k31 : Nat → Nat → Int32 → Int32 → Nat → Nat → Int32 → am_H → Option am_H} (j31 : ∀ (v0 : Nat) (v1 : Nat) (v2 : Int32) (v3 : Int32) (v4 : Nat) (v5 : Nat) (v6 : Int32) (h : am_H), k31 v0 v1 v2 v3 v4 v5 v6 h = some hf → am_W g l M_X8_solve h0 none hf 31 [some (.ref v0), some (.ref v1), some (.int v2), some (.int v3), some (.ref v4), some (.ref v5), some (.int v6), none, none, none] [] h) (v0 : Nat) (v1 : Nat) (v2 : Int32) (v3 : Int32) (v4 : Nat) (v5 : Nat) (v6 : Int32) (h : am_H) (hF : F_X8_solve_194 k31 v0 v1 v2 v3 v4 v5 v6 h = some hf) : am_W g l M_X8_solve h0 none hf 194 [some (.ref v0), some (.ref v1), some (.int v2), some (.int v3), some (.ref v4), some (.ref v5), some (.int v6), none, none, none] [] h := by
  unfold F_X8_solve_194 at hF
  refine am_iinc (ls' := [some (.ref v0), some (.ref v1), some (.int v2), some (.int v3), some (.ref v4), some (.ref v5), some (.int (v6 + (1 : Int32))), none, none, none]) (pc' := 197) (v := (v6 + (1 : Int32))) dX8_solve_194 rfl rfl (Nat.le_of_ble_eq_true rfl) rfl rfl ?_
  refine am_goto (pc' := 31) dX8_solve_197 rfl ?_
  exact j31 v0 v1 v2 v3 v4 v5 (v6 + (1 : Int32)) h hF
def F_X8_solve_169 (k31 : Nat → Nat → Int32 → Int32 → Nat → Nat → Int32 → am_H → Option am_H) (v0 : Nat) (v1 : Nat) (v2 : Int32) (v3 : Int32) (v4 : Nat) (v5 : Nat) (v6 : Int32) (v7 : Int32) (v9 : Int32) (h : am_H) : Option am_H :=
  if v4 = 0 then
    F_X8_solve_194 k31 v0 v1 v2 v3 v4 v5 v6 h
  else
    (am_gr 0 0 v4 h).bind fun x2 =>
    (F_J9_floorMod_7cf53 (v7 - v9) (17 : Int32) h).bind fun x3 =>
    (F_X4_set x2 v6 x3 h).bind fun h4 =>
    F_X8_solve_194 k31 v0 v1 v2 v3 v4 v5 v6 h4
theorem w_X8_solve_169 {g : am_G} {l : Launch} {h0 : am_H} {hf : am_H}  {k31 : Nat → Nat → Int32 → Int32 → Nat → Nat → Int32 → am_H → Option am_H} (j31 : ∀ (v0 : Nat) (v1 : Nat) (v2 : Int32) (v3 : Int32) (v4 : Nat) (v5 : Nat) (v6 : Int32) (h : am_H), k31 v0 v1 v2 v3 v4 v5 v6 h = some hf → am_W g l M_X8_solve h0 none hf 31 [some (.ref v0), some (.ref v1), some (.int v2), some (.int v3), some (.ref v4), some (.ref v5), some (.int v6), none, none, none] [] h) (v0 : Nat) (v1 : Nat) (v2 : Int32) (v3 : Int32) (v4 : Nat) (v5 : Nat) (v6 : Int32) (v7 : Int32) (v9 : Int32) (h : am_H) (hF : F_X8_solve_169 k31 v0 v1 v2 v3 v4 v5 v6 v7 v9 h = some hf) : am_W g l M_X8_solve h0 none hf 169 [some (.ref v0), some (.ref v1), some (.int v2), some (.int v3), some (.ref v4), some (.ref v5), some (.int v6), some (.int v7), none, some (.int v9)] [] h := by
  unfold F_X8_solve_169 at hF
  refine am_aload (pc' := 171) dX8_solve_169 rfl rfl ?_
  rcases am_ite hF with ⟨z1, hF⟩ | ⟨z1, hF⟩
  · refine am_ifnull_t (pc' := 194) dX8_solve_171 rfl z1 ?_
    exact am_weak [true, true, true, true, true, true, true, false, false, false] (w_X8_solve_194 j31 v0 v1 v2 v3 v4 v5 v6 h hF)
  · refine am_ifnull_f (pc' := 174) dX8_solve_171 z1 rfl ?_
    refine am_aload (pc' := 176) dX8_solve_174 rfl rfl ?_
    obtain ⟨x2, ex2, hF⟩ := am_bind hF
    refine am_getr (pc' := 179) dX8_solve_176 fw_X8_180 ex2 rfl ?_
    refine am_iload (pc' := 181) dX8_solve_179 rfl rfl ?_
    refine am_iload (pc' := 183) dX8_solve_181 rfl rfl ?_
    refine am_iload (pc' := 185) dX8_solve_183 rfl rfl ?_
    refine am_isub (pc' := 186) dX8_solve_185 rfl ?_
    refine am_bipush (v := (17 : Int32)) (pc' := 188) dX8_solve_186 rfl rfl ?_
    obtain ⟨x3, ex3, hF⟩ := am_bind hF
    refine am_callS1 (Mc := M_J9_floorMod_7cf53) (As := [.int (v7 - v9), .int (17 : Int32)]) (st := [.int v6, .ref x2]) (pc' := 191) dX8_solve_188 cw_X8_361 wd_4_51 (by decide) (by decide) rfl rfl (Nat.le_of_ble_eq_true rfl) (c_J9_floorMod_7cf53 ex3) rfl ?_
    obtain ⟨h4, eh4, hF⟩ := am_bind hF
    obtain ⟨oh4, ph4⟩ := t_X4_set eh4
    refine am_callV0 (Mc := M_X4_set) (As := [.int v6, .int x3]) (st := []) (pc' := 194) dX8_solve_191 cw_X8_364 wd_4_26 wd_4_27 ⟨_, rfl, rfl⟩ (by decide) (by decide) rfl rfl (Nat.le_of_ble_eq_true rfl) ph4 (c_X4_set eh4) rfl ?_
    exact am_weak [true, true, true, true, true, true, true, false, false, false] (w_X8_solve_194 j31 v0 v1 v2 v3 v4 v5 v6 h4 hF)
def F_X8_solve_63 (k31 : Nat → Nat → Int32 → Int32 → Nat → Nat → Int32 → am_H → Option am_H) : Nat → Nat → Nat → Int32 → Int32 → Nat → Nat → Int32 → Int32 → Int32 → Int32 → am_H → Option am_H
  | 0, _, _, _, _, _, _, _, _, _, _, _ => none
  | n + 1, v0, v1, v2, v3, v4, v5, v6, v7, v8, v9, h =>
  (am_gr 7 0 v1 h).bind fun x1 =>
  (F_X4_length x1 h).bind fun x2 =>
  if x2 ≤ v9 then
    if v5 = 0 then
      F_X8_solve_169 k31 v0 v1 v2 v3 v4 v5 v6 v7 (0 : Int32) h
    else
      (F_X8_inverse (v3 - v2) h).bind fun x5 =>
      (F_J9_floorMod_7cf53 ((v8 - ((v2 + (1 : Int32)) * v7)) * x5) (17 : Int32) h).bind fun x6 =>
      (am_gr 0 0 v5 h).bind fun x7 =>
      (F_X4_set x7 v6 x6 h).bind fun h8 =>
      F_X8_solve_169 k31 v0 v1 v2 v3 v4 v5 v6 v7 x6 h8
  else
    if v9 = v2 then
      F_X8_solve_120 k31 (F_X8_solve_63 k31 n) v0 v1 v2 v3 v4 v5 v6 v7 v8 v9 h
    else
      if v9 = v3 then
        F_X8_solve_120 k31 (F_X8_solve_63 k31 n) v0 v1 v2 v3 v4 v5 v6 v7 v8 v9 h
      else
        (F_X8_numberIn v0 v1 v9 v6 h).bind fun x11 =>
        (F_X8_numberIn v0 v1 v9 v6 h).bind fun x12 =>
        F_X8_solve_120 k31 (F_X8_solve_63 k31 n) v0 v1 v2 v3 v4 v5 v6 (v7 - x11) (v8 - ((v9 + (1 : Int32)) * x12)) v9 h
theorem w_X8_solve_63 {g : am_G} {l : Launch} {h0 : am_H} {hf : am_H}  {k31 : Nat → Nat → Int32 → Int32 → Nat → Nat → Int32 → am_H → Option am_H} (j31 : ∀ (v0 : Nat) (v1 : Nat) (v2 : Int32) (v3 : Int32) (v4 : Nat) (v5 : Nat) (v6 : Int32) (h : am_H), k31 v0 v1 v2 v3 v4 v5 v6 h = some hf → am_W g l M_X8_solve h0 none hf 31 [some (.ref v0), some (.ref v1), some (.int v2), some (.int v3), some (.ref v4), some (.ref v5), some (.int v6), none, none, none] [] h) : ∀ (n : Nat) (v0 : Nat) (v1 : Nat) (v2 : Int32) (v3 : Int32) (v4 : Nat) (v5 : Nat) (v6 : Int32) (v7 : Int32) (v8 : Int32) (v9 : Int32) (h : am_H), F_X8_solve_63 k31 n v0 v1 v2 v3 v4 v5 v6 v7 v8 v9 h = some hf → am_W g l M_X8_solve h0 none hf 63 [some (.ref v0), some (.ref v1), some (.int v2), some (.int v3), some (.ref v4), some (.ref v5), some (.int v6), some (.int v7), some (.int v8), some (.int v9)] [] h
  | 0, _, _, _, _, _, _, _, _, _, _, _, hF => by cases hF
  | n + 1, v0, v1, v2, v3, v4, v5, v6, v7, v8, v9, h, hF => by
    rw [F_X8_solve_63] at hF
    refine am_iload (pc' := 65) dX8_solve_63 rfl rfl ?_
    refine am_aload_n (pc' := 66) dX8_solve_65 rfl rfl ?_
    obtain ⟨x1, ex1, hF⟩ := am_bind hF
    refine am_getr (pc' := 69) dX8_solve_66 fw_X8_148 ex1 rfl ?_
    obtain ⟨x2, ex2, hF⟩ := am_bind hF
    obtain ⟨ox2, px2⟩ := t_X4_length ex2
    refine am_callV1 (Mc := M_X4_length) (As := []) (st := [.int v9]) (pc' := 72) dX8_solve_69 cw_X8_93 wd_1_235 wd_1_236 ⟨_, rfl, rfl⟩ (by decide) (by decide) rfl rfl (Nat.le_of_ble_eq_true rfl) px2 (c_X4_length ex2) rfl ?_
    rcases am_ite hF with ⟨z3, hF⟩ | ⟨z3, hF⟩
    · refine am_icmp_ge_t (pc' := 126) dX8_solve_72 rfl z3 ?_
      refine am_iconst (v := (0 : Int32)) (pc' := 127) dX8_solve_126 rfl rfl ?_
      refine am_istore (ls' := [some (.ref v0), some (.ref v1), some (.int v2), some (.int v3), some (.ref v4), some (.ref v5), some (.int v6), some (.int v7), some (.int v8), some (.int (0 : Int32))]) (pc' := 129) dX8_solve_127 (Nat.le_of_ble_eq_true rfl) rfl rfl ?_
      refine am_aload (pc' := 131) dX8_solve_129 rfl rfl ?_
      rcases am_ite hF with ⟨z4, hF⟩ | ⟨z4, hF⟩
      · refine am_ifnull_t (pc' := 169) dX8_solve_131 rfl z4 ?_
        exact am_weak [true, true, true, true, true, true, true, true, false, true] (w_X8_solve_169 j31 v0 v1 v2 v3 v4 v5 v6 v7 (0 : Int32) h hF)
      · refine am_ifnull_f (pc' := 134) dX8_solve_131 z4 rfl ?_
        refine am_iload (pc' := 136) dX8_solve_134 rfl rfl ?_
        refine am_iload_n (pc' := 137) dX8_solve_136 rfl rfl ?_
        refine am_iconst (v := (1 : Int32)) (pc' := 138) dX8_solve_137 rfl rfl ?_
        refine am_iadd (pc' := 139) dX8_solve_138 rfl ?_
        refine am_iload (pc' := 141) dX8_solve_139 rfl rfl ?_
        refine am_imul (pc' := 142) dX8_solve_141 rfl ?_
        refine am_isub (pc' := 143) dX8_solve_142 rfl ?_
        refine am_iload_n (pc' := 144) dX8_solve_143 rfl rfl ?_
        refine am_iload_n (pc' := 145) dX8_solve_144 rfl rfl ?_
        refine am_isub (pc' := 146) dX8_solve_145 rfl ?_
        obtain ⟨x5, ex5, hF⟩ := am_bind hF
        refine am_callS1 (Mc := M_X8_inverse) (As := [.int (v3 - v2)]) (st := [.int (v8 - ((v2 + (1 : Int32)) * v7))]) (pc' := 149) dX8_solve_146 cw_X8_358 wd_4_46 (by decide) (by decide) rfl rfl (Nat.le_of_ble_eq_true rfl) (c_X8_inverse ex5) rfl ?_
        refine am_imul (pc' := 150) dX8_solve_149 rfl ?_
        refine am_bipush (v := (17 : Int32)) (pc' := 152) dX8_solve_150 rfl rfl ?_
        obtain ⟨x6, ex6, hF⟩ := am_bind hF
        refine am_callS1 (Mc := M_J9_floorMod_7cf53) (As := [.int ((v8 - ((v2 + (1 : Int32)) * v7)) * x5), .int (17 : Int32)]) (st := []) (pc' := 155) dX8_solve_152 cw_X8_361 wd_4_51 (by decide) (by decide) rfl rfl (Nat.le_of_ble_eq_true rfl) (c_J9_floorMod_7cf53 ex6) rfl ?_
        refine am_istore (ls' := [some (.ref v0), some (.ref v1), some (.int v2), some (.int v3), some (.ref v4), some (.ref v5), some (.int v6), some (.int v7), some (.int v8), some (.int x6)]) (pc' := 157) dX8_solve_155 (Nat.le_of_ble_eq_true rfl) rfl rfl ?_
        refine am_aload (pc' := 159) dX8_solve_157 rfl rfl ?_
        obtain ⟨x7, ex7, hF⟩ := am_bind hF
        refine am_getr (pc' := 162) dX8_solve_159 fw_X8_180 ex7 rfl ?_
        refine am_iload (pc' := 164) dX8_solve_162 rfl rfl ?_
        refine am_iload (pc' := 166) dX8_solve_164 rfl rfl ?_
        obtain ⟨h8, eh8, hF⟩ := am_bind hF
        obtain ⟨oh8, ph8⟩ := t_X4_set eh8
        refine am_callV0 (Mc := M_X4_set) (As := [.int v6, .int x6]) (st := []) (pc' := 169) dX8_solve_166 cw_X8_364 wd_4_26 wd_4_27 ⟨_, rfl, rfl⟩ (by decide) (by decide) rfl rfl (Nat.le_of_ble_eq_true rfl) ph8 (c_X4_set eh8) rfl ?_
        exact am_weak [true, true, true, true, true, true, true, true, false, true] (w_X8_solve_169 j31 v0 v1 v2 v3 v4 v5 v6 v7 x6 h8 hF)
    · refine am_icmp_ge_f (pc' := 75) (tgt := 126) dX8_solve_72 rfl z3 rfl ?_
      refine am_iload (pc' := 77) dX8_solve_75 rfl rfl ?_
      refine am_iload_n (pc' := 78) dX8_solve_77 rfl rfl ?_
      rcases am_ite hF with ⟨z9, hF⟩ | ⟨z9, hF⟩
      · refine am_icmp_eq_t (pc' := 120) dX8_solve_78 rfl z9 ?_
        exact w_X8_solve_120 j31 (w_X8_solve_63 j31 n) v0 v1 v2 v3 v4 v5 v6 v7 v8 v9 h hF
      · refine am_icmp_eq_f (pc' := 81) (tgt := 120) dX8_solve_78 rfl z9 rfl ?_
        refine am_iload (pc' := 83) dX8_solve_81 rfl rfl ?_
        refine am_iload_n (pc' := 84) dX8_solve_83 rfl rfl ?_
        rcases am_ite hF with ⟨z10, hF⟩ | ⟨z10, hF⟩
        · refine am_icmp_eq_t (pc' := 120) dX8_solve_84 rfl z10 ?_
          exact w_X8_solve_120 j31 (w_X8_solve_63 j31 n) v0 v1 v2 v3 v4 v5 v6 v7 v8 v9 h hF
        · refine am_icmp_eq_f (pc' := 87) (tgt := 120) dX8_solve_84 rfl z10 rfl ?_
          refine am_iload (pc' := 89) dX8_solve_87 rfl rfl ?_
          refine am_aload_n (pc' := 90) dX8_solve_89 rfl rfl ?_
          refine am_aload_n (pc' := 91) dX8_solve_90 rfl rfl ?_
          refine am_iload (pc' := 93) dX8_solve_91 rfl rfl ?_
          refine am_iload (pc' := 95) dX8_solve_93 rfl rfl ?_
          obtain ⟨x11, ex11, hF⟩ := am_bind hF
          obtain ⟨ox11, px11⟩ := t_X8_numberIn ex11
          refine am_callV1 (Mc := M_X8_numberIn) (As := [.ref v1, .int v9, .int v6]) (st := [.int v7]) (pc' := 98) dX8_solve_95 cw_X8_355 wd_2_123 sl_X8_numberIn ⟨_, rfl, rfl⟩ (by decide) (by decide) rfl rfl (Nat.le_of_ble_eq_true rfl) px11 (c_X8_numberIn ex11) rfl ?_
          refine am_isub (pc' := 99) dX8_solve_98 rfl ?_
          refine am_istore (ls' := [some (.ref v0), some (.ref v1), some (.int v2), some (.int v3), some (.ref v4), some (.ref v5), some (.int v6), some (.int (v7 - x11)), some (.int v8), some (.int v9)]) (pc' := 101) dX8_solve_99 (Nat.le_of_ble_eq_true rfl) rfl rfl ?_
          refine am_iload (pc' := 103) dX8_solve_101 rfl rfl ?_
          refine am_iload (pc' := 105) dX8_solve_103 rfl rfl ?_
          refine am_iconst (v := (1 : Int32)) (pc' := 106) dX8_solve_105 rfl rfl ?_
          refine am_iadd (pc' := 107) dX8_solve_106 rfl ?_
          refine am_aload_n (pc' := 108) dX8_solve_107 rfl rfl ?_
          refine am_aload_n (pc' := 109) dX8_solve_108 rfl rfl ?_
          refine am_iload (pc' := 111) dX8_solve_109 rfl rfl ?_
          refine am_iload (pc' := 113) dX8_solve_111 rfl rfl ?_
          obtain ⟨x12, ex12, hF⟩ := am_bind hF
          obtain ⟨ox12, px12⟩ := t_X8_numberIn ex12
          refine am_callV1 (Mc := M_X8_numberIn) (As := [.ref v1, .int v9, .int v6]) (st := [.int (v9 + (1 : Int32)), .int v8]) (pc' := 116) dX8_solve_113 cw_X8_355 wd_2_123 sl_X8_numberIn ⟨_, rfl, rfl⟩ (by decide) (by decide) rfl rfl (Nat.le_of_ble_eq_true rfl) px12 (c_X8_numberIn ex12) rfl ?_
          refine am_imul (pc' := 117) dX8_solve_116 rfl ?_
          refine am_isub (pc' := 118) dX8_solve_117 rfl ?_
          refine am_istore (ls' := [some (.ref v0), some (.ref v1), some (.int v2), some (.int v3), some (.ref v4), some (.ref v5), some (.int v6), some (.int (v7 - x11)), some (.int (v8 - ((v9 + (1 : Int32)) * x12))), some (.int v9)]) (pc' := 120) dX8_solve_118 (Nat.le_of_ble_eq_true rfl) rfl rfl ?_
          exact w_X8_solve_120 j31 (w_X8_solve_63 j31 n) v0 v1 v2 v3 v4 v5 v6 (v7 - x11) (v8 - ((v9 + (1 : Int32)) * x12)) v9 h hF
def F_X8_solve_31 : Nat → Nat → Nat → Int32 → Int32 → Nat → Nat → Int32 → am_H → Option am_H
  | 0, _, _, _, _, _, _, _, _ => none
  | n + 1, v0, v1, v2, v3, v4, v5, v6, h =>
  if (24 : Int32) ≤ v6 then
    (F_X8_mend v4 h).bind fun h2 =>
    (F_X8_mend v5 h2).bind fun h3 =>
    some h3
  else
    (am_gr 7 4 v1 h).bind fun x4 =>
    (F_X4_at x4 v6 h).bind fun x5 =>
    (am_gr 7 5 v1 h).bind fun x6 =>
    (F_X4_at x6 v6 h).bind fun x7 =>
    F_X8_solve_63 (F_X8_solve_31 n) am_F v0 v1 v2 v3 v4 v5 v6 x5 x7 (0 : Int32) h
theorem w_X8_solve_31 {g : am_G} {l : Launch} {h0 : am_H} {hf : am_H}  : ∀ (n : Nat) (v0 : Nat) (v1 : Nat) (v2 : Int32) (v3 : Int32) (v4 : Nat) (v5 : Nat) (v6 : Int32) (h : am_H), F_X8_solve_31 n v0 v1 v2 v3 v4 v5 v6 h = some hf → am_W g l M_X8_solve h0 none hf 31 [some (.ref v0), some (.ref v1), some (.int v2), some (.int v3), some (.ref v4), some (.ref v5), some (.int v6), none, none, none] [] h
  | 0, _, _, _, _, _, _, _, _, hF => by cases hF
  | n + 1, v0, v1, v2, v3, v4, v5, v6, h, hF => by
    rw [F_X8_solve_31] at hF
    refine am_iload (pc' := 33) dX8_solve_31 rfl rfl ?_
    refine am_bipush (v := (24 : Int32)) (pc' := 35) dX8_solve_33 rfl rfl ?_
    rcases am_ite hF with ⟨z1, hF⟩ | ⟨z1, hF⟩
    · refine am_icmp_ge_t (pc' := 200) dX8_solve_35 rfl z1 ?_
      refine am_aload (pc' := 202) dX8_solve_200 rfl rfl ?_
      obtain ⟨h2, eh2, hF⟩ := am_bind hF
      refine am_callS0 (Mc := M_X8_mend) (As := [.ref v4]) (st := []) (pc' := 205) dX8_solve_202 cw_X8_368 wd_4_55 (by decide) (by decide) rfl rfl (Nat.le_of_ble_eq_true rfl) (c_X8_mend eh2) rfl ?_
      refine am_aload (pc' := 207) dX8_solve_205 rfl rfl ?_
      obtain ⟨h3, eh3, hF⟩ := am_bind hF
      refine am_callS0 (Mc := M_X8_mend) (As := [.ref v5]) (st := []) (pc' := 210) dX8_solve_207 cw_X8_368 wd_4_55 (by decide) (by decide) rfl rfl (Nat.le_of_ble_eq_true rfl) (c_X8_mend eh3) rfl ?_
      cases hF
      exact am_vret dX8_solve_210 rfl
    · refine am_icmp_ge_f (pc' := 38) (tgt := 200) dX8_solve_35 rfl z1 rfl ?_
      refine am_aload_n (pc' := 39) dX8_solve_38 rfl rfl ?_
      obtain ⟨x4, ex4, hF⟩ := am_bind hF
      refine am_getr (pc' := 42) dX8_solve_39 fw_X8_294 ex4 rfl ?_
      refine am_iload (pc' := 44) dX8_solve_42 rfl rfl ?_
      obtain ⟨x5, ex5, hF⟩ := am_bind hF
      obtain ⟨ox5, px5⟩ := t_X4_at ex5
      refine am_callV1 (Mc := M_X4_at) (As := [.int v6]) (st := []) (pc' := 47) dX8_solve_44 cw_X8_161 wd_2_40 wd_2_41 ⟨_, rfl, rfl⟩ (by decide) (by decide) rfl rfl (Nat.le_of_ble_eq_true rfl) px5 (c_X4_at ex5) rfl ?_
      refine am_istore (ls' := [some (.ref v0), some (.ref v1), some (.int v2), some (.int v3), some (.ref v4), some (.ref v5), some (.int v6), some (.int x5), none, none]) (pc' := 49) dX8_solve_47 (Nat.le_of_ble_eq_true rfl) rfl rfl ?_
      refine am_aload_n (pc' := 50) dX8_solve_49 rfl rfl ?_
      obtain ⟨x6, ex6, hF⟩ := am_bind hF
      refine am_getr (pc' := 53) dX8_solve_50 fw_X8_297 ex6 rfl ?_
      refine am_iload (pc' := 55) dX8_solve_53 rfl rfl ?_
      obtain ⟨x7, ex7, hF⟩ := am_bind hF
      obtain ⟨ox7, px7⟩ := t_X4_at ex7
      refine am_callV1 (Mc := M_X4_at) (As := [.int v6]) (st := []) (pc' := 58) dX8_solve_55 cw_X8_161 wd_2_40 wd_2_41 ⟨_, rfl, rfl⟩ (by decide) (by decide) rfl rfl (Nat.le_of_ble_eq_true rfl) px7 (c_X4_at ex7) rfl ?_
      refine am_istore (ls' := [some (.ref v0), some (.ref v1), some (.int v2), some (.int v3), some (.ref v4), some (.ref v5), some (.int v6), some (.int x5), some (.int x7), none]) (pc' := 60) dX8_solve_58 (Nat.le_of_ble_eq_true rfl) rfl rfl ?_
      refine am_iconst (v := (0 : Int32)) (pc' := 61) dX8_solve_60 rfl rfl ?_
      refine am_istore (ls' := [some (.ref v0), some (.ref v1), some (.int v2), some (.int v3), some (.ref v4), some (.ref v5), some (.int v6), some (.int x5), some (.int x7), some (.int (0 : Int32))]) (pc' := 63) dX8_solve_61 (Nat.le_of_ble_eq_true rfl) rfl rfl ?_
      exact w_X8_solve_63 (w_X8_solve_31 n) am_F v0 v1 v2 v3 v4 v5 v6 x5 x7 (0 : Int32) h hF
def F_X8_solve_b (v0 : Nat) (v1 : Nat) (v2 : Int32) (v3 : Int32) (h : am_H) : Option am_H :=
  (am_gr 7 0 v1 h).bind fun x1 =>
  (F_X4_at x1 v2 h).bind fun x2 =>
  (F_X8_blockOf v0 x2 h).bind fun x3 =>
  (am_gr 7 0 v1 h).bind fun x4 =>
  (F_X4_at x4 v3 h).bind fun x5 =>
  (F_X8_blockOf v0 x5 h).bind fun x6 =>
  F_X8_solve_31 am_F v0 v1 v2 v3 x3 x6 (0 : Int32) h
theorem w_X8_solve {g : am_G} {l : Launch} {h0 : am_H} {hf : am_H}  (v0 : Nat) (v1 : Nat) (v2 : Int32) (v3 : Int32) (h : am_H) (hF : F_X8_solve_b v0 v1 v2 v3 h = some hf) : am_W g l M_X8_solve h0 none hf 0 [some (.ref v0), some (.ref v1), some (.int v2), some (.int v3), none, none, none, none, none, none] [] h := by
  unfold F_X8_solve_b at hF
  refine am_aload_n (pc' := 1) dX8_solve_0 rfl rfl ?_
  refine am_aload_n (pc' := 2) dX8_solve_1 rfl rfl ?_
  obtain ⟨x1, ex1, hF⟩ := am_bind hF
  refine am_getr (pc' := 5) dX8_solve_2 fw_X8_148 ex1 rfl ?_
  refine am_iload_n (pc' := 6) dX8_solve_5 rfl rfl ?_
  obtain ⟨x2, ex2, hF⟩ := am_bind hF
  obtain ⟨ox2, px2⟩ := t_X4_at ex2
  refine am_callV1 (Mc := M_X4_at) (As := [.int v2]) (st := [.ref v0]) (pc' := 9) dX8_solve_6 cw_X8_161 wd_2_40 wd_2_41 ⟨_, rfl, rfl⟩ (by decide) (by decide) rfl rfl (Nat.le_of_ble_eq_true rfl) px2 (c_X4_at ex2) rfl ?_
  obtain ⟨x3, ex3, hF⟩ := am_bind hF
  obtain ⟨ox3, px3⟩ := t_X8_blockOf ex3
  refine am_callV1 (Mc := M_X8_blockOf) (As := [.int x2]) (st := []) (pc' := 12) dX8_solve_9 cw_X8_176 wd_2_33 sl_X8_blockOf ⟨_, rfl, rfl⟩ (by decide) (by decide) rfl rfl (Nat.le_of_ble_eq_true rfl) px3 (c_X8_blockOf ex3) rfl ?_
  refine am_astore (ls' := [some (.ref v0), some (.ref v1), some (.int v2), some (.int v3), some (.ref x3), none, none, none, none, none]) (pc' := 14) dX8_solve_12 (Nat.le_of_ble_eq_true rfl) rfl rfl ?_
  refine am_aload_n (pc' := 15) dX8_solve_14 rfl rfl ?_
  refine am_aload_n (pc' := 16) dX8_solve_15 rfl rfl ?_
  obtain ⟨x4, ex4, hF⟩ := am_bind hF
  refine am_getr (pc' := 19) dX8_solve_16 fw_X8_148 ex4 rfl ?_
  refine am_iload_n (pc' := 20) dX8_solve_19 rfl rfl ?_
  obtain ⟨x5, ex5, hF⟩ := am_bind hF
  obtain ⟨ox5, px5⟩ := t_X4_at ex5
  refine am_callV1 (Mc := M_X4_at) (As := [.int v3]) (st := [.ref v0]) (pc' := 23) dX8_solve_20 cw_X8_161 wd_2_40 wd_2_41 ⟨_, rfl, rfl⟩ (by decide) (by decide) rfl rfl (Nat.le_of_ble_eq_true rfl) px5 (c_X4_at ex5) rfl ?_
  obtain ⟨x6, ex6, hF⟩ := am_bind hF
  obtain ⟨ox6, px6⟩ := t_X8_blockOf ex6
  refine am_callV1 (Mc := M_X8_blockOf) (As := [.int x5]) (st := []) (pc' := 26) dX8_solve_23 cw_X8_176 wd_2_33 sl_X8_blockOf ⟨_, rfl, rfl⟩ (by decide) (by decide) rfl rfl (Nat.le_of_ble_eq_true rfl) px6 (c_X8_blockOf ex6) rfl ?_
  refine am_astore (ls' := [some (.ref v0), some (.ref v1), some (.int v2), some (.int v3), some (.ref x3), some (.ref x6), none, none, none, none]) (pc' := 28) dX8_solve_26 (Nat.le_of_ble_eq_true rfl) rfl rfl ?_
  refine am_iconst (v := (0 : Int32)) (pc' := 29) dX8_solve_28 rfl rfl ?_
  refine am_istore (ls' := [some (.ref v0), some (.ref v1), some (.int v2), some (.int v3), some (.ref x3), some (.ref x6), some (.int (0 : Int32)), none, none, none]) (pc' := 31) dX8_solve_29 (Nat.le_of_ble_eq_true rfl) rfl rfl ?_
  exact w_X8_solve_31 am_F v0 v1 v2 v3 x3 x6 (0 : Int32) h hF
def F_X8_solve (v0 : Nat) (v1 : Nat) (v2 : Int32) (v3 : Int32) (h : am_H) : Option am_H := (am_obj v0 8 h).bind fun _ => F_X8_solve_b v0 v1 v2 v3 h
theorem t_X8_solve {hf : am_H}  {v0 : Nat} {v1 : Nat} {v2 : Int32} {v3 : Int32} {h : am_H} (hF : F_X8_solve v0 v1 v2 v3 h = some hf) : ∃ fs, am_obj v0 8 h = some fs := by
  obtain ⟨fs, e, _⟩ := am_bind hF
  exact ⟨fs, e⟩
theorem c_X8_solve {g : am_G} {l : Launch} {hf : am_H}  {v0 : Nat} {v1 : Nat} {v2 : Int32} {v3 : Int32} {h : am_H} (hF : F_X8_solve v0 v1 v2 v3 h = some hf) : am_Met g l M_X8_solve [.ref v0, .ref v1, .int v2, .int v3] h none hf := by
  obtain ⟨fs, e0, e⟩ := am_bind hF
  exact am_met (n := 6) (by decide +kernel) rfl (Nat.le_of_ble_eq_true rfl) (w_X8_solve v0 v1 v2 v3 h e)
theorem cw_X8_300 : am_cw "SignCellar" 300 M_X8_nextTorn 2 := ⟨wd_1_1, wd_4_40, ⟨by decide, by decide, by decide⟩, Or.inl wd_4_37⟩
theorem cw_X8_303 : am_cw "SignCellar" 303 M_X8_solve 3 := ⟨wd_1_1, wd_4_44, ⟨by decide, by decide, by decide⟩, Or.inl wd_4_41⟩
theorem sl_X8_nextTorn : Cond.selects (⟨"SignCellar", "nextTorn", "(LSignCellar$Version;I)I"⟩ : MethodName).cls ⟨"SignCellar", "nextTorn", "(LSignCellar$Version;I)I"⟩ ⟨"SignCellar", "nextTorn", "(LSignCellar$Version;I)I"⟩ ∈ am_ts := am_in_p (q := (⟨"SignCellar", "nextTorn", "(LSignCellar$Version;I)I"⟩, 16)) (by decide +kernel)
theorem sl_X8_solve : Cond.selects (⟨"SignCellar", "solve", "(LSignCellar$Version;II)V"⟩ : MethodName).cls ⟨"SignCellar", "solve", "(LSignCellar$Version;II)V"⟩ ⟨"SignCellar", "solve", "(LSignCellar$Version;II)V"⟩ ∈ am_ts := am_in_p (q := (⟨"SignCellar", "solve", "(LSignCellar$Version;II)V"⟩, 16)) (by decide +kernel)
def F_X8_restore_29 (h : am_H) : Option (Int32 × am_H) :=
  some ((-100003 : Int32), h)
theorem w_X8_restore_29 {g : am_G} {l : Launch} {h0 : am_H} {x : Int32} {hf : am_H}  (h : am_H) (hF : F_X8_restore_29 h = some (x, hf)) : am_W g l M_X8_restore h0 (some (.int x)) hf 29 [none, none, none, none, none, none] [] h := by
  unfold F_X8_restore_29 at hF
  refine am_ldc (v := (-100003 : Int32)) (pc' := 31) dX8_restore_29 wd_2_7 rfl ?_
  cases hF
  exact am_iret dX8_restore_31 rfl rfl
def F_X8_restore_b (v0 : Nat) (v1 : Int32) (h : am_H) : Option (Int32 × am_H) :=
  (F_X8_versionOf v0 v1 h).bind fun x1 =>
  if x1 = 0 then
    some ((-100001 : Int32), h)
  else
    (F_X8_tornBlocks v0 x1 h).bind fun x3 =>
    if x3 < (1 : Int32) then
      F_X8_restore_29 h
    else
      if x3 ≤ (2 : Int32) then
        (F_X8_nextTorn v0 x1 (0 : Int32) h).bind fun x6 =>
        (F_X8_nextTorn v0 x1 (x6 + (1 : Int32)) h).bind fun x7 =>
        (am_gr 7 0 x1 h).bind fun x8 =>
        (F_X4_at x8 x6 h).bind fun x9 =>
        (am_gr 7 0 x1 h).bind fun x10 =>
        (F_X4_at x10 x7 h).bind fun x11 =>
        if x9 = x11 then
          some ((-100003 : Int32), h)
        else
          (F_X8_solve v0 x1 x6 x7 h).bind fun h13 =>
          some (x3, h13)
      else
        F_X8_restore_29 h
theorem w_X8_restore {g : am_G} {l : Launch} {h0 : am_H} {x : Int32} {hf : am_H}  (v0 : Nat) (v1 : Int32) (h : am_H) (hF : F_X8_restore_b v0 v1 h = some (x, hf)) : am_W g l M_X8_restore h0 (some (.int x)) hf 0 [some (.ref v0), some (.int v1), none, none, none, none] [] h := by
  unfold F_X8_restore_b at hF
  refine am_aload_n (pc' := 1) dX8_restore_0 rfl rfl ?_
  refine am_iload_n (pc' := 2) dX8_restore_1 rfl rfl ?_
  obtain ⟨x1, ex1, hF⟩ := am_bind hF
  obtain ⟨ox1, px1⟩ := t_X8_versionOf ex1
  refine am_callV1 (Mc := M_X8_versionOf) (As := [.int v1]) (st := []) (pc' := 5) dX8_restore_2 cw_X8_126 wd_2_135 sl_X8_versionOf ⟨_, rfl, rfl⟩ (by decide) (by decide) rfl rfl (Nat.le_of_ble_eq_true rfl) px1 (c_X8_versionOf ex1) rfl ?_
  refine am_astore_n (ls' := [some (.ref v0), some (.int v1), some (.ref x1), none, none, none]) (pc' := 6) dX8_restore_5 (Nat.le_of_ble_eq_true rfl) rfl rfl ?_
  refine am_aload_n (pc' := 7) dX8_restore_6 rfl rfl ?_
  rcases am_ite hF with ⟨z2, hF⟩ | ⟨z2, hF⟩
  · refine am_ifnonnull_f (pc' := 10) dX8_restore_7 z2 rfl ?_
    refine am_ldc (v := (-100001 : Int32)) (pc' := 12) dX8_restore_10 wd_2_137 rfl ?_
    cases hF
    exact am_iret dX8_restore_12 rfl rfl
  · refine am_ifnonnull_t (pc' := 13) dX8_restore_7 rfl z2 ?_
    refine am_aload_n (pc' := 14) dX8_restore_13 rfl rfl ?_
    refine am_aload_n (pc' := 15) dX8_restore_14 rfl rfl ?_
    obtain ⟨x3, ex3, hF⟩ := am_bind hF
    obtain ⟨ox3, px3⟩ := t_X8_tornBlocks ex3
    refine am_callV1 (Mc := M_X8_tornBlocks) (As := [.ref x1]) (st := []) (pc' := 18) dX8_restore_15 cw_X8_157 wd_2_147 sl_X8_tornBlocks ⟨_, rfl, rfl⟩ (by decide) (by decide) rfl rfl (Nat.le_of_ble_eq_true rfl) px3 (c_X8_tornBlocks ex3) rfl ?_
    refine am_istore_n (ls' := [some (.ref v0), some (.int v1), some (.ref x1), some (.int x3), none, none]) (pc' := 19) dX8_restore_18 (Nat.le_of_ble_eq_true rfl) rfl rfl ?_
    refine am_iload_n (pc' := 20) dX8_restore_19 rfl rfl ?_
    refine am_iconst (v := (1 : Int32)) (pc' := 21) dX8_restore_20 rfl rfl ?_
    rcases am_ite hF with ⟨z4, hF⟩ | ⟨z4, hF⟩
    · refine am_icmp_lt_t (pc' := 29) dX8_restore_21 rfl z4 ?_
      exact am_weak [false, false, false, false, false, false] (w_X8_restore_29 h hF)
    · refine am_icmp_lt_f (pc' := 24) (tgt := 29) dX8_restore_21 rfl z4 rfl ?_
      refine am_iload_n (pc' := 25) dX8_restore_24 rfl rfl ?_
      refine am_iconst (v := (2 : Int32)) (pc' := 26) dX8_restore_25 rfl rfl ?_
      rcases am_ite hF with ⟨z5, hF⟩ | ⟨z5, hF⟩
      · refine am_icmp_le_t (pc' := 32) dX8_restore_26 rfl z5 ?_
        refine am_aload_n (pc' := 33) dX8_restore_32 rfl rfl ?_
        refine am_aload_n (pc' := 34) dX8_restore_33 rfl rfl ?_
        refine am_iconst (v := (0 : Int32)) (pc' := 35) dX8_restore_34 rfl rfl ?_
        obtain ⟨x6, ex6, hF⟩ := am_bind hF
        obtain ⟨ox6, px6⟩ := t_X8_nextTorn ex6
        refine am_callV1 (Mc := M_X8_nextTorn) (As := [.ref x1, .int (0 : Int32)]) (st := []) (pc' := 38) dX8_restore_35 cw_X8_300 wd_4_39 sl_X8_nextTorn ⟨_, rfl, rfl⟩ (by decide) (by decide) rfl rfl (Nat.le_of_ble_eq_true rfl) px6 (c_X8_nextTorn ex6) rfl ?_
        refine am_istore (ls' := [some (.ref v0), some (.int v1), some (.ref x1), some (.int x3), some (.int x6), none]) (pc' := 40) dX8_restore_38 (Nat.le_of_ble_eq_true rfl) rfl rfl ?_
        refine am_aload_n (pc' := 41) dX8_restore_40 rfl rfl ?_
        refine am_aload_n (pc' := 42) dX8_restore_41 rfl rfl ?_
        refine am_iload (pc' := 44) dX8_restore_42 rfl rfl ?_
        refine am_iconst (v := (1 : Int32)) (pc' := 45) dX8_restore_44 rfl rfl ?_
        refine am_iadd (pc' := 46) dX8_restore_45 rfl ?_
        obtain ⟨x7, ex7, hF⟩ := am_bind hF
        obtain ⟨ox7, px7⟩ := t_X8_nextTorn ex7
        refine am_callV1 (Mc := M_X8_nextTorn) (As := [.ref x1, .int (x6 + (1 : Int32))]) (st := []) (pc' := 49) dX8_restore_46 cw_X8_300 wd_4_39 sl_X8_nextTorn ⟨_, rfl, rfl⟩ (by decide) (by decide) rfl rfl (Nat.le_of_ble_eq_true rfl) px7 (c_X8_nextTorn ex7) rfl ?_
        refine am_istore (ls' := [some (.ref v0), some (.int v1), some (.ref x1), some (.int x3), some (.int x6), some (.int x7)]) (pc' := 51) dX8_restore_49 (Nat.le_of_ble_eq_true rfl) rfl rfl ?_
        refine am_aload_n (pc' := 52) dX8_restore_51 rfl rfl ?_
        obtain ⟨x8, ex8, hF⟩ := am_bind hF
        refine am_getr (pc' := 55) dX8_restore_52 fw_X8_148 ex8 rfl ?_
        refine am_iload (pc' := 57) dX8_restore_55 rfl rfl ?_
        obtain ⟨x9, ex9, hF⟩ := am_bind hF
        obtain ⟨ox9, px9⟩ := t_X4_at ex9
        refine am_callV1 (Mc := M_X4_at) (As := [.int x6]) (st := []) (pc' := 60) dX8_restore_57 cw_X8_161 wd_2_40 wd_2_41 ⟨_, rfl, rfl⟩ (by decide) (by decide) rfl rfl (Nat.le_of_ble_eq_true rfl) px9 (c_X4_at ex9) rfl ?_
        refine am_aload_n (pc' := 61) dX8_restore_60 rfl rfl ?_
        obtain ⟨x10, ex10, hF⟩ := am_bind hF
        refine am_getr (pc' := 64) dX8_restore_61 fw_X8_148 ex10 rfl ?_
        refine am_iload (pc' := 66) dX8_restore_64 rfl rfl ?_
        obtain ⟨x11, ex11, hF⟩ := am_bind hF
        obtain ⟨ox11, px11⟩ := t_X4_at ex11
        refine am_callV1 (Mc := M_X4_at) (As := [.int x7]) (st := [.int x9]) (pc' := 69) dX8_restore_66 cw_X8_161 wd_2_40 wd_2_41 ⟨_, rfl, rfl⟩ (by decide) (by decide) rfl rfl (Nat.le_of_ble_eq_true rfl) px11 (c_X4_at ex11) rfl ?_
        rcases am_ite hF with ⟨z12, hF⟩ | ⟨z12, hF⟩
        · refine am_icmp_ne_f (pc' := 72) (tgt := 75) dX8_restore_69 rfl z12 rfl ?_
          refine am_ldc (v := (-100003 : Int32)) (pc' := 74) dX8_restore_72 wd_2_7 rfl ?_
          cases hF
          exact am_iret dX8_restore_74 rfl rfl
        · refine am_icmp_ne_t (pc' := 75) dX8_restore_69 rfl z12 ?_
          refine am_aload_n (pc' := 76) dX8_restore_75 rfl rfl ?_
          refine am_aload_n (pc' := 77) dX8_restore_76 rfl rfl ?_
          refine am_iload (pc' := 79) dX8_restore_77 rfl rfl ?_
          refine am_iload (pc' := 81) dX8_restore_79 rfl rfl ?_
          obtain ⟨h13, eh13, hF⟩ := am_bind hF
          obtain ⟨oh13, ph13⟩ := t_X8_solve eh13
          refine am_callV0 (Mc := M_X8_solve) (As := [.ref x1, .int x6, .int x7]) (st := []) (pc' := 84) dX8_restore_81 cw_X8_303 wd_4_43 sl_X8_solve ⟨_, rfl, rfl⟩ (by decide) (by decide) rfl rfl (Nat.le_of_ble_eq_true rfl) ph13 (c_X8_solve eh13) rfl ?_
          refine am_iload_n (pc' := 85) dX8_restore_84 rfl rfl ?_
          cases hF
          exact am_iret dX8_restore_85 rfl rfl
      · refine am_icmp_le_f (pc' := 29) (tgt := 32) dX8_restore_26 rfl z5 rfl ?_
        exact am_weak [false, false, false, false, false, false] (w_X8_restore_29 h hF)
def F_X8_restore (v0 : Nat) (v1 : Int32) (h : am_H) : Option (Int32 × am_H) := (am_obj v0 8 h).bind fun _ => F_X8_restore_b v0 v1 h
theorem t_X8_restore {x : Int32} {hf : am_H}  {v0 : Nat} {v1 : Int32} {h : am_H} (hF : F_X8_restore v0 v1 h = some (x, hf)) : ∃ fs, am_obj v0 8 h = some fs := by
  obtain ⟨fs, e, _⟩ := am_bind hF
  exact ⟨fs, e⟩
theorem c_X8_restore {g : am_G} {l : Launch} {x : Int32} {hf : am_H}  {v0 : Nat} {v1 : Int32} {h : am_H} (hF : F_X8_restore v0 v1 h = some (x, hf)) : am_Met g l M_X8_restore [.ref v0, .int v1] h (some (.int x)) hf := by
  obtain ⟨fs, e0, e⟩ := am_bind hF
  exact am_met (n := 4) (by decide +kernel) rfl (Nat.le_of_ble_eq_true rfl) (w_X8_restore v0 v1 h e)
def F_X9_restore_84 (k22 : Nat → Int32 → Int32 → Int32 → Int32 → am_H → Option (Int32 × am_H)) (k36 : Nat → Int32 → Int32 → Int32 → Int32 → Int32 → am_H → Option (Int32 × am_H)) (v0 : Nat) (v1 : Int32) (v2 : Int32) (v4 : Int32) (v5 : Int32) (s0 : Int32) (h : am_H) : Option (Int32 × am_H) :=
  k36 v0 v1 v2 s0 v4 (v5 + (1 : Int32)) h
theorem w_X9_restore_84 {g : am_G} {l : Launch} {h0 : am_H} {x : Int32} {hf : am_H}  {k22 : Nat → Int32 → Int32 → Int32 → Int32 → am_H → Option (Int32 × am_H)} {k36 : Nat → Int32 → Int32 → Int32 → Int32 → Int32 → am_H → Option (Int32 × am_H)} (j22 : ∀ (v0 : Nat) (v1 : Int32) (v2 : Int32) (v3 : Int32) (v4 : Int32) (h : am_H), k22 v0 v1 v2 v3 v4 h = some (x, hf) → am_W g l M_X9_restore h0 (some (.int x)) hf 22 [some (.ref v0), some (.int v1), some (.int v2), some (.int v3), some (.int v4), none] [] h) (j36 : ∀ (v0 : Nat) (v1 : Int32) (v2 : Int32) (v3 : Int32) (v4 : Int32) (v5 : Int32) (h : am_H), k36 v0 v1 v2 v3 v4 v5 h = some (x, hf) → am_W g l M_X9_restore h0 (some (.int x)) hf 36 [some (.ref v0), some (.int v1), some (.int v2), some (.int v3), some (.int v4), some (.int v5)] [] h) (v0 : Nat) (v1 : Int32) (v2 : Int32) (v4 : Int32) (v5 : Int32) (s0 : Int32) (h : am_H) (hF : F_X9_restore_84 k22 k36 v0 v1 v2 v4 v5 s0 h = some (x, hf)) : am_W g l M_X9_restore h0 (some (.int x)) hf 84 [some (.ref v0), some (.int v1), some (.int v2), none, some (.int v4), some (.int v5)] [.int s0] h := by
  unfold F_X9_restore_84 at hF
  refine am_istore_n (ls' := [some (.ref v0), some (.int v1), some (.int v2), some (.int s0), some (.int v4), some (.int v5)]) (pc' := 85) dX9_restore_84 (Nat.le_of_ble_eq_true rfl) rfl rfl ?_
  refine am_iinc (ls' := [some (.ref v0), some (.int v1), some (.int v2), some (.int s0), some (.int v4), some (.int (v5 + (1 : Int32)))]) (pc' := 88) (v := (v5 + (1 : Int32))) dX9_restore_85 rfl rfl (Nat.le_of_ble_eq_true rfl) rfl rfl ?_
  refine am_goto (pc' := 36) dX9_restore_88 rfl ?_
  exact j36 v0 v1 v2 s0 v4 (v5 + (1 : Int32)) h hF
def F_X9_restore_79 (k22 : Nat → Int32 → Int32 → Int32 → Int32 → am_H → Option (Int32 × am_H)) (k36 : Nat → Int32 → Int32 → Int32 → Int32 → Int32 → am_H → Option (Int32 × am_H)) (v0 : Nat) (v1 : Int32) (v2 : Int32) (v4 : Int32) (v5 : Int32) (h : am_H) : Option (Int32 × am_H) :=
  F_X9_restore_84 k22 k36 v0 v1 v2 v4 v5 (1 : Int32) h
theorem w_X9_restore_79 {g : am_G} {l : Launch} {h0 : am_H} {x : Int32} {hf : am_H}  {k22 : Nat → Int32 → Int32 → Int32 → Int32 → am_H → Option (Int32 × am_H)} {k36 : Nat → Int32 → Int32 → Int32 → Int32 → Int32 → am_H → Option (Int32 × am_H)} (j22 : ∀ (v0 : Nat) (v1 : Int32) (v2 : Int32) (v3 : Int32) (v4 : Int32) (h : am_H), k22 v0 v1 v2 v3 v4 h = some (x, hf) → am_W g l M_X9_restore h0 (some (.int x)) hf 22 [some (.ref v0), some (.int v1), some (.int v2), some (.int v3), some (.int v4), none] [] h) (j36 : ∀ (v0 : Nat) (v1 : Int32) (v2 : Int32) (v3 : Int32) (v4 : Int32) (v5 : Int32) (h : am_H), k36 v0 v1 v2 v3 v4 v5 h = some (x, hf) → am_W g l M_X9_restore h0 (some (.int x)) hf 36 [some (.ref v0), some (.int v1), some (.int v2), some (.int v3), some (.int v4), some (.int v5)] [] h) (v0 : Nat) (v1 : Int32) (v2 : Int32) (v4 : Int32) (v5 : Int32) (h : am_H) (hF : F_X9_restore_79 k22 k36 v0 v1 v2 v4 v5 h = some (x, hf)) : am_W g l M_X9_restore h0 (some (.int x)) hf 79 [some (.ref v0), some (.int v1), some (.int v2), none, some (.int v4), some (.int v5)] [] h := by
  unfold F_X9_restore_79 at hF
  refine am_iconst (v := (1 : Int32)) (pc' := 80) dX9_restore_79 rfl rfl ?_
  refine am_goto (pc' := 84) dX9_restore_80 rfl ?_
  exact w_X9_restore_84 j22 j36 v0 v1 v2 v4 v5 (1 : Int32) h hF
def F_X9_restore_83 (k22 : Nat → Int32 → Int32 → Int32 → Int32 → am_H → Option (Int32 × am_H)) (k36 : Nat → Int32 → Int32 → Int32 → Int32 → Int32 → am_H → Option (Int32 × am_H)) (v0 : Nat) (v1 : Int32) (v2 : Int32) (v4 : Int32) (v5 : Int32) (h : am_H) : Option (Int32 × am_H) :=
  F_X9_restore_84 k22 k36 v0 v1 v2 v4 v5 (0 : Int32) h
theorem w_X9_restore_83 {g : am_G} {l : Launch} {h0 : am_H} {x : Int32} {hf : am_H}  {k22 : Nat → Int32 → Int32 → Int32 → Int32 → am_H → Option (Int32 × am_H)} {k36 : Nat → Int32 → Int32 → Int32 → Int32 → Int32 → am_H → Option (Int32 × am_H)} (j22 : ∀ (v0 : Nat) (v1 : Int32) (v2 : Int32) (v3 : Int32) (v4 : Int32) (h : am_H), k22 v0 v1 v2 v3 v4 h = some (x, hf) → am_W g l M_X9_restore h0 (some (.int x)) hf 22 [some (.ref v0), some (.int v1), some (.int v2), some (.int v3), some (.int v4), none] [] h) (j36 : ∀ (v0 : Nat) (v1 : Int32) (v2 : Int32) (v3 : Int32) (v4 : Int32) (v5 : Int32) (h : am_H), k36 v0 v1 v2 v3 v4 v5 h = some (x, hf) → am_W g l M_X9_restore h0 (some (.int x)) hf 36 [some (.ref v0), some (.int v1), some (.int v2), some (.int v3), some (.int v4), some (.int v5)] [] h) (v0 : Nat) (v1 : Int32) (v2 : Int32) (v4 : Int32) (v5 : Int32) (h : am_H) (hF : F_X9_restore_83 k22 k36 v0 v1 v2 v4 v5 h = some (x, hf)) : am_W g l M_X9_restore h0 (some (.int x)) hf 83 [some (.ref v0), some (.int v1), some (.int v2), none, some (.int v4), some (.int v5)] [] h := by
  unfold F_X9_restore_83 at hF
  refine am_iconst (v := (0 : Int32)) (pc' := 84) dX9_restore_83 rfl rfl ?_
  exact w_X9_restore_84 j22 j36 v0 v1 v2 v4 v5 (0 : Int32) h hF
def F_X9_restore_36 (k22 : Nat → Int32 → Int32 → Int32 → Int32 → am_H → Option (Int32 × am_H)) : Nat → Nat → Int32 → Int32 → Int32 → Int32 → Int32 → am_H → Option (Int32 × am_H)
  | 0, _, _, _, _, _, _, _ => none
  | n + 1, v0, v1, v2, v3, v4, v5, h =>
  if v4 ≤ v5 then
    k22 v0 v1 v2 v3 (v4 + (1 : Int32)) h
  else
    if v3 = 0 then
      (am_gr 9 5 v0 h).bind fun x3 =>
      (F_X9_blockAt v0 v1 v4 h).bind fun x4 =>
      (am_il 1 x3 x4 h).bind fun x5 =>
      if x5 = 0 then
        F_X9_restore_83 k22 (F_X9_restore_36 k22 n) v0 v1 v2 v4 v5 h
      else
        (F_X9_blockAt v0 v1 v4 h).bind fun x7 =>
        (F_X9_blockAt v0 v1 v5 h).bind fun x8 =>
        if x7 = x8 then
          F_X9_restore_79 k22 (F_X9_restore_36 k22 n) v0 v1 v2 v4 v5 h
        else
          F_X9_restore_83 k22 (F_X9_restore_36 k22 n) v0 v1 v2 v4 v5 h
    else
      F_X9_restore_79 k22 (F_X9_restore_36 k22 n) v0 v1 v2 v4 v5 h
theorem w_X9_restore_36 {g : am_G} {l : Launch} {h0 : am_H} {x : Int32} {hf : am_H}  {k22 : Nat → Int32 → Int32 → Int32 → Int32 → am_H → Option (Int32 × am_H)} (j22 : ∀ (v0 : Nat) (v1 : Int32) (v2 : Int32) (v3 : Int32) (v4 : Int32) (h : am_H), k22 v0 v1 v2 v3 v4 h = some (x, hf) → am_W g l M_X9_restore h0 (some (.int x)) hf 22 [some (.ref v0), some (.int v1), some (.int v2), some (.int v3), some (.int v4), none] [] h) : ∀ (n : Nat) (v0 : Nat) (v1 : Int32) (v2 : Int32) (v3 : Int32) (v4 : Int32) (v5 : Int32) (h : am_H), F_X9_restore_36 k22 n v0 v1 v2 v3 v4 v5 h = some (x, hf) → am_W g l M_X9_restore h0 (some (.int x)) hf 36 [some (.ref v0), some (.int v1), some (.int v2), some (.int v3), some (.int v4), some (.int v5)] [] h
  | 0, _, _, _, _, _, _, _, hF => by cases hF
  | n + 1, v0, v1, v2, v3, v4, v5, h, hF => by
    rw [F_X9_restore_36] at hF
    refine am_iload (pc' := 38) dX9_restore_36 rfl rfl ?_
    refine am_iload (pc' := 40) dX9_restore_38 rfl rfl ?_
    rcases am_ite hF with ⟨z1, hF⟩ | ⟨z1, hF⟩
    · refine am_icmp_ge_t (pc' := 91) dX9_restore_40 rfl z1 ?_
      refine am_iinc (ls' := [some (.ref v0), some (.int v1), some (.int v2), some (.int v3), some (.int (v4 + (1 : Int32))), some (.int v5)]) (pc' := 94) (v := (v4 + (1 : Int32))) dX9_restore_91 rfl rfl (Nat.le_of_ble_eq_true rfl) rfl rfl ?_
      refine am_goto (pc' := 22) dX9_restore_94 rfl ?_
      exact am_weak [true, true, true, true, true, false] (j22 v0 v1 v2 v3 (v4 + (1 : Int32)) h hF)
    · refine am_icmp_ge_f (pc' := 43) (tgt := 91) dX9_restore_40 rfl z1 rfl ?_
      refine am_iload_n (pc' := 44) dX9_restore_43 rfl rfl ?_
      rcases am_ite hF with ⟨z2, hF⟩ | ⟨z2, hF⟩
      · refine am_if_ne_f (pc' := 47) (tgt := 79) dX9_restore_44 rfl z2 rfl ?_
        refine am_aload_n (pc' := 48) dX9_restore_47 rfl rfl ?_
        obtain ⟨x3, ex3, hF⟩ := am_bind hF
        refine am_getr (pc' := 51) dX9_restore_48 fw_X9_19 ex3 rfl ?_
        refine am_aload_n (pc' := 52) dX9_restore_51 rfl rfl ?_
        refine am_iload_n (pc' := 53) dX9_restore_52 rfl rfl ?_
        refine am_iload (pc' := 55) dX9_restore_53 rfl rfl ?_
        obtain ⟨x4, ex4, hF⟩ := am_bind hF
        obtain ⟨ox4, px4⟩ := t_X9_blockAt ex4
        refine am_callV1 (Mc := M_X9_blockAt) (As := [.int v1, .int v4]) (st := [.ref x3]) (pc' := 58) dX9_restore_55 cw_X9_141 wd_5_45 sl_X9_blockAt ⟨_, rfl, rfl⟩ (by decide) (by decide) rfl rfl (Nat.le_of_ble_eq_true rfl) px4 (c_X9_blockAt ex4) rfl ?_
        obtain ⟨x5, ex5, hF⟩ := am_bind hF
        refine am_bald (pc' := 59) dX9_restore_58 ex5 rfl ?_
        rcases am_ite hF with ⟨z6, hF⟩ | ⟨z6, hF⟩
        · refine am_if_eq_t (pc' := 83) dX9_restore_59 rfl z6 ?_
          exact am_weak [true, true, true, false, true, true] (w_X9_restore_83 j22 (w_X9_restore_36 j22 n) v0 v1 v2 v4 v5 h hF)
        · refine am_if_eq_f (pc' := 62) (tgt := 83) dX9_restore_59 rfl z6 rfl ?_
          refine am_aload_n (pc' := 63) dX9_restore_62 rfl rfl ?_
          refine am_iload_n (pc' := 64) dX9_restore_63 rfl rfl ?_
          refine am_iload (pc' := 66) dX9_restore_64 rfl rfl ?_
          obtain ⟨x7, ex7, hF⟩ := am_bind hF
          obtain ⟨ox7, px7⟩ := t_X9_blockAt ex7
          refine am_callV1 (Mc := M_X9_blockAt) (As := [.int v1, .int v4]) (st := []) (pc' := 69) dX9_restore_66 cw_X9_141 wd_5_45 sl_X9_blockAt ⟨_, rfl, rfl⟩ (by decide) (by decide) rfl rfl (Nat.le_of_ble_eq_true rfl) px7 (c_X9_blockAt ex7) rfl ?_
          refine am_aload_n (pc' := 70) dX9_restore_69 rfl rfl ?_
          refine am_iload_n (pc' := 71) dX9_restore_70 rfl rfl ?_
          refine am_iload (pc' := 73) dX9_restore_71 rfl rfl ?_
          obtain ⟨x8, ex8, hF⟩ := am_bind hF
          obtain ⟨ox8, px8⟩ := t_X9_blockAt ex8
          refine am_callV1 (Mc := M_X9_blockAt) (As := [.int v1, .int v5]) (st := [.int x7]) (pc' := 76) dX9_restore_73 cw_X9_141 wd_5_45 sl_X9_blockAt ⟨_, rfl, rfl⟩ (by decide) (by decide) rfl rfl (Nat.le_of_ble_eq_true rfl) px8 (c_X9_blockAt ex8) rfl ?_
          rcases am_ite hF with ⟨z9, hF⟩ | ⟨z9, hF⟩
          · refine am_icmp_ne_f (pc' := 79) (tgt := 83) dX9_restore_76 rfl z9 rfl ?_
            exact am_weak [true, true, true, false, true, true] (w_X9_restore_79 j22 (w_X9_restore_36 j22 n) v0 v1 v2 v4 v5 h hF)
          · refine am_icmp_ne_t (pc' := 83) dX9_restore_76 rfl z9 ?_
            exact am_weak [true, true, true, false, true, true] (w_X9_restore_83 j22 (w_X9_restore_36 j22 n) v0 v1 v2 v4 v5 h hF)
      · refine am_if_ne_t (pc' := 79) dX9_restore_44 rfl z2 ?_
        exact am_weak [true, true, true, false, true, true] (w_X9_restore_79 j22 (w_X9_restore_36 j22 n) v0 v1 v2 v4 v5 h hF)
def F_X9_restore_113 (h : am_H) : Option (Int32 × am_H) :=
  some ((-100003 : Int32), h)
theorem w_X9_restore_113 {g : am_G} {l : Launch} {h0 : am_H} {x : Int32} {hf : am_H}  (h : am_H) (hF : F_X9_restore_113 h = some (x, hf)) : am_W g l M_X9_restore h0 (some (.int x)) hf 113 [none, none, none, none, none, none] [] h := by
  unfold F_X9_restore_113 at hF
  refine am_ldc (v := (-100003 : Int32)) (pc' := 115) dX9_restore_113 wd_5_2 rfl ?_
  cases hF
  exact am_iret dX9_restore_115 rfl rfl
def F_X9_restore_119 : Nat → Nat → Int32 → Int32 → Int32 → am_H → Option (Int32 × am_H)
  | 0, _, _, _, _, _ => none
  | n + 1, v0, v1, v2, v4, h =>
  (am_gr 9 7 v0 h).bind fun x1 =>
  (am_il 0 x1 v1 h).bind fun x2 =>
  if x2 ≤ v4 then
    some (v2, h)
  else
    (am_gr 9 5 v0 h).bind fun x4 =>
    (F_X9_blockAt v0 v1 v4 h).bind fun x5 =>
    (am_zs 1 x4 x5 (0 : Int32) h).bind fun h6 =>
    F_X9_restore_119 n v0 v1 v2 (v4 + (1 : Int32)) h6
theorem w_X9_restore_119 {g : am_G} {l : Launch} {h0 : am_H} {x : Int32} {hf : am_H}  : ∀ (n : Nat) (v0 : Nat) (v1 : Int32) (v2 : Int32) (v4 : Int32) (h : am_H), F_X9_restore_119 n v0 v1 v2 v4 h = some (x, hf) → am_W g l M_X9_restore h0 (some (.int x)) hf 119 [some (.ref v0), some (.int v1), some (.int v2), none, some (.int v4), none] [] h
  | 0, _, _, _, _, _, hF => by cases hF
  | n + 1, v0, v1, v2, v4, h, hF => by
    rw [F_X9_restore_119] at hF
    refine am_iload (pc' := 121) dX9_restore_119 rfl rfl ?_
    refine am_aload_n (pc' := 122) dX9_restore_121 rfl rfl ?_
    obtain ⟨x1, ex1, hF⟩ := am_bind hF
    refine am_getr (pc' := 125) dX9_restore_122 fw_X9_23 ex1 rfl ?_
    refine am_iload_n (pc' := 126) dX9_restore_125 rfl rfl ?_
    obtain ⟨x2, ex2, hF⟩ := am_bind hF
    refine am_iald (pc' := 127) dX9_restore_126 ex2 rfl ?_
    rcases am_ite hF with ⟨z3, hF⟩ | ⟨z3, hF⟩
    · refine am_icmp_ge_t (pc' := 149) dX9_restore_127 rfl z3 ?_
      refine am_iload_n (pc' := 150) dX9_restore_149 rfl rfl ?_
      cases hF
      exact am_iret dX9_restore_150 rfl rfl
    · refine am_icmp_ge_f (pc' := 130) (tgt := 149) dX9_restore_127 rfl z3 rfl ?_
      refine am_aload_n (pc' := 131) dX9_restore_130 rfl rfl ?_
      obtain ⟨x4, ex4, hF⟩ := am_bind hF
      refine am_getr (pc' := 134) dX9_restore_131 fw_X9_19 ex4 rfl ?_
      refine am_aload_n (pc' := 135) dX9_restore_134 rfl rfl ?_
      refine am_iload_n (pc' := 136) dX9_restore_135 rfl rfl ?_
      refine am_iload (pc' := 138) dX9_restore_136 rfl rfl ?_
      obtain ⟨x5, ex5, hF⟩ := am_bind hF
      obtain ⟨ox5, px5⟩ := t_X9_blockAt ex5
      refine am_callV1 (Mc := M_X9_blockAt) (As := [.int v1, .int v4]) (st := [.ref x4]) (pc' := 141) dX9_restore_138 cw_X9_141 wd_5_45 sl_X9_blockAt ⟨_, rfl, rfl⟩ (by decide) (by decide) rfl rfl (Nat.le_of_ble_eq_true rfl) px5 (c_X9_blockAt ex5) rfl ?_
      refine am_iconst (v := (0 : Int32)) (pc' := 142) dX9_restore_141 rfl rfl ?_
      obtain ⟨h6, eh6, hF⟩ := am_bind hF
      refine am_bast (pc' := 143) dX9_restore_142 eh6 rfl ?_
      refine am_iinc (ls' := [some (.ref v0), some (.int v1), some (.int v2), none, some (.int (v4 + (1 : Int32))), none]) (pc' := 146) (v := (v4 + (1 : Int32))) dX9_restore_143 rfl rfl (Nat.le_of_ble_eq_true rfl) rfl rfl ?_
      refine am_goto (pc' := 119) dX9_restore_146 rfl ?_
      exact w_X9_restore_119 n v0 v1 v2 (v4 + (1 : Int32)) h6 hF
def F_X9_restore_22 : Nat → Nat → Int32 → Int32 → Int32 → Int32 → am_H → Option (Int32 × am_H)
  | 0, _, _, _, _, _, _ => none
  | n + 1, v0, v1, v2, v3, v4, h =>
  (am_gr 9 7 v0 h).bind fun x1 =>
  (am_il 0 x1 v1 h).bind fun x2 =>
  if x2 ≤ v4 then
    (F_X9_in (Int32.toInt64 v2) (1 : Int64) (2 : Int64) h).bind fun x4 =>
    if x4 = 0 then
      F_X9_restore_113 h
    else
      if v3 = 0 then
        F_X9_restore_119 am_F v0 v1 v2 (0 : Int32) h
      else
        F_X9_restore_113 h
  else
    F_X9_restore_36 (F_X9_restore_22 n) am_F v0 v1 v2 v3 v4 (0 : Int32) h
theorem w_X9_restore_22 {g : am_G} {l : Launch} {h0 : am_H} {x : Int32} {hf : am_H}  : ∀ (n : Nat) (v0 : Nat) (v1 : Int32) (v2 : Int32) (v3 : Int32) (v4 : Int32) (h : am_H), F_X9_restore_22 n v0 v1 v2 v3 v4 h = some (x, hf) → am_W g l M_X9_restore h0 (some (.int x)) hf 22 [some (.ref v0), some (.int v1), some (.int v2), some (.int v3), some (.int v4), none] [] h
  | 0, _, _, _, _, _, _, hF => by cases hF
  | n + 1, v0, v1, v2, v3, v4, h, hF => by
    rw [F_X9_restore_22] at hF
    refine am_iload (pc' := 24) dX9_restore_22 rfl rfl ?_
    refine am_aload_n (pc' := 25) dX9_restore_24 rfl rfl ?_
    obtain ⟨x1, ex1, hF⟩ := am_bind hF
    refine am_getr (pc' := 28) dX9_restore_25 fw_X9_23 ex1 rfl ?_
    refine am_iload_n (pc' := 29) dX9_restore_28 rfl rfl ?_
    obtain ⟨x2, ex2, hF⟩ := am_bind hF
    refine am_iald (pc' := 30) dX9_restore_29 ex2 rfl ?_
    rcases am_ite hF with ⟨z3, hF⟩ | ⟨z3, hF⟩
    · refine am_icmp_ge_t (pc' := 97) dX9_restore_30 rfl z3 ?_
      refine am_iload_n (pc' := 98) dX9_restore_97 rfl rfl ?_
      refine am_i2l (pc' := 99) dX9_restore_98 rfl ?_
      refine am_lconst (v := (1 : Int64)) (pc' := 100) dX9_restore_99 rfl rfl ?_
      refine am_ldc2 (v := (2 : Int64)) (pc' := 103) dX9_restore_100 wd_5_181 rfl ?_
      obtain ⟨x4, ex4, hF⟩ := am_bind hF
      refine am_callS1 (Mc := M_X9_in) (As := [.long (Int32.toInt64 v2), .long (1 : Int64), .long (2 : Int64)]) (st := []) (pc' := 106) dX9_restore_103 cw_X9_96 wd_4_234 (by decide) (by decide) rfl rfl (Nat.le_of_ble_eq_true rfl) (c_X9_in ex4) rfl ?_
      rcases am_ite hF with ⟨z5, hF⟩ | ⟨z5, hF⟩
      · refine am_if_eq_t (pc' := 113) dX9_restore_106 rfl z5 ?_
        exact am_weak [false, false, false, false, false, false] (w_X9_restore_113 h hF)
      · refine am_if_eq_f (pc' := 109) (tgt := 113) dX9_restore_106 rfl z5 rfl ?_
        refine am_iload_n (pc' := 110) dX9_restore_109 rfl rfl ?_
        rcases am_ite hF with ⟨z6, hF⟩ | ⟨z6, hF⟩
        · refine am_if_eq_t (pc' := 116) dX9_restore_110 rfl z6 ?_
          refine am_iconst (v := (0 : Int32)) (pc' := 117) dX9_restore_116 rfl rfl ?_
          refine am_istore (ls' := [some (.ref v0), some (.int v1), some (.int v2), some (.int v3), some (.int (0 : Int32)), none]) (pc' := 119) dX9_restore_117 (Nat.le_of_ble_eq_true rfl) rfl rfl ?_
          exact am_weak [true, true, true, false, true, false] (w_X9_restore_119 am_F v0 v1 v2 (0 : Int32) h hF)
        · refine am_if_eq_f (pc' := 113) (tgt := 116) dX9_restore_110 rfl z6 rfl ?_
          exact am_weak [false, false, false, false, false, false] (w_X9_restore_113 h hF)
    · refine am_icmp_ge_f (pc' := 33) (tgt := 97) dX9_restore_30 rfl z3 rfl ?_
      refine am_iconst (v := (0 : Int32)) (pc' := 34) dX9_restore_33 rfl rfl ?_
      refine am_istore (ls' := [some (.ref v0), some (.int v1), some (.int v2), some (.int v3), some (.int v4), some (.int (0 : Int32))]) (pc' := 36) dX9_restore_34 (Nat.le_of_ble_eq_true rfl) rfl rfl ?_
      exact w_X9_restore_36 (w_X9_restore_22 n) am_F v0 v1 v2 v3 v4 (0 : Int32) h hF
def F_X9_restore_b (v0 : Nat) (v1 : Int32) (h : am_H) : Option (Int32 × am_H) :=
  (F_X9_noVersion v0 v1 h).bind fun x1 =>
  if x1 = 0 then
    (F_X9_tornIn v0 v1 h).bind fun x3 =>
    F_X9_restore_22 am_F v0 v1 x3 (0 : Int32) (0 : Int32) h
  else
    some ((-100001 : Int32), h)
theorem w_X9_restore {g : am_G} {l : Launch} {h0 : am_H} {x : Int32} {hf : am_H}  (v0 : Nat) (v1 : Int32) (h : am_H) (hF : F_X9_restore_b v0 v1 h = some (x, hf)) : am_W g l M_X9_restore h0 (some (.int x)) hf 0 [some (.ref v0), some (.int v1), none, none, none, none] [] h := by
  unfold F_X9_restore_b at hF
  refine am_aload_n (pc' := 1) dX9_restore_0 rfl rfl ?_
  refine am_iload_n (pc' := 2) dX9_restore_1 rfl rfl ?_
  obtain ⟨x1, ex1, hF⟩ := am_bind hF
  obtain ⟨ox1, px1⟩ := t_X9_noVersion ex1
  refine am_callV1 (Mc := M_X9_noVersion) (As := [.int v1]) (st := []) (pc' := 5) dX9_restore_2 cw_X9_154 wd_5_37 sl_X9_noVersion ⟨_, rfl, rfl⟩ (by decide) (by decide) rfl rfl (Nat.le_of_ble_eq_true rfl) px1 (c_X9_noVersion ex1) rfl ?_
  rcases am_ite hF with ⟨z2, hF⟩ | ⟨z2, hF⟩
  · refine am_if_eq_t (pc' := 11) dX9_restore_5 rfl z2 ?_
    refine am_aload_n (pc' := 12) dX9_restore_11 rfl rfl ?_
    refine am_iload_n (pc' := 13) dX9_restore_12 rfl rfl ?_
    obtain ⟨x3, ex3, hF⟩ := am_bind hF
    obtain ⟨ox3, px3⟩ := t_X9_tornIn ex3
    refine am_callV1 (Mc := M_X9_tornIn) (As := [.int v1]) (st := []) (pc' := 16) dX9_restore_13 cw_X9_165 wd_5_50 sl_X9_tornIn ⟨_, rfl, rfl⟩ (by decide) (by decide) rfl rfl (Nat.le_of_ble_eq_true rfl) px3 (c_X9_tornIn ex3) rfl ?_
    refine am_istore_n (ls' := [some (.ref v0), some (.int v1), some (.int x3), none, none, none]) (pc' := 17) dX9_restore_16 (Nat.le_of_ble_eq_true rfl) rfl rfl ?_
    refine am_iconst (v := (0 : Int32)) (pc' := 18) dX9_restore_17 rfl rfl ?_
    refine am_istore_n (ls' := [some (.ref v0), some (.int v1), some (.int x3), some (.int (0 : Int32)), none, none]) (pc' := 19) dX9_restore_18 (Nat.le_of_ble_eq_true rfl) rfl rfl ?_
    refine am_iconst (v := (0 : Int32)) (pc' := 20) dX9_restore_19 rfl rfl ?_
    refine am_istore (ls' := [some (.ref v0), some (.int v1), some (.int x3), some (.int (0 : Int32)), some (.int (0 : Int32)), none]) (pc' := 22) dX9_restore_20 (Nat.le_of_ble_eq_true rfl) rfl rfl ?_
    exact w_X9_restore_22 am_F v0 v1 x3 (0 : Int32) (0 : Int32) h hF
  · refine am_if_eq_f (pc' := 8) (tgt := 11) dX9_restore_5 rfl z2 rfl ?_
    refine am_ldc (v := (-100001 : Int32)) (pc' := 10) dX9_restore_8 wd_5_47 rfl ?_
    cases hF
    exact am_iret dX9_restore_10 rfl rfl
def F_X9_restore (v0 : Nat) (v1 : Int32) (h : am_H) : Option (Int32 × am_H) := (am_obj v0 9 h).bind fun _ => F_X9_restore_b v0 v1 h
theorem t_X9_restore {x : Int32} {hf : am_H}  {v0 : Nat} {v1 : Int32} {h : am_H} (hF : F_X9_restore v0 v1 h = some (x, hf)) : ∃ fs, am_obj v0 9 h = some fs := by
  obtain ⟨fs, e, _⟩ := am_bind hF
  exact ⟨fs, e⟩
theorem c_X9_restore {g : am_G} {l : Launch} {x : Int32} {hf : am_H}  {v0 : Nat} {v1 : Int32} {h : am_H} (hF : F_X9_restore v0 v1 h = some (x, hf)) : am_Met g l M_X9_restore [.ref v0, .int v1] h (some (.int x)) hf := by
  obtain ⟨fs, e0, e⟩ := am_bind hF
  exact am_met (n := 4) (by decide +kernel) rfl (Nat.le_of_ble_eq_true rfl) (w_X9_restore v0 v1 h e)
def F_X8_goesWhole_37 (s0 : Int32) (h : am_H) : Option Int32 :=
  am_z s0
theorem w_X8_goesWhole_37 {g : am_G} {l : Launch} {h0 : am_H} {x : Int32}  (s0 : Int32) (h : am_H) (hF : F_X8_goesWhole_37 s0 h = some x) : am_W g l M_X8_goesWhole h0 (some (.int x)) h 37 [none, none, none, none] [.int s0] h := by
  unfold F_X8_goesWhole_37 at hF
  exact am_zret dX8_goesWhole_37 rfl hF
def F_X8_goesWhole_36 (h : am_H) : Option Int32 :=
  F_X8_goesWhole_37 (0 : Int32) h
theorem w_X8_goesWhole_36 {g : am_G} {l : Launch} {h0 : am_H} {x : Int32}  (h : am_H) (hF : F_X8_goesWhole_36 h = some x) : am_W g l M_X8_goesWhole h0 (some (.int x)) h 36 [none, none, none, none] [] h := by
  unfold F_X8_goesWhole_36 at hF
  refine am_iconst (v := (0 : Int32)) (pc' := 37) dX8_goesWhole_36 rfl rfl ?_
  exact w_X8_goesWhole_37 (0 : Int32) h hF
def F_X8_goesWhole_b (v0 : Nat) (v1 : Nat) (v2 : Int32) (h : am_H) : Option Int32 :=
  (am_gr 7 0 v1 h).bind fun x1 =>
  (F_X4_at x1 v2 h).bind fun x2 =>
  (am_gr 7 0 v0 h).bind fun x3 =>
  (F_X4_has x3 x2 h).bind fun x4 =>
  if x4 = 0 then
    (am_gr 7 0 v1 h).bind fun x6 =>
    (F_X4_firstOf x6 x2 h).bind fun x7 =>
    if x7 = v2 then
      F_X8_goesWhole_37 (1 : Int32) h
    else
      F_X8_goesWhole_36 h
  else
    F_X8_goesWhole_36 h
theorem w_X8_goesWhole {g : am_G} {l : Launch} {h0 : am_H} {x : Int32}  (v0 : Nat) (v1 : Nat) (v2 : Int32) (h : am_H) (hF : F_X8_goesWhole_b v0 v1 v2 h = some x) : am_W g l M_X8_goesWhole h0 (some (.int x)) h 0 [some (.ref v0), some (.ref v1), some (.int v2), none] [] h := by
  unfold F_X8_goesWhole_b at hF
  refine am_aload_n (pc' := 1) dX8_goesWhole_0 rfl rfl ?_
  obtain ⟨x1, ex1, hF⟩ := am_bind hF
  refine am_getr (pc' := 4) dX8_goesWhole_1 fw_X8_148 ex1 rfl ?_
  refine am_iload_n (pc' := 5) dX8_goesWhole_4 rfl rfl ?_
  obtain ⟨x2, ex2, hF⟩ := am_bind hF
  obtain ⟨ox2, px2⟩ := t_X4_at ex2
  refine am_callV1 (Mc := M_X4_at) (As := [.int v2]) (st := []) (pc' := 8) dX8_goesWhole_5 cw_X8_161 wd_2_40 wd_2_41 ⟨_, rfl, rfl⟩ (by decide) (by decide) rfl rfl (Nat.le_of_ble_eq_true rfl) px2 (c_X4_at ex2) rfl ?_
  refine am_istore_n (ls' := [some (.ref v0), some (.ref v1), some (.int v2), some (.int x2)]) (pc' := 9) dX8_goesWhole_8 (Nat.le_of_ble_eq_true rfl) rfl rfl ?_
  refine am_aload_n (pc' := 10) dX8_goesWhole_9 rfl rfl ?_
  obtain ⟨x3, ex3, hF⟩ := am_bind hF
  refine am_getr (pc' := 13) dX8_goesWhole_10 fw_X8_148 ex3 rfl ?_
  refine am_iload_n (pc' := 14) dX8_goesWhole_13 rfl rfl ?_
  obtain ⟨x4, ex4, hF⟩ := am_bind hF
  obtain ⟨ox4, px4⟩ := t_X4_has ex4
  refine am_callV1 (Mc := M_X4_has) (As := [.int x2]) (st := []) (pc' := 17) dX8_goesWhole_14 cw_X8_198 wd_2_201 wd_2_202 ⟨_, rfl, rfl⟩ (by decide) (by decide) rfl rfl (Nat.le_of_ble_eq_true rfl) px4 (c_X4_has ex4) rfl ?_
  rcases am_ite hF with ⟨z5, hF⟩ | ⟨z5, hF⟩
  · refine am_if_ne_f (pc' := 20) (tgt := 36) dX8_goesWhole_17 rfl z5 rfl ?_
    refine am_aload_n (pc' := 21) dX8_goesWhole_20 rfl rfl ?_
    obtain ⟨x6, ex6, hF⟩ := am_bind hF
    refine am_getr (pc' := 24) dX8_goesWhole_21 fw_X8_148 ex6 rfl ?_
    refine am_iload_n (pc' := 25) dX8_goesWhole_24 rfl rfl ?_
    obtain ⟨x7, ex7, hF⟩ := am_bind hF
    obtain ⟨ox7, px7⟩ := t_X4_firstOf ex7
    refine am_callV1 (Mc := M_X4_firstOf) (As := [.int x2]) (st := []) (pc' := 28) dX8_goesWhole_25 cw_X8_201 wd_2_205 wd_2_206 ⟨_, rfl, rfl⟩ (by decide) (by decide) rfl rfl (Nat.le_of_ble_eq_true rfl) px7 (c_X4_firstOf ex7) rfl ?_
    refine am_iload_n (pc' := 29) dX8_goesWhole_28 rfl rfl ?_
    rcases am_ite hF with ⟨z8, hF⟩ | ⟨z8, hF⟩
    · refine am_icmp_ne_f (pc' := 32) (tgt := 36) dX8_goesWhole_29 rfl z8 rfl ?_
      refine am_iconst (v := (1 : Int32)) (pc' := 33) dX8_goesWhole_32 rfl rfl ?_
      refine am_goto (pc' := 37) dX8_goesWhole_33 rfl ?_
      exact am_weak [false, false, false, false] (w_X8_goesWhole_37 (1 : Int32) h hF)
    · refine am_icmp_ne_t (pc' := 36) dX8_goesWhole_29 rfl z8 ?_
      exact am_weak [false, false, false, false] (w_X8_goesWhole_36 h hF)
  · refine am_if_ne_t (pc' := 36) dX8_goesWhole_17 rfl z5 ?_
    exact am_weak [false, false, false, false] (w_X8_goesWhole_36 h hF)
def F_X8_goesWhole (v0 : Nat) (v1 : Nat) (v2 : Int32) (h : am_H) : Option Int32 := F_X8_goesWhole_b v0 v1 v2 h
theorem c_X8_goesWhole {g : am_G} {l : Launch} {x : Int32}  {v0 : Nat} {v1 : Nat} {v2 : Int32} {h : am_H} (hF : F_X8_goesWhole v0 v1 v2 h = some x) : am_Met g l M_X8_goesWhole [.ref v0, .ref v1, .int v2] h (some (.int x)) h := by
  exact am_met (n := 1) (by decide +kernel) rfl (Nat.le_of_ble_eq_true rfl) (w_X8_goesWhole v0 v1 v2 h hF)
theorem cw_X8_387 : am_cw "SignCellar" 387 M_X8_goesWhole 3 := ⟨wd_1_1, wd_4_67, ⟨by decide, by decide, by decide⟩, Or.inl wd_4_65⟩
def F_X8_sentBits_43 (k5 : Nat → Nat → Nat → Int32 → Int32 → am_H → Option Int32) (v0 : Nat) (v1 : Nat) (v2 : Nat) (v4 : Int32) (s0 : Int32) (s1 : Int32) (h : am_H) : Option Int32 :=
  k5 v0 v1 v2 (s0 + s1) (v4 + (1 : Int32)) h
theorem w_X8_sentBits_43 {g : am_G} {l : Launch} {h0 : am_H} {x : Int32}  {k5 : Nat → Nat → Nat → Int32 → Int32 → am_H → Option Int32} (j5 : ∀ (v0 : Nat) (v1 : Nat) (v2 : Nat) (v3 : Int32) (v4 : Int32) (h : am_H), k5 v0 v1 v2 v3 v4 h = some x → am_W g l M_X8_sentBits h0 (some (.int x)) h 5 [some (.ref v0), some (.ref v1), some (.ref v2), some (.int v3), some (.int v4)] [] h) (v0 : Nat) (v1 : Nat) (v2 : Nat) (v4 : Int32) (s0 : Int32) (s1 : Int32) (h : am_H) (hF : F_X8_sentBits_43 k5 v0 v1 v2 v4 s0 s1 h = some x) : am_W g l M_X8_sentBits h0 (some (.int x)) h 43 [some (.ref v0), some (.ref v1), some (.ref v2), none, some (.int v4)] [.int s1, .int s0] h := by
  unfold F_X8_sentBits_43 at hF
  refine am_iadd (pc' := 44) dX8_sentBits_43 rfl ?_
  refine am_istore_n (ls' := [some (.ref v0), some (.ref v1), some (.ref v2), some (.int (s0 + s1)), some (.int v4)]) (pc' := 45) dX8_sentBits_44 (Nat.le_of_ble_eq_true rfl) rfl rfl ?_
  refine am_iinc (ls' := [some (.ref v0), some (.ref v1), some (.ref v2), some (.int (s0 + s1)), some (.int (v4 + (1 : Int32)))]) (pc' := 48) (v := (v4 + (1 : Int32))) dX8_sentBits_45 rfl rfl (Nat.le_of_ble_eq_true rfl) rfl rfl ?_
  refine am_goto (pc' := 5) dX8_sentBits_48 rfl ?_
  exact j5 v0 v1 v2 (s0 + s1) (v4 + (1 : Int32)) h hF
def F_X8_sentBits_5 : Nat → Nat → Nat → Nat → Int32 → Int32 → am_H → Option Int32
  | 0, _, _, _, _, _, _ => none
  | n + 1, v0, v1, v2, v3, v4, h =>
  (am_gr 7 0 v2 h).bind fun x1 =>
  (F_X4_length x1 h).bind fun x2 =>
  if x2 ≤ v4 then
    some v3
  else
    (F_X8_goesWhole v1 v2 v4 h).bind fun x4 =>
    if x4 = 0 then
      F_X8_sentBits_43 (F_X8_sentBits_5 n) v0 v1 v2 v4 v3 (4 : Int32) h
    else
      (F_X8_lengthIn v0 v2 v4 h).bind fun x6 =>
      F_X8_sentBits_43 (F_X8_sentBits_5 n) v0 v1 v2 v4 v3 (((4 : Int32) * x6) + (3 : Int32)) h
theorem w_X8_sentBits_5 {g : am_G} {l : Launch} {h0 : am_H} {x : Int32}  : ∀ (n : Nat) (v0 : Nat) (v1 : Nat) (v2 : Nat) (v3 : Int32) (v4 : Int32) (h : am_H), F_X8_sentBits_5 n v0 v1 v2 v3 v4 h = some x → am_W g l M_X8_sentBits h0 (some (.int x)) h 5 [some (.ref v0), some (.ref v1), some (.ref v2), some (.int v3), some (.int v4)] [] h
  | 0, _, _, _, _, _, _, hF => by cases hF
  | n + 1, v0, v1, v2, v3, v4, h, hF => by
    rw [F_X8_sentBits_5] at hF
    refine am_iload (pc' := 7) dX8_sentBits_5 rfl rfl ?_
    refine am_aload_n (pc' := 8) dX8_sentBits_7 rfl rfl ?_
    obtain ⟨x1, ex1, hF⟩ := am_bind hF
    refine am_getr (pc' := 11) dX8_sentBits_8 fw_X8_148 ex1 rfl ?_
    obtain ⟨x2, ex2, hF⟩ := am_bind hF
    obtain ⟨ox2, px2⟩ := t_X4_length ex2
    refine am_callV1 (Mc := M_X4_length) (As := []) (st := [.int v4]) (pc' := 14) dX8_sentBits_11 cw_X8_93 wd_1_235 wd_1_236 ⟨_, rfl, rfl⟩ (by decide) (by decide) rfl rfl (Nat.le_of_ble_eq_true rfl) px2 (c_X4_length ex2) rfl ?_
    rcases am_ite hF with ⟨z3, hF⟩ | ⟨z3, hF⟩
    · refine am_icmp_ge_t (pc' := 51) dX8_sentBits_14 rfl z3 ?_
      refine am_iload_n (pc' := 52) dX8_sentBits_51 rfl rfl ?_
      cases hF
      exact am_iret dX8_sentBits_52 rfl rfl
    · refine am_icmp_ge_f (pc' := 17) (tgt := 51) dX8_sentBits_14 rfl z3 rfl ?_
      refine am_iload_n (pc' := 18) dX8_sentBits_17 rfl rfl ?_
      refine am_aload_n (pc' := 19) dX8_sentBits_18 rfl rfl ?_
      refine am_aload_n (pc' := 20) dX8_sentBits_19 rfl rfl ?_
      refine am_iload (pc' := 22) dX8_sentBits_20 rfl rfl ?_
      obtain ⟨x4, ex4, hF⟩ := am_bind hF
      refine am_callS1 (Mc := M_X8_goesWhole) (As := [.ref v1, .ref v2, .int v4]) (st := [.int v3]) (pc' := 25) dX8_sentBits_22 cw_X8_387 wd_4_66 (by decide) (by decide) rfl rfl (Nat.le_of_ble_eq_true rfl) (c_X8_goesWhole ex4) rfl ?_
      rcases am_ite hF with ⟨z5, hF⟩ | ⟨z5, hF⟩
      · refine am_if_eq_t (pc' := 42) dX8_sentBits_25 rfl z5 ?_
        refine am_iconst (v := (4 : Int32)) (pc' := 43) dX8_sentBits_42 rfl rfl ?_
        exact am_weak [true, true, true, false, true] (w_X8_sentBits_43 (w_X8_sentBits_5 n) v0 v1 v2 v4 v3 (4 : Int32) h hF)
      · refine am_if_eq_f (pc' := 28) (tgt := 42) dX8_sentBits_25 rfl z5 rfl ?_
        refine am_iconst (v := (4 : Int32)) (pc' := 29) dX8_sentBits_28 rfl rfl ?_
        refine am_aload_n (pc' := 30) dX8_sentBits_29 rfl rfl ?_
        refine am_aload_n (pc' := 31) dX8_sentBits_30 rfl rfl ?_
        refine am_iload (pc' := 33) dX8_sentBits_31 rfl rfl ?_
        obtain ⟨x6, ex6, hF⟩ := am_bind hF
        obtain ⟨ox6, px6⟩ := t_X8_lengthIn ex6
        refine am_callV1 (Mc := M_X8_lengthIn) (As := [.ref v2, .int v4]) (st := [.int (4 : Int32), .int v3]) (pc' := 36) dX8_sentBits_33 cw_X8_145 wd_2_114 sl_X8_lengthIn ⟨_, rfl, rfl⟩ (by decide) (by decide) rfl rfl (Nat.le_of_ble_eq_true rfl) px6 (c_X8_lengthIn ex6) rfl ?_
        refine am_imul (pc' := 37) dX8_sentBits_36 rfl ?_
        refine am_iconst (v := (3 : Int32)) (pc' := 38) dX8_sentBits_37 rfl rfl ?_
        refine am_iadd (pc' := 39) dX8_sentBits_38 rfl ?_
        refine am_goto (pc' := 43) dX8_sentBits_39 rfl ?_
        exact am_weak [true, true, true, false, true] (w_X8_sentBits_43 (w_X8_sentBits_5 n) v0 v1 v2 v4 v3 (((4 : Int32) * x6) + (3 : Int32)) h hF)
def F_X8_sentBits_b (v0 : Nat) (v1 : Nat) (v2 : Nat) (h : am_H) : Option Int32 :=
  F_X8_sentBits_5 am_F v0 v1 v2 (0 : Int32) (0 : Int32) h
theorem w_X8_sentBits {g : am_G} {l : Launch} {h0 : am_H} {x : Int32}  (v0 : Nat) (v1 : Nat) (v2 : Nat) (h : am_H) (hF : F_X8_sentBits_b v0 v1 v2 h = some x) : am_W g l M_X8_sentBits h0 (some (.int x)) h 0 [some (.ref v0), some (.ref v1), some (.ref v2), none, none] [] h := by
  unfold F_X8_sentBits_b at hF
  refine am_iconst (v := (0 : Int32)) (pc' := 1) dX8_sentBits_0 rfl rfl ?_
  refine am_istore_n (ls' := [some (.ref v0), some (.ref v1), some (.ref v2), some (.int (0 : Int32)), none]) (pc' := 2) dX8_sentBits_1 (Nat.le_of_ble_eq_true rfl) rfl rfl ?_
  refine am_iconst (v := (0 : Int32)) (pc' := 3) dX8_sentBits_2 rfl rfl ?_
  refine am_istore (ls' := [some (.ref v0), some (.ref v1), some (.ref v2), some (.int (0 : Int32)), some (.int (0 : Int32))]) (pc' := 5) dX8_sentBits_3 (Nat.le_of_ble_eq_true rfl) rfl rfl ?_
  exact w_X8_sentBits_5 am_F v0 v1 v2 (0 : Int32) (0 : Int32) h hF
def F_X8_sentBits (v0 : Nat) (v1 : Nat) (v2 : Nat) (h : am_H) : Option Int32 := (am_obj v0 8 h).bind fun _ => F_X8_sentBits_b v0 v1 v2 h
theorem t_X8_sentBits {x : Int32}  {v0 : Nat} {v1 : Nat} {v2 : Nat} {h : am_H} (hF : F_X8_sentBits v0 v1 v2 h = some x) : ∃ fs, am_obj v0 8 h = some fs := by
  obtain ⟨fs, e, _⟩ := am_bind hF
  exact ⟨fs, e⟩
theorem c_X8_sentBits {g : am_G} {l : Launch} {x : Int32}  {v0 : Nat} {v1 : Nat} {v2 : Nat} {h : am_H} (hF : F_X8_sentBits v0 v1 v2 h = some x) : am_Met g l M_X8_sentBits [.ref v0, .ref v1, .ref v2] h (some (.int x)) h := by
  obtain ⟨fs, e0, e⟩ := am_bind hF
  exact am_met (n := 2) (by decide +kernel) rfl (Nat.le_of_ble_eq_true rfl) (w_X8_sentBits v0 v1 v2 h e)
def F_X8_sentWhole_27 (k4 : Nat → Nat → Int32 → Int32 → am_H → Option Int32) (v0 : Nat) (v1 : Nat) (v2 : Int32) (v3 : Int32) (h : am_H) : Option Int32 :=
  k4 v0 v1 v2 (v3 + (1 : Int32)) h
theorem w_X8_sentWhole_27 {g : am_G} {l : Launch} {h0 : am_H} {x : Int32}  {k4 : Nat → Nat → Int32 → Int32 → am_H → Option Int32} (j4 : ∀ (v0 : Nat) (v1 : Nat) (v2 : Int32) (v3 : Int32) (h : am_H), k4 v0 v1 v2 v3 h = some x → am_W g l M_X8_sentWhole h0 (some (.int x)) h 4 [some (.ref v0), some (.ref v1), some (.int v2), some (.int v3)] [] h) (v0 : Nat) (v1 : Nat) (v2 : Int32) (v3 : Int32) (h : am_H) (hF : F_X8_sentWhole_27 k4 v0 v1 v2 v3 h = some x) : am_W g l M_X8_sentWhole h0 (some (.int x)) h 27 [some (.ref v0), some (.ref v1), some (.int v2), some (.int v3)] [] h := by
  unfold F_X8_sentWhole_27 at hF
  refine am_iinc (ls' := [some (.ref v0), some (.ref v1), some (.int v2), some (.int (v3 + (1 : Int32)))]) (pc' := 30) (v := (v3 + (1 : Int32))) dX8_sentWhole_27 rfl rfl (Nat.le_of_ble_eq_true rfl) rfl rfl ?_
  refine am_goto (pc' := 4) dX8_sentWhole_30 rfl ?_
  exact j4 v0 v1 v2 (v3 + (1 : Int32)) h hF
def F_X8_sentWhole_4 : Nat → Nat → Nat → Int32 → Int32 → am_H → Option Int32
  | 0, _, _, _, _, _ => none
  | n + 1, v0, v1, v2, v3, h =>
  (am_gr 7 0 v1 h).bind fun x1 =>
  (F_X4_length x1 h).bind fun x2 =>
  if x2 ≤ v3 then
    some v2
  else
    (F_X8_goesWhole v0 v1 v3 h).bind fun x4 =>
    if x4 = 0 then
      F_X8_sentWhole_27 (F_X8_sentWhole_4 n) v0 v1 v2 v3 h
    else
      F_X8_sentWhole_27 (F_X8_sentWhole_4 n) v0 v1 (v2 + (1 : Int32)) v3 h
theorem w_X8_sentWhole_4 {g : am_G} {l : Launch} {h0 : am_H} {x : Int32}  : ∀ (n : Nat) (v0 : Nat) (v1 : Nat) (v2 : Int32) (v3 : Int32) (h : am_H), F_X8_sentWhole_4 n v0 v1 v2 v3 h = some x → am_W g l M_X8_sentWhole h0 (some (.int x)) h 4 [some (.ref v0), some (.ref v1), some (.int v2), some (.int v3)] [] h
  | 0, _, _, _, _, _, hF => by cases hF
  | n + 1, v0, v1, v2, v3, h, hF => by
    rw [F_X8_sentWhole_4] at hF
    refine am_iload_n (pc' := 5) dX8_sentWhole_4 rfl rfl ?_
    refine am_aload_n (pc' := 6) dX8_sentWhole_5 rfl rfl ?_
    obtain ⟨x1, ex1, hF⟩ := am_bind hF
    refine am_getr (pc' := 9) dX8_sentWhole_6 fw_X8_148 ex1 rfl ?_
    obtain ⟨x2, ex2, hF⟩ := am_bind hF
    obtain ⟨ox2, px2⟩ := t_X4_length ex2
    refine am_callV1 (Mc := M_X4_length) (As := []) (st := [.int v3]) (pc' := 12) dX8_sentWhole_9 cw_X8_93 wd_1_235 wd_1_236 ⟨_, rfl, rfl⟩ (by decide) (by decide) rfl rfl (Nat.le_of_ble_eq_true rfl) px2 (c_X4_length ex2) rfl ?_
    rcases am_ite hF with ⟨z3, hF⟩ | ⟨z3, hF⟩
    · refine am_icmp_ge_t (pc' := 33) dX8_sentWhole_12 rfl z3 ?_
      refine am_iload_n (pc' := 34) dX8_sentWhole_33 rfl rfl ?_
      cases hF
      exact am_iret dX8_sentWhole_34 rfl rfl
    · refine am_icmp_ge_f (pc' := 15) (tgt := 33) dX8_sentWhole_12 rfl z3 rfl ?_
      refine am_aload_n (pc' := 16) dX8_sentWhole_15 rfl rfl ?_
      refine am_aload_n (pc' := 17) dX8_sentWhole_16 rfl rfl ?_
      refine am_iload_n (pc' := 18) dX8_sentWhole_17 rfl rfl ?_
      obtain ⟨x4, ex4, hF⟩ := am_bind hF
      refine am_callS1 (Mc := M_X8_goesWhole) (As := [.ref v0, .ref v1, .int v3]) (st := []) (pc' := 21) dX8_sentWhole_18 cw_X8_387 wd_4_66 (by decide) (by decide) rfl rfl (Nat.le_of_ble_eq_true rfl) (c_X8_goesWhole ex4) rfl ?_
      rcases am_ite hF with ⟨z5, hF⟩ | ⟨z5, hF⟩
      · refine am_if_eq_t (pc' := 27) dX8_sentWhole_21 rfl z5 ?_
        exact w_X8_sentWhole_27 (w_X8_sentWhole_4 n) v0 v1 v2 v3 h hF
      · refine am_if_eq_f (pc' := 24) (tgt := 27) dX8_sentWhole_21 rfl z5 rfl ?_
        refine am_iinc (ls' := [some (.ref v0), some (.ref v1), some (.int (v2 + (1 : Int32))), some (.int v3)]) (pc' := 27) (v := (v2 + (1 : Int32))) dX8_sentWhole_24 rfl rfl (Nat.le_of_ble_eq_true rfl) rfl rfl ?_
        exact w_X8_sentWhole_27 (w_X8_sentWhole_4 n) v0 v1 (v2 + (1 : Int32)) v3 h hF
def F_X8_sentWhole_b (v0 : Nat) (v1 : Nat) (h : am_H) : Option Int32 :=
  F_X8_sentWhole_4 am_F v0 v1 (0 : Int32) (0 : Int32) h
theorem w_X8_sentWhole {g : am_G} {l : Launch} {h0 : am_H} {x : Int32}  (v0 : Nat) (v1 : Nat) (h : am_H) (hF : F_X8_sentWhole_b v0 v1 h = some x) : am_W g l M_X8_sentWhole h0 (some (.int x)) h 0 [some (.ref v0), some (.ref v1), none, none] [] h := by
  unfold F_X8_sentWhole_b at hF
  refine am_iconst (v := (0 : Int32)) (pc' := 1) dX8_sentWhole_0 rfl rfl ?_
  refine am_istore_n (ls' := [some (.ref v0), some (.ref v1), some (.int (0 : Int32)), none]) (pc' := 2) dX8_sentWhole_1 (Nat.le_of_ble_eq_true rfl) rfl rfl ?_
  refine am_iconst (v := (0 : Int32)) (pc' := 3) dX8_sentWhole_2 rfl rfl ?_
  refine am_istore_n (ls' := [some (.ref v0), some (.ref v1), some (.int (0 : Int32)), some (.int (0 : Int32))]) (pc' := 4) dX8_sentWhole_3 (Nat.le_of_ble_eq_true rfl) rfl rfl ?_
  exact w_X8_sentWhole_4 am_F v0 v1 (0 : Int32) (0 : Int32) h hF
def F_X8_sentWhole (v0 : Nat) (v1 : Nat) (h : am_H) : Option Int32 := F_X8_sentWhole_b v0 v1 h
theorem c_X8_sentWhole {g : am_G} {l : Launch} {x : Int32}  {v0 : Nat} {v1 : Nat} {h : am_H} (hF : F_X8_sentWhole v0 v1 h = some x) : am_Met g l M_X8_sentWhole [.ref v0, .ref v1] h (some (.int x)) h := by
  exact am_met (n := 2) (by decide +kernel) rfl (Nat.le_of_ble_eq_true rfl) (w_X8_sentWhole v0 v1 h hF)
