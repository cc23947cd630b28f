abbrev M_X9_strike : am_M := ((⟨"SignCellarModel", "strike", "(II)I"⟩ : MethodName), prog_11_method_25_code, 6, (some .int), 3, 69)
theorem dX9_strike_0 : decode prog_11_method_25_code 0 = .ok (.aload_n 0, 1) := by decide +kernel
theorem dX9_strike_1 : decode prog_11_method_25_code 1 = .ok (.iload_n 1, 1) := by decide +kernel
theorem dX9_strike_2 : decode prog_11_method_25_code 2 = .ok (.iload_n 2, 1) := by decide +kernel
theorem dX9_strike_3 : decode prog_11_method_25_code 3 = .ok (.iconst 0, 1) := by decide +kernel
theorem dX9_strike_4 : decode prog_11_method_25_code 4 = .ok (.invokevirtual 160, 3) := by decide +kernel
theorem dX9_strike_7 : decode prog_11_method_25_code 7 = .ok (.ifCond .eq 6, 3) := by decide +kernel
theorem dX9_strike_10 : decode prog_11_method_25_code 10 = .ok (.ldc 164, 2) := by decide +kernel
theorem dX9_strike_12 : decode prog_11_method_25_code 12 = .ok (.ireturn, 1) := by decide +kernel
theorem dX9_strike_13 : decode prog_11_method_25_code 13 = .ok (.aload_n 0, 1) := by decide +kernel
theorem dX9_strike_14 : decode prog_11_method_25_code 14 = .ok (.iload_n 1, 1) := by decide +kernel
theorem dX9_strike_15 : decode prog_11_method_25_code 15 = .ok (.iload_n 2, 1) := by decide +kernel
theorem dX9_strike_16 : decode prog_11_method_25_code 16 = .ok (.invokevirtual 169, 3) := by decide +kernel
theorem dX9_strike_19 : decode prog_11_method_25_code 19 = .ok (.aload_n 0, 1) := by decide +kernel
theorem dX9_strike_20 : decode prog_11_method_25_code 20 = .ok (.getfield 144, 3) := by decide +kernel
theorem dX9_strike_23 : decode prog_11_method_25_code 23 = .ok (.istore_n 3, 1) := by decide +kernel
theorem dX9_strike_24 : decode prog_11_method_25_code 24 = .ok (.aload_n 0, 1) := by decide +kernel
theorem dX9_strike_25 : decode prog_11_method_25_code 25 = .ok (.getfield 13, 3) := by decide +kernel
theorem dX9_strike_28 : decode prog_11_method_25_code 28 = .ok (.aload_n 0, 1) := by decide +kernel
theorem dX9_strike_29 : decode prog_11_method_25_code 29 = .ok (.iload_n 1, 1) := by decide +kernel
theorem dX9_strike_30 : decode prog_11_method_25_code 30 = .ok (.iload_n 3, 1) := by decide +kernel
theorem dX9_strike_31 : decode prog_11_method_25_code 31 = .ok (.invokevirtual 141, 3) := by decide +kernel
theorem dX9_strike_34 : decode prog_11_method_25_code 34 = .ok (.iaload, 1) := by decide +kernel
theorem dX9_strike_35 : decode prog_11_method_25_code 35 = .ok (.iconst 1, 1) := by decide +kernel
theorem dX9_strike_36 : decode prog_11_method_25_code 36 = .ok (.if_icmp .ne 7, 3) := by decide +kernel
theorem dX9_strike_39 : decode prog_11_method_25_code 39 = .ok (.iconst 1, 1) := by decide +kernel
theorem dX9_strike_40 : decode prog_11_method_25_code 40 = .ok (.goto 4, 3) := by decide +kernel
theorem dX9_strike_43 : decode prog_11_method_25_code 43 = .ok (.iconst 0, 1) := by decide +kernel
theorem dX9_strike_44 : decode prog_11_method_25_code 44 = .ok (.istore 4, 2) := by decide +kernel
theorem dX9_strike_46 : decode prog_11_method_25_code 46 = .ok (.aload_n 0, 1) := by decide +kernel
theorem dX9_strike_47 : decode prog_11_method_25_code 47 = .ok (.iload 4, 2) := by decide +kernel
theorem dX9_strike_49 : decode prog_11_method_25_code 49 = .ok (.ifCond .eq 7, 3) := by decide +kernel
theorem dX9_strike_52 : decode prog_11_method_25_code 52 = .ok (.iconst 0, 1) := by decide +kernel
theorem dX9_strike_53 : decode prog_11_method_25_code 53 = .ok (.goto 4, 3) := by decide +kernel
theorem dX9_strike_56 : decode prog_11_method_25_code 56 = .ok (.iconst 1, 1) := by decide +kernel
theorem dX9_strike_57 : decode prog_11_method_25_code 57 = .ok (.invokevirtual 128, 3) := by decide +kernel
theorem dX9_strike_60 : decode prog_11_method_25_code 60 = .ok (.ifCond .eq 6, 3) := by decide +kernel
theorem dX9_strike_63 : decode prog_11_method_25_code 63 = .ok (.ldc 109, 2) := by decide +kernel
theorem dX9_strike_65 : decode prog_11_method_25_code 65 = .ok (.ireturn, 1) := by decide +kernel
theorem dX9_strike_66 : decode prog_11_method_25_code 66 = .ok (.aload_n 0, 1) := by decide +kernel
theorem dX9_strike_67 : decode prog_11_method_25_code 67 = .ok (.iload_n 1, 1) := by decide +kernel
theorem dX9_strike_68 : decode prog_11_method_25_code 68 = .ok (.invokevirtual 165, 3) := by decide +kernel
theorem dX9_strike_71 : decode prog_11_method_25_code 71 = .ok (.ifCond .le 6, 3) := by decide +kernel
theorem dX9_strike_74 : decode prog_11_method_25_code 74 = .ok (.ldc 168, 2) := by decide +kernel
theorem dX9_strike_76 : decode prog_11_method_25_code 76 = .ok (.ireturn, 1) := by decide +kernel
theorem dX9_strike_77 : decode prog_11_method_25_code 77 = .ok (.aload_n 0, 1) := by decide +kernel
theorem dX9_strike_78 : decode prog_11_method_25_code 78 = .ok (.invokevirtual 131, 3) := by decide +kernel
theorem dX9_strike_81 : decode prog_11_method_25_code 81 = .ok (.aload_n 0, 1) := by decide +kernel
theorem dX9_strike_82 : decode prog_11_method_25_code 82 = .ok (.iload_n 1, 1) := by decide +kernel
theorem dX9_strike_83 : decode prog_11_method_25_code 83 = .ok (.iconst 0, 1) := by decide +kernel
theorem dX9_strike_84 : decode prog_11_method_25_code 84 = .ok (.iload_n 3, 1) := by decide +kernel
theorem dX9_strike_85 : decode prog_11_method_25_code 85 = .ok (.invokevirtual 173, 3) := by decide +kernel
theorem dX9_strike_88 : decode prog_11_method_25_code 88 = .ok (.aload_n 0, 1) := by decide +kernel
theorem dX9_strike_89 : decode prog_11_method_25_code 89 = .ok (.aload_n 0, 1) := by decide +kernel
theorem dX9_strike_90 : decode prog_11_method_25_code 90 = .ok (.iload_n 1, 1) := by decide +kernel
theorem dX9_strike_91 : decode prog_11_method_25_code 91 = .ok (.iload_n 3, 1) := by decide +kernel
theorem dX9_strike_92 : decode prog_11_method_25_code 92 = .ok (.invokevirtual 141, 3) := by decide +kernel
theorem dX9_strike_95 : decode prog_11_method_25_code 95 = .ok (.invokevirtual 177, 3) := by decide +kernel
theorem dX9_strike_98 : decode prog_11_method_25_code 98 = .ok (.aload_n 0, 1) := by decide +kernel
theorem dX9_strike_99 : decode prog_11_method_25_code 99 = .ok (.getfield 147, 3) := by decide +kernel
theorem dX9_strike_102 : decode prog_11_method_25_code 102 = .ok (.istore 5, 2) := by decide +kernel
theorem dX9_strike_104 : decode prog_11_method_25_code 104 = .ok (.iload 5, 2) := by decide +kernel
theorem dX9_strike_106 : decode prog_11_method_25_code 106 = .ok (.iconst 1, 1) := by decide +kernel
theorem dX9_strike_107 : decode prog_11_method_25_code 107 = .ok (.iadd, 1) := by decide +kernel
theorem dX9_strike_108 : decode prog_11_method_25_code 108 = .ok (.aload_n 0, 1) := by decide +kernel
theorem dX9_strike_109 : decode prog_11_method_25_code 109 = .ok (.getfield 110, 3) := by decide +kernel
theorem dX9_strike_112 : decode prog_11_method_25_code 112 = .ok (.if_icmp .ge 25, 3) := by decide +kernel
theorem dX9_strike_115 : decode prog_11_method_25_code 115 = .ok (.aload_n 0, 1) := by decide +kernel
theorem dX9_strike_116 : decode prog_11_method_25_code 116 = .ok (.getfield 41, 3) := by decide +kernel
theorem dX9_strike_119 : decode prog_11_method_25_code 119 = .ok (.iload 5, 2) := by decide +kernel
theorem dX9_strike_121 : decode prog_11_method_25_code 121 = .ok (.aload_n 0, 1) := by decide +kernel
theorem dX9_strike_122 : decode prog_11_method_25_code 122 = .ok (.getfield 41, 3) := by decide +kernel
theorem dX9_strike_125 : decode prog_11_method_25_code 125 = .ok (.iload 5, 2) := by decide +kernel
theorem dX9_strike_127 : decode prog_11_method_25_code 127 = .ok (.iconst 1, 1) := by decide +kernel
theorem dX9_strike_128 : decode prog_11_method_25_code 128 = .ok (.iadd, 1) := by decide +kernel
theorem dX9_strike_129 : decode prog_11_method_25_code 129 = .ok (.iaload, 1) := by decide +kernel
theorem dX9_strike_130 : decode prog_11_method_25_code 130 = .ok (.iastore, 1) := by decide +kernel
theorem dX9_strike_131 : decode prog_11_method_25_code 131 = .ok (.iinc 5 1, 3) := by decide +kernel
theorem dX9_strike_134 : decode prog_11_method_25_code 134 = .ok (.goto (-30), 3) := by decide +kernel
theorem dX9_strike_137 : decode prog_11_method_25_code 137 = .ok (.aload_n 0, 1) := by decide +kernel
theorem dX9_strike_138 : decode prog_11_method_25_code 138 = .ok (.dup, 1) := by decide +kernel
theorem dX9_strike_139 : decode prog_11_method_25_code 139 = .ok (.getfield 110, 3) := by decide +kernel
theorem dX9_strike_142 : decode prog_11_method_25_code 142 = .ok (.iconst 1, 1) := by decide +kernel
theorem dX9_strike_143 : decode prog_11_method_25_code 143 = .ok (.isub, 1) := by decide +kernel
theorem dX9_strike_144 : decode prog_11_method_25_code 144 = .ok (.putfield 110, 3) := by decide +kernel
theorem dX9_strike_147 : decode prog_11_method_25_code 147 = .ok (.aload_n 0, 1) := by decide +kernel
theorem dX9_strike_148 : decode prog_11_method_25_code 148 = .ok (.getfield 110, 3) := by decide +kernel
theorem dX9_strike_151 : decode prog_11_method_25_code 151 = .ok (.ifCond .le 7, 3) := by decide +kernel
theorem dX9_strike_154 : decode prog_11_method_25_code 154 = .ok (.aload_n 0, 1) := by decide +kernel
theorem dX9_strike_155 : decode prog_11_method_25_code 155 = .ok (.invokevirtual 134, 3) := by decide +kernel
theorem dX9_strike_158 : decode prog_11_method_25_code 158 = .ok (.aload_n 0, 1) := by decide +kernel
theorem dX9_strike_159 : decode prog_11_method_25_code 159 = .ok (.iload_n 1, 1) := by decide +kernel
theorem dX9_strike_160 : decode prog_11_method_25_code 160 = .ok (.iload_n 3, 1) := by decide +kernel
theorem dX9_strike_161 : decode prog_11_method_25_code 161 = .ok (.iconst 1, 1) := by decide +kernel
theorem dX9_strike_162 : decode prog_11_method_25_code 162 = .ok (.iadd, 1) := by decide +kernel
theorem dX9_strike_163 : decode prog_11_method_25_code 163 = .ok (.aload_n 0, 1) := by decide +kernel
theorem dX9_strike_164 : decode prog_11_method_25_code 164 = .ok (.getfield 23, 3) := by decide +kernel
theorem dX9_strike_167 : decode prog_11_method_25_code 167 = .ok (.iload_n 1, 1) := by decide +kernel
theorem dX9_strike_168 : decode prog_11_method_25_code 168 = .ok (.iaload, 1) := by decide +kernel
theorem dX9_strike_169 : decode prog_11_method_25_code 169 = .ok (.invokevirtual 173, 3) := by decide +kernel
theorem dX9_strike_172 : decode prog_11_method_25_code 172 = .ok (.aload_n 0, 1) := by decide +kernel
theorem dX9_strike_173 : decode prog_11_method_25_code 173 = .ok (.iload_n 1, 1) := by decide +kernel
theorem dX9_strike_174 : decode prog_11_method_25_code 174 = .ok (.invokevirtual 137, 3) := by decide +kernel
theorem dX9_strike_177 : decode prog_11_method_25_code 177 = .ok (.ireturn, 1) := by decide +kernel
abbrev M_X8_about : am_M := ((⟨"SignCellar", "about", "(II)I"⟩ : MethodName), prog_1_method_7_code, 4, (some .int), 3, 67)
theorem dX8_about_0 : decode prog_1_method_7_code 0 = .ok (.aload_n 0, 1) := by decide +kernel
theorem dX8_about_1 : decode prog_1_method_7_code 1 = .ok (.iload_n 1, 1) := by decide +kernel
theorem dX8_about_2 : decode prog_1_method_7_code 2 = .ok (.invokevirtual 126, 3) := by decide +kernel
theorem dX8_about_5 : decode prog_1_method_7_code 5 = .ok (.astore_n 3, 1) := by decide +kernel
theorem dX8_about_6 : decode prog_1_method_7_code 6 = .ok (.aload_n 3, 1) := by decide +kernel
theorem dX8_about_7 : decode prog_1_method_7_code 7 = .ok (.ifnonnull 6, 3) := by decide +kernel
theorem dX8_about_10 : decode prog_1_method_7_code 10 = .ok (.ldc 133, 2) := by decide +kernel
theorem dX8_about_12 : decode prog_1_method_7_code 12 = .ok (.ireturn, 1) := by decide +kernel
theorem dX8_about_13 : decode prog_1_method_7_code 13 = .ok (.iload_n 2, 1) := by decide +kernel
theorem dX8_about_14 : decode prog_1_method_7_code 14 = .ok (.tableswitch 63 0 4 #[34, 39, 47, 52, 57], 34) := by decide +kernel
theorem dX8_about_48 : decode prog_1_method_7_code 48 = .ok (.aload_n 3, 1) := by decide +kernel
theorem dX8_about_49 : decode prog_1_method_7_code 49 = .ok (.getfield 130, 3) := by decide +kernel
theorem dX8_about_52 : decode prog_1_method_7_code 52 = .ok (.ireturn, 1) := by decide +kernel
theorem dX8_about_53 : decode prog_1_method_7_code 53 = .ok (.aload_n 3, 1) := by decide +kernel
theorem dX8_about_54 : decode prog_1_method_7_code 54 = .ok (.getfield 148, 3) := by decide +kernel
theorem dX8_about_57 : decode prog_1_method_7_code 57 = .ok (.invokevirtual 93, 3) := by decide +kernel
theorem dX8_about_60 : decode prog_1_method_7_code 60 = .ok (.ireturn, 1) := by decide +kernel
theorem dX8_about_61 : decode prog_1_method_7_code 61 = .ok (.aload_n 3, 1) := by decide +kernel
theorem dX8_about_62 : decode prog_1_method_7_code 62 = .ok (.getfield 151, 3) := by decide +kernel
theorem dX8_about_65 : decode prog_1_method_7_code 65 = .ok (.ireturn, 1) := by decide +kernel
theorem dX8_about_66 : decode prog_1_method_7_code 66 = .ok (.aload_n 3, 1) := by decide +kernel
theorem dX8_about_67 : decode prog_1_method_7_code 67 = .ok (.getfield 154, 3) := by decide +kernel
theorem dX8_about_70 : decode prog_1_method_7_code 70 = .ok (.ireturn, 1) := by decide +kernel
theorem dX8_about_71 : decode prog_1_method_7_code 71 = .ok (.aload_n 0, 1) := by decide +kernel
theorem dX8_about_72 : decode prog_1_method_7_code 72 = .ok (.aload_n 3, 1) := by decide +kernel
theorem dX8_about_73 : decode prog_1_method_7_code 73 = .ok (.invokevirtual 157, 3) := by decide +kernel
theorem dX8_about_76 : decode prog_1_method_7_code 76 = .ok (.ireturn, 1) := by decide +kernel
theorem dX8_about_77 : decode prog_1_method_7_code 77 = .ok (.ldc 92, 2) := by decide +kernel
theorem dX8_about_79 : decode prog_1_method_7_code 79 = .ok (.ireturn, 1) := by decide +kernel
abbrev M_X9_about : am_M := ((⟨"SignCellarModel", "about", "(II)I"⟩ : MethodName), prog_11_method_26_code, 3, (some .int), 2, 46)
theorem dX9_about_0 : decode prog_11_method_26_code 0 = .ok (.aload_n 0, 1) := by decide +kernel
theorem dX9_about_1 : decode prog_11_method_26_code 1 = .ok (.iload_n 1, 1) := by decide +kernel
theorem dX9_about_2 : decode prog_11_method_26_code 2 = .ok (.invokevirtual 154, 3) := by decide +kernel
theorem dX9_about_5 : decode prog_11_method_26_code 5 = .ok (.ifCond .eq 6, 3) := by decide +kernel
theorem dX9_about_8 : decode prog_11_method_26_code 8 = .ok (.ldc 164, 2) := by decide +kernel
theorem dX9_about_10 : decode prog_11_method_26_code 10 = .ok (.ireturn, 1) := by decide +kernel
theorem dX9_about_11 : decode prog_11_method_26_code 11 = .ok (.iload_n 2, 1) := by decide +kernel
theorem dX9_about_12 : decode prog_11_method_26_code 12 = .ok (.tableswitch 69 0 4 #[36, 42, 49, 56, 63], 36) := by decide +kernel
theorem dX9_about_48 : decode prog_11_method_26_code 48 = .ok (.aload_n 0, 1) := by decide +kernel
theorem dX9_about_49 : decode prog_11_method_26_code 49 = .ok (.iload_n 1, 1) := by decide +kernel
theorem dX9_about_50 : decode prog_11_method_26_code 50 = .ok (.invokevirtual 157, 3) := by decide +kernel
theorem dX9_about_53 : decode prog_11_method_26_code 53 = .ok (.ireturn, 1) := by decide +kernel
theorem dX9_about_54 : decode prog_11_method_26_code 54 = .ok (.aload_n 0, 1) := by decide +kernel
theorem dX9_about_55 : decode prog_11_method_26_code 55 = .ok (.getfield 23, 3) := by decide +kernel
theorem dX9_about_58 : decode prog_11_method_26_code 58 = .ok (.iload_n 1, 1) := by decide +kernel
theorem dX9_about_59 : decode prog_11_method_26_code 59 = .ok (.iaload, 1) := by decide +kernel
theorem dX9_about_60 : decode prog_11_method_26_code 60 = .ok (.ireturn, 1) := by decide +kernel
theorem dX9_about_61 : decode prog_11_method_26_code 61 = .ok (.aload_n 0, 1) := by decide +kernel
theorem dX9_about_62 : decode prog_11_method_26_code 62 = .ok (.getfield 29, 3) := by decide +kernel
theorem dX9_about_65 : decode prog_11_method_26_code 65 = .ok (.iload_n 1, 1) := by decide +kernel
theorem dX9_about_66 : decode prog_11_method_26_code 66 = .ok (.iaload, 1) := by decide +kernel
theorem dX9_about_67 : decode prog_11_method_26_code 67 = .ok (.ireturn, 1) := by decide +kernel
theorem dX9_about_68 : decode prog_11_method_26_code 68 = .ok (.aload_n 0, 1) := by decide +kernel
theorem dX9_about_69 : decode prog_11_method_26_code 69 = .ok (.getfield 32, 3) := by decide +kernel
theorem dX9_about_72 : decode prog_11_method_26_code 72 = .ok (.iload_n 1, 1) := by decide +kernel
theorem dX9_about_73 : decode prog_11_method_26_code 73 = .ok (.iaload, 1) := by decide +kernel
theorem dX9_about_74 : decode prog_11_method_26_code 74 = .ok (.ireturn, 1) := by decide +kernel
theorem dX9_about_75 : decode prog_11_method_26_code 75 = .ok (.aload_n 0, 1) := by decide +kernel
theorem dX9_about_76 : decode prog_11_method_26_code 76 = .ok (.iload_n 1, 1) := by decide +kernel
theorem dX9_about_77 : decode prog_11_method_26_code 77 = .ok (.invokevirtual 165, 3) := by decide +kernel
theorem dX9_about_80 : decode prog_11_method_26_code 80 = .ok (.ireturn, 1) := by decide +kernel
theorem dX9_about_81 : decode prog_11_method_26_code 81 = .ok (.ldc 105, 2) := by decide +kernel
theorem dX9_about_83 : decode prog_11_method_26_code 83 = .ok (.ireturn, 1) := by decide +kernel
abbrev M_X8_block : am_M := ((⟨"SignCellar", "block", "(II)I"⟩ : MethodName), prog_1_method_8_code, 4, (some .int), 1, 21)
theorem dX8_block_0 : decode prog_1_method_8_code 0 = .ok (.aload_n 0, 1) := by decide +kernel
theorem dX8_block_1 : decode prog_1_method_8_code 1 = .ok (.iload_n 1, 1) := by decide +kernel
theorem dX8_block_2 : decode prog_1_method_8_code 2 = .ok (.invokevirtual 126, 3) := by decide +kernel
theorem dX8_block_5 : decode prog_1_method_8_code 5 = .ok (.astore_n 3, 1) := by decide +kernel
theorem dX8_block_6 : decode prog_1_method_8_code 6 = .ok (.aload_n 3, 1) := by decide +kernel
theorem dX8_block_7 : decode prog_1_method_8_code 7 = .ok (.ifnonnull 8, 3) := by decide +kernel
theorem dX8_block_10 : decode prog_1_method_8_code 10 = .ok (.ldc 133, 2) := by decide +kernel
theorem dX8_block_12 : decode prog_1_method_8_code 12 = .ok (.goto 11, 3) := by decide +kernel
theorem dX8_block_15 : decode prog_1_method_8_code 15 = .ok (.aload_n 3, 1) := by decide +kernel
theorem dX8_block_16 : decode prog_1_method_8_code 16 = .ok (.getfield 148, 3) := by decide +kernel
theorem dX8_block_19 : decode prog_1_method_8_code 19 = .ok (.iload_n 2, 1) := by decide +kernel
theorem dX8_block_20 : decode prog_1_method_8_code 20 = .ok (.invokevirtual 161, 3) := by decide +kernel
theorem dX8_block_23 : decode prog_1_method_8_code 23 = .ok (.ireturn, 1) := by decide +kernel
abbrev M_X9_block : am_M := ((⟨"SignCellarModel", "block", "(II)I"⟩ : MethodName), prog_11_method_27_code, 3, (some .int), 2, 46)
theorem dX9_block_0 : decode prog_11_method_27_code 0 = .ok (.aload_n 0, 1) := by decide +kernel
theorem dX9_block_1 : decode prog_11_method_27_code 1 = .ok (.iload_n 1, 1) := by decide +kernel
theorem dX9_block_2 : decode prog_11_method_27_code 2 = .ok (.invokevirtual 154, 3) := by decide +kernel
theorem dX9_block_5 : decode prog_11_method_27_code 5 = .ok (.ifCond .eq 6, 3) := by decide +kernel
theorem dX9_block_8 : decode prog_11_method_27_code 8 = .ok (.ldc 164, 2) := by decide +kernel
theorem dX9_block_10 : decode prog_11_method_27_code 10 = .ok (.ireturn, 1) := by decide +kernel
theorem dX9_block_11 : decode prog_11_method_27_code 11 = .ok (.iload_n 2, 1) := by decide +kernel
theorem dX9_block_12 : decode prog_11_method_27_code 12 = .ok (.i2l, 1) := by decide +kernel
theorem dX9_block_13 : decode prog_11_method_27_code 13 = .ok (.lconst 0, 1) := by decide +kernel
theorem dX9_block_14 : decode prog_11_method_27_code 14 = .ok (.aload_n 0, 1) := by decide +kernel
theorem dX9_block_15 : decode prog_11_method_27_code 15 = .ok (.getfield 23, 3) := by decide +kernel
theorem dX9_block_18 : decode prog_11_method_27_code 18 = .ok (.iload_n 1, 1) := by decide +kernel
theorem dX9_block_19 : decode prog_11_method_27_code 19 = .ok (.iaload, 1) := by decide +kernel
theorem dX9_block_20 : decode prog_11_method_27_code 20 = .ok (.iconst 1, 1) := by decide +kernel
theorem dX9_block_21 : decode prog_11_method_27_code 21 = .ok (.isub, 1) := by decide +kernel
theorem dX9_block_22 : decode prog_11_method_27_code 22 = .ok (.i2l, 1) := by decide +kernel
theorem dX9_block_23 : decode prog_11_method_27_code 23 = .ok (.invokestatic 96, 3) := by decide +kernel
theorem dX9_block_26 : decode prog_11_method_27_code 26 = .ok (.ifCond .eq 12, 3) := by decide +kernel
theorem dX9_block_29 : decode prog_11_method_27_code 29 = .ok (.aload_n 0, 1) := by decide +kernel
theorem dX9_block_30 : decode prog_11_method_27_code 30 = .ok (.iload_n 1, 1) := by decide +kernel
theorem dX9_block_31 : decode prog_11_method_27_code 31 = .ok (.iload_n 2, 1) := by decide +kernel
theorem dX9_block_32 : decode prog_11_method_27_code 32 = .ok (.invokevirtual 141, 3) := by decide +kernel
theorem dX9_block_35 : decode prog_11_method_27_code 35 = .ok (.goto 4, 3) := by decide +kernel
theorem dX9_block_38 : decode prog_11_method_27_code 38 = .ok (.iconst (-1), 1) := by decide +kernel
theorem dX9_block_39 : decode prog_11_method_27_code 39 = .ok (.ireturn, 1) := by decide +kernel
abbrev M_X8_open : am_M := ((⟨"SignCellar", "open", "(II)I"⟩ : MethodName), prog_1_method_9_code, 5, (some .int), 3, 68)
theorem dX8_open_0 : decode prog_1_method_9_code 0 = .ok (.aload_n 0, 1) := by decide +kernel
theorem dX8_open_1 : decode prog_1_method_9_code 1 = .ok (.iload_n 1, 1) := by decide +kernel
theorem dX8_open_2 : decode prog_1_method_9_code 2 = .ok (.invokevirtual 126, 3) := by decide +kernel
theorem dX8_open_5 : decode prog_1_method_9_code 5 = .ok (.astore_n 3, 1) := by decide +kernel
theorem dX8_open_6 : decode prog_1_method_9_code 6 = .ok (.aload_n 3, 1) := by decide +kernel
theorem dX8_open_7 : decode prog_1_method_9_code 7 = .ok (.ifnull 15, 3) := by decide +kernel
theorem dX8_open_10 : decode prog_1_method_9_code 10 = .ok (.iload_n 2, 1) := by decide +kernel
theorem dX8_open_11 : decode prog_1_method_9_code 11 = .ok (.ifCond .lt 11, 3) := by decide +kernel
theorem dX8_open_14 : decode prog_1_method_9_code 14 = .ok (.iload_n 2, 1) := by decide +kernel
theorem dX8_open_15 : decode prog_1_method_9_code 15 = .ok (.aload_n 3, 1) := by decide +kernel
theorem dX8_open_16 : decode prog_1_method_9_code 16 = .ok (.getfield 130, 3) := by decide +kernel
theorem dX8_open_19 : decode prog_1_method_9_code 19 = .ok (.if_icmp .lt 6, 3) := by decide +kernel
theorem dX8_open_22 : decode prog_1_method_9_code 22 = .ok (.ldc 133, 2) := by decide +kernel
theorem dX8_open_24 : decode prog_1_method_9_code 24 = .ok (.ireturn, 1) := by decide +kernel
theorem dX8_open_25 : decode prog_1_method_9_code 25 = .ok (.aload_n 0, 1) := by decide +kernel
theorem dX8_open_26 : decode prog_1_method_9_code 26 = .ok (.aload_n 3, 1) := by decide +kernel
theorem dX8_open_27 : decode prog_1_method_9_code 27 = .ok (.iload_n 2, 1) := by decide +kernel
theorem dX8_open_28 : decode prog_1_method_9_code 28 = .ok (.invokevirtual 141, 3) := by decide +kernel
theorem dX8_open_31 : decode prog_1_method_9_code 31 = .ok (.istore 4, 2) := by decide +kernel
theorem dX8_open_33 : decode prog_1_method_9_code 33 = .ok (.aload_n 0, 1) := by decide +kernel
theorem dX8_open_34 : decode prog_1_method_9_code 34 = .ok (.aload_n 3, 1) := by decide +kernel
theorem dX8_open_35 : decode prog_1_method_9_code 35 = .ok (.iload 4, 2) := by decide +kernel
theorem dX8_open_37 : decode prog_1_method_9_code 37 = .ok (.invokevirtual 164, 3) := by decide +kernel
theorem dX8_open_40 : decode prog_1_method_9_code 40 = .ok (.ifCond .eq 6, 3) := by decide +kernel
theorem dX8_open_43 : decode prog_1_method_9_code 43 = .ok (.ldc 168, 2) := by decide +kernel
theorem dX8_open_45 : decode prog_1_method_9_code 45 = .ok (.ireturn, 1) := by decide +kernel
theorem dX8_open_46 : decode prog_1_method_9_code 46 = .ok (.aload_n 0, 1) := by decide +kernel
theorem dX8_open_47 : decode prog_1_method_9_code 47 = .ok (.aload_n 3, 1) := by decide +kernel
theorem dX8_open_48 : decode prog_1_method_9_code 48 = .ok (.iload 4, 2) := by decide +kernel
theorem dX8_open_50 : decode prog_1_method_9_code 50 = .ok (.iload_n 2, 1) := by decide +kernel
theorem dX8_open_51 : decode prog_1_method_9_code 51 = .ok (.aload_n 0, 1) := by decide +kernel
theorem dX8_open_52 : decode prog_1_method_9_code 52 = .ok (.aload_n 3, 1) := by decide +kernel
theorem dX8_open_53 : decode prog_1_method_9_code 53 = .ok (.iload 4, 2) := by decide +kernel
theorem dX8_open_55 : decode prog_1_method_9_code 55 = .ok (.invokevirtual 169, 3) := by decide +kernel
theorem dX8_open_58 : decode prog_1_method_9_code 58 = .ok (.isub, 1) := by decide +kernel
theorem dX8_open_59 : decode prog_1_method_9_code 59 = .ok (.invokevirtual 172, 3) := by decide +kernel
theorem dX8_open_62 : decode prog_1_method_9_code 62 = .ok (.ireturn, 1) := by decide +kernel
abbrev M_X9_open : am_M := ((⟨"SignCellarModel", "open", "(II)I"⟩ : MethodName), prog_11_method_28_code, 4, (some .int), 3, 69)
theorem dX9_open_0 : decode prog_11_method_28_code 0 = .ok (.aload_n 0, 1) := by decide +kernel
theorem dX9_open_1 : decode prog_11_method_28_code 1 = .ok (.iload_n 1, 1) := by decide +kernel
theorem dX9_open_2 : decode prog_11_method_28_code 2 = .ok (.iload_n 2, 1) := by decide +kernel
theorem dX9_open_3 : decode prog_11_method_28_code 3 = .ok (.iconst 0, 1) := by decide +kernel
theorem dX9_open_4 : decode prog_11_method_28_code 4 = .ok (.invokevirtual 160, 3) := by decide +kernel
theorem dX9_open_7 : decode prog_11_method_28_code 7 = .ok (.ifCond .eq 6, 3) := by decide +kernel
theorem dX9_open_10 : decode prog_11_method_28_code 10 = .ok (.ldc 164, 2) := by decide +kernel
theorem dX9_open_12 : decode prog_11_method_28_code 12 = .ok (.ireturn, 1) := by decide +kernel
theorem dX9_open_13 : decode prog_11_method_28_code 13 = .ok (.aload_n 0, 1) := by decide +kernel
theorem dX9_open_14 : decode prog_11_method_28_code 14 = .ok (.iload_n 1, 1) := by decide +kernel
theorem dX9_open_15 : decode prog_11_method_28_code 15 = .ok (.iload_n 2, 1) := by decide +kernel
theorem dX9_open_16 : decode prog_11_method_28_code 16 = .ok (.invokevirtual 169, 3) := by decide +kernel
theorem dX9_open_19 : decode prog_11_method_28_code 19 = .ok (.aload_n 0, 1) := by decide +kernel
theorem dX9_open_20 : decode prog_11_method_28_code 20 = .ok (.iload_n 1, 1) := by decide +kernel
theorem dX9_open_21 : decode prog_11_method_28_code 21 = .ok (.aload_n 0, 1) := by decide +kernel
theorem dX9_open_22 : decode prog_11_method_28_code 22 = .ok (.getfield 144, 3) := by decide +kernel
theorem dX9_open_25 : decode prog_11_method_28_code 25 = .ok (.invokevirtual 141, 3) := by decide +kernel
theorem dX9_open_28 : decode prog_11_method_28_code 28 = .ok (.istore_n 3, 1) := by decide +kernel
theorem dX9_open_29 : decode prog_11_method_28_code 29 = .ok (.aload_n 0, 1) := by decide +kernel
theorem dX9_open_30 : decode prog_11_method_28_code 30 = .ok (.getfield 19, 3) := by decide +kernel
theorem dX9_open_33 : decode prog_11_method_28_code 33 = .ok (.iload_n 3, 1) := by decide +kernel
theorem dX9_open_34 : decode prog_11_method_28_code 34 = .ok (.baload, 1) := by decide +kernel
theorem dX9_open_35 : decode prog_11_method_28_code 35 = .ok (.ifCond .eq 8, 3) := by decide +kernel
theorem dX9_open_38 : decode prog_11_method_28_code 38 = .ok (.ldc 168, 2) := by decide +kernel
theorem dX9_open_40 : decode prog_11_method_28_code 40 = .ok (.goto 12, 3) := by decide +kernel
theorem dX9_open_43 : decode prog_11_method_28_code 43 = .ok (.aload_n 0, 1) := by decide +kernel
theorem dX9_open_44 : decode prog_11_method_28_code 44 = .ok (.iload_n 3, 1) := by decide +kernel
theorem dX9_open_45 : decode prog_11_method_28_code 45 = .ok (.aload_n 0, 1) := by decide +kernel
theorem dX9_open_46 : decode prog_11_method_28_code 46 = .ok (.getfield 147, 3) := by decide +kernel
theorem dX9_open_49 : decode prog_11_method_28_code 49 = .ok (.invokevirtual 113, 3) := by decide +kernel
theorem dX9_open_52 : decode prog_11_method_28_code 52 = .ok (.ireturn, 1) := by decide +kernel
abbrev M_X4_firstOf : am_M := ((⟨"SignCellar$Row", "firstOf", "(I)I"⟩ : MethodName), prog_6_method_10_code, 3, (some .int), 1, 21)
theorem dX4_firstOf_0 : decode prog_6_method_10_code 0 = .ok (.iconst 0, 1) := by decide +kernel
theorem dX4_firstOf_1 : decode prog_6_method_10_code 1 = .ok (.istore_n 2, 1) := by decide +kernel
theorem dX4_firstOf_2 : decode prog_6_method_10_code 2 = .ok (.iload_n 2, 1) := by decide +kernel
theorem dX4_firstOf_3 : decode prog_6_method_10_code 3 = .ok (.aload_n 0, 1) := by decide +kernel
theorem dX4_firstOf_4 : decode prog_6_method_10_code 4 = .ok (.getfield 9, 3) := by decide +kernel
theorem dX4_firstOf_7 : decode prog_6_method_10_code 7 = .ok (.if_icmp .ge 20, 3) := by decide +kernel
theorem dX4_firstOf_10 : decode prog_6_method_10_code 10 = .ok (.aload_n 0, 1) := by decide +kernel
theorem dX4_firstOf_11 : decode prog_6_method_10_code 11 = .ok (.iload_n 2, 1) := by decide +kernel
theorem dX4_firstOf_12 : decode prog_6_method_10_code 12 = .ok (.invokevirtual 25, 3) := by decide +kernel
theorem dX4_firstOf_15 : decode prog_6_method_10_code 15 = .ok (.iload_n 1, 1) := by decide +kernel
theorem dX4_firstOf_16 : decode prog_6_method_10_code 16 = .ok (.if_icmp .ne 5, 3) := by decide +kernel
theorem dX4_firstOf_19 : decode prog_6_method_10_code 19 = .ok (.iload_n 2, 1) := by decide +kernel
theorem dX4_firstOf_20 : decode prog_6_method_10_code 20 = .ok (.ireturn, 1) := by decide +kernel
theorem dX4_firstOf_21 : decode prog_6_method_10_code 21 = .ok (.iinc 2 1, 3) := by decide +kernel
theorem dX4_firstOf_24 : decode prog_6_method_10_code 24 = .ok (.goto (-22), 3) := by decide +kernel
theorem dX4_firstOf_27 : decode prog_6_method_10_code 27 = .ok (.iconst (-1), 1) := by decide +kernel
theorem dX4_firstOf_28 : decode prog_6_method_10_code 28 = .ok (.ireturn, 1) := by decide +kernel
abbrev M_X4_has : am_M := ((⟨"SignCellar$Row", "has", "(I)Z"⟩ : MethodName), prog_6_method_11_code, 2, (some .boolean), 2, 43)
theorem dX4_has_0 : decode prog_6_method_11_code 0 = .ok (.aload_n 0, 1) := by decide +kernel
theorem dX4_has_1 : decode prog_6_method_11_code 1 = .ok (.iload_n 1, 1) := by decide +kernel
theorem dX4_has_2 : decode prog_6_method_11_code 2 = .ok (.invokevirtual 40, 3) := by decide +kernel
theorem dX4_has_5 : decode prog_6_method_11_code 5 = .ok (.iconst (-1), 1) := by decide +kernel
theorem dX4_has_6 : decode prog_6_method_11_code 6 = .ok (.if_icmp .eq 7, 3) := by decide +kernel
theorem dX4_has_9 : decode prog_6_method_11_code 9 = .ok (.iconst 1, 1) := by decide +kernel
theorem dX4_has_10 : decode prog_6_method_11_code 10 = .ok (.goto 4, 3) := by decide +kernel
theorem dX4_has_13 : decode prog_6_method_11_code 13 = .ok (.iconst 0, 1) := by decide +kernel
theorem dX4_has_14 : decode prog_6_method_11_code 14 = .ok (.ireturn, 1) := by decide +kernel
abbrev M_X8_versionsWith : am_M := ((⟨"SignCellar", "versionsWith", "(I)I"⟩ : MethodName), prog_1_method_41_code, 5, (some .int), 3, 64)
theorem dX8_versionsWith_0 : decode prog_1_method_41_code 0 = .ok (.iconst 0, 1) := by decide +kernel
theorem dX8_versionsWith_1 : decode prog_1_method_41_code 1 = .ok (.istore_n 2, 1) := by decide +kernel
theorem dX8_versionsWith_2 : decode prog_1_method_41_code 2 = .ok (.iconst 0, 1) := by decide +kernel
theorem dX8_versionsWith_3 : decode prog_1_method_41_code 3 = .ok (.istore_n 3, 1) := by decide +kernel
theorem dX8_versionsWith_4 : decode prog_1_method_41_code 4 = .ok (.iload_n 3, 1) := by decide +kernel
theorem dX8_versionsWith_5 : decode prog_1_method_41_code 5 = .ok (.aload_n 0, 1) := by decide +kernel
theorem dX8_versionsWith_6 : decode prog_1_method_41_code 6 = .ok (.getfield 37, 3) := by decide +kernel
theorem dX8_versionsWith_9 : decode prog_1_method_41_code 9 = .ok (.if_icmp .ge 36, 3) := by decide +kernel
theorem dX8_versionsWith_12 : decode prog_1_method_41_code 12 = .ok (.aload_n 0, 1) := by decide +kernel
theorem dX8_versionsWith_13 : decode prog_1_method_41_code 13 = .ok (.iload_n 3, 1) := by decide +kernel
theorem dX8_versionsWith_14 : decode prog_1_method_41_code 14 = .ok (.invokevirtual 126, 3) := by decide +kernel
theorem dX8_versionsWith_17 : decode prog_1_method_41_code 17 = .ok (.astore 4, 2) := by decide +kernel
theorem dX8_versionsWith_19 : decode prog_1_method_41_code 19 = .ok (.aload 4, 2) := by decide +kernel
theorem dX8_versionsWith_21 : decode prog_1_method_41_code 21 = .ok (.ifnull 18, 3) := by decide +kernel
theorem dX8_versionsWith_24 : decode prog_1_method_41_code 24 = .ok (.aload 4, 2) := by decide +kernel
theorem dX8_versionsWith_26 : decode prog_1_method_41_code 26 = .ok (.getfield 148, 3) := by decide +kernel
theorem dX8_versionsWith_29 : decode prog_1_method_41_code 29 = .ok (.iload_n 1, 1) := by decide +kernel
theorem dX8_versionsWith_30 : decode prog_1_method_41_code 30 = .ok (.invokevirtual 198, 3) := by decide +kernel
theorem dX8_versionsWith_33 : decode prog_1_method_41_code 33 = .ok (.ifCond .eq 6, 3) := by decide +kernel
theorem dX8_versionsWith_36 : decode prog_1_method_41_code 36 = .ok (.iinc 2 1, 3) := by decide +kernel
theorem dX8_versionsWith_39 : decode prog_1_method_41_code 39 = .ok (.iinc 3 1, 3) := by decide +kernel
theorem dX8_versionsWith_42 : decode prog_1_method_41_code 42 = .ok (.goto (-38), 3) := by decide +kernel
theorem dX8_versionsWith_45 : decode prog_1_method_41_code 45 = .ok (.iload_n 2, 1) := by decide +kernel
theorem dX8_versionsWith_46 : decode prog_1_method_41_code 46 = .ok (.ireturn, 1) := by decide +kernel
abbrev M_X8_told : am_M := ((⟨"SignCellar", "told", "(II)I"⟩ : MethodName), prog_1_method_10_code, 4, (some .int), 4, 88)
theorem dX8_told_0 : decode prog_1_method_10_code 0 = .ok (.aload_n 0, 1) := by decide +kernel
theorem dX8_told_1 : decode prog_1_method_10_code 1 = .ok (.iload_n 1, 1) := by decide +kernel
theorem dX8_told_2 : decode prog_1_method_10_code 2 = .ok (.invokevirtual 176, 3) := by decide +kernel
theorem dX8_told_5 : decode prog_1_method_10_code 5 = .ok (.astore_n 3, 1) := by decide +kernel
theorem dX8_told_6 : decode prog_1_method_10_code 6 = .ok (.aload_n 3, 1) := by decide +kernel
theorem dX8_told_7 : decode prog_1_method_10_code 7 = .ok (.ifnonnull 6, 3) := by decide +kernel
theorem dX8_told_10 : decode prog_1_method_10_code 10 = .ok (.ldc 133, 2) := by decide +kernel
theorem dX8_told_12 : decode prog_1_method_10_code 12 = .ok (.ireturn, 1) := by decide +kernel
theorem dX8_told_13 : decode prog_1_method_10_code 13 = .ok (.iload_n 2, 1) := by decide +kernel
theorem dX8_told_14 : decode prog_1_method_10_code 14 = .ok (.tableswitch 53 0 2 #[26, 34, 47], 26) := by decide +kernel
theorem dX8_told_40 : decode prog_1_method_10_code 40 = .ok (.aload_n 3, 1) := by decide +kernel
theorem dX8_told_41 : decode prog_1_method_10_code 41 = .ok (.getfield 180, 3) := by decide +kernel
theorem dX8_told_44 : decode prog_1_method_10_code 44 = .ok (.invokevirtual 93, 3) := by decide +kernel
theorem dX8_told_47 : decode prog_1_method_10_code 47 = .ok (.ireturn, 1) := by decide +kernel
theorem dX8_told_48 : decode prog_1_method_10_code 48 = .ok (.aload_n 3, 1) := by decide +kernel
theorem dX8_told_49 : decode prog_1_method_10_code 49 = .ok (.getfield 182, 3) := by decide +kernel
theorem dX8_told_52 : decode prog_1_method_10_code 52 = .ok (.ifCond .eq 7, 3) := by decide +kernel
theorem dX8_told_55 : decode prog_1_method_10_code 55 = .ok (.iconst 1, 1) := by decide +kernel
theorem dX8_told_56 : decode prog_1_method_10_code 56 = .ok (.goto 4, 3) := by decide +kernel
theorem dX8_told_59 : decode prog_1_method_10_code 59 = .ok (.iconst 0, 1) := by decide +kernel
theorem dX8_told_60 : decode prog_1_method_10_code 60 = .ok (.ireturn, 1) := by decide +kernel
theorem dX8_told_61 : decode prog_1_method_10_code 61 = .ok (.aload_n 0, 1) := by decide +kernel
theorem dX8_told_62 : decode prog_1_method_10_code 62 = .ok (.iload_n 1, 1) := by decide +kernel
theorem dX8_told_63 : decode prog_1_method_10_code 63 = .ok (.invokevirtual 186, 3) := by decide +kernel
theorem dX8_told_66 : decode prog_1_method_10_code 66 = .ok (.ireturn, 1) := by decide +kernel
theorem dX8_told_67 : decode prog_1_method_10_code 67 = .ok (.ldc 92, 2) := by decide +kernel
theorem dX8_told_69 : decode prog_1_method_10_code 69 = .ok (.ireturn, 1) := by decide +kernel
abbrev M_X9_noBlock : am_M := ((⟨"SignCellarModel", "noBlock", "(I)Z"⟩ : MethodName), prog_11_method_6_code, 2, (some .boolean), 1, 25)
theorem dX9_noBlock_0 : decode prog_11_method_6_code 0 = .ok (.iload_n 1, 1) := by decide +kernel
theorem dX9_noBlock_1 : decode prog_11_method_6_code 1 = .ok (.i2l, 1) := by decide +kernel
theorem dX9_noBlock_2 : decode prog_11_method_6_code 2 = .ok (.lconst 0, 1) := by decide +kernel
theorem dX9_noBlock_3 : decode prog_11_method_6_code 3 = .ok (.aload_n 0, 1) := by decide +kernel
theorem dX9_noBlock_4 : decode prog_11_method_6_code 4 = .ok (.getfield 100, 3) := by decide +kernel
theorem dX9_noBlock_7 : decode prog_11_method_6_code 7 = .ok (.iconst 1, 1) := by decide +kernel
theorem dX9_noBlock_8 : decode prog_11_method_6_code 8 = .ok (.isub, 1) := by decide +kernel
theorem dX9_noBlock_9 : decode prog_11_method_6_code 9 = .ok (.i2l, 1) := by decide +kernel
theorem dX9_noBlock_10 : decode prog_11_method_6_code 10 = .ok (.invokestatic 96, 3) := by decide +kernel
theorem dX9_noBlock_13 : decode prog_11_method_6_code 13 = .ok (.ifCond .ne 7, 3) := by decide +kernel
theorem dX9_noBlock_16 : decode prog_11_method_6_code 16 = .ok (.iconst 1, 1) := by decide +kernel
theorem dX9_noBlock_17 : decode prog_11_method_6_code 17 = .ok (.goto 4, 3) := by decide +kernel
theorem dX9_noBlock_20 : decode prog_11_method_6_code 20 = .ok (.iconst 0, 1) := by decide +kernel
theorem dX9_noBlock_21 : decode prog_11_method_6_code 21 = .ok (.ireturn, 1) := by decide +kernel
abbrev M_X9_has : am_M := ((⟨"SignCellarModel", "has", "(II)Z"⟩ : MethodName), prog_11_method_29_code, 5, (some .boolean), 1, 22)
theorem dX9_has_0 : decode prog_11_method_29_code 0 = .ok (.iconst 0, 1) := by decide +kernel
theorem dX9_has_1 : decode prog_11_method_29_code 1 = .ok (.istore_n 3, 1) := by decide +kernel
theorem dX9_has_2 : decode prog_11_method_29_code 2 = .ok (.iconst 0, 1) := by decide +kernel
theorem dX9_has_3 : decode prog_11_method_29_code 3 = .ok (.istore 4, 2) := by decide +kernel
theorem dX9_has_5 : decode prog_11_method_29_code 5 = .ok (.iload 4, 2) := by decide +kernel
theorem dX9_has_7 : decode prog_11_method_29_code 7 = .ok (.aload_n 0, 1) := by decide +kernel
theorem dX9_has_8 : decode prog_11_method_29_code 8 = .ok (.getfield 23, 3) := by decide +kernel
theorem dX9_has_11 : decode prog_11_method_29_code 11 = .ok (.iload_n 1, 1) := by decide +kernel
theorem dX9_has_12 : decode prog_11_method_29_code 12 = .ok (.iaload, 1) := by decide +kernel
theorem dX9_has_13 : decode prog_11_method_29_code 13 = .ok (.if_icmp .ge 30, 3) := by decide +kernel
theorem dX9_has_16 : decode prog_11_method_29_code 16 = .ok (.iload_n 3, 1) := by decide +kernel
theorem dX9_has_17 : decode prog_11_method_29_code 17 = .ok (.ifCond .ne 14, 3) := by decide +kernel
theorem dX9_has_20 : decode prog_11_method_29_code 20 = .ok (.aload_n 0, 1) := by decide +kernel
theorem dX9_has_21 : decode prog_11_method_29_code 21 = .ok (.iload_n 1, 1) := by decide +kernel
theorem dX9_has_22 : decode prog_11_method_29_code 22 = .ok (.iload 4, 2) := by decide +kernel
theorem dX9_has_24 : decode prog_11_method_29_code 24 = .ok (.invokevirtual 141, 3) := by decide +kernel
theorem dX9_has_27 : decode prog_11_method_29_code 27 = .ok (.iload_n 2, 1) := by decide +kernel
theorem dX9_has_28 : decode prog_11_method_29_code 28 = .ok (.if_icmp .ne 7, 3) := by decide +kernel
theorem dX9_has_31 : decode prog_11_method_29_code 31 = .ok (.iconst 1, 1) := by decide +kernel
theorem dX9_has_32 : decode prog_11_method_29_code 32 = .ok (.goto 4, 3) := by decide +kernel
theorem dX9_has_35 : decode prog_11_method_29_code 35 = .ok (.iconst 0, 1) := by decide +kernel
theorem dX9_has_36 : decode prog_11_method_29_code 36 = .ok (.istore_n 3, 1) := by decide +kernel
theorem dX9_has_37 : decode prog_11_method_29_code 37 = .ok (.iinc 4 1, 3) := by decide +kernel
theorem dX9_has_40 : decode prog_11_method_29_code 40 = .ok (.goto (-35), 3) := by decide +kernel
theorem dX9_has_43 : decode prog_11_method_29_code 43 = .ok (.iload_n 3, 1) := by decide +kernel
theorem dX9_has_44 : decode prog_11_method_29_code 44 = .ok (.ireturn, 1) := by decide +kernel
abbrev M_X9_told : am_M := ((⟨"SignCellarModel", "told", "(II)I"⟩ : MethodName), prog_11_method_30_code, 5, (some .int), 2, 46)
theorem dX9_told_0 : decode prog_11_method_30_code 0 = .ok (.aload_n 0, 1) := by decide +kernel
theorem dX9_told_1 : decode prog_11_method_30_code 1 = .ok (.iload_n 1, 1) := by decide +kernel
theorem dX9_told_2 : decode prog_11_method_30_code 2 = .ok (.invokevirtual 184, 3) := by decide +kernel
theorem dX9_told_5 : decode prog_11_method_30_code 5 = .ok (.ifCond .eq 6, 3) := by decide +kernel
theorem dX9_told_8 : decode prog_11_method_30_code 8 = .ok (.ldc 164, 2) := by decide +kernel
theorem dX9_told_10 : decode prog_11_method_30_code 10 = .ok (.ireturn, 1) := by decide +kernel
theorem dX9_told_11 : decode prog_11_method_30_code 11 = .ok (.iconst 0, 1) := by decide +kernel
theorem dX9_told_12 : decode prog_11_method_30_code 12 = .ok (.istore_n 3, 1) := by decide +kernel
theorem dX9_told_13 : decode prog_11_method_30_code 13 = .ok (.iconst 0, 1) := by decide +kernel
theorem dX9_told_14 : decode prog_11_method_30_code 14 = .ok (.istore 4, 2) := by decide +kernel
theorem dX9_told_16 : decode prog_11_method_30_code 16 = .ok (.iload 4, 2) := by decide +kernel
theorem dX9_told_18 : decode prog_11_method_30_code 18 = .ok (.aload_n 0, 1) := by decide +kernel
theorem dX9_told_19 : decode prog_11_method_30_code 19 = .ok (.getfield 92, 3) := by decide +kernel
theorem dX9_told_22 : decode prog_11_method_30_code 22 = .ok (.if_icmp .ge 22, 3) := by decide +kernel
theorem dX9_told_25 : decode prog_11_method_30_code 25 = .ok (.iload_n 3, 1) := by decide +kernel
theorem dX9_told_26 : decode prog_11_method_30_code 26 = .ok (.aload_n 0, 1) := by decide +kernel
theorem dX9_told_27 : decode prog_11_method_30_code 27 = .ok (.iload 4, 2) := by decide +kernel
theorem dX9_told_29 : decode prog_11_method_30_code 29 = .ok (.iload_n 1, 1) := by decide +kernel
theorem dX9_told_30 : decode prog_11_method_30_code 30 = .ok (.invokevirtual 187, 3) := by decide +kernel
theorem dX9_told_33 : decode prog_11_method_30_code 33 = .ok (.invokestatic 150, 3) := by decide +kernel
theorem dX9_told_36 : decode prog_11_method_30_code 36 = .ok (.iadd, 1) := by decide +kernel
theorem dX9_told_37 : decode prog_11_method_30_code 37 = .ok (.istore_n 3, 1) := by decide +kernel
theorem dX9_told_38 : decode prog_11_method_30_code 38 = .ok (.iinc 4 1, 3) := by decide +kernel
theorem dX9_told_41 : decode prog_11_method_30_code 41 = .ok (.goto (-25), 3) := by decide +kernel
theorem dX9_told_44 : decode prog_11_method_30_code 44 = .ok (.iload_n 2, 1) := by decide +kernel
theorem dX9_told_45 : decode prog_11_method_30_code 45 = .ok (.ifCond .ne 12, 3) := by decide +kernel
theorem dX9_told_48 : decode prog_11_method_30_code 48 = .ok (.aload_n 0, 1) := by decide +kernel
theorem dX9_told_49 : decode prog_11_method_30_code 49 = .ok (.getfield 13, 3) := by decide +kernel
theorem dX9_told_52 : decode prog_11_method_30_code 52 = .ok (.iload_n 1, 1) := by decide +kernel
theorem dX9_told_53 : decode prog_11_method_30_code 53 = .ok (.iaload, 1) := by decide +kernel
theorem dX9_told_54 : decode prog_11_method_30_code 54 = .ok (.goto 31, 3) := by decide +kernel
theorem dX9_told_57 : decode prog_11_method_30_code 57 = .ok (.iload_n 2, 1) := by decide +kernel
theorem dX9_told_58 : decode prog_11_method_30_code 58 = .ok (.iconst 1, 1) := by decide +kernel
theorem dX9_told_59 : decode prog_11_method_30_code 59 = .ok (.if_icmp .ne 15, 3) := by decide +kernel
theorem dX9_told_62 : decode prog_11_method_30_code 62 = .ok (.aload_n 0, 1) := by decide +kernel
theorem dX9_told_63 : decode prog_11_method_30_code 63 = .ok (.getfield 19, 3) := by decide +kernel
theorem dX9_told_66 : decode prog_11_method_30_code 66 = .ok (.iload_n 1, 1) := by decide +kernel
theorem dX9_told_67 : decode prog_11_method_30_code 67 = .ok (.baload, 1) := by decide +kernel
theorem dX9_told_68 : decode prog_11_method_30_code 68 = .ok (.invokestatic 150, 3) := by decide +kernel
theorem dX9_told_71 : decode prog_11_method_30_code 71 = .ok (.goto 14, 3) := by decide +kernel
theorem dX9_told_74 : decode prog_11_method_30_code 74 = .ok (.iload_n 2, 1) := by decide +kernel
theorem dX9_told_75 : decode prog_11_method_30_code 75 = .ok (.iconst 2, 1) := by decide +kernel
theorem dX9_told_76 : decode prog_11_method_30_code 76 = .ok (.if_icmp .ne 7, 3) := by decide +kernel
theorem dX9_told_79 : decode prog_11_method_30_code 79 = .ok (.iload_n 3, 1) := by decide +kernel
theorem dX9_told_80 : decode prog_11_method_30_code 80 = .ok (.goto 5, 3) := by decide +kernel
theorem dX9_told_83 : decode prog_11_method_30_code 83 = .ok (.ldc 105, 2) := by decide +kernel
theorem dX9_told_85 : decode prog_11_method_30_code 85 = .ok (.ireturn, 1) := by decide +kernel
def F_X9_strike_158 (v0 : Nat) (v1 : Int32) (v3 : Int32) (h : am_H) : Option (Int32 × am_H) :=
  (am_gr 9 7 v0 h).bind fun x1 =>
  (am_il 0 x1 v1 h).bind fun x2 =>
  (F_X9_takeBlocks v0 v1 (v3 + (1 : Int32)) x2 h).bind fun h3 =>
  (F_X9_note v0 v1 h3).bind fun q4 =>
  some (q4.1, q4.2)
theorem w_X9_strike_158 {g : am_G} {l : Launch} {h0 : am_H} {x : Int32} {hf : am_H}  (v0 : Nat) (v1 : Int32) (v3 : Int32) (h : am_H) (hF : F_X9_strike_158 v0 v1 v3 h = some (x, hf)) : am_W g l M_X9_strike h0 (some (.int x)) hf 158 [some (.ref v0), some (.int v1), none, some (.int v3), none, none] [] h := by
  unfold F_X9_strike_158 at hF
  refine am_aload_n (pc' := 159) dX9_strike_158 rfl rfl ?_
  refine am_iload_n (pc' := 160) dX9_strike_159 rfl rfl ?_
  refine am_iload_n (pc' := 161) dX9_strike_160 rfl rfl ?_
  refine am_iconst (v := (1 : Int32)) (pc' := 162) dX9_strike_161 rfl rfl ?_
  refine am_iadd (pc' := 163) dX9_strike_162 rfl ?_
  refine am_aload_n (pc' := 164) dX9_strike_163 rfl rfl ?_
  obtain ⟨x1, ex1, hF⟩ := am_bind hF
  refine am_getr (pc' := 167) dX9_strike_164 fw_X9_23 ex1 rfl ?_
  refine am_iload_n (pc' := 168) dX9_strike_167 rfl rfl ?_
  obtain ⟨x2, ex2, hF⟩ := am_bind hF
  refine am_iald (pc' := 169) dX9_strike_168 ex2 rfl ?_
  obtain ⟨h3, eh3, hF⟩ := am_bind hF
  obtain ⟨oh3, ph3⟩ := t_X9_takeBlocks eh3
  refine am_callV0 (Mc := M_X9_takeBlocks) (As := [.int v1, .int (v3 + (1 : Int32)), .int x2]) (st := []) (pc' := 172) dX9_strike_169 cw_X9_173 wd_5_62 sl_X9_takeBlocks ⟨_, rfl, rfl⟩ (by decide) (by decide) rfl rfl (Nat.le_of_ble_eq_true rfl) ph3 (c_X9_takeBlocks eh3) rfl ?_
  refine am_aload_n (pc' := 173) dX9_strike_172 rfl rfl ?_
  refine am_iload_n (pc' := 174) dX9_strike_173 rfl rfl ?_
  obtain ⟨q4, eq4, hF⟩ := am_bind hF
  obtain ⟨oq4, pq4⟩ := t_X9_note eq4
  refine am_callV1 (Mc := M_X9_note) (As := [.int v1]) (st := []) (pc' := 177) dX9_strike_174 cw_X9_137 wd_5_25 sl_X9_note ⟨_, rfl, rfl⟩ (by decide) (by decide) rfl rfl (Nat.le_of_ble_eq_true rfl) pq4 (c_X9_note eq4) rfl ?_
  cases hF
  exact am_iret dX9_strike_177 rfl rfl
def F_X9_strike_104 : Nat → Nat → Int32 → Int32 → Int32 → am_H → Option (Int32 × am_H)
  | 0, _, _, _, _, _ => none
  | n + 1, v0, v1, v3, v5, h =>
  (am_gi 9 14 v0 h).bind fun x1 =>
  if x1 ≤ (v5 + (1 : Int32)) then
    (am_gi 9 14 v0 h).bind fun x3 =>
    (am_pi 9 14 v0 (x3 - (1 : Int32)) h).bind fun h4 =>
    (am_gi 9 14 v0 h4).bind fun x5 =>
    if x5 ≤ 0 then
      F_X9_strike_158 v0 v1 v3 h4
    else
      (F_X9_lay v0 h4).bind fun h7 =>
      F_X9_strike_158 v0 v1 v3 h7
  else
    (am_gr 9 13 v0 h).bind fun x8 =>
    (am_gr 9 13 v0 h).bind fun x9 =>
    (am_il 0 x9 (v5 + (1 : Int32)) h).bind fun x10 =>
    (am_is 0 x8 v5 x10 h).bind fun h11 =>
    F_X9_strike_104 n v0 v1 v3 (v5 + (1 : Int32)) h11
theorem w_X9_strike_104 {g : am_G} {l : Launch} {h0 : am_H} {x : Int32} {hf : am_H}  : ∀ (n : Nat) (v0 : Nat) (v1 : Int32) (v3 : Int32) (v5 : Int32) (h : am_H), F_X9_strike_104 n v0 v1 v3 v5 h = some (x, hf) → am_W g l M_X9_strike h0 (some (.int x)) hf 104 [some (.ref v0), some (.int v1), none, some (.int v3), none, some (.int v5)] [] h
  | 0, _, _, _, _, _, hF => by cases hF
  | n + 1, v0, v1, v3, v5, h, hF => by
    rw [F_X9_strike_104] at hF
    refine am_iload (pc' := 106) dX9_strike_104 rfl rfl ?_
    refine am_iconst (v := (1 : Int32)) (pc' := 107) dX9_strike_106 rfl rfl ?_
    refine am_iadd (pc' := 108) dX9_strike_107 rfl ?_
    refine am_aload_n (pc' := 109) dX9_strike_108 rfl rfl ?_
    obtain ⟨x1, ex1, hF⟩ := am_bind hF
    refine am_geti (pc' := 112) dX9_strike_109 fw_X9_110 ex1 rfl ?_
    rcases am_ite hF with ⟨z2, hF⟩ | ⟨z2, hF⟩
    · refine am_icmp_ge_t (pc' := 137) dX9_strike_112 rfl z2 ?_
      refine am_aload_n (pc' := 138) dX9_strike_137 rfl rfl ?_
      refine am_dup (pc' := 139) dX9_strike_138 rfl rfl ?_
      obtain ⟨x3, ex3, hF⟩ := am_bind hF
      refine am_geti (pc' := 142) dX9_strike_139 fw_X9_110 ex3 rfl ?_
      refine am_iconst (v := (1 : Int32)) (pc' := 143) dX9_strike_142 rfl rfl ?_
      refine am_isub (pc' := 144) dX9_strike_143 rfl ?_
      obtain ⟨h4, eh4, hF⟩ := am_bind hF
      refine am_puti (pc' := 147) dX9_strike_144 fx_X9_110 eh4 rfl ?_
      refine am_aload_n (pc' := 148) dX9_strike_147 rfl rfl ?_
      obtain ⟨x5, ex5, hF⟩ := am_bind hF
      refine am_geti (pc' := 151) dX9_strike_148 fw_X9_110 ex5 rfl ?_
      rcases am_ite hF with ⟨z6, hF⟩ | ⟨z6, hF⟩
      · refine am_if_le_t (pc' := 158) dX9_strike_151 rfl z6 ?_
        exact am_weak [true, true, false, true, false, false] (w_X9_strike_158 v0 v1 v3 h4 hF)
      · refine am_if_le_f (pc' := 154) (tgt := 158) dX9_strike_151 rfl z6 rfl ?_
        refine am_aload_n (pc' := 155) dX9_strike_154 rfl rfl ?_
        obtain ⟨h7, eh7, hF⟩ := am_bind hF
        obtain ⟨oh7, ph7⟩ := t_X9_lay eh7
        refine am_callV0 (Mc := M_X9_lay) (As := []) (st := []) (pc' := 158) dX9_strike_155 cw_X9_134 wd_5_13 sl_X9_lay ⟨_, rfl, rfl⟩ (by decide) (by decide) rfl rfl (Nat.le_of_ble_eq_true rfl) ph7 (c_X9_lay eh7) rfl ?_
        exact am_weak [true, true, false, true, false, false] (w_X9_strike_158 v0 v1 v3 h7 hF)
    · refine am_icmp_ge_f (pc' := 115) (tgt := 137) dX9_strike_112 rfl z2 rfl ?_
      refine am_aload_n (pc' := 116) dX9_strike_115 rfl rfl ?_
      obtain ⟨x8, ex8, hF⟩ := am_bind hF
      refine am_getr (pc' := 119) dX9_strike_116 fw_X9_41 ex8 rfl ?_
      refine am_iload (pc' := 121) dX9_strike_119 rfl rfl ?_
      refine am_aload_n (pc' := 122) dX9_strike_121 rfl rfl ?_
      obtain ⟨x9, ex9, hF⟩ := am_bind hF
      refine am_getr (pc' := 125) dX9_strike_122 fw_X9_41 ex9 rfl ?_
      refine am_iload (pc' := 127) dX9_strike_125 rfl rfl ?_
      refine am_iconst (v := (1 : Int32)) (pc' := 128) dX9_strike_127 rfl rfl ?_
      refine am_iadd (pc' := 129) dX9_strike_128 rfl ?_
      obtain ⟨x10, ex10, hF⟩ := am_bind hF
      refine am_iald (pc' := 130) dX9_strike_129 ex10 rfl ?_
      obtain ⟨h11, eh11, hF⟩ := am_bind hF
      refine am_iast (pc' := 131) dX9_strike_130 eh11 rfl ?_
      refine am_iinc (ls' := [some (.ref v0), some (.int v1), none, some (.int v3), none, some (.int (v5 + (1 : Int32)))]) (pc' := 134) (v := (v5 + (1 : Int32))) dX9_strike_131 rfl rfl (Nat.le_of_ble_eq_true rfl) rfl rfl ?_
      refine am_goto (pc' := 104) dX9_strike_134 rfl ?_
      exact w_X9_strike_104 n v0 v1 v3 (v5 + (1 : Int32)) h11 hF
def F_X9_strike_57 (v0 : Nat) (v1 : Int32) (v3 : Int32) (s0 : Nat) (s1 : Int32) (h : am_H) : Option (Int32 × am_H) :=
  (F_X9_isFull s0 s1 h).bind fun x1 =>
  if x1 = 0 then
    (F_X9_tornIn v0 v1 h).bind fun x3 =>
    if x3 ≤ 0 then
      (F_X9_begin v0 h).bind fun h5 =>
      (F_X9_takeBlocks v0 v1 (0 : Int32) v3 h5).bind fun h6 =>
      (F_X9_blockAt v0 v1 v3 h6).bind fun x7 =>
      (F_X9_takeSigns v0 x7 h6).bind fun h8 =>
      (am_gi 9 19 v0 h8).bind fun x9 =>
      F_X9_strike_104 am_F v0 v1 v3 x9 h8
    else
      some ((-100005 : Int32), h)
  else
    some ((-100004 : Int32), h)
theorem w_X9_strike_57 {g : am_G} {l : Launch} {h0 : am_H} {x : Int32} {hf : am_H}  (v0 : Nat) (v1 : Int32) (v3 : Int32) (s0 : Nat) (s1 : Int32) (h : am_H) (hF : F_X9_strike_57 v0 v1 v3 s0 s1 h = some (x, hf)) : am_W g l M_X9_strike h0 (some (.int x)) hf 57 [some (.ref v0), some (.int v1), none, some (.int v3), none, none] [.int s1, .ref s0] h := by
  unfold F_X9_strike_57 at hF
  obtain ⟨x1, ex1, hF⟩ := am_bind hF
  obtain ⟨ox1, px1⟩ := t_X9_isFull ex1
  refine am_callV1 (Mc := M_X9_isFull) (As := [.int s1]) (st := []) (pc' := 60) dX9_strike_57 cw_X9_128 wd_5_5 sl_X9_isFull ⟨_, rfl, rfl⟩ (by decide) (by decide) rfl rfl (Nat.le_of_ble_eq_true rfl) px1 (c_X9_isFull ex1) rfl ?_
  rcases am_ite hF with ⟨z2, hF⟩ | ⟨z2, hF⟩
  · refine am_if_eq_t (pc' := 66) dX9_strike_60 rfl z2 ?_
    refine am_aload_n (pc' := 67) dX9_strike_66 rfl rfl ?_
    refine am_iload_n (pc' := 68) dX9_strike_67 rfl rfl ?_
    obtain ⟨x3, ex3, hF⟩ := am_bind hF
    obtain ⟨ox3, px3⟩ := t_X9_tornIn ex3
    refine am_callV1 (Mc := M_X9_tornIn) (As := [.int v1]) (st := []) (pc' := 71) dX9_strike_68 cw_X9_165 wd_5_50 sl_X9_tornIn ⟨_, rfl, rfl⟩ (by decide) (by decide) rfl rfl (Nat.le_of_ble_eq_true rfl) px3 (c_X9_tornIn ex3) rfl ?_
    rcases am_ite hF with ⟨z4, hF⟩ | ⟨z4, hF⟩
    · refine am_if_le_t (pc' := 77) dX9_strike_71 rfl z4 ?_
      refine am_aload_n (pc' := 78) dX9_strike_77 rfl rfl ?_
      obtain ⟨h5, eh5, hF⟩ := am_bind hF
      obtain ⟨oh5, ph5⟩ := t_X9_begin eh5
      refine am_callV0 (Mc := M_X9_begin) (As := []) (st := []) (pc' := 81) dX9_strike_78 cw_X9_131 wd_5_9 sl_X9_begin ⟨_, rfl, rfl⟩ (by decide) (by decide) rfl rfl (Nat.le_of_ble_eq_true rfl) ph5 (c_X9_begin eh5) rfl ?_
      refine am_aload_n (pc' := 82) dX9_strike_81 rfl rfl ?_
      refine am_iload_n (pc' := 83) dX9_strike_82 rfl rfl ?_
      refine am_iconst (v := (0 : Int32)) (pc' := 84) dX9_strike_83 rfl rfl ?_
      refine am_iload_n (pc' := 85) dX9_strike_84 rfl rfl ?_
      obtain ⟨h6, eh6, hF⟩ := am_bind hF
      obtain ⟨oh6, ph6⟩ := t_X9_takeBlocks eh6
      refine am_callV0 (Mc := M_X9_takeBlocks) (As := [.int v1, .int (0 : Int32), .int v3]) (st := []) (pc' := 88) dX9_strike_85 cw_X9_173 wd_5_62 sl_X9_takeBlocks ⟨_, rfl, rfl⟩ (by decide) (by decide) rfl rfl (Nat.le_of_ble_eq_true rfl) ph6 (c_X9_takeBlocks eh6) rfl ?_
      refine am_aload_n (pc' := 89) dX9_strike_88 rfl rfl ?_
      refine am_aload_n (pc' := 90) dX9_strike_89 rfl rfl ?_
      refine am_iload_n (pc' := 91) dX9_strike_90 rfl rfl ?_
      refine am_iload_n (pc' := 92) dX9_strike_91 rfl rfl ?_
      obtain ⟨x7, ex7, hF⟩ := am_bind hF
      obtain ⟨ox7, px7⟩ := t_X9_blockAt ex7
      refine am_callV1 (Mc := M_X9_blockAt) (As := [.int v1, .int v3]) (st := [.ref v0]) (pc' := 95) dX9_strike_92 cw_X9_141 wd_5_45 sl_X9_blockAt ⟨_, rfl, rfl⟩ (by decide) (by decide) rfl rfl (Nat.le_of_ble_eq_true rfl) px7 (c_X9_blockAt ex7) rfl ?_
      obtain ⟨h8, eh8, hF⟩ := am_bind hF
      obtain ⟨oh8, ph8⟩ := t_X9_takeSigns eh8
      refine am_callV0 (Mc := M_X9_takeSigns) (As := [.int x7]) (st := []) (pc' := 98) dX9_strike_95 cw_X9_177 wd_5_66 sl_X9_takeSigns ⟨_, rfl, rfl⟩ (by decide) (by decide) rfl rfl (Nat.le_of_ble_eq_true rfl) ph8 (c_X9_takeSigns eh8) rfl ?_
      refine am_aload_n (pc' := 99) dX9_strike_98 rfl rfl ?_
      obtain ⟨x9, ex9, hF⟩ := am_bind hF
      refine am_geti (pc' := 102) dX9_strike_99 fw_X9_147 ex9 rfl ?_
      refine am_istore (ls' := [some (.ref v0), some (.int v1), none, some (.int v3), none, some (.int x9)]) (pc' := 104) dX9_strike_102 (Nat.le_of_ble_eq_true rfl) rfl rfl ?_
      exact w_X9_strike_104 am_F v0 v1 v3 x9 h8 hF
    · refine am_if_le_f (pc' := 74) (tgt := 77) dX9_strike_71 rfl z4 rfl ?_
      refine am_ldc (v := (-100005 : Int32)) (pc' := 76) dX9_strike_74 wd_5_55 rfl ?_
      cases hF
      exact am_iret dX9_strike_76 rfl rfl
  · refine am_if_eq_f (pc' := 63) (tgt := 66) dX9_strike_60 rfl z2 rfl ?_
    refine am_ldc (v := (-100004 : Int32)) (pc' := 65) dX9_strike_63 wd_4_237 rfl ?_
    cases hF
    exact am_iret dX9_strike_65 rfl rfl
def F_X9_strike_44 (v0 : Nat) (v1 : Int32) (v3 : Int32) (s0 : Int32) (h : am_H) : Option (Int32 × am_H) :=
  if s0 = 0 then
    F_X9_strike_57 v0 v1 v3 v0 (1 : Int32) h
  else
    F_X9_strike_57 v0 v1 v3 v0 (0 : Int32) h
theorem w_X9_strike_44 {g : am_G} {l : Launch} {h0 : am_H} {x : Int32} {hf : am_H}  (v0 : Nat) (v1 : Int32) (v3 : Int32) (s0 : Int32) (h : am_H) (hF : F_X9_strike_44 v0 v1 v3 s0 h = some (x, hf)) : am_W g l M_X9_strike h0 (some (.int x)) hf 44 [some (.ref v0), some (.int v1), none, some (.int v3), none, none] [.int s0] h := by
  unfold F_X9_strike_44 at hF
  refine am_istore (ls' := [some (.ref v0), some (.int v1), none, some (.int v3), some (.int s0), none]) (pc' := 46) dX9_strike_44 (Nat.le_of_ble_eq_true rfl) rfl rfl ?_
  refine am_aload_n (pc' := 47) dX9_strike_46 rfl rfl ?_
  refine am_iload (pc' := 49) dX9_strike_47 rfl rfl ?_
  rcases am_ite hF with ⟨z1, hF⟩ | ⟨z1, hF⟩
  · refine am_if_eq_t (pc' := 56) dX9_strike_49 rfl z1 ?_
    refine am_iconst (v := (1 : Int32)) (pc' := 57) dX9_strike_56 rfl rfl ?_
    exact am_weak [true, true, false, true, false, false] (w_X9_strike_57 v0 v1 v3 v0 (1 : Int32) h hF)
  · refine am_if_eq_f (pc' := 52) (tgt := 56) dX9_strike_49 rfl z1 rfl ?_
    refine am_iconst (v := (0 : Int32)) (pc' := 53) dX9_strike_52 rfl rfl ?_
    refine am_goto (pc' := 57) dX9_strike_53 rfl ?_
    exact am_weak [true, true, false, true, false, false] (w_X9_strike_57 v0 v1 v3 v0 (0 : Int32) h hF)
def F_X9_strike_b (v0 : Nat) (v1 : Int32) (v2 : Int32) (h : am_H) : Option (Int32 × am_H) :=
  (F_X9_noPlace v0 v1 v2 (0 : Int32) h).bind fun x1 =>
  if x1 = 0 then
    (F_X9_find v0 v1 v2 h).bind fun h3 =>
    (am_gi 9 18 v0 h3).bind fun x4 =>
    (am_gr 9 3 v0 h3).bind fun x5 =>
    (F_X9_blockAt v0 v1 x4 h3).bind fun x6 =>
    (am_il 0 x5 x6 h3).bind fun x7 =>
    if x7 = (1 : Int32) then
      F_X9_strike_44 v0 v1 x4 (1 : Int32) h3
    else
      F_X9_strike_44 v0 v1 x4 (0 : Int32) h3
  else
    some ((-100001 : Int32), h)
theorem w_X9_strike {g : am_G} {l : Launch} {h0 : am_H} {x : Int32} {hf : am_H}  (v0 : Nat) (v1 : Int32) (v2 : Int32) (h : am_H) (hF : F_X9_strike_b v0 v1 v2 h = some (x, hf)) : am_W g l M_X9_strike h0 (some (.int x)) hf 0 [some (.ref v0), some (.int v1), some (.int v2), none, none, none] [] h := by
  unfold F_X9_strike_b at hF
  refine am_aload_n (pc' := 1) dX9_strike_0 rfl rfl ?_
  refine am_iload_n (pc' := 2) dX9_strike_1 rfl rfl ?_
  refine am_iload_n (pc' := 3) dX9_strike_2 rfl rfl ?_
  refine am_iconst (v := (0 : Int32)) (pc' := 4) dX9_strike_3 rfl rfl ?_
  obtain ⟨x1, ex1, hF⟩ := am_bind hF
  obtain ⟨ox1, px1⟩ := t_X9_noPlace ex1
  refine am_callV1 (Mc := M_X9_noPlace) (As := [.int v1, .int v2, .int (0 : Int32)]) (st := []) (pc' := 7) dX9_strike_4 cw_X9_160 wd_5_33 sl_X9_noPlace ⟨_, rfl, rfl⟩ (by decide) (by decide) rfl rfl (Nat.le_of_ble_eq_true rfl) px1 (c_X9_noPlace ex1) rfl ?_
  rcases am_ite hF with ⟨z2, hF⟩ | ⟨z2, hF⟩
  · refine am_if_eq_t (pc' := 13) dX9_strike_7 rfl z2 ?_
    refine am_aload_n (pc' := 14) dX9_strike_13 rfl rfl ?_
    refine am_iload_n (pc' := 15) dX9_strike_14 rfl rfl ?_
    refine am_iload_n (pc' := 16) dX9_strike_15 rfl rfl ?_
    obtain ⟨h3, eh3, hF⟩ := am_bind hF
    obtain ⟨oh3, ph3⟩ := t_X9_find eh3
    refine am_callV0 (Mc := M_X9_find) (As := [.int v1, .int v2]) (st := []) (pc' := 19) dX9_strike_16 cw_X9_169 wd_5_58 sl_X9_find ⟨_, rfl, rfl⟩ (by decide) (by decide) rfl rfl (Nat.le_of_ble_eq_true rfl) ph3 (c_X9_find eh3) rfl ?_
    refine am_aload_n (pc' := 20) dX9_strike_19 rfl rfl ?_
    obtain ⟨x4, ex4, hF⟩ := am_bind hF
    refine am_geti (pc' := 23) dX9_strike_20 fw_X9_144 ex4 rfl ?_
    refine am_istore_n (ls' := [some (.ref v0), some (.int v1), some (.int v2), some (.int x4), none, none]) (pc' := 24) dX9_strike_23 (Nat.le_of_ble_eq_true rfl) rfl rfl ?_
    refine am_aload_n (pc' := 25) dX9_strike_24 rfl rfl ?_
    obtain ⟨x5, ex5, hF⟩ := am_bind hF
    refine am_getr (pc' := 28) dX9_strike_25 fw_X9_13 ex5 rfl ?_
    refine am_aload_n (pc' := 29) dX9_strike_28 rfl rfl ?_
    refine am_iload_n (pc' := 30) dX9_strike_29 rfl rfl ?_
    refine am_iload_n (pc' := 31) dX9_strike_30 rfl rfl ?_
    obtain ⟨x6, ex6, hF⟩ := am_bind hF
    obtain ⟨ox6, px6⟩ := t_X9_blockAt ex6
    refine am_callV1 (Mc := M_X9_blockAt) (As := [.int v1, .int x4]) (st := [.ref x5]) (pc' := 34) dX9_strike_31 cw_X9_141 wd_5_45 sl_X9_blockAt ⟨_, rfl, rfl⟩ (by decide) (by decide) rfl rfl (Nat.le_of_ble_eq_true rfl) px6 (c_X9_blockAt ex6) rfl ?_
    obtain ⟨x7, ex7, hF⟩ := am_bind hF
    refine am_iald (pc' := 35) dX9_strike_34 ex7 rfl ?_
    refine am_iconst (v := (1 : Int32)) (pc' := 36) dX9_strike_35 rfl rfl ?_
    rcases am_ite hF with ⟨z8, hF⟩ | ⟨z8, hF⟩
    · refine am_icmp_ne_f (pc' := 39) (tgt := 43) dX9_strike_36 rfl z8 rfl ?_
      refine am_iconst (v := (1 : Int32)) (pc' := 40) dX9_strike_39 rfl rfl ?_
      refine am_goto (pc' := 44) dX9_strike_40 rfl ?_
      exact am_weak [true, true, false, true, false, false] (w_X9_strike_44 v0 v1 x4 (1 : Int32) h3 hF)
    · refine am_icmp_ne_t (pc' := 43) dX9_strike_36 rfl z8 ?_
      refine am_iconst (v := (0 : Int32)) (pc' := 44) dX9_strike_43 rfl rfl ?_
      exact am_weak [true, true, false, true, false, false] (w_X9_strike_44 v0 v1 x4 (0 : Int32) h3 hF)
  · refine am_if_eq_f (pc' := 10) (tgt := 13) dX9_strike_7 rfl z2 rfl ?_
    refine am_ldc (v := (-100001 : Int32)) (pc' := 12) dX9_strike_10 wd_5_47 rfl ?_
    cases hF
    exact am_iret dX9_strike_12 rfl rfl
def F_X9_strike (v0 : Nat) (v1 : Int32) (v2 : Int32) (h : am_H) : Option (Int32 × am_H) := (am_obj v0 9 h).bind fun _ => F_X9_strike_b v0 v1 v2 h
theorem t_X9_strike {x : Int32} {hf : am_H}  {v0 : Nat} {v1 : Int32} {v2 : Int32} {h : am_H} (hF : F_X9_strike v0 v1 v2 h = some (x, hf)) : ∃ fs, am_obj v0 9 h = some fs := by
  obtain ⟨fs, e, _⟩ := am_bind hF
  exact ⟨fs, e⟩
theorem c_X9_strike {g : am_G} {l : Launch} {x : Int32} {hf : am_H}  {v0 : Nat} {v1 : Int32} {v2 : Int32} {h : am_H} (hF : F_X9_strike v0 v1 v2 h = some (x, hf)) : am_Met g l M_X9_strike [.ref v0, .int v1, .int v2] h (some (.int x)) hf := by
  obtain ⟨fs, e0, e⟩ := am_bind hF
  exact am_met (n := 3) (by decide +kernel) rfl (Nat.le_of_ble_eq_true rfl) (w_X9_strike v0 v1 v2 h e)
theorem fw_X8_151 : am_fw "SignCellar" 151 7 1 := ⟨(RX7, TX7, 6), rfl, by decide, inX7, Or.inr ⟨_, wd_2_90⟩⟩
theorem fw_X8_154 : am_fw "SignCellar" 154 7 2 := ⟨(RX7, TX7, 6), rfl, by decide, inX7, Or.inr ⟨_, wd_2_92⟩⟩
def F_X8_about_b (v0 : Nat) (v1 : Int32) (v2 : Int32) (h : am_H) : Option Int32 :=
  (F_X8_versionOf v0 v1 h).bind fun x1 =>
  if x1 = 0 then
    some (-100001 : Int32)
  else
    if v2 = (0 : Int32) then
      (am_gi 7 3 x1 h).bind fun x4 =>
      some x4
    else
    if v2 = (1 : Int32) then
      (am_gr 7 0 x1 h).bind fun x6 =>
      (F_X4_length x6 h).bind fun x7 =>
      some x7
    else
    if v2 = (2 : Int32) then
      (am_gi 7 1 x1 h).bind fun x9 =>
      some x9
    else
    if v2 = (3 : Int32) then
      (am_gi 7 2 x1 h).bind fun x11 =>
      some x11
    else
    if v2 = (4 : Int32) then
      (F_X8_tornBlocks v0 x1 h).bind fun x13 =>
      some x13
    else
    some (-100002 : Int32)
theorem w_X8_about {g : am_G} {l : Launch} {h0 : am_H} {x : Int32}  (v0 : Nat) (v1 : Int32) (v2 : Int32) (h : am_H) (hF : F_X8_about_b v0 v1 v2 h = some x) : am_W g l M_X8_about h0 (some (.int x)) h 0 [some (.ref v0), some (.int v1), some (.int v2), none] [] h := by
  unfold F_X8_about_b at hF
  refine am_aload_n (pc' := 1) dX8_about_0 rfl rfl ?_
  refine am_iload_n (pc' := 2) dX8_about_1 rfl rfl ?_
  obtain ⟨x1, ex1, hF⟩ := am_bind hF
  obtain ⟨ox1, px1⟩ := t_X8_versionOf ex1
  refine am_callV1 (Mc := M_X8_versionOf) (As := [.int v1]) (st := []) (pc' := 5) dX8_about_2 cw_X8_126 wd_2_135 sl_X8_versionOf ⟨_, rfl, rfl⟩ (by decide) (by decide) rfl rfl (Nat.le_of_ble_eq_true rfl) px1 (c_X8_versionOf ex1) rfl ?_
  refine am_astore_n (ls' := [some (.ref v0), some (.int v1), some (.int v2), some (.ref x1)]) (pc' := 6) dX8_about_5 (Nat.le_of_ble_eq_true rfl) rfl rfl ?_
  refine am_aload_n (pc' := 7) dX8_about_6 rfl rfl ?_
  rcases am_ite hF with ⟨z2, hF⟩ | ⟨z2, hF⟩
  · refine am_ifnonnull_f (pc' := 10) dX8_about_7 z2 rfl ?_
    refine am_ldc (v := (-100001 : Int32)) (pc' := 12) dX8_about_10 wd_2_137 rfl ?_
    cases hF
    exact am_iret dX8_about_12 rfl rfl
  · refine am_ifnonnull_t (pc' := 13) dX8_about_7 rfl z2 ?_
    refine am_iload_n (pc' := 14) dX8_about_13 rfl rfl ?_
    rcases am_ite hF with ⟨z3, hF⟩ | ⟨z3, hF⟩
    · refine am_tableIn (c := (0 : Int32)) (pc' := 48) dX8_about_14 z3 (by decide) (by decide) rfl rfl ?_
      refine am_aload_n (pc' := 49) dX8_about_48 rfl rfl ?_
      obtain ⟨x4, ex4, hF⟩ := am_bind hF
      refine am_geti (pc' := 52) dX8_about_49 fw_X8_130 ex4 rfl ?_
      cases hF
      exact am_iret dX8_about_52 rfl rfl
    rcases am_ite hF with ⟨z5, hF⟩ | ⟨z5, hF⟩
    · refine am_tableIn (c := (1 : Int32)) (pc' := 53) dX8_about_14 z5 (by decide) (by decide) rfl rfl ?_
      refine am_aload_n (pc' := 54) dX8_about_53 rfl rfl ?_
      obtain ⟨x6, ex6, hF⟩ := am_bind hF
      refine am_getr (pc' := 57) dX8_about_54 fw_X8_148 ex6 rfl ?_
      obtain ⟨x7, ex7, hF⟩ := am_bind hF
      obtain ⟨ox7, px7⟩ := t_X4_length ex7
      refine am_callV1 (Mc := M_X4_length) (As := []) (st := []) (pc' := 60) dX8_about_57 cw_X8_93 wd_1_235 wd_1_236 ⟨_, rfl, rfl⟩ (by decide) (by decide) rfl rfl (Nat.le_of_ble_eq_true rfl) px7 (c_X4_length ex7) rfl ?_
      cases hF
      exact am_iret dX8_about_60 rfl rfl
    rcases am_ite hF with ⟨z8, hF⟩ | ⟨z8, hF⟩
    · refine am_tableIn (c := (2 : Int32)) (pc' := 61) dX8_about_14 z8 (by decide) (by decide) rfl rfl ?_
      refine am_aload_n (pc' := 62) dX8_about_61 rfl rfl ?_
      obtain ⟨x9, ex9, hF⟩ := am_bind hF
      refine am_geti (pc' := 65) dX8_about_62 fw_X8_151 ex9 rfl ?_
      cases hF
      exact am_iret dX8_about_65 rfl rfl
    rcases am_ite hF with ⟨z10, hF⟩ | ⟨z10, hF⟩
    · refine am_tableIn (c := (3 : Int32)) (pc' := 66) dX8_about_14 z10 (by decide) (by decide) rfl rfl ?_
      refine am_aload_n (pc' := 67) dX8_about_66 rfl rfl ?_
      obtain ⟨x11, ex11, hF⟩ := am_bind hF
      refine am_geti (pc' := 70) dX8_about_67 fw_X8_154 ex11 rfl ?_
      cases hF
      exact am_iret dX8_about_70 rfl rfl
    rcases am_ite hF with ⟨z12, hF⟩ | ⟨z12, hF⟩
    · refine am_tableIn (c := (4 : Int32)) (pc' := 71) dX8_about_14 z12 (by decide) (by decide) rfl rfl ?_
      refine am_aload_n (pc' := 72) dX8_about_71 rfl rfl ?_
      refine am_aload_n (pc' := 73) dX8_about_72 rfl rfl ?_
      obtain ⟨x13, ex13, hF⟩ := am_bind hF
      obtain ⟨ox13, px13⟩ := t_X8_tornBlocks ex13
      refine am_callV1 (Mc := M_X8_tornBlocks) (As := [.ref x1]) (st := []) (pc' := 76) dX8_about_73 cw_X8_157 wd_2_147 sl_X8_tornBlocks ⟨_, rfl, rfl⟩ (by decide) (by decide) rfl rfl (Nat.le_of_ble_eq_true rfl) px13 (c_X8_tornBlocks ex13) rfl ?_
      cases hF
      exact am_iret dX8_about_76 rfl rfl
    refine am_tableOut (pc' := 77) dX8_about_14 (by have tz3 := lv_neT (a := 0) z3 rfl; have tz5 := lv_neT (a := 1) z5 rfl; have tz8 := lv_neT (a := 2) z8 rfl; have tz10 := lv_neT (a := 3) z10 rfl; have tz12 := lv_neT (a := 4) z12 rfl; omega) rfl ?_
    refine am_ldc (v := (-100002 : Int32)) (pc' := 79) dX8_about_77 wd_1_233 rfl ?_
    cases hF
    exact am_iret dX8_about_79 rfl rfl
def F_X8_about (v0 : Nat) (v1 : Int32) (v2 : Int32) (h : am_H) : Option Int32 := (am_obj v0 8 h).bind fun _ => F_X8_about_b v0 v1 v2 h
theorem t_X8_about {x : Int32}  {v0 : Nat} {v1 : Int32} {v2 : Int32} {h : am_H} (hF : F_X8_about v0 v1 v2 h = some x) : ∃ fs, am_obj v0 8 h = some fs := by
  obtain ⟨fs, e, _⟩ := am_bind hF
  exact ⟨fs, e⟩
theorem c_X8_about {g : am_G} {l : Launch} {x : Int32}  {v0 : Nat} {v1 : Int32} {v2 : Int32} {h : am_H} (hF : F_X8_about v0 v1 v2 h = some x) : am_Met g l M_X8_about [.ref v0, .int v1, .int v2] h (some (.int x)) h := by
  obtain ⟨fs, e0, e⟩ := am_bind hF
  exact am_met (n := 1) (by decide +kernel) rfl (Nat.le_of_ble_eq_true rfl) (w_X8_about v0 v1 v2 h e)
def F_X9_about_b (v0 : Nat) (v1 : Int32) (v2 : Int32) (h : am_H) : Option Int32 :=
  (F_X9_noVersion v0 v1 h).bind fun x1 =>
  if x1 = 0 then
    if v2 = (0 : Int32) then
      (F_X9_placesOf v0 v1 h).bind fun x4 =>
      some x4
    else
    if v2 = (1 : Int32) then
      (am_gr 9 7 v0 h).bind fun x6 =>
      (am_il 0 x6 v1 h).bind fun x7 =>
      some x7
    else
    if v2 = (2 : Int32) then
      (am_gr 9 9 v0 h).bind fun x9 =>
      (am_il 0 x9 v1 h).bind fun x10 =>
      some x10
    else
    if v2 = (3 : Int32) then
      (am_gr 9 10 v0 h).bind fun x12 =>
      (am_il 0 x12 v1 h).bind fun x13 =>
      some x13
    else
    if v2 = (4 : Int32) then
      (F_X9_tornIn v0 v1 h).bind fun x15 =>
      some x15
    else
    some (-100002 : Int32)
  else
    some (-100001 : Int32)
theorem w_X9_about {g : am_G} {l : Launch} {h0 : am_H} {x : Int32}  (v0 : Nat) (v1 : Int32) (v2 : Int32) (h : am_H) (hF : F_X9_about_b v0 v1 v2 h = some x) : am_W g l M_X9_about h0 (some (.int x)) h 0 [some (.ref v0), some (.int v1), some (.int v2)] [] h := by
  unfold F_X9_about_b at hF
  refine am_aload_n (pc' := 1) dX9_about_0 rfl rfl ?_
  refine am_iload_n (pc' := 2) dX9_about_1 rfl rfl ?_
  obtain ⟨x1, ex1, hF⟩ := am_bind hF
  obtain ⟨ox1, px1⟩ := t_X9_noVersion ex1
  refine am_callV1 (Mc := M_X9_noVersion) (As := [.int v1]) (st := []) (pc' := 5) dX9_about_2 cw_X9_154 wd_5_37 sl_X9_noVersion ⟨_, rfl, rfl⟩ (by decide) (by decide) rfl rfl (Nat.le_of_ble_eq_true rfl) px1 (c_X9_noVersion ex1) rfl ?_
  rcases am_ite hF with ⟨z2, hF⟩ | ⟨z2, hF⟩
  · refine am_if_eq_t (pc' := 11) dX9_about_5 rfl z2 ?_
    refine am_iload_n (pc' := 12) dX9_about_11 rfl rfl ?_
    rcases am_ite hF with ⟨z3, hF⟩ | ⟨z3, hF⟩
    · refine am_tableIn (c := (0 : Int32)) (pc' := 48) dX9_about_12 z3 (by decide) (by decide) rfl rfl ?_
      refine am_aload_n (pc' := 49) dX9_about_48 rfl rfl ?_
      refine am_iload_n (pc' := 50) dX9_about_49 rfl rfl ?_
      obtain ⟨x4, ex4, hF⟩ := am_bind hF
      obtain ⟨ox4, px4⟩ := t_X9_placesOf ex4
      refine am_callV1 (Mc := M_X9_placesOf) (As := [.int v1]) (st := []) (pc' := 53) dX9_about_50 cw_X9_157 wd_5_41 sl_X9_placesOf ⟨_, rfl, rfl⟩ (by decide) (by decide) rfl rfl (Nat.le_of_ble_eq_true rfl) px4 (c_X9_placesOf ex4) rfl ?_
      cases hF
      exact am_iret dX9_about_53 rfl rfl
    rcases am_ite hF with ⟨z5, hF⟩ | ⟨z5, hF⟩
    · refine am_tableIn (c := (1 : Int32)) (pc' := 54) dX9_about_12 z5 (by decide) (by decide) rfl rfl ?_
      refine am_aload_n (pc' := 55) dX9_about_54 rfl rfl ?_
      obtain ⟨x6, ex6, hF⟩ := am_bind hF
      refine am_getr (pc' := 58) dX9_about_55 fw_X9_23 ex6 rfl ?_
      refine am_iload_n (pc' := 59) dX9_about_58 rfl rfl ?_
      obtain ⟨x7, ex7, hF⟩ := am_bind hF
      refine am_iald (pc' := 60) dX9_about_59 ex7 rfl ?_
      cases hF
      exact am_iret dX9_about_60 rfl rfl
    rcases am_ite hF with ⟨z8, hF⟩ | ⟨z8, hF⟩
    · refine am_tableIn (c := (2 : Int32)) (pc' := 61) dX9_about_12 z8 (by decide) (by decide) rfl rfl ?_
      refine am_aload_n (pc' := 62) dX9_about_61 rfl rfl ?_
      obtain ⟨x9, ex9, hF⟩ := am_bind hF
      refine am_getr (pc' := 65) dX9_about_62 fw_X9_29 ex9 rfl ?_
      refine am_iload_n (pc' := 66) dX9_about_65 rfl rfl ?_
      obtain ⟨x10, ex10, hF⟩ := am_bind hF
      refine am_iald (pc' := 67) dX9_about_66 ex10 rfl ?_
      cases hF
      exact am_iret dX9_about_67 rfl rfl
    rcases am_ite hF with ⟨z11, hF⟩ | ⟨z11, hF⟩
    · refine am_tableIn (c := (3 : Int32)) (pc' := 68) dX9_about_12 z11 (by decide) (by decide) rfl rfl ?_
      refine am_aload_n (pc' := 69) dX9_about_68 rfl rfl ?_
      obtain ⟨x12, ex12, hF⟩ := am_bind hF
      refine am_getr (pc' := 72) dX9_about_69 fw_X9_32 ex12 rfl ?_
      refine am_iload_n (pc' := 73) dX9_about_72 rfl rfl ?_
      obtain ⟨x13, ex13, hF⟩ := am_bind hF
      refine am_iald (pc' := 74) dX9_about_73 ex13 rfl ?_
      cases hF
      exact am_iret dX9_about_74 rfl rfl
    rcases am_ite hF with ⟨z14, hF⟩ | ⟨z14, hF⟩
    · refine am_tableIn (c := (4 : Int32)) (pc' := 75) dX9_about_12 z14 (by decide) (by decide) rfl rfl ?_
      refine am_aload_n (pc' := 76) dX9_about_75 rfl rfl ?_
      refine am_iload_n (pc' := 77) dX9_about_76 rfl rfl ?_
      obtain ⟨x15, ex15, hF⟩ := am_bind hF
      obtain ⟨ox15, px15⟩ := t_X9_tornIn ex15
      refine am_callV1 (Mc := M_X9_tornIn) (As := [.int v1]) (st := []) (pc' := 80) dX9_about_77 cw_X9_165 wd_5_50 sl_X9_tornIn ⟨_, rfl, rfl⟩ (by decide) (by decide) rfl rfl (Nat.le_of_ble_eq_true rfl) px15 (c_X9_tornIn ex15) rfl ?_
      cases hF
      exact am_iret dX9_about_80 rfl rfl
    refine am_tableOut (pc' := 81) dX9_about_12 (by have tz3 := lv_neT (a := 0) z3 rfl; have tz5 := lv_neT (a := 1) z5 rfl; have tz8 := lv_neT (a := 2) z8 rfl; have tz11 := lv_neT (a := 3) z11 rfl; have tz14 := lv_neT (a := 4) z14 rfl; omega) rfl ?_
    refine am_ldc (v := (-100002 : Int32)) (pc' := 83) dX9_about_81 wd_4_236 rfl ?_
    cases hF
    exact am_iret dX9_about_83 rfl rfl
  · refine am_if_eq_f (pc' := 8) (tgt := 11) dX9_about_5 rfl z2 rfl ?_
    refine am_ldc (v := (-100001 : Int32)) (pc' := 10) dX9_about_8 wd_5_47 rfl ?_
    cases hF
    exact am_iret dX9_about_10 rfl rfl
def F_X9_about (v0 : Nat) (v1 : Int32) (v2 : Int32) (h : am_H) : Option Int32 := (am_obj v0 9 h).bind fun _ => F_X9_about_b v0 v1 v2 h
theorem t_X9_about {x : Int32}  {v0 : Nat} {v1 : Int32} {v2 : Int32} {h : am_H} (hF : F_X9_about v0 v1 v2 h = some x) : ∃ fs, am_obj v0 9 h = some fs := by
  obtain ⟨fs, e, _⟩ := am_bind hF
  exact ⟨fs, e⟩
theorem c_X9_about {g : am_G} {l : Launch} {x : Int32}  {v0 : Nat} {v1 : Int32} {v2 : Int32} {h : am_H} (hF : F_X9_about v0 v1 v2 h = some x) : am_Met g l M_X9_about [.ref v0, .int v1, .int v2] h (some (.int x)) h := by
  obtain ⟨fs, e0, e⟩ := am_bind hF
  exact am_met (n := 0) (by decide +kernel) rfl (Nat.le_of_ble_eq_true rfl) (w_X9_about v0 v1 v2 h e)
def F_X8_block_23 (s0 : Int32) (h : am_H) : Option Int32 :=
  some s0
theorem w_X8_block_23 {g : am_G} {l : Launch} {h0 : am_H} {x : Int32}  (s0 : Int32) (h : am_H) (hF : F_X8_block_23 s0 h = some x) : am_W g l M_X8_block h0 (some (.int x)) h 23 [none, none, none, none] [.int s0] h := by
  unfold F_X8_block_23 at hF
  cases hF
  exact am_iret dX8_block_23 rfl rfl
def F_X8_block_b (v0 : Nat) (v1 : Int32) (v2 : Int32) (h : am_H) : Option Int32 :=
  (F_X8_versionOf v0 v1 h).bind fun x1 =>
  if x1 = 0 then
    F_X8_block_23 (-100001 : Int32) h
  else
    (am_gr 7 0 x1 h).bind fun x3 =>
    (F_X4_at x3 v2 h).bind fun x4 =>
    F_X8_block_23 x4 h
theorem w_X8_block {g : am_G} {l : Launch} {h0 : am_H} {x : Int32}  (v0 : Nat) (v1 : Int32) (v2 : Int32) (h : am_H) (hF : F_X8_block_b v0 v1 v2 h = some x) : am_W g l M_X8_block h0 (some (.int x)) h 0 [some (.ref v0), some (.int v1), some (.int v2), none] [] h := by
  unfold F_X8_block_b at hF
  refine am_aload_n (pc' := 1) dX8_block_0 rfl rfl ?_
  refine am_iload_n (pc' := 2) dX8_block_1 rfl rfl ?_
  obtain ⟨x1, ex1, hF⟩ := am_bind hF
  obtain ⟨ox1, px1⟩ := t_X8_versionOf ex1
  refine am_callV1 (Mc := M_X8_versionOf) (As := [.int v1]) (st := []) (pc' := 5) dX8_block_2 cw_X8_126 wd_2_135 sl_X8_versionOf ⟨_, rfl, rfl⟩ (by decide) (by decide) rfl rfl (Nat.le_of_ble_eq_true rfl) px1 (c_X8_versionOf ex1) rfl ?_
  refine am_astore_n (ls' := [some (.ref v0), some (.int v1), some (.int v2), some (.ref x1)]) (pc' := 6) dX8_block_5 (Nat.le_of_ble_eq_true rfl) rfl rfl ?_
  refine am_aload_n (pc' := 7) dX8_block_6 rfl rfl ?_
  rcases am_ite hF with ⟨z2, hF⟩ | ⟨z2, hF⟩
  · refine am_ifnonnull_f (pc' := 10) dX8_block_7 z2 rfl ?_
    refine am_ldc (v := (-100001 : Int32)) (pc' := 12) dX8_block_10 wd_2_137 rfl ?_
    refine am_goto (pc' := 23) dX8_block_12 rfl ?_
    exact am_weak [false, false, false, false] (w_X8_block_23 (-100001 : Int32) h hF)
  · refine am_ifnonnull_t (pc' := 15) dX8_block_7 rfl z2 ?_
    refine am_aload_n (pc' := 16) dX8_block_15 rfl rfl ?_
    obtain ⟨x3, ex3, hF⟩ := am_bind hF
    refine am_getr (pc' := 19) dX8_block_16 fw_X8_148 ex3 rfl ?_
    refine am_iload_n (pc' := 20) dX8_block_19 rfl rfl ?_
    obtain ⟨x4, ex4, hF⟩ := am_bind hF
    obtain ⟨ox4, px4⟩ := t_X4_at ex4
    refine am_callV1 (Mc := M_X4_at) (As := [.int v2]) (st := []) (pc' := 23) dX8_block_20 cw_X8_161 wd_2_40 wd_2_41 ⟨_, rfl, rfl⟩ (by decide) (by decide) rfl rfl (Nat.le_of_ble_eq_true rfl) px4 (c_X4_at ex4) rfl ?_
    exact am_weak [false, false, false, false] (w_X8_block_23 x4 h hF)
def F_X8_block (v0 : Nat) (v1 : Int32) (v2 : Int32) (h : am_H) : Option Int32 := (am_obj v0 8 h).bind fun _ => F_X8_block_b v0 v1 v2 h
theorem t_X8_block {x : Int32}  {v0 : Nat} {v1 : Int32} {v2 : Int32} {h : am_H} (hF : F_X8_block v0 v1 v2 h = some x) : ∃ fs, am_obj v0 8 h = some fs := by
  obtain ⟨fs, e, _⟩ := am_bind hF
  exact ⟨fs, e⟩
theorem c_X8_block {g : am_G} {l : Launch} {x : Int32}  {v0 : Nat} {v1 : Int32} {v2 : Int32} {h : am_H} (hF : F_X8_block v0 v1 v2 h = some x) : am_Met g l M_X8_block [.ref v0, .int v1, .int v2] h (some (.int x)) h := by
  obtain ⟨fs, e0, e⟩ := am_bind hF
  exact am_met (n := 1) (by decide +kernel) rfl (Nat.le_of_ble_eq_true rfl) (w_X8_block v0 v1 v2 h e)
def F_X9_block_39 (s0 : Int32) (h : am_H) : Option Int32 :=
  some s0
theorem w_X9_block_39 {g : am_G} {l : Launch} {h0 : am_H} {x : Int32}  (s0 : Int32) (h : am_H) (hF : F_X9_block_39 s0 h = some x) : am_W g l M_X9_block h0 (some (.int x)) h 39 [none, none, none] [.int s0] h := by
  unfold F_X9_block_39 at hF
  cases hF
  exact am_iret dX9_block_39 rfl rfl
def F_X9_block_b (v0 : Nat) (v1 : Int32) (v2 : Int32) (h : am_H) : Option Int32 :=
  (F_X9_noVersion v0 v1 h).bind fun x1 =>
  if x1 = 0 then
    (am_gr 9 7 v0 h).bind fun x3 =>
    (am_il 0 x3 v1 h).bind fun x4 =>
    (F_X9_in (Int32.toInt64 v2) (0 : Int64) (Int32.toInt64 (x4 - (1 : Int32))) h).bind fun x5 =>
    if x5 = 0 then
      F_X9_block_39 (-1 : Int32) h
    else
      (F_X9_blockAt v0 v1 v2 h).bind fun x7 =>
      F_X9_block_39 x7 h
  else
    some (-100001 : Int32)
theorem w_X9_block {g : am_G} {l : Launch} {h0 : am_H} {x : Int32}  (v0 : Nat) (v1 : Int32) (v2 : Int32) (h : am_H) (hF : F_X9_block_b v0 v1 v2 h = some x) : am_W g l M_X9_block h0 (some (.int x)) h 0 [some (.ref v0), some (.int v1), some (.int v2)] [] h := by
  unfold F_X9_block_b at hF
  refine am_aload_n (pc' := 1) dX9_block_0 rfl rfl ?_
  refine am_iload_n (pc' := 2) dX9_block_1 rfl rfl ?_
  obtain ⟨x1, ex1, hF⟩ := am_bind hF
  obtain ⟨ox1, px1⟩ := t_X9_noVersion ex1
  refine am_callV1 (Mc := M_X9_noVersion) (As := [.int v1]) (st := []) (pc' := 5) dX9_block_2 cw_X9_154 wd_5_37 sl_X9_noVersion ⟨_, rfl, rfl⟩ (by decide) (by decide) rfl rfl (Nat.le_of_ble_eq_true rfl) px1 (c_X9_noVersion ex1) rfl ?_
  rcases am_ite hF with ⟨z2, hF⟩ | ⟨z2, hF⟩
  · refine am_if_eq_t (pc' := 11) dX9_block_5 rfl z2 ?_
    refine am_iload_n (pc' := 12) dX9_block_11 rfl rfl ?_
    refine am_i2l (pc' := 13) dX9_block_12 rfl ?_
    refine am_lconst (v := (0 : Int64)) (pc' := 14) dX9_block_13 rfl rfl ?_
    refine am_aload_n (pc' := 15) dX9_block_14 rfl rfl ?_
    obtain ⟨x3, ex3, hF⟩ := am_bind hF
    refine am_getr (pc' := 18) dX9_block_15 fw_X9_23 ex3 rfl ?_
    refine am_iload_n (pc' := 19) dX9_block_18 rfl rfl ?_
    obtain ⟨x4, ex4, hF⟩ := am_bind hF
    refine am_iald (pc' := 20) dX9_block_19 ex4 rfl ?_
    refine am_iconst (v := (1 : Int32)) (pc' := 21) dX9_block_20 rfl rfl ?_
    refine am_isub (pc' := 22) dX9_block_21 rfl ?_
    refine am_i2l (pc' := 23) dX9_block_22 rfl ?_
    obtain ⟨x5, ex5, hF⟩ := am_bind hF
    refine am_callS1 (Mc := M_X9_in) (As := [.long (Int32.toInt64 v2), .long (0 : Int64), .long (Int32.toInt64 (x4 - (1 : Int32)))]) (st := []) (pc' := 26) dX9_block_23 cw_X9_96 wd_4_234 (by decide) (by decide) rfl rfl (Nat.le_of_ble_eq_true rfl) (c_X9_in ex5) rfl ?_
    rcases am_ite hF with ⟨z6, hF⟩ | ⟨z6, hF⟩
    · refine am_if_eq_t (pc' := 38) dX9_block_26 rfl z6 ?_
      refine am_iconst (v := (-1 : Int32)) (pc' := 39) dX9_block_38 rfl rfl ?_
      exact am_weak [false, false, false] (w_X9_block_39 (-1 : Int32) h hF)
    · refine am_if_eq_f (pc' := 29) (tgt := 38) dX9_block_26 rfl z6 rfl ?_
      refine am_aload_n (pc' := 30) dX9_block_29 rfl rfl ?_
      refine am_iload_n (pc' := 31) dX9_block_30 rfl rfl ?_
      refine am_iload_n (pc' := 32) dX9_block_31 rfl rfl ?_
      obtain ⟨x7, ex7, hF⟩ := am_bind hF
      obtain ⟨ox7, px7⟩ := t_X9_blockAt ex7
      refine am_callV1 (Mc := M_X9_blockAt) (As := [.int v1, .int v2]) (st := []) (pc' := 35) dX9_block_32 cw_X9_141 wd_5_45 sl_X9_blockAt ⟨_, rfl, rfl⟩ (by decide) (by decide) rfl rfl (Nat.le_of_ble_eq_true rfl) px7 (c_X9_blockAt ex7) rfl ?_
      refine am_goto (pc' := 39) dX9_block_35 rfl ?_
      exact am_weak [false, false, false] (w_X9_block_39 x7 h hF)
  · refine am_if_eq_f (pc' := 8) (tgt := 11) dX9_block_5 rfl z2 rfl ?_
    refine am_ldc (v := (-100001 : Int32)) (pc' := 10) dX9_block_8 wd_5_47 rfl ?_
    cases hF
    exact am_iret dX9_block_10 rfl rfl
def F_X9_block (v0 : Nat) (v1 : Int32) (v2 : Int32) (h : am_H) : Option Int32 := (am_obj v0 9 h).bind fun _ => F_X9_block_b v0 v1 v2 h
theorem t_X9_block {x : Int32}  {v0 : Nat} {v1 : Int32} {v2 : Int32} {h : am_H} (hF : F_X9_block v0 v1 v2 h = some x) : ∃ fs, am_obj v0 9 h = some fs := by
  obtain ⟨fs, e, _⟩ := am_bind hF
  exact ⟨fs, e⟩
theorem c_X9_block {g : am_G} {l : Launch} {x : Int32}  {v0 : Nat} {v1 : Int32} {v2 : Int32} {h : am_H} (hF : F_X9_block v0 v1 v2 h = some x) : am_Met g l M_X9_block [.ref v0, .int v1, .int v2] h (some (.int x)) h := by
  obtain ⟨fs, e0, e⟩ := am_bind hF
  exact am_met (n := 0) (by decide +kernel) rfl (Nat.le_of_ble_eq_true rfl) (w_X9_block v0 v1 v2 h e)
def F_X8_open_22 (h : am_H) : Option Int32 :=
  some (-100001 : Int32)
theorem w_X8_open_22 {g : am_G} {l : Launch} {h0 : am_H} {x : Int32}  (h : am_H) (hF : F_X8_open_22 h = some x) : am_W g l M_X8_open h0 (some (.int x)) h 22 [none, none, none, none, none] [] h := by
  unfold F_X8_open_22 at hF
  refine am_ldc (v := (-100001 : Int32)) (pc' := 24) dX8_open_22 wd_2_137 rfl ?_
  cases hF
  exact am_iret dX8_open_24 rfl rfl
def F_X8_open_b (v0 : Nat) (v1 : Int32) (v2 : Int32) (h : am_H) : Option Int32 :=
  (F_X8_versionOf v0 v1 h).bind fun x1 =>
  if x1 = 0 then
    F_X8_open_22 h
  else
    if v2 < 0 then
      F_X8_open_22 h
    else
      (am_gi 7 3 x1 h).bind fun x4 =>
      if v2 < x4 then
        (F_X8_indexAt v0 x1 v2 h).bind fun x6 =>
        (F_X8_isTornIn v0 x1 x6 h).bind fun x7 =>
        if x7 = 0 then
          (F_X8_startOf v0 x1 x6 h).bind fun x9 =>
          (F_X8_signIn v0 x1 x6 (v2 - x9) h).bind fun x10 =>
          some x10
        else
          some (-100005 : Int32)
      else
        F_X8_open_22 h
theorem w_X8_open {g : am_G} {l : Launch} {h0 : am_H} {x : Int32}  (v0 : Nat) (v1 : Int32) (v2 : Int32) (h : am_H) (hF : F_X8_open_b v0 v1 v2 h = some x) : am_W g l M_X8_open h0 (some (.int x)) h 0 [some (.ref v0), some (.int v1), some (.int v2), none, none] [] h := by
  unfold F_X8_open_b at hF
  refine am_aload_n (pc' := 1) dX8_open_0 rfl rfl ?_
  refine am_iload_n (pc' := 2) dX8_open_1 rfl rfl ?_
  obtain ⟨x1, ex1, hF⟩ := am_bind hF
  obtain ⟨ox1, px1⟩ := t_X8_versionOf ex1
  refine am_callV1 (Mc := M_X8_versionOf) (As := [.int v1]) (st := []) (pc' := 5) dX8_open_2 cw_X8_126 wd_2_135 sl_X8_versionOf ⟨_, rfl, rfl⟩ (by decide) (by decide) rfl rfl (Nat.le_of_ble_eq_true rfl) px1 (c_X8_versionOf ex1) rfl ?_
  refine am_astore_n (ls' := [some (.ref v0), some (.int v1), some (.int v2), some (.ref x1), none]) (pc' := 6) dX8_open_5 (Nat.le_of_ble_eq_true rfl) rfl rfl ?_
  refine am_aload_n (pc' := 7) dX8_open_6 rfl rfl ?_
  rcases am_ite hF with ⟨z2, hF⟩ | ⟨z2, hF⟩
  · refine am_ifnull_t (pc' := 22) dX8_open_7 rfl z2 ?_
    exact am_weak [false, false, false, false, false] (w_X8_open_22 h hF)
  · refine am_ifnull_f (pc' := 10) dX8_open_7 z2 rfl ?_
    refine am_iload_n (pc' := 11) dX8_open_10 rfl rfl ?_
    rcases am_ite hF with ⟨z3, hF⟩ | ⟨z3, hF⟩
    · refine am_if_lt_t (pc' := 22) dX8_open_11 rfl z3 ?_
      exact am_weak [false, false, false, false, false] (w_X8_open_22 h hF)
    · refine am_if_lt_f (pc' := 14) (tgt := 22) dX8_open_11 rfl z3 rfl ?_
      refine am_iload_n (pc' := 15) dX8_open_14 rfl rfl ?_
      refine am_aload_n (pc' := 16) dX8_open_15 rfl rfl ?_
      obtain ⟨x4, ex4, hF⟩ := am_bind hF
      refine am_geti (pc' := 19) dX8_open_16 fw_X8_130 ex4 rfl ?_
      rcases am_ite hF with ⟨z5, hF⟩ | ⟨z5, hF⟩
      · refine am_icmp_lt_t (pc' := 25) dX8_open_19 rfl z5 ?_
        refine am_aload_n (pc' := 26) dX8_open_25 rfl rfl ?_
        refine am_aload_n (pc' := 27) dX8_open_26 rfl rfl ?_
        refine am_iload_n (pc' := 28) dX8_open_27 rfl rfl ?_
        obtain ⟨x6, ex6, hF⟩ := am_bind hF
        obtain ⟨ox6, px6⟩ := t_X8_indexAt ex6
        refine am_callV1 (Mc := M_X8_indexAt) (As := [.ref x1, .int v2]) (st := []) (pc' := 31) dX8_open_28 cw_X8_141 wd_2_156 sl_X8_indexAt ⟨_, rfl, rfl⟩ (by decide) (by decide) rfl rfl (Nat.le_of_ble_eq_true rfl) px6 (c_X8_indexAt ex6) rfl ?_
        refine am_istore (ls' := [some (.ref v0), some (.int v1), some (.int v2), some (.ref x1), some (.int x6)]) (pc' := 33) dX8_open_31 (Nat.le_of_ble_eq_true rfl) rfl rfl ?_
        refine am_aload_n (pc' := 34) dX8_open_33 rfl rfl ?_
        refine am_aload_n (pc' := 35) dX8_open_34 rfl rfl ?_
        refine am_iload (pc' := 37) dX8_open_35 rfl rfl ?_
        obtain ⟨x7, ex7, hF⟩ := am_bind hF
        obtain ⟨ox7, px7⟩ := t_X8_isTornIn ex7
        refine am_callV1 (Mc := M_X8_isTornIn) (As := [.ref x1, .int x6]) (st := []) (pc' := 40) dX8_open_37 cw_X8_164 wd_2_151 sl_X8_isTornIn ⟨_, rfl, rfl⟩ (by decide) (by decide) rfl rfl (Nat.le_of_ble_eq_true rfl) px7 (c_X8_isTornIn ex7) rfl ?_
        rcases am_ite hF with ⟨z8, hF⟩ | ⟨z8, hF⟩
        · refine am_if_eq_t (pc' := 46) dX8_open_40 rfl z8 ?_
          refine am_aload_n (pc' := 47) dX8_open_46 rfl rfl ?_
          refine am_aload_n (pc' := 48) dX8_open_47 rfl rfl ?_
          refine am_iload (pc' := 50) dX8_open_48 rfl rfl ?_
          refine am_iload_n (pc' := 51) dX8_open_50 rfl rfl ?_
          refine am_aload_n (pc' := 52) dX8_open_51 rfl rfl ?_
          refine am_aload_n (pc' := 53) dX8_open_52 rfl rfl ?_
          refine am_iload (pc' := 55) dX8_open_53 rfl rfl ?_
          obtain ⟨x9, ex9, hF⟩ := am_bind hF
          obtain ⟨ox9, px9⟩ := t_X8_startOf ex9
          refine am_callV1 (Mc := M_X8_startOf) (As := [.ref x1, .int x6]) (st := [.int v2, .int x6, .ref x1, .ref v0]) (pc' := 58) dX8_open_55 cw_X8_169 wd_2_161 sl_X8_startOf ⟨_, rfl, rfl⟩ (by decide) (by decide) rfl rfl (Nat.le_of_ble_eq_true rfl) px9 (c_X8_startOf ex9) rfl ?_
          refine am_isub (pc' := 59) dX8_open_58 rfl ?_
          obtain ⟨x10, ex10, hF⟩ := am_bind hF
          obtain ⟨ox10, px10⟩ := t_X8_signIn ex10
          refine am_callV1 (Mc := M_X8_signIn) (As := [.ref x1, .int x6, .int (v2 - x9)]) (st := []) (pc' := 62) dX8_open_59 cw_X8_172 wd_2_127 sl_X8_signIn ⟨_, rfl, rfl⟩ (by decide) (by decide) rfl rfl (Nat.le_of_ble_eq_true rfl) px10 (c_X8_signIn ex10) rfl ?_
          cases hF
          exact am_iret dX8_open_62 rfl rfl
        · refine am_if_eq_f (pc' := 43) (tgt := 46) dX8_open_40 rfl z8 rfl ?_
          refine am_ldc (v := (-100005 : Int32)) (pc' := 45) dX8_open_43 wd_2_153 rfl ?_
          cases hF
          exact am_iret dX8_open_45 rfl rfl
      · refine am_icmp_lt_f (pc' := 22) (tgt := 25) dX8_open_19 rfl z5 rfl ?_
        exact am_weak [false, false, false, false, false] (w_X8_open_22 h hF)
def F_X8_open (v0 : Nat) (v1 : Int32) (v2 : Int32) (h : am_H) : Option Int32 := (am_obj v0 8 h).bind fun _ => F_X8_open_b v0 v1 v2 h
theorem t_X8_open {x : Int32}  {v0 : Nat} {v1 : Int32} {v2 : Int32} {h : am_H} (hF : F_X8_open v0 v1 v2 h = some x) : ∃ fs, am_obj v0 8 h = some fs := by
  obtain ⟨fs, e, _⟩ := am_bind hF
  exact ⟨fs, e⟩
theorem c_X8_open {g : am_G} {l : Launch} {x : Int32}  {v0 : Nat} {v1 : Int32} {v2 : Int32} {h : am_H} (hF : F_X8_open v0 v1 v2 h = some x) : am_Met g l M_X8_open [.ref v0, .int v1, .int v2] h (some (.int x)) h := by
  obtain ⟨fs, e0, e⟩ := am_bind hF
  exact am_met (n := 2) (by decide +kernel) rfl (Nat.le_of_ble_eq_true rfl) (w_X8_open v0 v1 v2 h e)
def F_X9_open_52 (s0 : Int32) (h : am_H) : Option (Int32 × am_H) :=
  some (s0, h)
theorem w_X9_open_52 {g : am_G} {l : Launch} {h0 : am_H} {x : Int32} {hf : am_H}  (s0 : Int32) (h : am_H) (hF : F_X9_open_52 s0 h = some (x, hf)) : am_W g l M_X9_open h0 (some (.int x)) hf 52 [none, none, none, none] [.int s0] h := by
  unfold F_X9_open_52 at hF
  cases hF
  exact am_iret dX9_open_52 rfl rfl
def F_X9_open_b (v0 : Nat) (v1 : Int32) (v2 : Int32) (h : am_H) : Option (Int32 × am_H) :=
  (F_X9_noPlace v0 v1 v2 (0 : Int32) h).bind fun x1 =>
  if x1 = 0 then
    (F_X9_find v0 v1 v2 h).bind fun h3 =>
    (am_gi 9 18 v0 h3).bind fun x4 =>
    (F_X9_blockAt v0 v1 x4 h3).bind fun x5 =>
    (am_gr 9 5 v0 h3).bind fun x6 =>
    (am_il 1 x6 x5 h3).bind fun x7 =>
    if x7 = 0 then
      (am_gi 9 19 v0 h3).bind fun x9 =>
      (F_X9_sign v0 x5 x9 h3).bind fun x10 =>
      F_X9_open_52 x10 h3
    else
      F_X9_open_52 (-100005 : Int32) h3
  else
    some ((-100001 : Int32), h)
theorem w_X9_open {g : am_G} {l : Launch} {h0 : am_H} {x : Int32} {hf : am_H}  (v0 : Nat) (v1 : Int32) (v2 : Int32) (h : am_H) (hF : F_X9_open_b v0 v1 v2 h = some (x, hf)) : am_W g l M_X9_open h0 (some (.int x)) hf 0 [some (.ref v0), some (.int v1), some (.int v2), none] [] h := by
  unfold F_X9_open_b at hF
  refine am_aload_n (pc' := 1) dX9_open_0 rfl rfl ?_
  refine am_iload_n (pc' := 2) dX9_open_1 rfl rfl ?_
  refine am_iload_n (pc' := 3) dX9_open_2 rfl rfl ?_
  refine am_iconst (v := (0 : Int32)) (pc' := 4) dX9_open_3 rfl rfl ?_
  obtain ⟨x1, ex1, hF⟩ := am_bind hF
  obtain ⟨ox1, px1⟩ := t_X9_noPlace ex1
  refine am_callV1 (Mc := M_X9_noPlace) (As := [.int v1, .int v2, .int (0 : Int32)]) (st := []) (pc' := 7) dX9_open_4 cw_X9_160 wd_5_33 sl_X9_noPlace ⟨_, rfl, rfl⟩ (by decide) (by decide) rfl rfl (Nat.le_of_ble_eq_true rfl) px1 (c_X9_noPlace ex1) rfl ?_
  rcases am_ite hF with ⟨z2, hF⟩ | ⟨z2, hF⟩
  · refine am_if_eq_t (pc' := 13) dX9_open_7 rfl z2 ?_
    refine am_aload_n (pc' := 14) dX9_open_13 rfl rfl ?_
    refine am_iload_n (pc' := 15) dX9_open_14 rfl rfl ?_
    refine am_iload_n (pc' := 16) dX9_open_15 rfl rfl ?_
    obtain ⟨h3, eh3, hF⟩ := am_bind hF
    obtain ⟨oh3, ph3⟩ := t_X9_find eh3
    refine am_callV0 (Mc := M_X9_find) (As := [.int v1, .int v2]) (st := []) (pc' := 19) dX9_open_16 cw_X9_169 wd_5_58 sl_X9_find ⟨_, rfl, rfl⟩ (by decide) (by decide) rfl rfl (Nat.le_of_ble_eq_true rfl) ph3 (c_X9_find eh3) rfl ?_
    refine am_aload_n (pc' := 20) dX9_open_19 rfl rfl ?_
    refine am_iload_n (pc' := 21) dX9_open_20 rfl rfl ?_
    refine am_aload_n (pc' := 22) dX9_open_21 rfl rfl ?_
    obtain ⟨x4, ex4, hF⟩ := am_bind hF
    refine am_geti (pc' := 25) dX9_open_22 fw_X9_144 ex4 rfl ?_
    obtain ⟨x5, ex5, hF⟩ := am_bind hF
    obtain ⟨ox5, px5⟩ := t_X9_blockAt ex5
    refine am_callV1 (Mc := M_X9_blockAt) (As := [.int v1, .int x4]) (st := []) (pc' := 28) dX9_open_25 cw_X9_141 wd_5_45 sl_X9_blockAt ⟨_, rfl, rfl⟩ (by decide) (by decide) rfl rfl (Nat.le_of_ble_eq_true rfl) px5 (c_X9_blockAt ex5) rfl ?_
    refine am_istore_n (ls' := [some (.ref v0), some (.int v1), some (.int v2), some (.int x5)]) (pc' := 29) dX9_open_28 (Nat.le_of_ble_eq_true rfl) rfl rfl ?_
    refine am_aload_n (pc' := 30) dX9_open_29 rfl rfl ?_
    obtain ⟨x6, ex6, hF⟩ := am_bind hF
    refine am_getr (pc' := 33) dX9_open_30 fw_X9_19 ex6 rfl ?_
    refine am_iload_n (pc' := 34) dX9_open_33 rfl rfl ?_
    obtain ⟨x7, ex7, hF⟩ := am_bind hF
    refine am_bald (pc' := 35) dX9_open_34 ex7 rfl ?_
    rcases am_ite hF with ⟨z8, hF⟩ | ⟨z8, hF⟩
    · refine am_if_eq_t (pc' := 43) dX9_open_35 rfl z8 ?_
      refine am_aload_n (pc' := 44) dX9_open_43 rfl rfl ?_
      refine am_iload_n (pc' := 45) dX9_open_44 rfl rfl ?_
      refine am_aload_n (pc' := 46) dX9_open_45 rfl rfl ?_
      obtain ⟨x9, ex9, hF⟩ := am_bind hF
      refine am_geti (pc' := 49) dX9_open_46 fw_X9_147 ex9 rfl ?_
      obtain ⟨x10, ex10, hF⟩ := am_bind hF
      obtain ⟨ox10, px10⟩ := t_X9_sign ex10
      refine am_callV1 (Mc := M_X9_sign) (As := [.int x5, .int x9]) (st := []) (pc' := 52) dX9_open_49 cw_X9_113 wd_5_21 sl_X9_sign ⟨_, rfl, rfl⟩ (by decide) (by decide) rfl rfl (Nat.le_of_ble_eq_true rfl) px10 (c_X9_sign ex10) rfl ?_
      exact am_weak [false, false, false, false] (w_X9_open_52 x10 h3 hF)
    · refine am_if_eq_f (pc' := 38) (tgt := 43) dX9_open_35 rfl z8 rfl ?_
      refine am_ldc (v := (-100005 : Int32)) (pc' := 40) dX9_open_38 wd_5_55 rfl ?_
      refine am_goto (pc' := 52) dX9_open_40 rfl ?_
      exact am_weak [false, false, false, false] (w_X9_open_52 (-100005 : Int32) h3 hF)
  · refine am_if_eq_f (pc' := 10) (tgt := 13) dX9_open_7 rfl z2 rfl ?_
    refine am_ldc (v := (-100001 : Int32)) (pc' := 12) dX9_open_10 wd_5_47 rfl ?_
    cases hF
    exact am_iret dX9_open_12 rfl rfl
def F_X9_open (v0 : Nat) (v1 : Int32) (v2 : Int32) (h : am_H) : Option (Int32 × am_H) := (am_obj v0 9 h).bind fun _ => F_X9_open_b v0 v1 v2 h
theorem t_X9_open {x : Int32} {hf : am_H}  {v0 : Nat} {v1 : Int32} {v2 : Int32} {h : am_H} (hF : F_X9_open v0 v1 v2 h = some (x, hf)) : ∃ fs, am_obj v0 9 h = some fs := by
  obtain ⟨fs, e, _⟩ := am_bind hF
  exact ⟨fs, e⟩
theorem c_X9_open {g : am_G} {l : Launch} {x : Int32} {hf : am_H}  {v0 : Nat} {v1 : Int32} {v2 : Int32} {h : am_H} (hF : F_X9_open v0 v1 v2 h = some (x, hf)) : am_Met g l M_X9_open [.ref v0, .int v1, .int v2] h (some (.int x)) hf := by
  obtain ⟨fs, e0, e⟩ := am_bind hF
  exact am_met (n := 1) (by decide +kernel) rfl (Nat.le_of_ble_eq_true rfl) (w_X9_open v0 v1 v2 h e)
def F_X4_firstOf_2 : Nat → Nat → Int32 → Int32 → am_H → Option Int32
  | 0, _, _, _, _ => none
  | n + 1, v0, v1, v2, h =>
  (am_gi 4 1 v0 h).bind fun x1 =>
  if x1 ≤ v2 then
    some (-1 : Int32)
  else
    (F_X4_at v0 v2 h).bind fun x3 =>
    if x3 = v1 then
      some v2
    else
      F_X4_firstOf_2 n v0 v1 (v2 + (1 : Int32)) h
theorem w_X4_firstOf_2 {g : am_G} {l : Launch} {h0 : am_H} {x : Int32}  : ∀ (n : Nat) (v0 : Nat) (v1 : Int32) (v2 : Int32) (h : am_H), F_X4_firstOf_2 n v0 v1 v2 h = some x → am_W g l M_X4_firstOf h0 (some (.int x)) h 2 [some (.ref v0), some (.int v1), some (.int v2)] [] h
  | 0, _, _, _, _, hF => by cases hF
  | n + 1, v0, v1, v2, h, hF => by
    rw [F_X4_firstOf_2] at hF
    refine am_iload_n (pc' := 3) dX4_firstOf_2 rfl rfl ?_
    refine am_aload_n (pc' := 4) dX4_firstOf_3 rfl rfl ?_
    obtain ⟨x1, ex1, hF⟩ := am_bind hF
    refine am_geti (pc' := 7) dX4_firstOf_4 fw_X4_9 ex1 rfl ?_
    rcases am_ite hF with ⟨z2, hF⟩ | ⟨z2, hF⟩
    · refine am_icmp_ge_t (pc' := 27) dX4_firstOf_7 rfl z2 ?_
      refine am_iconst (v := (-1 : Int32)) (pc' := 28) dX4_firstOf_27 rfl rfl ?_
      cases hF
      exact am_iret dX4_firstOf_28 rfl rfl
    · refine am_icmp_ge_f (pc' := 10) (tgt := 27) dX4_firstOf_7 rfl z2 rfl ?_
      refine am_aload_n (pc' := 11) dX4_firstOf_10 rfl rfl ?_
      refine am_iload_n (pc' := 12) dX4_firstOf_11 rfl rfl ?_
      obtain ⟨x3, ex3, hF⟩ := am_bind hF
      obtain ⟨ox3, px3⟩ := t_X4_at ex3
      refine am_callV1 (Mc := M_X4_at) (As := [.int v2]) (st := []) (pc' := 15) dX4_firstOf_12 cw_X4_25 wd_2_40 wd_2_41 ⟨_, rfl, rfl⟩ (by decide) (by decide) rfl rfl (Nat.le_of_ble_eq_true rfl) px3 (c_X4_at ex3) rfl ?_
      refine am_iload_n (pc' := 16) dX4_firstOf_15 rfl rfl ?_
      rcases am_ite hF with ⟨z4, hF⟩ | ⟨z4, hF⟩
      · refine am_icmp_ne_f (pc' := 19) (tgt := 21) dX4_firstOf_16 rfl z4 rfl ?_
        refine am_iload_n (pc' := 20) dX4_firstOf_19 rfl rfl ?_
        cases hF
        exact am_iret dX4_firstOf_20 rfl rfl
      · refine am_icmp_ne_t (pc' := 21) dX4_firstOf_16 rfl z4 ?_
        refine am_iinc (ls' := [some (.ref v0), some (.int v1), some (.int (v2 + (1 : Int32)))]) (pc' := 24) (v := (v2 + (1 : Int32))) dX4_firstOf_21 rfl rfl (Nat.le_of_ble_eq_true rfl) rfl rfl ?_
        refine am_goto (pc' := 2) dX4_firstOf_24 rfl ?_
        exact w_X4_firstOf_2 n v0 v1 (v2 + (1 : Int32)) h hF
def F_X4_firstOf_b (v0 : Nat) (v1 : Int32) (h : am_H) : Option Int32 :=
  F_X4_firstOf_2 am_F v0 v1 (0 : Int32) h
theorem w_X4_firstOf {g : am_G} {l : Launch} {h0 : am_H} {x : Int32}  (v0 : Nat) (v1 : Int32) (h : am_H) (hF : F_X4_firstOf_b v0 v1 h = some x) : am_W g l M_X4_firstOf h0 (some (.int x)) h 0 [some (.ref v0), some (.int v1), none] [] h := by
  unfold F_X4_firstOf_b at hF
  refine am_iconst (v := (0 : Int32)) (pc' := 1) dX4_firstOf_0 rfl rfl ?_
  refine am_istore_n (ls' := [some (.ref v0), some (.int v1), some (.int (0 : Int32))]) (pc' := 2) dX4_firstOf_1 (Nat.le_of_ble_eq_true rfl) rfl rfl ?_
  exact w_X4_firstOf_2 am_F v0 v1 (0 : Int32) h hF
def F_X4_firstOf (v0 : Nat) (v1 : Int32) (h : am_H) : Option Int32 := (am_obj v0 4 h).bind fun _ => F_X4_firstOf_b v0 v1 h
theorem t_X4_firstOf {x : Int32}  {v0 : Nat} {v1 : Int32} {h : am_H} (hF : F_X4_firstOf v0 v1 h = some x) : ∃ fs, am_obj v0 4 h = some fs := by
  obtain ⟨fs, e, _⟩ := am_bind hF
  exact ⟨fs, e⟩
theorem c_X4_firstOf {g : am_G} {l : Launch} {x : Int32}  {v0 : Nat} {v1 : Int32} {h : am_H} (hF : F_X4_firstOf v0 v1 h = some x) : am_Met g l M_X4_firstOf [.ref v0, .int v1] h (some (.int x)) h := by
  obtain ⟨fs, e0, e⟩ := am_bind hF
  exact am_met (n := 1) (by decide +kernel) rfl (Nat.le_of_ble_eq_true rfl) (w_X4_firstOf v0 v1 h e)
theorem cw_X4_40 : am_cw "SignCellar$Row" 40 M_X4_firstOf 1 := ⟨wd_1_2, wd_2_207, ⟨by decide, by decide, by decide⟩, Or.inl wd_2_204⟩
def F_X4_has_14 (s0 : Int32) (h : am_H) : Option Int32 :=
  am_z s0
theorem w_X4_has_14 {g : am_G} {l : Launch} {h0 : am_H} {x : Int32}  (s0 : Int32) (h : am_H) (hF : F_X4_has_14 s0 h = some x) : am_W g l M_X4_has h0 (some (.int x)) h 14 [none, none] [.int s0] h := by
  unfold F_X4_has_14 at hF
  exact am_zret dX4_has_14 rfl hF
def F_X4_has_b (v0 : Nat) (v1 : Int32) (h : am_H) : Option Int32 :=
  (F_X4_firstOf v0 v1 h).bind fun x1 =>
  if x1 = (-1 : Int32) then
    F_X4_has_14 (0 : Int32) h
  else
    F_X4_has_14 (1 : Int32) h
theorem w_X4_has {g : am_G} {l : Launch} {h0 : am_H} {x : Int32}  (v0 : Nat) (v1 : Int32) (h : am_H) (hF : F_X4_has_b v0 v1 h = some x) : am_W g l M_X4_has h0 (some (.int x)) h 0 [some (.ref v0), some (.int v1)] [] h := by
  unfold F_X4_has_b at hF
  refine am_aload_n (pc' := 1) dX4_has_0 rfl rfl ?_
  refine am_iload_n (pc' := 2) dX4_has_1 rfl rfl ?_
  obtain ⟨x1, ex1, hF⟩ := am_bind hF
  obtain ⟨ox1, px1⟩ := t_X4_firstOf ex1
  refine am_callV1 (Mc := M_X4_firstOf) (As := [.int v1]) (st := []) (pc' := 5) dX4_has_2 cw_X4_40 wd_2_205 wd_2_206 ⟨_, rfl, rfl⟩ (by decide) (by decide) rfl rfl (Nat.le_of_ble_eq_true rfl) px1 (c_X4_firstOf ex1) rfl ?_
  refine am_iconst (v := (-1 : Int32)) (pc' := 6) dX4_has_5 rfl rfl ?_
  rcases am_ite hF with ⟨z2, hF⟩ | ⟨z2, hF⟩
  · refine am_icmp_eq_t (pc' := 13) dX4_has_6 rfl z2 ?_
    refine am_iconst (v := (0 : Int32)) (pc' := 14) dX4_has_13 rfl rfl ?_
    exact am_weak [false, false] (w_X4_has_14 (0 : Int32) h hF)
  · refine am_icmp_eq_f (pc' := 9) (tgt := 13) dX4_has_6 rfl z2 rfl ?_
    refine am_iconst (v := (1 : Int32)) (pc' := 10) dX4_has_9 rfl rfl ?_
    refine am_goto (pc' := 14) dX4_has_10 rfl ?_
    exact am_weak [false, false] (w_X4_has_14 (1 : Int32) h hF)
def F_X4_has (v0 : Nat) (v1 : Int32) (h : am_H) : Option Int32 := (am_obj v0 4 h).bind fun _ => F_X4_has_b v0 v1 h
theorem t_X4_has {x : Int32}  {v0 : Nat} {v1 : Int32} {h : am_H} (hF : F_X4_has v0 v1 h = some x) : ∃ fs, am_obj v0 4 h = some fs := by
  obtain ⟨fs, e, _⟩ := am_bind hF
  exact ⟨fs, e⟩
theorem c_X4_has {g : am_G} {l : Launch} {x : Int32}  {v0 : Nat} {v1 : Int32} {h : am_H} (hF : F_X4_has v0 v1 h = some x) : am_Met g l M_X4_has [.ref v0, .int v1] h (some (.int x)) h := by
  obtain ⟨fs, e0, e⟩ := am_bind hF
  exact am_met (n := 0) (by decide +kernel) rfl (Nat.le_of_ble_eq_true rfl) (w_X4_has v0 v1 h e)
theorem cw_X8_198 : am_cw "SignCellar" 198 M_X4_has 1 := ⟨wd_1_2, wd_2_203, ⟨by decide, by decide, by decide⟩, Or.inl wd_2_200⟩
def F_X8_versionsWith_39 (k4 : Nat → Int32 → Int32 → Int32 → am_H → Option Int32) (v0 : Nat) (v1 : Int32) (v2 : Int32) (v3 : Int32) (h : am_H) : Option Int32 :=
  k4 v0 v1 v2 (v3 + (1 : Int32)) h
theorem w_X8_versionsWith_39 {g : am_G} {l : Launch} {h0 : am_H} {x : Int32}  {k4 : Nat → Int32 → Int32 → Int32 → am_H → Option Int32} (j4 : ∀ (v0 : Nat) (v1 : Int32) (v2 : Int32) (v3 : Int32) (h : am_H), k4 v0 v1 v2 v3 h = some x → am_W g l M_X8_versionsWith h0 (some (.int x)) h 4 [some (.ref v0), some (.int v1), some (.int v2), some (.int v3), none] [] h) (v0 : Nat) (v1 : Int32) (v2 : Int32) (v3 : Int32) (h : am_H) (hF : F_X8_versionsWith_39 k4 v0 v1 v2 v3 h = some x) : am_W g l M_X8_versionsWith h0 (some (.int x)) h 39 [some (.ref v0), some (.int v1), some (.int v2), some (.int v3), none] [] h := by
  unfold F_X8_versionsWith_39 at hF
  refine am_iinc (ls' := [some (.ref v0), some (.int v1), some (.int v2), some (.int (v3 + (1 : Int32))), none]) (pc' := 42) (v := (v3 + (1 : Int32))) dX8_versionsWith_39 rfl rfl (Nat.le_of_ble_eq_true rfl) rfl rfl ?_
  refine am_goto (pc' := 4) dX8_versionsWith_42 rfl ?_
  exact j4 v0 v1 v2 (v3 + (1 : Int32)) h hF
def F_X8_versionsWith_4 : Nat → Nat → Int32 → Int32 → Int32 → am_H → Option Int32
  | 0, _, _, _, _, _ => none
  | n + 1, v0, v1, v2, v3, h =>
  (am_gi 8 5 v0 h).bind fun x1 =>
  if x1 ≤ v3 then
    some v2
  else
    (F_X8_versionOf v0 v3 h).bind fun x3 =>
    if x3 = 0 then
      F_X8_versionsWith_39 (F_X8_versionsWith_4 n) v0 v1 v2 v3 h
    else
      (am_gr 7 0 x3 h).bind fun x5 =>
      (F_X4_has x5 v1 h).bind fun x6 =>
      if x6 = 0 then
        F_X8_versionsWith_39 (F_X8_versionsWith_4 n) v0 v1 v2 v3 h
      else
        F_X8_versionsWith_39 (F_X8_versionsWith_4 n) v0 v1 (v2 + (1 : Int32)) v3 h
theorem w_X8_versionsWith_4 {g : am_G} {l : Launch} {h0 : am_H} {x : Int32}  : ∀ (n : Nat) (v0 : Nat) (v1 : Int32) (v2 : Int32) (v3 : Int32) (h : am_H), F_X8_versionsWith_4 n v0 v1 v2 v3 h = some x → am_W g l M_X8_versionsWith h0 (some (.int x)) h 4 [some (.ref v0), some (.int v1), some (.int v2), some (.int v3), none] [] h
  | 0, _, _, _, _, _, hF => by cases hF
  | n + 1, v0, v1, v2, v3, h, hF => by
    rw [F_X8_versionsWith_4] at hF
    refine am_iload_n (pc' := 5) dX8_versionsWith_4 rfl rfl ?_
    refine am_aload_n (pc' := 6) dX8_versionsWith_5 rfl rfl ?_
    obtain ⟨x1, ex1, hF⟩ := am_bind hF
    refine am_geti (pc' := 9) dX8_versionsWith_6 fw_X8_37 ex1 rfl ?_
    rcases am_ite hF with ⟨z2, hF⟩ | ⟨z2, hF⟩
    · refine am_icmp_ge_t (pc' := 45) dX8_versionsWith_9 rfl z2 ?_
      refine am_iload_n (pc' := 46) dX8_versionsWith_45 rfl rfl ?_
      cases hF
      exact am_iret dX8_versionsWith_46 rfl rfl
    · refine am_icmp_ge_f (pc' := 12) (tgt := 45) dX8_versionsWith_9 rfl z2 rfl ?_
      refine am_aload_n (pc' := 13) dX8_versionsWith_12 rfl rfl ?_
      refine am_iload_n (pc' := 14) dX8_versionsWith_13 rfl rfl ?_
      obtain ⟨x3, ex3, hF⟩ := am_bind hF
      obtain ⟨ox3, px3⟩ := t_X8_versionOf ex3
      refine am_callV1 (Mc := M_X8_versionOf) (As := [.int v3]) (st := []) (pc' := 17) dX8_versionsWith_14 cw_X8_126 wd_2_135 sl_X8_versionOf ⟨_, rfl, rfl⟩ (by decide) (by decide) rfl rfl (Nat.le_of_ble_eq_true rfl) px3 (c_X8_versionOf ex3) rfl ?_
      refine am_astore (ls' := [some (.ref v0), some (.int v1), some (.int v2), some (.int v3), some (.ref x3)]) (pc' := 19) dX8_versionsWith_17 (Nat.le_of_ble_eq_true rfl) rfl rfl ?_
      refine am_aload (pc' := 21) dX8_versionsWith_19 rfl rfl ?_
      rcases am_ite hF with ⟨z4, hF⟩ | ⟨z4, hF⟩
      · refine am_ifnull_t (pc' := 39) dX8_versionsWith_21 rfl z4 ?_
        exact am_weak [true, true, true, true, false] (w_X8_versionsWith_39 (w_X8_versionsWith_4 n) v0 v1 v2 v3 h hF)
      · refine am_ifnull_f (pc' := 24) dX8_versionsWith_21 z4 rfl ?_
        refine am_aload (pc' := 26) dX8_versionsWith_24 rfl rfl ?_
        obtain ⟨x5, ex5, hF⟩ := am_bind hF
        refine am_getr (pc' := 29) dX8_versionsWith_26 fw_X8_148 ex5 rfl ?_
        refine am_iload_n (pc' := 30) dX8_versionsWith_29 rfl rfl ?_
        obtain ⟨x6, ex6, hF⟩ := am_bind hF
        obtain ⟨ox6, px6⟩ := t_X4_has ex6
        refine am_callV1 (Mc := M_X4_has) (As := [.int v1]) (st := []) (pc' := 33) dX8_versionsWith_30 cw_X8_198 wd_2_201 wd_2_202 ⟨_, rfl, rfl⟩ (by decide) (by decide) rfl rfl (Nat.le_of_ble_eq_true rfl) px6 (c_X4_has ex6) rfl ?_
        rcases am_ite hF with ⟨z7, hF⟩ | ⟨z7, hF⟩
        · refine am_if_eq_t (pc' := 39) dX8_versionsWith_33 rfl z7 ?_
          exact am_weak [true, true, true, true, false] (w_X8_versionsWith_39 (w_X8_versionsWith_4 n) v0 v1 v2 v3 h hF)
        · refine am_if_eq_f (pc' := 36) (tgt := 39) dX8_versionsWith_33 rfl z7 rfl ?_
          refine am_iinc (ls' := [some (.ref v0), some (.int v1), some (.int (v2 + (1 : Int32))), some (.int v3), some (.ref x3)]) (pc' := 39) (v := (v2 + (1 : Int32))) dX8_versionsWith_36 rfl rfl (Nat.le_of_ble_eq_true rfl) rfl rfl ?_
          exact am_weak [true, true, true, true, false] (w_X8_versionsWith_39 (w_X8_versionsWith_4 n) v0 v1 (v2 + (1 : Int32)) v3 h hF)
def F_X8_versionsWith_b (v0 : Nat) (v1 : Int32) (h : am_H) : Option Int32 :=
  F_X8_versionsWith_4 am_F v0 v1 (0 : Int32) (0 : Int32) h
theorem w_X8_versionsWith {g : am_G} {l : Launch} {h0 : am_H} {x : Int32}  (v0 : Nat) (v1 : Int32) (h : am_H) (hF : F_X8_versionsWith_b v0 v1 h = some x) : am_W g l M_X8_versionsWith h0 (some (.int x)) h 0 [some (.ref v0), some (.int v1), none, none, none] [] h := by
  unfold F_X8_versionsWith_b at hF
  refine am_iconst (v := (0 : Int32)) (pc' := 1) dX8_versionsWith_0 rfl rfl ?_
  refine am_istore_n (ls' := [some (.ref v0), some (.int v1), some (.int (0 : Int32)), none, none]) (pc' := 2) dX8_versionsWith_1 (Nat.le_of_ble_eq_true rfl) rfl rfl ?_
  refine am_iconst (v := (0 : Int32)) (pc' := 3) dX8_versionsWith_2 rfl rfl ?_
  refine am_istore_n (ls' := [some (.ref v0), some (.int v1), some (.int (0 : Int32)), some (.int (0 : Int32)), none]) (pc' := 4) dX8_versionsWith_3 (Nat.le_of_ble_eq_true rfl) rfl rfl ?_
  exact w_X8_versionsWith_4 am_F v0 v1 (0 : Int32) (0 : Int32) h hF
def F_X8_versionsWith (v0 : Nat) (v1 : Int32) (h : am_H) : Option Int32 := (am_obj v0 8 h).bind fun _ => F_X8_versionsWith_b v0 v1 h
theorem t_X8_versionsWith {x : Int32}  {v0 : Nat} {v1 : Int32} {h : am_H} (hF : F_X8_versionsWith v0 v1 h = some x) : ∃ fs, am_obj v0 8 h = some fs := by
  obtain ⟨fs, e, _⟩ := am_bind hF
  exact ⟨fs, e⟩
theorem c_X8_versionsWith {g : am_G} {l : Launch} {x : Int32}  {v0 : Nat} {v1 : Int32} {h : am_H} (hF : F_X8_versionsWith v0 v1 h = some x) : am_Met g l M_X8_versionsWith [.ref v0, .int v1] h (some (.int x)) h := by
  obtain ⟨fs, e0, e⟩ := am_bind hF
  exact am_met (n := 3) (by decide +kernel) rfl (Nat.le_of_ble_eq_true rfl) (w_X8_versionsWith v0 v1 h e)
theorem cw_X8_186 : am_cw "SignCellar" 186 M_X8_versionsWith 1 := ⟨wd_1_1, wd_2_199, ⟨by decide, by decide, by decide⟩, Or.inl wd_2_196⟩
theorem sl_X8_versionsWith : Cond.selects (⟨"SignCellar", "versionsWith", "(I)I"⟩ : MethodName).cls ⟨"SignCellar", "versionsWith", "(I)I"⟩ ⟨"SignCellar", "versionsWith", "(I)I"⟩ ∈ am_ts := am_in_p (q := (⟨"SignCellar", "versionsWith", "(I)I"⟩, 16)) (by decide +kernel)
def F_X8_told_60 (s0 : Int32) (h : am_H) : Option Int32 :=
  some s0
theorem w_X8_told_60 {g : am_G} {l : Launch} {h0 : am_H} {x : Int32}  (s0 : Int32) (h : am_H) (hF : F_X8_told_60 s0 h = some x) : am_W g l M_X8_told h0 (some (.int x)) h 60 [none, none, none, none] [.int s0] h := by
  unfold F_X8_told_60 at hF
  cases hF
  exact am_iret dX8_told_60 rfl rfl
def F_X8_told_b (v0 : Nat) (v1 : Int32) (v2 : Int32) (h : am_H) : Option Int32 :=
  (F_X8_blockOf v0 v1 h).bind fun x1 =>
  if x1 = 0 then
    some (-100001 : Int32)
  else
    if v2 = (0 : Int32) then
      (am_gr 0 0 x1 h).bind fun x4 =>
      (F_X4_length x4 h).bind fun x5 =>
      some x5
    else
    if v2 = (1 : Int32) then
      (am_gi 0 3 x1 h).bind fun x7 =>
      if x7 = 0 then
        F_X8_told_60 (0 : Int32) h
      else
        F_X8_told_60 (1 : Int32) h
    else
    if v2 = (2 : Int32) then
      (F_X8_versionsWith v0 v1 h).bind fun x10 =>
      some x10
    else
    some (-100002 : Int32)
theorem w_X8_told {g : am_G} {l : Launch} {h0 : am_H} {x : Int32}  (v0 : Nat) (v1 : Int32) (v2 : Int32) (h : am_H) (hF : F_X8_told_b v0 v1 v2 h = some x) : am_W g l M_X8_told h0 (some (.int x)) h 0 [some (.ref v0), some (.int v1), some (.int v2), none] [] h := by
  unfold F_X8_told_b at hF
  refine am_aload_n (pc' := 1) dX8_told_0 rfl rfl ?_
  refine am_iload_n (pc' := 2) dX8_told_1 rfl rfl ?_
  obtain ⟨x1, ex1, hF⟩ := am_bind hF
  obtain ⟨ox1, px1⟩ := t_X8_blockOf ex1
  refine am_callV1 (Mc := M_X8_blockOf) (As := [.int v1]) (st := []) (pc' := 5) dX8_told_2 cw_X8_176 wd_2_33 sl_X8_blockOf ⟨_, rfl, rfl⟩ (by decide) (by decide) rfl rfl (Nat.le_of_ble_eq_true rfl) px1 (c_X8_blockOf ex1) rfl ?_
  refine am_astore_n (ls' := [some (.ref v0), some (.int v1), some (.int v2), some (.ref x1)]) (pc' := 6) dX8_told_5 (Nat.le_of_ble_eq_true rfl) rfl rfl ?_
  refine am_aload_n (pc' := 7) dX8_told_6 rfl rfl ?_
  rcases am_ite hF with ⟨z2, hF⟩ | ⟨z2, hF⟩
  · refine am_ifnonnull_f (pc' := 10) dX8_told_7 z2 rfl ?_
    refine am_ldc (v := (-100001 : Int32)) (pc' := 12) dX8_told_10 wd_2_137 rfl ?_
    cases hF
    exact am_iret dX8_told_12 rfl rfl
  · refine am_ifnonnull_t (pc' := 13) dX8_told_7 rfl z2 ?_
    refine am_iload_n (pc' := 14) dX8_told_13 rfl rfl ?_
    rcases am_ite hF with ⟨z3, hF⟩ | ⟨z3, hF⟩
    · refine am_tableIn (c := (0 : Int32)) (pc' := 40) dX8_told_14 z3 (by decide) (by decide) rfl rfl ?_
      refine am_aload_n (pc' := 41) dX8_told_40 rfl rfl ?_
      obtain ⟨x4, ex4, hF⟩ := am_bind hF
      refine am_getr (pc' := 44) dX8_told_41 fw_X8_180 ex4 rfl ?_
      obtain ⟨x5, ex5, hF⟩ := am_bind hF
      obtain ⟨ox5, px5⟩ := t_X4_length ex5
      refine am_callV1 (Mc := M_X4_length) (As := []) (st := []) (pc' := 47) dX8_told_44 cw_X8_93 wd_1_235 wd_1_236 ⟨_, rfl, rfl⟩ (by decide) (by decide) rfl rfl (Nat.le_of_ble_eq_true rfl) px5 (c_X4_length ex5) rfl ?_
      cases hF
      exact am_iret dX8_told_47 rfl rfl
    rcases am_ite hF with ⟨z6, hF⟩ | ⟨z6, hF⟩
    · refine am_tableIn (c := (1 : Int32)) (pc' := 48) dX8_told_14 z6 (by decide) (by decide) rfl rfl ?_
      refine am_aload_n (pc' := 49) dX8_told_48 rfl rfl ?_
      obtain ⟨x7, ex7, hF⟩ := am_bind hF
      refine am_geti (pc' := 52) dX8_told_49 fw_X8_182 ex7 rfl ?_
      rcases am_ite hF with ⟨z8, hF⟩ | ⟨z8, hF⟩
      · refine am_if_eq_t (pc' := 59) dX8_told_52 rfl z8 ?_
        refine am_iconst (v := (0 : Int32)) (pc' := 60) dX8_told_59 rfl rfl ?_
        exact am_weak [false, false, false, false] (w_X8_told_60 (0 : Int32) h hF)
      · refine am_if_eq_f (pc' := 55) (tgt := 59) dX8_told_52 rfl z8 rfl ?_
        refine am_iconst (v := (1 : Int32)) (pc' := 56) dX8_told_55 rfl rfl ?_
        refine am_goto (pc' := 60) dX8_told_56 rfl ?_
        exact am_weak [false, false, false, false] (w_X8_told_60 (1 : Int32) h hF)
    rcases am_ite hF with ⟨z9, hF⟩ | ⟨z9, hF⟩
    · refine am_tableIn (c := (2 : Int32)) (pc' := 61) dX8_told_14 z9 (by decide) (by decide) rfl rfl ?_
      refine am_aload_n (pc' := 62) dX8_told_61 rfl rfl ?_
      refine am_iload_n (pc' := 63) dX8_told_62 rfl rfl ?_
      obtain ⟨x10, ex10, hF⟩ := am_bind hF
      obtain ⟨ox10, px10⟩ := t_X8_versionsWith ex10
      refine am_callV1 (Mc := M_X8_versionsWith) (As := [.int v1]) (st := []) (pc' := 66) dX8_told_63 cw_X8_186 wd_2_198 sl_X8_versionsWith ⟨_, rfl, rfl⟩ (by decide) (by decide) rfl rfl (Nat.le_of_ble_eq_true rfl) px10 (c_X8_versionsWith ex10) rfl ?_
      cases hF
      exact am_iret dX8_told_66 rfl rfl
    refine am_tableOut (pc' := 67) dX8_told_14 (by have tz3 := lv_neT (a := 0) z3 rfl; have tz6 := lv_neT (a := 1) z6 rfl; have tz9 := lv_neT (a := 2) z9 rfl; omega) rfl ?_
    refine am_ldc (v := (-100002 : Int32)) (pc' := 69) dX8_told_67 wd_1_233 rfl ?_
    cases hF
    exact am_iret dX8_told_69 rfl rfl
def F_X8_told (v0 : Nat) (v1 : Int32) (v2 : Int32) (h : am_H) : Option Int32 := (am_obj v0 8 h).bind fun _ => F_X8_told_b v0 v1 v2 h
theorem t_X8_told {x : Int32}  {v0 : Nat} {v1 : Int32} {v2 : Int32} {h : am_H} (hF : F_X8_told v0 v1 v2 h = some x) : ∃ fs, am_obj v0 8 h = some fs := by
  obtain ⟨fs, e, _⟩ := am_bind hF
  exact ⟨fs, e⟩
theorem c_X8_told {g : am_G} {l : Launch} {x : Int32}  {v0 : Nat} {v1 : Int32} {v2 : Int32} {h : am_H} (hF : F_X8_told v0 v1 v2 h = some x) : am_Met g l M_X8_told [.ref v0, .int v1, .int v2] h (some (.int x)) h := by
  obtain ⟨fs, e0, e⟩ := am_bind hF
  exact am_met (n := 1) (by decide +kernel) rfl (Nat.le_of_ble_eq_true rfl) (w_X8_told v0 v1 v2 h e)
def F_X9_noBlock_21 (s0 : Int32) (h : am_H) : Option Int32 :=
  am_z s0
theorem w_X9_noBlock_21 {g : am_G} {l : Launch} {h0 : am_H} {x : Int32}  (s0 : Int32) (h : am_H) (hF : F_X9_noBlock_21 s0 h = some x) : am_W g l M_X9_noBlock h0 (some (.int x)) h 21 [none, none] [.int s0] h := by
  unfold F_X9_noBlock_21 at hF
  exact am_zret dX9_noBlock_21 rfl hF
def F_X9_noBlock_b (v0 : Nat) (v1 : Int32) (h : am_H) : Option Int32 :=
  (am_gi 9 2 v0 h).bind fun x1 =>
  (F_X9_in (Int32.toInt64 v1) (0 : Int64) (Int32.toInt64 (x1 - (1 : Int32))) h).bind fun x2 =>
  if x2 = 0 then
    F_X9_noBlock_21 (1 : Int32) h
  else
    F_X9_noBlock_21 (0 : Int32) h
theorem w_X9_noBlock {g : am_G} {l : Launch} {h0 : am_H} {x : Int32}  (v0 : Nat) (v1 : Int32) (h : am_H) (hF : F_X9_noBlock_b v0 v1 h = some x) : am_W g l M_X9_noBlock h0 (some (.int x)) h 0 [some (.ref v0), some (.int v1)] [] h := by
  unfold F_X9_noBlock_b at hF
  refine am_iload_n (pc' := 1) dX9_noBlock_0 rfl rfl ?_
  refine am_i2l (pc' := 2) dX9_noBlock_1 rfl ?_
  refine am_lconst (v := (0 : Int64)) (pc' := 3) dX9_noBlock_2 rfl rfl ?_
  refine am_aload_n (pc' := 4) dX9_noBlock_3 rfl rfl ?_
  obtain ⟨x1, ex1, hF⟩ := am_bind hF
  refine am_geti (pc' := 7) dX9_noBlock_4 fw_X9_100 ex1 rfl ?_
  refine am_iconst (v := (1 : Int32)) (pc' := 8) dX9_noBlock_7 rfl rfl ?_
  refine am_isub (pc' := 9) dX9_noBlock_8 rfl ?_
  refine am_i2l (pc' := 10) dX9_noBlock_9 rfl ?_
  obtain ⟨x2, ex2, hF⟩ := am_bind hF
  refine am_callS1 (Mc := M_X9_in) (As := [.long (Int32.toInt64 v1), .long (0 : Int64), .long (Int32.toInt64 (x1 - (1 : Int32)))]) (st := []) (pc' := 13) dX9_noBlock_10 cw_X9_96 wd_4_234 (by decide) (by decide) rfl rfl (Nat.le_of_ble_eq_true rfl) (c_X9_in ex2) rfl ?_
  rcases am_ite hF with ⟨z3, hF⟩ | ⟨z3, hF⟩
  · refine am_if_ne_f (pc' := 16) (tgt := 20) dX9_noBlock_13 rfl z3 rfl ?_
    refine am_iconst (v := (1 : Int32)) (pc' := 17) dX9_noBlock_16 rfl rfl ?_
    refine am_goto (pc' := 21) dX9_noBlock_17 rfl ?_
    exact am_weak [false, false] (w_X9_noBlock_21 (1 : Int32) h hF)
  · refine am_if_ne_t (pc' := 20) dX9_noBlock_13 rfl z3 ?_
    refine am_iconst (v := (0 : Int32)) (pc' := 21) dX9_noBlock_20 rfl rfl ?_
    exact am_weak [false, false] (w_X9_noBlock_21 (0 : Int32) h hF)
def F_X9_noBlock (v0 : Nat) (v1 : Int32) (h : am_H) : Option Int32 := (am_obj v0 9 h).bind fun _ => F_X9_noBlock_b v0 v1 h
theorem t_X9_noBlock {x : Int32}  {v0 : Nat} {v1 : Int32} {h : am_H} (hF : F_X9_noBlock v0 v1 h = some x) : ∃ fs, am_obj v0 9 h = some fs := by
  obtain ⟨fs, e, _⟩ := am_bind hF
  exact ⟨fs, e⟩
theorem c_X9_noBlock {g : am_G} {l : Launch} {x : Int32}  {v0 : Nat} {v1 : Int32} {h : am_H} (hF : F_X9_noBlock v0 v1 h = some x) : am_Met g l M_X9_noBlock [.ref v0, .int v1] h (some (.int x)) h := by
  obtain ⟨fs, e0, e⟩ := am_bind hF
  exact am_met (n := 0) (by decide +kernel) rfl (Nat.le_of_ble_eq_true rfl) (w_X9_noBlock v0 v1 h e)
def F_X9_has_36 (k5 : Nat → Int32 → Int32 → Int32 → Int32 → am_H → Option Int32) (v0 : Nat) (v1 : Int32) (v2 : Int32) (v4 : Int32) (s0 : Int32) (h : am_H) : Option Int32 :=
  k5 v0 v1 v2 s0 (v4 + (1 : Int32)) h
theorem w_X9_has_36 {g : am_G} {l : Launch} {h0 : am_H} {x : Int32}  {k5 : Nat → Int32 → Int32 → Int32 → Int32 → am_H → Option Int32} (j5 : ∀ (v0 : Nat) (v1 : Int32) (v2 : Int32) (v3 : Int32) (v4 : Int32) (h : am_H), k5 v0 v1 v2 v3 v4 h = some x → am_W g l M_X9_has h0 (some (.int x)) h 5 [some (.ref v0), some (.int v1), some (.int v2), some (.int v3), some (.int v4)] [] h) (v0 : Nat) (v1 : Int32) (v2 : Int32) (v4 : Int32) (s0 : Int32) (h : am_H) (hF : F_X9_has_36 k5 v0 v1 v2 v4 s0 h = some x) : am_W g l M_X9_has h0 (some (.int x)) h 36 [some (.ref v0), some (.int v1), some (.int v2), none, some (.int v4)] [.int s0] h := by
  unfold F_X9_has_36 at hF
  refine am_istore_n (ls' := [some (.ref v0), some (.int v1), some (.int v2), some (.int s0), some (.int v4)]) (pc' := 37) dX9_has_36 (Nat.le_of_ble_eq_true rfl) rfl rfl ?_
  refine am_iinc (ls' := [some (.ref v0), some (.int v1), some (.int v2), some (.int s0), some (.int (v4 + (1 : Int32)))]) (pc' := 40) (v := (v4 + (1 : Int32))) dX9_has_37 rfl rfl (Nat.le_of_ble_eq_true rfl) rfl rfl ?_
  refine am_goto (pc' := 5) dX9_has_40 rfl ?_
  exact j5 v0 v1 v2 s0 (v4 + (1 : Int32)) h hF
def F_X9_has_31 (k5 : Nat → Int32 → Int32 → Int32 → Int32 → am_H → Option Int32) (v0 : Nat) (v1 : Int32) (v2 : Int32) (v4 : Int32) (h : am_H) : Option Int32 :=
  F_X9_has_36 k5 v0 v1 v2 v4 (1 : Int32) h
theorem w_X9_has_31 {g : am_G} {l : Launch} {h0 : am_H} {x : Int32}  {k5 : Nat → Int32 → Int32 → Int32 → Int32 → am_H → Option Int32} (j5 : ∀ (v0 : Nat) (v1 : Int32) (v2 : Int32) (v3 : Int32) (v4 : Int32) (h : am_H), k5 v0 v1 v2 v3 v4 h = some x → am_W g l M_X9_has h0 (some (.int x)) h 5 [some (.ref v0), some (.int v1), some (.int v2), some (.int v3), some (.int v4)] [] h) (v0 : Nat) (v1 : Int32) (v2 : Int32) (v4 : Int32) (h : am_H) (hF : F_X9_has_31 k5 v0 v1 v2 v4 h = some x) : am_W g l M_X9_has h0 (some (.int x)) h 31 [some (.ref v0), some (.int v1), some (.int v2), none, some (.int v4)] [] h := by
  unfold F_X9_has_31 at hF
  refine am_iconst (v := (1 : Int32)) (pc' := 32) dX9_has_31 rfl rfl ?_
  refine am_goto (pc' := 36) dX9_has_32 rfl ?_
  exact w_X9_has_36 j5 v0 v1 v2 v4 (1 : Int32) h hF
def F_X9_has_5 : Nat → Nat → Int32 → Int32 → Int32 → Int32 → am_H → Option Int32
  | 0, _, _, _, _, _, _ => none
  | n + 1, v0, v1, v2, v3, v4, h =>
  (am_gr 9 7 v0 h).bind fun x1 =>
  (am_il 0 x1 v1 h).bind fun x2 =>
  if x2 ≤ v4 then
    am_z v3
  else
    if v3 = 0 then
      (F_X9_blockAt v0 v1 v4 h).bind fun x5 =>
      if x5 = v2 then
        F_X9_has_31 (F_X9_has_5 n) v0 v1 v2 v4 h
      else
        F_X9_has_36 (F_X9_has_5 n) v0 v1 v2 v4 (0 : Int32) h
    else
      F_X9_has_31 (F_X9_has_5 n) v0 v1 v2 v4 h
theorem w_X9_has_5 {g : am_G} {l : Launch} {h0 : am_H} {x : Int32}  : ∀ (n : Nat) (v0 : Nat) (v1 : Int32) (v2 : Int32) (v3 : Int32) (v4 : Int32) (h : am_H), F_X9_has_5 n v0 v1 v2 v3 v4 h = some x → am_W g l M_X9_has h0 (some (.int x)) h 5 [some (.ref v0), some (.int v1), some (.int v2), some (.int v3), some (.int v4)] [] h
  | 0, _, _, _, _, _, _, hF => by cases hF
  | n + 1, v0, v1, v2, v3, v4, h, hF => by
    rw [F_X9_has_5] at hF
    refine am_iload (pc' := 7) dX9_has_5 rfl rfl ?_
    refine am_aload_n (pc' := 8) dX9_has_7 rfl rfl ?_
    obtain ⟨x1, ex1, hF⟩ := am_bind hF
    refine am_getr (pc' := 11) dX9_has_8 fw_X9_23 ex1 rfl ?_
    refine am_iload_n (pc' := 12) dX9_has_11 rfl rfl ?_
    obtain ⟨x2, ex2, hF⟩ := am_bind hF
    refine am_iald (pc' := 13) dX9_has_12 ex2 rfl ?_
    rcases am_ite hF with ⟨z3, hF⟩ | ⟨z3, hF⟩
    · refine am_icmp_ge_t (pc' := 43) dX9_has_13 rfl z3 ?_
      refine am_iload_n (pc' := 44) dX9_has_43 rfl rfl ?_
      exact am_zret dX9_has_44 rfl hF
    · refine am_icmp_ge_f (pc' := 16) (tgt := 43) dX9_has_13 rfl z3 rfl ?_
      refine am_iload_n (pc' := 17) dX9_has_16 rfl rfl ?_
      rcases am_ite hF with ⟨z4, hF⟩ | ⟨z4, hF⟩
      · refine am_if_ne_f (pc' := 20) (tgt := 31) dX9_has_17 rfl z4 rfl ?_
        refine am_aload_n (pc' := 21) dX9_has_20 rfl rfl ?_
        refine am_iload_n (pc' := 22) dX9_has_21 rfl rfl ?_
        refine am_iload (pc' := 24) dX9_has_22 rfl rfl ?_
        obtain ⟨x5, ex5, hF⟩ := am_bind hF
        obtain ⟨ox5, px5⟩ := t_X9_blockAt ex5
        refine am_callV1 (Mc := M_X9_blockAt) (As := [.int v1, .int v4]) (st := []) (pc' := 27) dX9_has_24 cw_X9_141 wd_5_45 sl_X9_blockAt ⟨_, rfl, rfl⟩ (by decide) (by decide) rfl rfl (Nat.le_of_ble_eq_true rfl) px5 (c_X9_blockAt ex5) rfl ?_
        refine am_iload_n (pc' := 28) dX9_has_27 rfl rfl ?_
        rcases am_ite hF with ⟨z6, hF⟩ | ⟨z6, hF⟩
        · refine am_icmp_ne_f (pc' := 31) (tgt := 35) dX9_has_28 rfl z6 rfl ?_
          exact am_weak [true, true, true, false, true] (w_X9_has_31 (w_X9_has_5 n) v0 v1 v2 v4 h hF)
        · refine am_icmp_ne_t (pc' := 35) dX9_has_28 rfl z6 ?_
          refine am_iconst (v := (0 : Int32)) (pc' := 36) dX9_has_35 rfl rfl ?_
          exact am_weak [true, true, true, false, true] (w_X9_has_36 (w_X9_has_5 n) v0 v1 v2 v4 (0 : Int32) h hF)
      · refine am_if_ne_t (pc' := 31) dX9_has_17 rfl z4 ?_
        exact am_weak [true, true, true, false, true] (w_X9_has_31 (w_X9_has_5 n) v0 v1 v2 v4 h hF)
def F_X9_has_b (v0 : Nat) (v1 : Int32) (v2 : Int32) (h : am_H) : Option Int32 :=
  F_X9_has_5 am_F v0 v1 v2 (0 : Int32) (0 : Int32) h
theorem w_X9_has {g : am_G} {l : Launch} {h0 : am_H} {x : Int32}  (v0 : Nat) (v1 : Int32) (v2 : Int32) (h : am_H) (hF : F_X9_has_b v0 v1 v2 h = some x) : am_W g l M_X9_has h0 (some (.int x)) h 0 [some (.ref v0), some (.int v1), some (.int v2), none, none] [] h := by
  unfold F_X9_has_b at hF
  refine am_iconst (v := (0 : Int32)) (pc' := 1) dX9_has_0 rfl rfl ?_
  refine am_istore_n (ls' := [some (.ref v0), some (.int v1), some (.int v2), some (.int (0 : Int32)), none]) (pc' := 2) dX9_has_1 (Nat.le_of_ble_eq_true rfl) rfl rfl ?_
  refine am_iconst (v := (0 : Int32)) (pc' := 3) dX9_has_2 rfl rfl ?_
  refine am_istore (ls' := [some (.ref v0), some (.int v1), some (.int v2), some (.int (0 : Int32)), some (.int (0 : Int32))]) (pc' := 5) dX9_has_3 (Nat.le_of_ble_eq_true rfl) rfl rfl ?_
  exact w_X9_has_5 am_F v0 v1 v2 (0 : Int32) (0 : Int32) h hF
def F_X9_has (v0 : Nat) (v1 : Int32) (v2 : Int32) (h : am_H) : Option Int32 := (am_obj v0 9 h).bind fun _ => F_X9_has_b v0 v1 v2 h
theorem t_X9_has {x : Int32}  {v0 : Nat} {v1 : Int32} {v2 : Int32} {h : am_H} (hF : F_X9_has v0 v1 v2 h = some x) : ∃ fs, am_obj v0 9 h = some fs := by
  obtain ⟨fs, e, _⟩ := am_bind hF
  exact ⟨fs, e⟩
theorem c_X9_has {g : am_G} {l : Launch} {x : Int32}  {v0 : Nat} {v1 : Int32} {v2 : Int32} {h : am_H} (hF : F_X9_has v0 v1 v2 h = some x) : am_Met g l M_X9_has [.ref v0, .int v1, .int v2] h (some (.int x)) h := by
  obtain ⟨fs, e0, e⟩ := am_bind hF
  exact am_met (n := 2) (by decide +kernel) rfl (Nat.le_of_ble_eq_true rfl) (w_X9_has v0 v1 v2 h e)
theorem cw_X9_184 : am_cw "SignCellarModel" 184 M_X9_noBlock 1 := ⟨wd_1_9, wd_5_99, ⟨by decide, by decide, by decide⟩, Or.inl wd_5_96⟩
theorem cw_X9_187 : am_cw "SignCellarModel" 187 M_X9_has 2 := ⟨wd_1_9, wd_5_103, ⟨by decide, by decide, by decide⟩, Or.inl wd_5_100⟩
theorem sl_X9_has : Cond.selects (⟨"SignCellarModel", "has", "(II)Z"⟩ : MethodName).cls ⟨"SignCellarModel", "has", "(II)Z"⟩ ⟨"SignCellarModel", "has", "(II)Z"⟩ ∈ am_ts := am_in_p (q := (⟨"SignCellarModel", "has", "(II)Z"⟩, 42)) (by decide +kernel)
theorem sl_X9_noBlock : Cond.selects (⟨"SignCellarModel", "noBlock", "(I)Z"⟩ : MethodName).cls ⟨"SignCellarModel", "noBlock", "(I)Z"⟩ ⟨"SignCellarModel", "noBlock", "(I)Z"⟩ ∈ am_ts := am_in_p (q := (⟨"SignCellarModel", "noBlock", "(I)Z"⟩, 42)) (by decide +kernel)
def F_X9_told_85 (s0 : Int32) (h : am_H) : Option Int32 :=
  some s0
theorem w_X9_told_85 {g : am_G} {l : Launch} {h0 : am_H} {x : Int32}  (s0 : Int32) (h : am_H) (hF : F_X9_told_85 s0 h = some x) : am_W g l M_X9_told h0 (some (.int x)) h 85 [none, none, none, none, none] [.int s0] h := by
  unfold F_X9_told_85 at hF
  cases hF
  exact am_iret dX9_told_85 rfl rfl
def F_X9_told_16 : Nat → Nat → Int32 → Int32 → Int32 → Int32 → am_H → Option Int32
  | 0, _, _, _, _, _, _ => none
  | n + 1, v0, v1, v2, v3, v4, h =>
  (am_gi 9 6 v0 h).bind fun x1 =>
  if x1 ≤ v4 then
    if v2 = 0 then
      (am_gr 9 3 v0 h).bind fun x4 =>
      (am_il 0 x4 v1 h).bind fun x5 =>
      F_X9_told_85 x5 h
    else
      if v2 = (1 : Int32) then
        (am_gr 9 5 v0 h).bind fun x7 =>
        (am_il 1 x7 v1 h).bind fun x8 =>
        (F_X9_one x8 h).bind fun x9 =>
        F_X9_told_85 x9 h
      else
        if v2 = (2 : Int32) then
          F_X9_told_85 v3 h
        else
          F_X9_told_85 (-100002 : Int32) h
  else
    (F_X9_has v0 v4 v1 h).bind fun x11 =>
    (F_X9_one x11 h).bind fun x12 =>
    F_X9_told_16 n v0 v1 v2 (v3 + x12) (v4 + (1 : Int32)) h
theorem w_X9_told_16 {g : am_G} {l : Launch} {h0 : am_H} {x : Int32}  : ∀ (n : Nat) (v0 : Nat) (v1 : Int32) (v2 : Int32) (v3 : Int32) (v4 : Int32) (h : am_H), F_X9_told_16 n v0 v1 v2 v3 v4 h = some x → am_W g l M_X9_told h0 (some (.int x)) h 16 [some (.ref v0), some (.int v1), some (.int v2), some (.int v3), some (.int v4)] [] h
  | 0, _, _, _, _, _, _, hF => by cases hF
  | n + 1, v0, v1, v2, v3, v4, h, hF => by
    rw [F_X9_told_16] at hF
    refine am_iload (pc' := 18) dX9_told_16 rfl rfl ?_
    refine am_aload_n (pc' := 19) dX9_told_18 rfl rfl ?_
    obtain ⟨x1, ex1, hF⟩ := am_bind hF
    refine am_geti (pc' := 22) dX9_told_19 fw_X9_92 ex1 rfl ?_
    rcases am_ite hF with ⟨z2, hF⟩ | ⟨z2, hF⟩
    · refine am_icmp_ge_t (pc' := 44) dX9_told_22 rfl z2 ?_
      refine am_iload_n (pc' := 45) dX9_told_44 rfl rfl ?_
      rcases am_ite hF with ⟨z3, hF⟩ | ⟨z3, hF⟩
      · refine am_if_ne_f (pc' := 48) (tgt := 57) dX9_told_45 rfl z3 rfl ?_
        refine am_aload_n (pc' := 49) dX9_told_48 rfl rfl ?_
        obtain ⟨x4, ex4, hF⟩ := am_bind hF
        refine am_getr (pc' := 52) dX9_told_49 fw_X9_13 ex4 rfl ?_
        refine am_iload_n (pc' := 53) dX9_told_52 rfl rfl ?_
        obtain ⟨x5, ex5, hF⟩ := am_bind hF
        refine am_iald (pc' := 54) dX9_told_53 ex5 rfl ?_
        refine am_goto (pc' := 85) dX9_told_54 rfl ?_
        exact am_weak [false, false, false, false, false] (w_X9_told_85 x5 h hF)
      · refine am_if_ne_t (pc' := 57) dX9_told_45 rfl z3 ?_
        refine am_iload_n (pc' := 58) dX9_told_57 rfl rfl ?_
        refine am_iconst (v := (1 : Int32)) (pc' := 59) dX9_told_58 rfl rfl ?_
        rcases am_ite hF with ⟨z6, hF⟩ | ⟨z6, hF⟩
        · refine am_icmp_ne_f (pc' := 62) (tgt := 74) dX9_told_59 rfl z6 rfl ?_
          refine am_aload_n (pc' := 63) dX9_told_62 rfl rfl ?_
          obtain ⟨x7, ex7, hF⟩ := am_bind hF
          refine am_getr (pc' := 66) dX9_told_63 fw_X9_19 ex7 rfl ?_
          refine am_iload_n (pc' := 67) dX9_told_66 rfl rfl ?_
          obtain ⟨x8, ex8, hF⟩ := am_bind hF
          refine am_bald (pc' := 68) dX9_told_67 ex8 rfl ?_
          obtain ⟨x9, ex9, hF⟩ := am_bind hF
          refine am_callS1 (Mc := M_X9_one) (As := [.int x8]) (st := []) (pc' := 71) dX9_told_68 cw_X9_150 wd_5_53 (by decide) (by decide) rfl rfl (Nat.le_of_ble_eq_true rfl) (c_X9_one ex9) rfl ?_
          refine am_goto (pc' := 85) dX9_told_71 rfl ?_
          exact am_weak [false, false, false, false, false] (w_X9_told_85 x9 h hF)
        · refine am_icmp_ne_t (pc' := 74) dX9_told_59 rfl z6 ?_
          refine am_iload_n (pc' := 75) dX9_told_74 rfl rfl ?_
          refine am_iconst (v := (2 : Int32)) (pc' := 76) dX9_told_75 rfl rfl ?_
          rcases am_ite hF with ⟨z10, hF⟩ | ⟨z10, hF⟩
          · refine am_icmp_ne_f (pc' := 79) (tgt := 83) dX9_told_76 rfl z10 rfl ?_
            refine am_iload_n (pc' := 80) dX9_told_79 rfl rfl ?_
            refine am_goto (pc' := 85) dX9_told_80 rfl ?_
            exact am_weak [false, false, false, false, false] (w_X9_told_85 v3 h hF)
          · refine am_icmp_ne_t (pc' := 83) dX9_told_76 rfl z10 ?_
            refine am_ldc (v := (-100002 : Int32)) (pc' := 85) dX9_told_83 wd_4_236 rfl ?_
            exact am_weak [false, false, false, false, false] (w_X9_told_85 (-100002 : Int32) h hF)
    · refine am_icmp_ge_f (pc' := 25) (tgt := 44) dX9_told_22 rfl z2 rfl ?_
      refine am_iload_n (pc' := 26) dX9_told_25 rfl rfl ?_
      refine am_aload_n (pc' := 27) dX9_told_26 rfl rfl ?_
      refine am_iload (pc' := 29) dX9_told_27 rfl rfl ?_
      refine am_iload_n (pc' := 30) dX9_told_29 rfl rfl ?_
      obtain ⟨x11, ex11, hF⟩ := am_bind hF
      obtain ⟨ox11, px11⟩ := t_X9_has ex11
      refine am_callV1 (Mc := M_X9_has) (As := [.int v4, .int v1]) (st := [.int v3]) (pc' := 33) dX9_told_30 cw_X9_187 wd_5_102 sl_X9_has ⟨_, rfl, rfl⟩ (by decide) (by decide) rfl rfl (Nat.le_of_ble_eq_true rfl) px11 (c_X9_has ex11) rfl ?_
      obtain ⟨x12, ex12, hF⟩ := am_bind hF
      refine am_callS1 (Mc := M_X9_one) (As := [.int x11]) (st := [.int v3]) (pc' := 36) dX9_told_33 cw_X9_150 wd_5_53 (by decide) (by decide) rfl rfl (Nat.le_of_ble_eq_true rfl) (c_X9_one ex12) rfl ?_
      refine am_iadd (pc' := 37) dX9_told_36 rfl ?_
      refine am_istore_n (ls' := [some (.ref v0), some (.int v1), some (.int v2), some (.int (v3 + x12)), some (.int v4)]) (pc' := 38) dX9_told_37 (Nat.le_of_ble_eq_true rfl) rfl rfl ?_
      refine am_iinc (ls' := [some (.ref v0), some (.int v1), some (.int v2), some (.int (v3 + x12)), some (.int (v4 + (1 : Int32)))]) (pc' := 41) (v := (v4 + (1 : Int32))) dX9_told_38 rfl rfl (Nat.le_of_ble_eq_true rfl) rfl rfl ?_
      refine am_goto (pc' := 16) dX9_told_41 rfl ?_
      exact w_X9_told_16 n v0 v1 v2 (v3 + x12) (v4 + (1 : Int32)) h hF
def F_X9_told_b (v0 : Nat) (v1 : Int32) (v2 : Int32) (h : am_H) : Option Int32 :=
  (F_X9_noBlock v0 v1 h).bind fun x1 =>
  if x1 = 0 then
    F_X9_told_16 am_F v0 v1 v2 (0 : Int32) (0 : Int32) h
  else
    some (-100001 : Int32)
theorem w_X9_told {g : am_G} {l : Launch} {h0 : am_H} {x : Int32}  (v0 : Nat) (v1 : Int32) (v2 : Int32) (h : am_H) (hF : F_X9_told_b v0 v1 v2 h = some x) : am_W g l M_X9_told h0 (some (.int x)) h 0 [some (.ref v0), some (.int v1), some (.int v2), none, none] [] h := by
  unfold F_X9_told_b at hF
  refine am_aload_n (pc' := 1) dX9_told_0 rfl rfl ?_
  refine am_iload_n (pc' := 2) dX9_told_1 rfl rfl ?_
  obtain ⟨x1, ex1, hF⟩ := am_bind hF
  obtain ⟨ox1, px1⟩ := t_X9_noBlock ex1
  refine am_callV1 (Mc := M_X9_noBlock) (As := [.int v1]) (st := []) (pc' := 5) dX9_told_2 cw_X9_184 wd_5_98 sl_X9_noBlock ⟨_, rfl, rfl⟩ (by decide) (by decide) rfl rfl (Nat.le_of_ble_eq_true rfl) px1 (c_X9_noBlock ex1) rfl ?_
  rcases am_ite hF with ⟨z2, hF⟩ | ⟨z2, hF⟩
  · refine am_if_eq_t (pc' := 11) dX9_told_5 rfl z2 ?_
    refine am_iconst (v := (0 : Int32)) (pc' := 12) dX9_told_11 rfl rfl ?_
    refine am_istore_n (ls' := [some (.ref v0), some (.int v1), some (.int v2), some (.int (0 : Int32)), none]) (pc' := 13) dX9_told_12 (Nat.le_of_ble_eq_true rfl) rfl rfl ?_
    refine am_iconst (v := (0 : Int32)) (pc' := 14) dX9_told_13 rfl rfl ?_
    refine am_istore (ls' := [some (.ref v0), some (.int v1), some (.int v2), some (.int (0 : Int32)), some (.int (0 : Int32))]) (pc' := 16) dX9_told_14 (Nat.le_of_ble_eq_true rfl) rfl rfl ?_
    exact w_X9_told_16 am_F v0 v1 v2 (0 : Int32) (0 : Int32) h hF
  · refine am_if_eq_f (pc' := 8) (tgt := 11) dX9_told_5 rfl z2 rfl ?_
    refine am_ldc (v := (-100001 : Int32)) (pc' := 10) dX9_told_8 wd_5_47 rfl ?_
    cases hF
    exact am_iret dX9_told_10 rfl rfl
def F_X9_told (v0 : Nat) (v1 : Int32) (v2 : Int32) (h : am_H) : Option Int32 := (am_obj v0 9 h).bind fun _ => F_X9_told_b v0 v1 v2 h
theorem t_X9_told {x : Int32}  {v0 : Nat} {v1 : Int32} {v2 : Int32} {h : am_H} (hF : F_X9_told v0 v1 v2 h = some x) : ∃ fs, am_obj v0 9 h = some fs := by
  obtain ⟨fs, e, _⟩ := am_bind hF
  exact ⟨fs, e⟩
theorem c_X9_told {g : am_G} {l : Launch} {x : Int32}  {v0 : Nat} {v1 : Int32} {v2 : Int32} {h : am_H} (hF : F_X9_told v0 v1 v2 h = some x) : am_Met g l M_X9_told [.ref v0, .int v1, .int v2] h (some (.int x)) h := by
  obtain ⟨fs, e0, e⟩ := am_bind hF
  exact am_met (n := 2) (by decide +kernel) rfl (Nat.le_of_ble_eq_true rfl) (w_X9_told v0 v1 v2 h e)
