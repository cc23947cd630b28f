abbrev M_X8_rule : am_M := ((⟨"SignCellar", "rule", "(III)I"⟩ : MethodName), prog_1_method_16_code, 5, (some .int), 6, 133)
theorem dX8_rule_0 : decode prog_1_method_16_code 0 = .ok (.aload_n 0, 1) := by decide +kernel
theorem dX8_rule_1 : decode prog_1_method_16_code 1 = .ok (.iload_n 1, 1) := by decide +kernel
theorem dX8_rule_2 : decode prog_1_method_16_code 2 = .ok (.invokevirtual 176, 3) := by decide +kernel
theorem dX8_rule_5 : decode prog_1_method_16_code 5 = .ok (.astore 4, 2) := by decide +kernel
theorem dX8_rule_7 : decode prog_1_method_16_code 7 = .ok (.aload 4, 2) := by decide +kernel
theorem dX8_rule_9 : decode prog_1_method_16_code 9 = .ok (.ifnonnull 6, 3) := by decide +kernel
theorem dX8_rule_12 : decode prog_1_method_16_code 12 = .ok (.ldc 133, 2) := by decide +kernel
theorem dX8_rule_14 : decode prog_1_method_16_code 14 = .ok (.ireturn, 1) := by decide +kernel
theorem dX8_rule_15 : decode prog_1_method_16_code 15 = .ok (.iload_n 2, 1) := by decide +kernel
theorem dX8_rule_16 : decode prog_1_method_16_code 16 = .ok (.ifCond .lt 14, 3) := by decide +kernel
theorem dX8_rule_19 : decode prog_1_method_16_code 19 = .ok (.iload_n 2, 1) := by decide +kernel
theorem dX8_rule_20 : decode prog_1_method_16_code 20 = .ok (.iconst 4, 1) := by decide +kernel
theorem dX8_rule_21 : decode prog_1_method_16_code 21 = .ok (.if_icmp .le 12, 3) := by decide +kernel
theorem dX8_rule_24 : decode prog_1_method_16_code 24 = .ok (.iload_n 2, 1) := by decide +kernel
theorem dX8_rule_25 : decode prog_1_method_16_code 25 = .ok (.bipush 10, 2) := by decide +kernel
theorem dX8_rule_27 : decode prog_1_method_16_code 27 = .ok (.if_icmp .ge 6, 3) := by decide +kernel
theorem dX8_rule_30 : decode prog_1_method_16_code 30 = .ok (.ldc 92, 2) := by decide +kernel
theorem dX8_rule_32 : decode prog_1_method_16_code 32 = .ok (.ireturn, 1) := by decide +kernel
theorem dX8_rule_33 : decode prog_1_method_16_code 33 = .ok (.aload 4, 2) := by decide +kernel
theorem dX8_rule_35 : decode prog_1_method_16_code 35 = .ok (.getfield 182, 3) := by decide +kernel
theorem dX8_rule_38 : decode prog_1_method_16_code 38 = .ok (.ifCond .eq 6, 3) := by decide +kernel
theorem dX8_rule_41 : decode prog_1_method_16_code 41 = .ok (.ldc 168, 2) := by decide +kernel
theorem dX8_rule_43 : decode prog_1_method_16_code 43 = .ok (.ireturn, 1) := by decide +kernel
theorem dX8_rule_44 : decode prog_1_method_16_code 44 = .ok (.aload_n 0, 1) := by decide +kernel
theorem dX8_rule_45 : decode prog_1_method_16_code 45 = .ok (.getfield 67, 3) := by decide +kernel
theorem dX8_rule_48 : decode prog_1_method_16_code 48 = .ok (.aload 4, 2) := by decide +kernel
theorem dX8_rule_50 : decode prog_1_method_16_code 50 = .ok (.getfield 180, 3) := by decide +kernel
theorem dX8_rule_53 : decode prog_1_method_16_code 53 = .ok (.invokevirtual 225, 3) := by decide +kernel
theorem dX8_rule_56 : decode prog_1_method_16_code 56 = .ok (.iload_n 2, 1) := by decide +kernel
theorem dX8_rule_57 : decode prog_1_method_16_code 57 = .ok (.tableswitch 83 0 4 #[35, 46, 54, 62, 74], 35) := by decide +kernel
theorem dX8_rule_92 : decode prog_1_method_16_code 92 = .ok (.aload_n 0, 1) := by decide +kernel
theorem dX8_rule_93 : decode prog_1_method_16_code 93 = .ok (.getfield 67, 3) := by decide +kernel
theorem dX8_rule_96 : decode prog_1_method_16_code 96 = .ok (.getfield 226, 3) := by decide +kernel
theorem dX8_rule_99 : decode prog_1_method_16_code 99 = .ok (.invokevirtual 93, 3) := by decide +kernel
theorem dX8_rule_102 : decode prog_1_method_16_code 102 = .ok (.ireturn, 1) := by decide +kernel
theorem dX8_rule_103 : decode prog_1_method_16_code 103 = .ok (.aload_n 0, 1) := by decide +kernel
theorem dX8_rule_104 : decode prog_1_method_16_code 104 = .ok (.getfield 67, 3) := by decide +kernel
theorem dX8_rule_107 : decode prog_1_method_16_code 107 = .ok (.invokevirtual 227, 3) := by decide +kernel
theorem dX8_rule_110 : decode prog_1_method_16_code 110 = .ok (.ireturn, 1) := by decide +kernel
theorem dX8_rule_111 : decode prog_1_method_16_code 111 = .ok (.aload_n 0, 1) := by decide +kernel
theorem dX8_rule_112 : decode prog_1_method_16_code 112 = .ok (.getfield 67, 3) := by decide +kernel
theorem dX8_rule_115 : decode prog_1_method_16_code 115 = .ok (.getfield 230, 3) := by decide +kernel
theorem dX8_rule_118 : decode prog_1_method_16_code 118 = .ok (.ireturn, 1) := by decide +kernel
theorem dX8_rule_119 : decode prog_1_method_16_code 119 = .ok (.aload_n 0, 1) := by decide +kernel
theorem dX8_rule_120 : decode prog_1_method_16_code 120 = .ok (.getfield 67, 3) := by decide +kernel
theorem dX8_rule_123 : decode prog_1_method_16_code 123 = .ok (.getfield 226, 3) := by decide +kernel
theorem dX8_rule_126 : decode prog_1_method_16_code 126 = .ok (.iload_n 3, 1) := by decide +kernel
theorem dX8_rule_127 : decode prog_1_method_16_code 127 = .ok (.invokevirtual 161, 3) := by decide +kernel
theorem dX8_rule_130 : decode prog_1_method_16_code 130 = .ok (.ireturn, 1) := by decide +kernel
theorem dX8_rule_131 : decode prog_1_method_16_code 131 = .ok (.aload_n 0, 1) := by decide +kernel
theorem dX8_rule_132 : decode prog_1_method_16_code 132 = .ok (.getfield 67, 3) := by decide +kernel
theorem dX8_rule_135 : decode prog_1_method_16_code 135 = .ok (.iload_n 3, 1) := by decide +kernel
theorem dX8_rule_136 : decode prog_1_method_16_code 136 = .ok (.invokevirtual 233, 3) := by decide +kernel
theorem dX8_rule_139 : decode prog_1_method_16_code 139 = .ok (.ireturn, 1) := by decide +kernel
theorem dX8_rule_140 : decode prog_1_method_16_code 140 = .ok (.aload_n 0, 1) := by decide +kernel
theorem dX8_rule_141 : decode prog_1_method_16_code 141 = .ok (.getfield 67, 3) := by decide +kernel
theorem dX8_rule_144 : decode prog_1_method_16_code 144 = .ok (.iload_n 3, 1) := by decide +kernel
theorem dX8_rule_145 : decode prog_1_method_16_code 145 = .ok (.iload_n 2, 1) := by decide +kernel
theorem dX8_rule_146 : decode prog_1_method_16_code 146 = .ok (.bipush 10, 2) := by decide +kernel
theorem dX8_rule_148 : decode prog_1_method_16_code 148 = .ok (.isub, 1) := by decide +kernel
theorem dX8_rule_149 : decode prog_1_method_16_code 149 = .ok (.invokevirtual 236, 3) := by decide +kernel
theorem dX8_rule_152 : decode prog_1_method_16_code 152 = .ok (.ireturn, 1) := by decide +kernel
abbrev M_X9_rule : am_M := ((⟨"SignCellarModel", "rule", "(III)I"⟩ : MethodName), prog_11_method_44_code, 4, (some .int), 3, 72)
theorem dX9_rule_0 : decode prog_11_method_44_code 0 = .ok (.aload_n 0, 1) := by decide +kernel
theorem dX9_rule_1 : decode prog_11_method_44_code 1 = .ok (.iload_n 1, 1) := by decide +kernel
theorem dX9_rule_2 : decode prog_11_method_44_code 2 = .ok (.invokevirtual 184, 3) := by decide +kernel
theorem dX9_rule_5 : decode prog_11_method_44_code 5 = .ok (.ifCond .eq 6, 3) := by decide +kernel
theorem dX9_rule_8 : decode prog_11_method_44_code 8 = .ok (.ldc 164, 2) := by decide +kernel
theorem dX9_rule_10 : decode prog_11_method_44_code 10 = .ok (.ireturn, 1) := by decide +kernel
theorem dX9_rule_11 : decode prog_11_method_44_code 11 = .ok (.iload_n 2, 1) := by decide +kernel
theorem dX9_rule_12 : decode prog_11_method_44_code 12 = .ok (.ifCond .lt 17, 3) := by decide +kernel
theorem dX9_rule_15 : decode prog_11_method_44_code 15 = .ok (.iload_n 2, 1) := by decide +kernel
theorem dX9_rule_16 : decode prog_11_method_44_code 16 = .ok (.i2l, 1) := by decide +kernel
theorem dX9_rule_17 : decode prog_11_method_44_code 17 = .ok (.ldc2_w 228, 3) := by decide +kernel
theorem dX9_rule_20 : decode prog_11_method_44_code 20 = .ok (.ldc2_w 230, 3) := by decide +kernel
theorem dX9_rule_23 : decode prog_11_method_44_code 23 = .ok (.invokestatic 96, 3) := by decide +kernel
theorem dX9_rule_26 : decode prog_11_method_44_code 26 = .ok (.ifCond .eq 6, 3) := by decide +kernel
theorem dX9_rule_29 : decode prog_11_method_44_code 29 = .ok (.ldc 105, 2) := by decide +kernel
theorem dX9_rule_31 : decode prog_11_method_44_code 31 = .ok (.ireturn, 1) := by decide +kernel
theorem dX9_rule_32 : decode prog_11_method_44_code 32 = .ok (.aload_n 0, 1) := by decide +kernel
theorem dX9_rule_33 : decode prog_11_method_44_code 33 = .ok (.getfield 19, 3) := by decide +kernel
theorem dX9_rule_36 : decode prog_11_method_44_code 36 = .ok (.iload_n 1, 1) := by decide +kernel
theorem dX9_rule_37 : decode prog_11_method_44_code 37 = .ok (.baload, 1) := by decide +kernel
theorem dX9_rule_38 : decode prog_11_method_44_code 38 = .ok (.ifCond .eq 6, 3) := by decide +kernel
theorem dX9_rule_41 : decode prog_11_method_44_code 41 = .ok (.ldc 168, 2) := by decide +kernel
theorem dX9_rule_43 : decode prog_11_method_44_code 43 = .ok (.ireturn, 1) := by decide +kernel
theorem dX9_rule_44 : decode prog_11_method_44_code 44 = .ok (.aload_n 0, 1) := by decide +kernel
theorem dX9_rule_45 : decode prog_11_method_44_code 45 = .ok (.iload_n 1, 1) := by decide +kernel
theorem dX9_rule_46 : decode prog_11_method_44_code 46 = .ok (.invokevirtual 232, 3) := by decide +kernel
theorem dX9_rule_49 : decode prog_11_method_44_code 49 = .ok (.iload_n 2, 1) := by decide +kernel
theorem dX9_rule_50 : decode prog_11_method_44_code 50 = .ok (.iconst 3, 1) := by decide +kernel
theorem dX9_rule_51 : decode prog_11_method_44_code 51 = .ok (.if_icmp .ge 31, 3) := by decide +kernel
theorem dX9_rule_54 : decode prog_11_method_44_code 54 = .ok (.iload_n 2, 1) := by decide +kernel
theorem dX9_rule_55 : decode prog_11_method_44_code 55 = .ok (.ifCond .ne 10, 3) := by decide +kernel
theorem dX9_rule_58 : decode prog_11_method_44_code 58 = .ok (.aload_n 0, 1) := by decide +kernel
theorem dX9_rule_59 : decode prog_11_method_44_code 59 = .ok (.getfield 207, 3) := by decide +kernel
theorem dX9_rule_62 : decode prog_11_method_44_code 62 = .ok (.goto 19, 3) := by decide +kernel
theorem dX9_rule_65 : decode prog_11_method_44_code 65 = .ok (.iload_n 2, 1) := by decide +kernel
theorem dX9_rule_66 : decode prog_11_method_44_code 66 = .ok (.iconst 1, 1) := by decide +kernel
theorem dX9_rule_67 : decode prog_11_method_44_code 67 = .ok (.if_icmp .ne 10, 3) := by decide +kernel
theorem dX9_rule_70 : decode prog_11_method_44_code 70 = .ok (.aload_n 0, 1) := by decide +kernel
theorem dX9_rule_71 : decode prog_11_method_44_code 71 = .ok (.invokevirtual 235, 3) := by decide +kernel
theorem dX9_rule_74 : decode prog_11_method_44_code 74 = .ok (.goto 7, 3) := by decide +kernel
theorem dX9_rule_77 : decode prog_11_method_44_code 77 = .ok (.aload_n 0, 1) := by decide +kernel
theorem dX9_rule_78 : decode prog_11_method_44_code 78 = .ok (.getfield 210, 3) := by decide +kernel
theorem dX9_rule_81 : decode prog_11_method_44_code 81 = .ok (.ireturn, 1) := by decide +kernel
theorem dX9_rule_82 : decode prog_11_method_44_code 82 = .ok (.iload_n 2, 1) := by decide +kernel
theorem dX9_rule_83 : decode prog_11_method_44_code 83 = .ok (.iconst 3, 1) := by decide +kernel
theorem dX9_rule_84 : decode prog_11_method_44_code 84 = .ok (.if_icmp .ne 30, 3) := by decide +kernel
theorem dX9_rule_87 : decode prog_11_method_44_code 87 = .ok (.iload_n 3, 1) := by decide +kernel
theorem dX9_rule_88 : decode prog_11_method_44_code 88 = .ok (.i2l, 1) := by decide +kernel
theorem dX9_rule_89 : decode prog_11_method_44_code 89 = .ok (.lconst 0, 1) := by decide +kernel
theorem dX9_rule_90 : decode prog_11_method_44_code 90 = .ok (.aload_n 0, 1) := by decide +kernel
theorem dX9_rule_91 : decode prog_11_method_44_code 91 = .ok (.getfield 207, 3) := by decide +kernel
theorem dX9_rule_94 : decode prog_11_method_44_code 94 = .ok (.iconst 1, 1) := by decide +kernel
theorem dX9_rule_95 : decode prog_11_method_44_code 95 = .ok (.isub, 1) := by decide +kernel
theorem dX9_rule_96 : decode prog_11_method_44_code 96 = .ok (.i2l, 1) := by decide +kernel
theorem dX9_rule_97 : decode prog_11_method_44_code 97 = .ok (.invokestatic 96, 3) := by decide +kernel
theorem dX9_rule_100 : decode prog_11_method_44_code 100 = .ok (.ifCond .eq 12, 3) := by decide +kernel
theorem dX9_rule_103 : decode prog_11_method_44_code 103 = .ok (.aload_n 0, 1) := by decide +kernel
theorem dX9_rule_104 : decode prog_11_method_44_code 104 = .ok (.getfield 53, 3) := by decide +kernel
theorem dX9_rule_107 : decode prog_11_method_44_code 107 = .ok (.iload_n 3, 1) := by decide +kernel
theorem dX9_rule_108 : decode prog_11_method_44_code 108 = .ok (.iaload, 1) := by decide +kernel
theorem dX9_rule_109 : decode prog_11_method_44_code 109 = .ok (.goto 4, 3) := by decide +kernel
theorem dX9_rule_112 : decode prog_11_method_44_code 112 = .ok (.iconst (-1), 1) := by decide +kernel
theorem dX9_rule_113 : decode prog_11_method_44_code 113 = .ok (.ireturn, 1) := by decide +kernel
theorem dX9_rule_114 : decode prog_11_method_44_code 114 = .ok (.iload_n 3, 1) := by decide +kernel
theorem dX9_rule_115 : decode prog_11_method_44_code 115 = .ok (.i2l, 1) := by decide +kernel
theorem dX9_rule_116 : decode prog_11_method_44_code 116 = .ok (.lconst 0, 1) := by decide +kernel
theorem dX9_rule_117 : decode prog_11_method_44_code 117 = .ok (.aload_n 0, 1) := by decide +kernel
theorem dX9_rule_118 : decode prog_11_method_44_code 118 = .ok (.getfield 210, 3) := by decide +kernel
theorem dX9_rule_121 : decode prog_11_method_44_code 121 = .ok (.iconst 1, 1) := by decide +kernel
theorem dX9_rule_122 : decode prog_11_method_44_code 122 = .ok (.isub, 1) := by decide +kernel
theorem dX9_rule_123 : decode prog_11_method_44_code 123 = .ok (.i2l, 1) := by decide +kernel
theorem dX9_rule_124 : decode prog_11_method_44_code 124 = .ok (.invokestatic 96, 3) := by decide +kernel
theorem dX9_rule_127 : decode prog_11_method_44_code 127 = .ok (.ifCond .ne 5, 3) := by decide +kernel
theorem dX9_rule_130 : decode prog_11_method_44_code 130 = .ok (.iconst (-1), 1) := by decide +kernel
theorem dX9_rule_131 : decode prog_11_method_44_code 131 = .ok (.ireturn, 1) := by decide +kernel
theorem dX9_rule_132 : decode prog_11_method_44_code 132 = .ok (.iload_n 2, 1) := by decide +kernel
theorem dX9_rule_133 : decode prog_11_method_44_code 133 = .ok (.iconst 4, 1) := by decide +kernel
theorem dX9_rule_134 : decode prog_11_method_44_code 134 = .ok (.if_icmp .ne 12, 3) := by decide +kernel
theorem dX9_rule_137 : decode prog_11_method_44_code 137 = .ok (.aload_n 0, 1) := by decide +kernel
theorem dX9_rule_138 : decode prog_11_method_44_code 138 = .ok (.getfield 56, 3) := by decide +kernel
theorem dX9_rule_141 : decode prog_11_method_44_code 141 = .ok (.iload_n 3, 1) := by decide +kernel
theorem dX9_rule_142 : decode prog_11_method_44_code 142 = .ok (.iaload, 1) := by decide +kernel
theorem dX9_rule_143 : decode prog_11_method_44_code 143 = .ok (.goto 34, 3) := by decide +kernel
theorem dX9_rule_146 : decode prog_11_method_44_code 146 = .ok (.iload_n 2, 1) := by decide +kernel
theorem dX9_rule_147 : decode prog_11_method_44_code 147 = .ok (.bipush 10, 2) := by decide +kernel
theorem dX9_rule_149 : decode prog_11_method_44_code 149 = .ok (.isub, 1) := by decide +kernel
theorem dX9_rule_150 : decode prog_11_method_44_code 150 = .ok (.aload_n 0, 1) := by decide +kernel
theorem dX9_rule_151 : decode prog_11_method_44_code 151 = .ok (.getfield 56, 3) := by decide +kernel
theorem dX9_rule_154 : decode prog_11_method_44_code 154 = .ok (.iload_n 3, 1) := by decide +kernel
theorem dX9_rule_155 : decode prog_11_method_44_code 155 = .ok (.iaload, 1) := by decide +kernel
theorem dX9_rule_156 : decode prog_11_method_44_code 156 = .ok (.if_icmp .ge 20, 3) := by decide +kernel
theorem dX9_rule_159 : decode prog_11_method_44_code 159 = .ok (.aload_n 0, 1) := by decide +kernel
theorem dX9_rule_160 : decode prog_11_method_44_code 160 = .ok (.getfield 59, 3) := by decide +kernel
theorem dX9_rule_163 : decode prog_11_method_44_code 163 = .ok (.bipush 24, 2) := by decide +kernel
theorem dX9_rule_165 : decode prog_11_method_44_code 165 = .ok (.iload_n 3, 1) := by decide +kernel
theorem dX9_rule_166 : decode prog_11_method_44_code 166 = .ok (.imul, 1) := by decide +kernel
theorem dX9_rule_167 : decode prog_11_method_44_code 167 = .ok (.iload_n 2, 1) := by decide +kernel
theorem dX9_rule_168 : decode prog_11_method_44_code 168 = .ok (.iadd, 1) := by decide +kernel
theorem dX9_rule_169 : decode prog_11_method_44_code 169 = .ok (.bipush 10, 2) := by decide +kernel
theorem dX9_rule_171 : decode prog_11_method_44_code 171 = .ok (.isub, 1) := by decide +kernel
theorem dX9_rule_172 : decode prog_11_method_44_code 172 = .ok (.iaload, 1) := by decide +kernel
theorem dX9_rule_173 : decode prog_11_method_44_code 173 = .ok (.goto 4, 3) := by decide +kernel
theorem dX9_rule_176 : decode prog_11_method_44_code 176 = .ok (.iconst (-1), 1) := by decide +kernel
theorem dX9_rule_177 : decode prog_11_method_44_code 177 = .ok (.ireturn, 1) := by decide +kernel
abbrev M_X8_bit : am_M := ((⟨"SignCellar", "bit", "(II)I"⟩ : MethodName), prog_1_method_17_code, 4, (some .int), 4, 87)
theorem dX8_bit_0 : decode prog_1_method_17_code 0 = .ok (.aload_n 0, 1) := by decide +kernel
theorem dX8_bit_1 : decode prog_1_method_17_code 1 = .ok (.iload_n 1, 1) := by decide +kernel
theorem dX8_bit_2 : decode prog_1_method_17_code 2 = .ok (.invokevirtual 176, 3) := by decide +kernel
theorem dX8_bit_5 : decode prog_1_method_17_code 5 = .ok (.astore_n 3, 1) := by decide +kernel
theorem dX8_bit_6 : decode prog_1_method_17_code 6 = .ok (.aload_n 3, 1) := by decide +kernel
theorem dX8_bit_7 : decode prog_1_method_17_code 7 = .ok (.ifnonnull 6, 3) := by decide +kernel
theorem dX8_bit_10 : decode prog_1_method_17_code 10 = .ok (.ldc 133, 2) := by decide +kernel
theorem dX8_bit_12 : decode prog_1_method_17_code 12 = .ok (.ireturn, 1) := by decide +kernel
theorem dX8_bit_13 : decode prog_1_method_17_code 13 = .ok (.aload_n 3, 1) := by decide +kernel
theorem dX8_bit_14 : decode prog_1_method_17_code 14 = .ok (.getfield 182, 3) := by decide +kernel
theorem dX8_bit_17 : decode prog_1_method_17_code 17 = .ok (.ifCond .eq 6, 3) := by decide +kernel
theorem dX8_bit_20 : decode prog_1_method_17_code 20 = .ok (.ldc 168, 2) := by decide +kernel
theorem dX8_bit_22 : decode prog_1_method_17_code 22 = .ok (.ireturn, 1) := by decide +kernel
theorem dX8_bit_23 : decode prog_1_method_17_code 23 = .ok (.aload_n 0, 1) := by decide +kernel
theorem dX8_bit_24 : decode prog_1_method_17_code 24 = .ok (.getfield 74, 3) := by decide +kernel
theorem dX8_bit_27 : decode prog_1_method_17_code 27 = .ok (.aload_n 3, 1) := by decide +kernel
theorem dX8_bit_28 : decode prog_1_method_17_code 28 = .ok (.getfield 180, 3) := by decide +kernel
theorem dX8_bit_31 : decode prog_1_method_17_code 31 = .ok (.invokevirtual 239, 3) := by decide +kernel
theorem dX8_bit_34 : decode prog_1_method_17_code 34 = .ok (.aload_n 0, 1) := by decide +kernel
theorem dX8_bit_35 : decode prog_1_method_17_code 35 = .ok (.getfield 74, 3) := by decide +kernel
theorem dX8_bit_38 : decode prog_1_method_17_code 38 = .ok (.getfield 240, 3) := by decide +kernel
theorem dX8_bit_41 : decode prog_1_method_17_code 41 = .ok (.iload_n 2, 1) := by decide +kernel
theorem dX8_bit_42 : decode prog_1_method_17_code 42 = .ok (.invokevirtual 161, 3) := by decide +kernel
theorem dX8_bit_45 : decode prog_1_method_17_code 45 = .ok (.ireturn, 1) := by decide +kernel
abbrev M_X9_bit : am_M := ((⟨"SignCellarModel", "bit", "(II)I"⟩ : MethodName), prog_11_method_47_code, 3, (some .int), 2, 51)
theorem dX9_bit_0 : decode prog_11_method_47_code 0 = .ok (.aload_n 0, 1) := by decide +kernel
theorem dX9_bit_1 : decode prog_11_method_47_code 1 = .ok (.iload_n 1, 1) := by decide +kernel
theorem dX9_bit_2 : decode prog_11_method_47_code 2 = .ok (.invokevirtual 184, 3) := by decide +kernel
theorem dX9_bit_5 : decode prog_11_method_47_code 5 = .ok (.ifCond .eq 6, 3) := by decide +kernel
theorem dX9_bit_8 : decode prog_11_method_47_code 8 = .ok (.ldc 164, 2) := by decide +kernel
theorem dX9_bit_10 : decode prog_11_method_47_code 10 = .ok (.ireturn, 1) := by decide +kernel
theorem dX9_bit_11 : decode prog_11_method_47_code 11 = .ok (.aload_n 0, 1) := by decide +kernel
theorem dX9_bit_12 : decode prog_11_method_47_code 12 = .ok (.getfield 19, 3) := by decide +kernel
theorem dX9_bit_15 : decode prog_11_method_47_code 15 = .ok (.iload_n 1, 1) := by decide +kernel
theorem dX9_bit_16 : decode prog_11_method_47_code 16 = .ok (.baload, 1) := by decide +kernel
theorem dX9_bit_17 : decode prog_11_method_47_code 17 = .ok (.ifCond .eq 6, 3) := by decide +kernel
theorem dX9_bit_20 : decode prog_11_method_47_code 20 = .ok (.ldc 168, 2) := by decide +kernel
theorem dX9_bit_22 : decode prog_11_method_47_code 22 = .ok (.ireturn, 1) := by decide +kernel
theorem dX9_bit_23 : decode prog_11_method_47_code 23 = .ok (.aload_n 0, 1) := by decide +kernel
theorem dX9_bit_24 : decode prog_11_method_47_code 24 = .ok (.iload_n 1, 1) := by decide +kernel
theorem dX9_bit_25 : decode prog_11_method_47_code 25 = .ok (.invokevirtual 251, 3) := by decide +kernel
theorem dX9_bit_28 : decode prog_11_method_47_code 28 = .ok (.iload_n 2, 1) := by decide +kernel
theorem dX9_bit_29 : decode prog_11_method_47_code 29 = .ok (.i2l, 1) := by decide +kernel
theorem dX9_bit_30 : decode prog_11_method_47_code 30 = .ok (.lconst 0, 1) := by decide +kernel
theorem dX9_bit_31 : decode prog_11_method_47_code 31 = .ok (.aload_n 0, 1) := by decide +kernel
theorem dX9_bit_32 : decode prog_11_method_47_code 32 = .ok (.getfield 239, 3) := by decide +kernel
theorem dX9_bit_35 : decode prog_11_method_47_code 35 = .ok (.iconst 1, 1) := by decide +kernel
theorem dX9_bit_36 : decode prog_11_method_47_code 36 = .ok (.isub, 1) := by decide +kernel
theorem dX9_bit_37 : decode prog_11_method_47_code 37 = .ok (.i2l, 1) := by decide +kernel
theorem dX9_bit_38 : decode prog_11_method_47_code 38 = .ok (.invokestatic 96, 3) := by decide +kernel
theorem dX9_bit_41 : decode prog_11_method_47_code 41 = .ok (.ifCond .eq 12, 3) := by decide +kernel
theorem dX9_bit_44 : decode prog_11_method_47_code 44 = .ok (.aload_n 0, 1) := by decide +kernel
theorem dX9_bit_45 : decode prog_11_method_47_code 45 = .ok (.getfield 62, 3) := by decide +kernel
theorem dX9_bit_48 : decode prog_11_method_47_code 48 = .ok (.iload_n 2, 1) := by decide +kernel
theorem dX9_bit_49 : decode prog_11_method_47_code 49 = .ok (.iaload, 1) := by decide +kernel
theorem dX9_bit_50 : decode prog_11_method_47_code 50 = .ok (.goto 4, 3) := by decide +kernel
theorem dX9_bit_53 : decode prog_11_method_47_code 53 = .ok (.iconst (-1), 1) := by decide +kernel
theorem dX9_bit_54 : decode prog_11_method_47_code 54 = .ok (.ireturn, 1) := by decide +kernel
abbrev M_X8_turned : am_M := ((⟨"SignCellar", "turned", "(III)I"⟩ : MethodName), prog_1_method_18_code, 5, (some .int), 4, 93)
theorem dX8_turned_0 : decode prog_1_method_18_code 0 = .ok (.aload_n 0, 1) := by decide +kernel
theorem dX8_turned_1 : decode prog_1_method_18_code 1 = .ok (.iload_n 1, 1) := by decide +kernel
theorem dX8_turned_2 : decode prog_1_method_18_code 2 = .ok (.invokevirtual 176, 3) := by decide +kernel
theorem dX8_turned_5 : decode prog_1_method_18_code 5 = .ok (.astore 4, 2) := by decide +kernel
theorem dX8_turned_7 : decode prog_1_method_18_code 7 = .ok (.aload 4, 2) := by decide +kernel
theorem dX8_turned_9 : decode prog_1_method_18_code 9 = .ok (.ifnonnull 6, 3) := by decide +kernel
theorem dX8_turned_12 : decode prog_1_method_18_code 12 = .ok (.ldc 133, 2) := by decide +kernel
theorem dX8_turned_14 : decode prog_1_method_18_code 14 = .ok (.ireturn, 1) := by decide +kernel
theorem dX8_turned_15 : decode prog_1_method_18_code 15 = .ok (.iload_n 2, 1) := by decide +kernel
theorem dX8_turned_16 : decode prog_1_method_18_code 16 = .ok (.ifCond .lt 8, 3) := by decide +kernel
theorem dX8_turned_19 : decode prog_1_method_18_code 19 = .ok (.iload_n 2, 1) := by decide +kernel
theorem dX8_turned_20 : decode prog_1_method_18_code 20 = .ok (.iconst 2, 1) := by decide +kernel
theorem dX8_turned_21 : decode prog_1_method_18_code 21 = .ok (.if_icmp .le 6, 3) := by decide +kernel
theorem dX8_turned_24 : decode prog_1_method_18_code 24 = .ok (.ldc 92, 2) := by decide +kernel
theorem dX8_turned_26 : decode prog_1_method_18_code 26 = .ok (.ireturn, 1) := by decide +kernel
theorem dX8_turned_27 : decode prog_1_method_18_code 27 = .ok (.aload 4, 2) := by decide +kernel
theorem dX8_turned_29 : decode prog_1_method_18_code 29 = .ok (.getfield 182, 3) := by decide +kernel
theorem dX8_turned_32 : decode prog_1_method_18_code 32 = .ok (.ifCond .eq 6, 3) := by decide +kernel
theorem dX8_turned_35 : decode prog_1_method_18_code 35 = .ok (.ldc 168, 2) := by decide +kernel
theorem dX8_turned_37 : decode prog_1_method_18_code 37 = .ok (.ireturn, 1) := by decide +kernel
theorem dX8_turned_38 : decode prog_1_method_18_code 38 = .ok (.aload_n 0, 1) := by decide +kernel
theorem dX8_turned_39 : decode prog_1_method_18_code 39 = .ok (.getfield 81, 3) := by decide +kernel
theorem dX8_turned_42 : decode prog_1_method_18_code 42 = .ok (.aload 4, 2) := by decide +kernel
theorem dX8_turned_44 : decode prog_1_method_18_code 44 = .ok (.getfield 180, 3) := by decide +kernel
theorem dX8_turned_47 : decode prog_1_method_18_code 47 = .ok (.invokevirtual 243, 3) := by decide +kernel
theorem dX8_turned_50 : decode prog_1_method_18_code 50 = .ok (.iload_n 2, 1) := by decide +kernel
theorem dX8_turned_51 : decode prog_1_method_18_code 51 = .ok (.lookupswitch 45 #[(0, 25), (1, 33)], 25) := by decide +kernel
theorem dX8_turned_76 : decode prog_1_method_18_code 76 = .ok (.aload_n 0, 1) := by decide +kernel
theorem dX8_turned_77 : decode prog_1_method_18_code 77 = .ok (.getfield 81, 3) := by decide +kernel
theorem dX8_turned_80 : decode prog_1_method_18_code 80 = .ok (.getfield 244, 3) := by decide +kernel
theorem dX8_turned_83 : decode prog_1_method_18_code 83 = .ok (.ireturn, 1) := by decide +kernel
theorem dX8_turned_84 : decode prog_1_method_18_code 84 = .ok (.aload_n 0, 1) := by decide +kernel
theorem dX8_turned_85 : decode prog_1_method_18_code 85 = .ok (.getfield 81, 3) := by decide +kernel
theorem dX8_turned_88 : decode prog_1_method_18_code 88 = .ok (.getfield 247, 3) := by decide +kernel
theorem dX8_turned_91 : decode prog_1_method_18_code 91 = .ok (.iload_n 3, 1) := by decide +kernel
theorem dX8_turned_92 : decode prog_1_method_18_code 92 = .ok (.invokevirtual 161, 3) := by decide +kernel
theorem dX8_turned_95 : decode prog_1_method_18_code 95 = .ok (.ireturn, 1) := by decide +kernel
theorem dX8_turned_96 : decode prog_1_method_18_code 96 = .ok (.aload_n 0, 1) := by decide +kernel
theorem dX8_turned_97 : decode prog_1_method_18_code 97 = .ok (.getfield 81, 3) := by decide +kernel
theorem dX8_turned_100 : decode prog_1_method_18_code 100 = .ok (.getfield 250, 3) := by decide +kernel
theorem dX8_turned_103 : decode prog_1_method_18_code 103 = .ok (.iload_n 3, 1) := by decide +kernel
theorem dX8_turned_104 : decode prog_1_method_18_code 104 = .ok (.invokevirtual 161, 3) := by decide +kernel
theorem dX8_turned_107 : decode prog_1_method_18_code 107 = .ok (.ireturn, 1) := by decide +kernel
abbrev M_X9_turned : am_M := ((⟨"SignCellarModel", "turned", "(III)I"⟩ : MethodName), prog_11_method_51_code, 4, (some .int), 4, 97)
theorem dX9_turned_0 : decode prog_11_method_51_code 0 = .ok (.aload_n 0, 1) := by decide +kernel
theorem dX9_turned_1 : decode prog_11_method_51_code 1 = .ok (.iload_n 1, 1) := by decide +kernel
theorem dX9_turned_2 : decode prog_11_method_51_code 2 = .ok (.invokevirtual 184, 3) := by decide +kernel
theorem dX9_turned_5 : decode prog_11_method_51_code 5 = .ok (.ifCond .eq 6, 3) := by decide +kernel
theorem dX9_turned_8 : decode prog_11_method_51_code 8 = .ok (.ldc 164, 2) := by decide +kernel
theorem dX9_turned_10 : decode prog_11_method_51_code 10 = .ok (.ireturn, 1) := by decide +kernel
theorem dX9_turned_11 : decode prog_11_method_51_code 11 = .ok (.iload_n 2, 1) := by decide +kernel
theorem dX9_turned_12 : decode prog_11_method_51_code 12 = .ok (.i2l, 1) := by decide +kernel
theorem dX9_turned_13 : decode prog_11_method_51_code 13 = .ok (.lconst 0, 1) := by decide +kernel
theorem dX9_turned_14 : decode prog_11_method_51_code 14 = .ok (.ldc2_w 264, 3) := by decide +kernel
theorem dX9_turned_17 : decode prog_11_method_51_code 17 = .ok (.invokestatic 96, 3) := by decide +kernel
theorem dX9_turned_20 : decode prog_11_method_51_code 20 = .ok (.ifCond .ne 6, 3) := by decide +kernel
theorem dX9_turned_23 : decode prog_11_method_51_code 23 = .ok (.ldc 105, 2) := by decide +kernel
theorem dX9_turned_25 : decode prog_11_method_51_code 25 = .ok (.ireturn, 1) := by decide +kernel
theorem dX9_turned_26 : decode prog_11_method_51_code 26 = .ok (.aload_n 0, 1) := by decide +kernel
theorem dX9_turned_27 : decode prog_11_method_51_code 27 = .ok (.getfield 19, 3) := by decide +kernel
theorem dX9_turned_30 : decode prog_11_method_51_code 30 = .ok (.iload_n 1, 1) := by decide +kernel
theorem dX9_turned_31 : decode prog_11_method_51_code 31 = .ok (.baload, 1) := by decide +kernel
theorem dX9_turned_32 : decode prog_11_method_51_code 32 = .ok (.ifCond .eq 6, 3) := by decide +kernel
theorem dX9_turned_35 : decode prog_11_method_51_code 35 = .ok (.ldc 168, 2) := by decide +kernel
theorem dX9_turned_37 : decode prog_11_method_51_code 37 = .ok (.ireturn, 1) := by decide +kernel
theorem dX9_turned_38 : decode prog_11_method_51_code 38 = .ok (.aload_n 0, 1) := by decide +kernel
theorem dX9_turned_39 : decode prog_11_method_51_code 39 = .ok (.iload_n 1, 1) := by decide +kernel
theorem dX9_turned_40 : decode prog_11_method_51_code 40 = .ok (.invokevirtual 266, 3) := by decide +kernel
theorem dX9_turned_43 : decode prog_11_method_51_code 43 = .ok (.iload_n 2, 1) := by decide +kernel
theorem dX9_turned_44 : decode prog_11_method_51_code 44 = .ok (.ifCond .ne 10, 3) := by decide +kernel
theorem dX9_turned_47 : decode prog_11_method_51_code 47 = .ok (.aload_n 0, 1) := by decide +kernel
theorem dX9_turned_48 : decode prog_11_method_51_code 48 = .ok (.getfield 261, 3) := by decide +kernel
theorem dX9_turned_51 : decode prog_11_method_51_code 51 = .ok (.goto 45, 3) := by decide +kernel
theorem dX9_turned_54 : decode prog_11_method_51_code 54 = .ok (.iload_n 3, 1) := by decide +kernel
theorem dX9_turned_55 : decode prog_11_method_51_code 55 = .ok (.i2l, 1) := by decide +kernel
theorem dX9_turned_56 : decode prog_11_method_51_code 56 = .ok (.lconst 0, 1) := by decide +kernel
theorem dX9_turned_57 : decode prog_11_method_51_code 57 = .ok (.aload_n 0, 1) := by decide +kernel
theorem dX9_turned_58 : decode prog_11_method_51_code 58 = .ok (.getfield 13, 3) := by decide +kernel
theorem dX9_turned_61 : decode prog_11_method_51_code 61 = .ok (.iload_n 1, 1) := by decide +kernel
theorem dX9_turned_62 : decode prog_11_method_51_code 62 = .ok (.iaload, 1) := by decide +kernel
theorem dX9_turned_63 : decode prog_11_method_51_code 63 = .ok (.iconst 1, 1) := by decide +kernel
theorem dX9_turned_64 : decode prog_11_method_51_code 64 = .ok (.isub, 1) := by decide +kernel
theorem dX9_turned_65 : decode prog_11_method_51_code 65 = .ok (.i2l, 1) := by decide +kernel
theorem dX9_turned_66 : decode prog_11_method_51_code 66 = .ok (.invokestatic 96, 3) := by decide +kernel
theorem dX9_turned_69 : decode prog_11_method_51_code 69 = .ok (.ifCond .ne 7, 3) := by decide +kernel
theorem dX9_turned_72 : decode prog_11_method_51_code 72 = .ok (.iconst (-1), 1) := by decide +kernel
theorem dX9_turned_73 : decode prog_11_method_51_code 73 = .ok (.goto 23, 3) := by decide +kernel
theorem dX9_turned_76 : decode prog_11_method_51_code 76 = .ok (.iload_n 2, 1) := by decide +kernel
theorem dX9_turned_77 : decode prog_11_method_51_code 77 = .ok (.iconst 1, 1) := by decide +kernel
theorem dX9_turned_78 : decode prog_11_method_51_code 78 = .ok (.if_icmp .ne 12, 3) := by decide +kernel
theorem dX9_turned_81 : decode prog_11_method_51_code 81 = .ok (.aload_n 0, 1) := by decide +kernel
theorem dX9_turned_82 : decode prog_11_method_51_code 82 = .ok (.getfield 68, 3) := by decide +kernel
theorem dX9_turned_85 : decode prog_11_method_51_code 85 = .ok (.iload_n 3, 1) := by decide +kernel
theorem dX9_turned_86 : decode prog_11_method_51_code 86 = .ok (.iaload, 1) := by decide +kernel
theorem dX9_turned_87 : decode prog_11_method_51_code 87 = .ok (.goto 9, 3) := by decide +kernel
theorem dX9_turned_90 : decode prog_11_method_51_code 90 = .ok (.aload_n 0, 1) := by decide +kernel
theorem dX9_turned_91 : decode prog_11_method_51_code 91 = .ok (.getfield 71, 3) := by decide +kernel
theorem dX9_turned_94 : decode prog_11_method_51_code 94 = .ok (.iload_n 3, 1) := by decide +kernel
theorem dX9_turned_95 : decode prog_11_method_51_code 95 = .ok (.iaload, 1) := by decide +kernel
theorem dX9_turned_96 : decode prog_11_method_51_code 96 = .ok (.ireturn, 1) := by decide +kernel
abbrev M_X1_begin : am_M := ((⟨"SignCellar$Choice", "begin", "()V"⟩ : MethodName), prog_3_method_2_code, 1, none, 1, 20)
theorem dX1_begin_0 : decode prog_3_method_2_code 0 = .ok (.aload_n 0, 1) := by decide +kernel
theorem dX1_begin_1 : decode prog_3_method_2_code 1 = .ok (.getfield 14, 3) := by decide +kernel
theorem dX1_begin_4 : decode prog_3_method_2_code 4 = .ok (.invokevirtual 38, 3) := by decide +kernel
theorem dX1_begin_7 : decode prog_3_method_2_code 7 = .ok (.aload_n 0, 1) := by decide +kernel
theorem dX1_begin_8 : decode prog_3_method_2_code 8 = .ok (.getfield 20, 3) := by decide +kernel
theorem dX1_begin_11 : decode prog_3_method_2_code 11 = .ok (.invokevirtual 38, 3) := by decide +kernel
theorem dX1_begin_14 : decode prog_3_method_2_code 14 = .ok (.return_, 1) := by decide +kernel
abbrev M_X1_addBlock : am_M := ((⟨"SignCellar$Choice", "addBlock", "(LSignCellar$Block;)V"⟩ : MethodName), prog_3_method_3_code, 2, none, 2, 45)
theorem dX1_addBlock_0 : decode prog_3_method_3_code 0 = .ok (.aload_n 0, 1) := by decide +kernel
theorem dX1_addBlock_1 : decode prog_3_method_3_code 1 = .ok (.getfield 14, 3) := by decide +kernel
theorem dX1_addBlock_4 : decode prog_3_method_3_code 4 = .ok (.aload_n 1, 1) := by decide +kernel
theorem dX1_addBlock_5 : decode prog_3_method_3_code 5 = .ok (.getfield 41, 3) := by decide +kernel
theorem dX1_addBlock_8 : decode prog_3_method_3_code 8 = .ok (.iconst 0, 1) := by decide +kernel
theorem dX1_addBlock_9 : decode prog_3_method_3_code 9 = .ok (.iconst 5, 1) := by decide +kernel
theorem dX1_addBlock_10 : decode prog_3_method_3_code 10 = .ok (.invokevirtual 44, 3) := by decide +kernel
theorem dX1_addBlock_13 : decode prog_3_method_3_code 13 = .ok (.aload_n 0, 1) := by decide +kernel
theorem dX1_addBlock_14 : decode prog_3_method_3_code 14 = .ok (.getfield 20, 3) := by decide +kernel
theorem dX1_addBlock_17 : decode prog_3_method_3_code 17 = .ok (.aload_n 1, 1) := by decide +kernel
theorem dX1_addBlock_18 : decode prog_3_method_3_code 18 = .ok (.getfield 48, 3) := by decide +kernel
theorem dX1_addBlock_21 : decode prog_3_method_3_code 21 = .ok (.iconst 0, 1) := by decide +kernel
theorem dX1_addBlock_22 : decode prog_3_method_3_code 22 = .ok (.iconst 5, 1) := by decide +kernel
theorem dX1_addBlock_23 : decode prog_3_method_3_code 23 = .ok (.invokevirtual 44, 3) := by decide +kernel
theorem dX1_addBlock_26 : decode prog_3_method_3_code 26 = .ok (.return_, 1) := by decide +kernel
abbrev M_X1_timeOfSmallest : am_M := ((⟨"SignCellar$Choice", "timeOfSmallest", "(I)I"⟩ : MethodName), prog_3_method_5_code, 6, (some .int), 1, 21)
theorem dX1_timeOfSmallest_0 : decode prog_3_method_5_code 0 = .ok (.iconst 0, 1) := by decide +kernel
theorem dX1_timeOfSmallest_1 : decode prog_3_method_5_code 1 = .ok (.istore_n 2, 1) := by decide +kernel
theorem dX1_timeOfSmallest_2 : decode prog_3_method_5_code 2 = .ok (.iconst 0, 1) := by decide +kernel
theorem dX1_timeOfSmallest_3 : decode prog_3_method_5_code 3 = .ok (.istore_n 3, 1) := by decide +kernel
theorem dX1_timeOfSmallest_4 : decode prog_3_method_5_code 4 = .ok (.iload_n 3, 1) := by decide +kernel
theorem dX1_timeOfSmallest_5 : decode prog_3_method_5_code 5 = .ok (.iload_n 1, 1) := by decide +kernel
theorem dX1_timeOfSmallest_6 : decode prog_3_method_5_code 6 = .ok (.if_icmp .ge 71, 3) := by decide +kernel
theorem dX1_timeOfSmallest_9 : decode prog_3_method_5_code 9 = .ok (.iload_n 3, 1) := by decide +kernel
theorem dX1_timeOfSmallest_10 : decode prog_3_method_5_code 10 = .ok (.iconst 5, 1) := by decide +kernel
theorem dX1_timeOfSmallest_11 : decode prog_3_method_5_code 11 = .ok (.imul, 1) := by decide +kernel
theorem dX1_timeOfSmallest_12 : decode prog_3_method_5_code 12 = .ok (.istore 4, 2) := by decide +kernel
theorem dX1_timeOfSmallest_14 : decode prog_3_method_5_code 14 = .ok (.iload 4, 2) := by decide +kernel
theorem dX1_timeOfSmallest_16 : decode prog_3_method_5_code 16 = .ok (.istore 5, 2) := by decide +kernel
theorem dX1_timeOfSmallest_18 : decode prog_3_method_5_code 18 = .ok (.iload 5, 2) := by decide +kernel
theorem dX1_timeOfSmallest_20 : decode prog_3_method_5_code 20 = .ok (.iload_n 3, 1) := by decide +kernel
theorem dX1_timeOfSmallest_21 : decode prog_3_method_5_code 21 = .ok (.iconst 1, 1) := by decide +kernel
theorem dX1_timeOfSmallest_22 : decode prog_3_method_5_code 22 = .ok (.iadd, 1) := by decide +kernel
theorem dX1_timeOfSmallest_23 : decode prog_3_method_5_code 23 = .ok (.iconst 5, 1) := by decide +kernel
theorem dX1_timeOfSmallest_24 : decode prog_3_method_5_code 24 = .ok (.imul, 1) := by decide +kernel
theorem dX1_timeOfSmallest_25 : decode prog_3_method_5_code 25 = .ok (.if_icmp .ge 34, 3) := by decide +kernel
theorem dX1_timeOfSmallest_28 : decode prog_3_method_5_code 28 = .ok (.aload_n 0, 1) := by decide +kernel
theorem dX1_timeOfSmallest_29 : decode prog_3_method_5_code 29 = .ok (.getfield 14, 3) := by decide +kernel
theorem dX1_timeOfSmallest_32 : decode prog_3_method_5_code 32 = .ok (.iload 5, 2) := by decide +kernel
theorem dX1_timeOfSmallest_34 : decode prog_3_method_5_code 34 = .ok (.invokevirtual 74, 3) := by decide +kernel
theorem dX1_timeOfSmallest_37 : decode prog_3_method_5_code 37 = .ok (.aload_n 0, 1) := by decide +kernel
theorem dX1_timeOfSmallest_38 : decode prog_3_method_5_code 38 = .ok (.getfield 14, 3) := by decide +kernel
theorem dX1_timeOfSmallest_41 : decode prog_3_method_5_code 41 = .ok (.iload 4, 2) := by decide +kernel
theorem dX1_timeOfSmallest_43 : decode prog_3_method_5_code 43 = .ok (.invokevirtual 74, 3) := by decide +kernel
theorem dX1_timeOfSmallest_46 : decode prog_3_method_5_code 46 = .ok (.if_icmp .ge 7, 3) := by decide +kernel
theorem dX1_timeOfSmallest_49 : decode prog_3_method_5_code 49 = .ok (.iload 5, 2) := by decide +kernel
theorem dX1_timeOfSmallest_51 : decode prog_3_method_5_code 51 = .ok (.istore 4, 2) := by decide +kernel
theorem dX1_timeOfSmallest_53 : decode prog_3_method_5_code 53 = .ok (.iinc 5 1, 3) := by decide +kernel
theorem dX1_timeOfSmallest_56 : decode prog_3_method_5_code 56 = .ok (.goto (-38), 3) := by decide +kernel
theorem dX1_timeOfSmallest_59 : decode prog_3_method_5_code 59 = .ok (.iload_n 2, 1) := by decide +kernel
theorem dX1_timeOfSmallest_60 : decode prog_3_method_5_code 60 = .ok (.aload_n 0, 1) := by decide +kernel
theorem dX1_timeOfSmallest_61 : decode prog_3_method_5_code 61 = .ok (.getfield 20, 3) := by decide +kernel
theorem dX1_timeOfSmallest_64 : decode prog_3_method_5_code 64 = .ok (.iload 4, 2) := by decide +kernel
theorem dX1_timeOfSmallest_66 : decode prog_3_method_5_code 66 = .ok (.invokevirtual 74, 3) := by decide +kernel
theorem dX1_timeOfSmallest_69 : decode prog_3_method_5_code 69 = .ok (.iadd, 1) := by decide +kernel
theorem dX1_timeOfSmallest_70 : decode prog_3_method_5_code 70 = .ok (.istore_n 2, 1) := by decide +kernel
theorem dX1_timeOfSmallest_71 : decode prog_3_method_5_code 71 = .ok (.iinc 3 1, 3) := by decide +kernel
theorem dX1_timeOfSmallest_74 : decode prog_3_method_5_code 74 = .ok (.goto (-70), 3) := by decide +kernel
theorem dX1_timeOfSmallest_77 : decode prog_3_method_5_code 77 = .ok (.iload_n 2, 1) := by decide +kernel
theorem dX1_timeOfSmallest_78 : decode prog_3_method_5_code 78 = .ok (.ireturn, 1) := by decide +kernel
abbrev M_X1_sizeWith : am_M := ((⟨"SignCellar$Choice", "sizeWith", "(III)I"⟩ : MethodName), prog_3_method_7_code, 5, (some .int), 1, 21)
theorem dX1_sizeWith_0 : decode prog_3_method_7_code 0 = .ok (.iload_n 3, 1) := by decide +kernel
theorem dX1_sizeWith_1 : decode prog_3_method_7_code 1 = .ok (.aload_n 0, 1) := by decide +kernel
theorem dX1_sizeWith_2 : decode prog_3_method_7_code 2 = .ok (.getfield 20, 3) := by decide +kernel
theorem dX1_sizeWith_5 : decode prog_3_method_7_code 5 = .ok (.iload_n 1, 1) := by decide +kernel
theorem dX1_sizeWith_6 : decode prog_3_method_7_code 6 = .ok (.iconst 5, 1) := by decide +kernel
theorem dX1_sizeWith_7 : decode prog_3_method_7_code 7 = .ok (.imul, 1) := by decide +kernel
theorem dX1_sizeWith_8 : decode prog_3_method_7_code 8 = .ok (.iload_n 2, 1) := by decide +kernel
theorem dX1_sizeWith_9 : decode prog_3_method_7_code 9 = .ok (.iadd, 1) := by decide +kernel
theorem dX1_sizeWith_10 : decode prog_3_method_7_code 10 = .ok (.invokevirtual 74, 3) := by decide +kernel
theorem dX1_sizeWith_13 : decode prog_3_method_7_code 13 = .ok (.isub, 1) := by decide +kernel
theorem dX1_sizeWith_14 : decode prog_3_method_7_code 14 = .ok (.istore 4, 2) := by decide +kernel
theorem dX1_sizeWith_16 : decode prog_3_method_7_code 16 = .ok (.iload_n 1, 1) := by decide +kernel
theorem dX1_sizeWith_17 : decode prog_3_method_7_code 17 = .ok (.iconst 1, 1) := by decide +kernel
theorem dX1_sizeWith_18 : decode prog_3_method_7_code 18 = .ok (.iadd, 1) := by decide +kernel
theorem dX1_sizeWith_19 : decode prog_3_method_7_code 19 = .ok (.aload_n 0, 1) := by decide +kernel
theorem dX1_sizeWith_20 : decode prog_3_method_7_code 20 = .ok (.getfield 25, 3) := by decide +kernel
theorem dX1_sizeWith_23 : decode prog_3_method_7_code 23 = .ok (.arraylength, 1) := by decide +kernel
theorem dX1_sizeWith_24 : decode prog_3_method_7_code 24 = .ok (.if_icmp .ge 16, 3) := by decide +kernel
theorem dX1_sizeWith_27 : decode prog_3_method_7_code 27 = .ok (.iload 4, 2) := by decide +kernel
theorem dX1_sizeWith_29 : decode prog_3_method_7_code 29 = .ok (.ifCond .lt 11, 3) := by decide +kernel
theorem dX1_sizeWith_32 : decode prog_3_method_7_code 32 = .ok (.iload 4, 2) := by decide +kernel
theorem dX1_sizeWith_34 : decode prog_3_method_7_code 34 = .ok (.sipush 1152, 3) := by decide +kernel
theorem dX1_sizeWith_37 : decode prog_3_method_7_code 37 = .ok (.if_icmp .le 6, 3) := by decide +kernel
theorem dX1_sizeWith_40 : decode prog_3_method_7_code 40 = .ok (.ldc 69, 2) := by decide +kernel
theorem dX1_sizeWith_42 : decode prog_3_method_7_code 42 = .ok (.ireturn, 1) := by decide +kernel
theorem dX1_sizeWith_43 : decode prog_3_method_7_code 43 = .ok (.aload_n 0, 1) := by decide +kernel
theorem dX1_sizeWith_44 : decode prog_3_method_7_code 44 = .ok (.getfield 14, 3) := by decide +kernel
theorem dX1_sizeWith_47 : decode prog_3_method_7_code 47 = .ok (.iload_n 1, 1) := by decide +kernel
theorem dX1_sizeWith_48 : decode prog_3_method_7_code 48 = .ok (.iconst 5, 1) := by decide +kernel
theorem dX1_sizeWith_49 : decode prog_3_method_7_code 49 = .ok (.imul, 1) := by decide +kernel
theorem dX1_sizeWith_50 : decode prog_3_method_7_code 50 = .ok (.iload_n 2, 1) := by decide +kernel
theorem dX1_sizeWith_51 : decode prog_3_method_7_code 51 = .ok (.iadd, 1) := by decide +kernel
theorem dX1_sizeWith_52 : decode prog_3_method_7_code 52 = .ok (.invokevirtual 74, 3) := by decide +kernel
theorem dX1_sizeWith_55 : decode prog_3_method_7_code 55 = .ok (.aload_n 0, 1) := by decide +kernel
theorem dX1_sizeWith_56 : decode prog_3_method_7_code 56 = .ok (.getfield 25, 3) := by decide +kernel
theorem dX1_sizeWith_59 : decode prog_3_method_7_code 59 = .ok (.iload_n 1, 1) := by decide +kernel
theorem dX1_sizeWith_60 : decode prog_3_method_7_code 60 = .ok (.iconst 1, 1) := by decide +kernel
theorem dX1_sizeWith_61 : decode prog_3_method_7_code 61 = .ok (.iadd, 1) := by decide +kernel
theorem dX1_sizeWith_62 : decode prog_3_method_7_code 62 = .ok (.aaload, 1) := by decide +kernel
theorem dX1_sizeWith_63 : decode prog_3_method_7_code 63 = .ok (.iload 4, 2) := by decide +kernel
theorem dX1_sizeWith_65 : decode prog_3_method_7_code 65 = .ok (.iaload, 1) := by decide +kernel
theorem dX1_sizeWith_66 : decode prog_3_method_7_code 66 = .ok (.iadd, 1) := by decide +kernel
theorem dX1_sizeWith_67 : decode prog_3_method_7_code 67 = .ok (.ireturn, 1) := by decide +kernel
abbrev M_X1_leastFrom : am_M := ((⟨"SignCellar$Choice", "leastFrom", "(II)I"⟩ : MethodName), prog_3_method_6_code, 5, (some .int), 2, 45)
theorem dX1_leastFrom_0 : decode prog_3_method_6_code 0 = .ok (.ldc 69, 2) := by decide +kernel
theorem dX1_leastFrom_2 : decode prog_3_method_6_code 2 = .ok (.istore_n 3, 1) := by decide +kernel
theorem dX1_leastFrom_3 : decode prog_3_method_6_code 3 = .ok (.iconst 0, 1) := by decide +kernel
theorem dX1_leastFrom_4 : decode prog_3_method_6_code 4 = .ok (.istore 4, 2) := by decide +kernel
theorem dX1_leastFrom_6 : decode prog_3_method_6_code 6 = .ok (.iload 4, 2) := by decide +kernel
theorem dX1_leastFrom_8 : decode prog_3_method_6_code 8 = .ok (.iconst 5, 1) := by decide +kernel
theorem dX1_leastFrom_9 : decode prog_3_method_6_code 9 = .ok (.if_icmp .ge 22, 3) := by decide +kernel
theorem dX1_leastFrom_12 : decode prog_3_method_6_code 12 = .ok (.iload_n 3, 1) := by decide +kernel
theorem dX1_leastFrom_13 : decode prog_3_method_6_code 13 = .ok (.aload_n 0, 1) := by decide +kernel
theorem dX1_leastFrom_14 : decode prog_3_method_6_code 14 = .ok (.iload_n 1, 1) := by decide +kernel
theorem dX1_leastFrom_15 : decode prog_3_method_6_code 15 = .ok (.iload 4, 2) := by decide +kernel
theorem dX1_leastFrom_17 : decode prog_3_method_6_code 17 = .ok (.iload_n 2, 1) := by decide +kernel
theorem dX1_leastFrom_18 : decode prog_3_method_6_code 18 = .ok (.invokevirtual 77, 3) := by decide +kernel
theorem dX1_leastFrom_21 : decode prog_3_method_6_code 21 = .ok (.invokestatic 53, 3) := by decide +kernel
theorem dX1_leastFrom_24 : decode prog_3_method_6_code 24 = .ok (.istore_n 3, 1) := by decide +kernel
theorem dX1_leastFrom_25 : decode prog_3_method_6_code 25 = .ok (.iinc 4 1, 3) := by decide +kernel
theorem dX1_leastFrom_28 : decode prog_3_method_6_code 28 = .ok (.goto (-22), 3) := by decide +kernel
theorem dX1_leastFrom_31 : decode prog_3_method_6_code 31 = .ok (.iload_n 3, 1) := by decide +kernel
theorem dX1_leastFrom_32 : decode prog_3_method_6_code 32 = .ok (.ireturn, 1) := by decide +kernel
theorem cw_X8_233 : am_cw "SignCellar" 233 M_X5_lengthOf 1 := ⟨wd_1_5, wd_3_139, ⟨by decide, by decide, by decide⟩, Or.inl wd_3_160⟩
theorem cw_X8_236 : am_cw "SignCellar" 236 M_X5_pieceOf 2 := ⟨wd_1_5, wd_3_164, ⟨by decide, by decide, by decide⟩, Or.inl wd_3_161⟩
theorem fw_X8_226 : am_fw "SignCellar" 226 5 0 := ⟨(RX5, TX5, 6), rfl, by decide, inX5, Or.inr ⟨_, wd_1_76⟩⟩
theorem fw_X8_230 : am_fw "SignCellar" 230 5 3 := ⟨(RX5, TX5, 6), rfl, by decide, inX5, Or.inr ⟨_, wd_1_80⟩⟩
def F_X8_rule_30 (h : am_H) : Option (Int32 × am_H) :=
  some ((-100002 : Int32), h)
theorem w_X8_rule_30 {g : am_G} {l : Launch} {h0 : am_H} {x : Int32} {hf : am_H}  (h : am_H) (hF : F_X8_rule_30 h = some (x, hf)) : am_W g l M_X8_rule h0 (some (.int x)) hf 30 [none, none, none, none, none] [] h := by
  unfold F_X8_rule_30 at hF
  refine am_ldc (v := (-100002 : Int32)) (pc' := 32) dX8_rule_30 wd_1_233 rfl ?_
  cases hF
  exact am_iret dX8_rule_32 rfl rfl
def F_X8_rule_33 (v0 : Nat) (v2 : Int32) (v3 : Int32) (v4 : Nat) (h : am_H) : Option (Int32 × am_H) :=
  (am_gi 0 3 v4 h).bind fun x1 =>
  if x1 = 0 then
    (am_gr 8 12 v0 h).bind fun x3 =>
    (am_gr 0 0 v4 h).bind fun x4 =>
    (F_X5_squeeze x3 x4 h).bind fun h5 =>
    if v2 = (0 : Int32) then
      (am_gr 8 12 v0 h5).bind fun x7 =>
      (am_gr 5 0 x7 h5).bind fun x8 =>
      (F_X4_length x8 h5).bind fun x9 =>
      some (x9, h5)
    else
    if v2 = (1 : Int32) then
      (am_gr 8 12 v0 h5).bind fun x11 =>
      (F_X5_left x11 h5).bind fun x12 =>
      some (x12, h5)
    else
    if v2 = (2 : Int32) then
      (am_gr 8 12 v0 h5).bind fun x14 =>
      (am_gi 5 3 x14 h5).bind fun x15 =>
      some (x15, h5)
    else
    if v2 = (3 : Int32) then
      (am_gr 8 12 v0 h5).bind fun x17 =>
      (am_gr 5 0 x17 h5).bind fun x18 =>
      (F_X4_at x18 v3 h5).bind fun x19 =>
      some (x19, h5)
    else
    if v2 = (4 : Int32) then
      (am_gr 8 12 v0 h5).bind fun x21 =>
      (F_X5_lengthOf x21 v3 h5).bind fun x22 =>
      some (x22, h5)
    else
    (am_gr 8 12 v0 h5).bind fun x23 =>
    (F_X5_pieceOf x23 v3 (v2 - (10 : Int32)) h5).bind fun x24 =>
    some (x24, h5)
  else
    some ((-100005 : Int32), h)
theorem w_X8_rule_33 {g : am_G} {l : Launch} {h0 : am_H} {x : Int32} {hf : am_H}  (v0 : Nat) (v2 : Int32) (v3 : Int32) (v4 : Nat) (h : am_H) (hF : F_X8_rule_33 v0 v2 v3 v4 h = some (x, hf)) : am_W g l M_X8_rule h0 (some (.int x)) hf 33 [some (.ref v0), none, some (.int v2), some (.int v3), some (.ref v4)] [] h := by
  unfold F_X8_rule_33 at hF
  refine am_aload (pc' := 35) dX8_rule_33 rfl rfl ?_
  obtain ⟨x1, ex1, hF⟩ := am_bind hF
  refine am_geti (pc' := 38) dX8_rule_35 fw_X8_182 ex1 rfl ?_
  rcases am_ite hF with ⟨z2, hF⟩ | ⟨z2, hF⟩
  · refine am_if_eq_t (pc' := 44) dX8_rule_38 rfl z2 ?_
    refine am_aload_n (pc' := 45) dX8_rule_44 rfl rfl ?_
    obtain ⟨x3, ex3, hF⟩ := am_bind hF
    refine am_getr (pc' := 48) dX8_rule_45 fw_X8_67 ex3 rfl ?_
    refine am_aload (pc' := 50) dX8_rule_48 rfl rfl ?_
    obtain ⟨x4, ex4, hF⟩ := am_bind hF
    refine am_getr (pc' := 53) dX8_rule_50 fw_X8_180 ex4 rfl ?_
    obtain ⟨h5, eh5, hF⟩ := am_bind hF
    obtain ⟨oh5, ph5⟩ := t_X5_squeeze eh5
    refine am_callV0 (Mc := M_X5_squeeze) (As := [.ref x4]) (st := []) (pc' := 56) dX8_rule_53 cw_X8_225 wd_3_22 wd_3_23 ⟨_, rfl, rfl⟩ (by decide) (by decide) rfl rfl (Nat.le_of_ble_eq_true rfl) ph5 (c_X5_squeeze eh5) rfl ?_
    refine am_iload_n (pc' := 57) dX8_rule_56 rfl rfl ?_
    rcases am_ite hF with ⟨z6, hF⟩ | ⟨z6, hF⟩
    · refine am_tableIn (c := (0 : Int32)) (pc' := 92) dX8_rule_57 z6 (by decide) (by decide) rfl rfl ?_
      refine am_aload_n (pc' := 93) dX8_rule_92 rfl rfl ?_
      obtain ⟨x7, ex7, hF⟩ := am_bind hF
      refine am_getr (pc' := 96) dX8_rule_93 fw_X8_67 ex7 rfl ?_
      obtain ⟨x8, ex8, hF⟩ := am_bind hF
      refine am_getr (pc' := 99) dX8_rule_96 fw_X8_226 ex8 rfl ?_
      obtain ⟨x9, ex9, hF⟩ := am_bind hF
      obtain ⟨ox9, px9⟩ := t_X4_length ex9
      refine am_callV1 (Mc := M_X4_length) (As := []) (st := []) (pc' := 102) dX8_rule_99 cw_X8_93 wd_1_235 wd_1_236 ⟨_, rfl, rfl⟩ (by decide) (by decide) rfl rfl (Nat.le_of_ble_eq_true rfl) px9 (c_X4_length ex9) rfl ?_
      cases hF
      exact am_iret dX8_rule_102 rfl rfl
    rcases am_ite hF with ⟨z10, hF⟩ | ⟨z10, hF⟩
    · refine am_tableIn (c := (1 : Int32)) (pc' := 103) dX8_rule_57 z10 (by decide) (by decide) rfl rfl ?_
      refine am_aload_n (pc' := 104) dX8_rule_103 rfl rfl ?_
      obtain ⟨x11, ex11, hF⟩ := am_bind hF
      refine am_getr (pc' := 107) dX8_rule_104 fw_X8_67 ex11 rfl ?_
      obtain ⟨x12, ex12, hF⟩ := am_bind hF
      obtain ⟨ox12, px12⟩ := t_X5_left ex12
      refine am_callV1 (Mc := M_X5_left) (As := []) (st := []) (pc' := 110) dX8_rule_107 cw_X8_227 wd_3_133 wd_3_134 ⟨_, rfl, rfl⟩ (by decide) (by decide) rfl rfl (Nat.le_of_ble_eq_true rfl) px12 (c_X5_left ex12) rfl ?_
      cases hF
      exact am_iret dX8_rule_110 rfl rfl
    rcases am_ite hF with ⟨z13, hF⟩ | ⟨z13, hF⟩
    · refine am_tableIn (c := (2 : Int32)) (pc' := 111) dX8_rule_57 z13 (by decide) (by decide) rfl rfl ?_
      refine am_aload_n (pc' := 112) dX8_rule_111 rfl rfl ?_
      obtain ⟨x14, ex14, hF⟩ := am_bind hF
      refine am_getr (pc' := 115) dX8_rule_112 fw_X8_67 ex14 rfl ?_
      obtain ⟨x15, ex15, hF⟩ := am_bind hF
      refine am_geti (pc' := 118) dX8_rule_115 fw_X8_230 ex15 rfl ?_
      cases hF
      exact am_iret dX8_rule_118 rfl rfl
    rcases am_ite hF with ⟨z16, hF⟩ | ⟨z16, hF⟩
    · refine am_tableIn (c := (3 : Int32)) (pc' := 119) dX8_rule_57 z16 (by decide) (by decide) rfl rfl ?_
      refine am_aload_n (pc' := 120) dX8_rule_119 rfl rfl ?_
      obtain ⟨x17, ex17, hF⟩ := am_bind hF
      refine am_getr (pc' := 123) dX8_rule_120 fw_X8_67 ex17 rfl ?_
      obtain ⟨x18, ex18, hF⟩ := am_bind hF
      refine am_getr (pc' := 126) dX8_rule_123 fw_X8_226 ex18 rfl ?_
      refine am_iload_n (pc' := 127) dX8_rule_126 rfl rfl ?_
      obtain ⟨x19, ex19, hF⟩ := am_bind hF
      obtain ⟨ox19, px19⟩ := t_X4_at ex19
      refine am_callV1 (Mc := M_X4_at) (As := [.int v3]) (st := []) (pc' := 130) dX8_rule_127 cw_X8_161 wd_2_40 wd_2_41 ⟨_, rfl, rfl⟩ (by decide) (by decide) rfl rfl (Nat.le_of_ble_eq_true rfl) px19 (c_X4_at ex19) rfl ?_
      cases hF
      exact am_iret dX8_rule_130 rfl rfl
    rcases am_ite hF with ⟨z20, hF⟩ | ⟨z20, hF⟩
    · refine am_tableIn (c := (4 : Int32)) (pc' := 131) dX8_rule_57 z20 (by decide) (by decide) rfl rfl ?_
      refine am_aload_n (pc' := 132) dX8_rule_131 rfl rfl ?_
      obtain ⟨x21, ex21, hF⟩ := am_bind hF
      refine am_getr (pc' := 135) dX8_rule_132 fw_X8_67 ex21 rfl ?_
      refine am_iload_n (pc' := 136) dX8_rule_135 rfl rfl ?_
      obtain ⟨x22, ex22, hF⟩ := am_bind hF
      obtain ⟨ox22, px22⟩ := t_X5_lengthOf ex22
      refine am_callV1 (Mc := M_X5_lengthOf) (As := [.int v3]) (st := []) (pc' := 139) dX8_rule_136 cw_X8_233 wd_3_137 wd_3_138 ⟨_, rfl, rfl⟩ (by decide) (by decide) rfl rfl (Nat.le_of_ble_eq_true rfl) px22 (c_X5_lengthOf ex22) rfl ?_
      cases hF
      exact am_iret dX8_rule_139 rfl rfl
    refine am_tableOut (pc' := 140) dX8_rule_57 (by have tz6 := lv_neT (a := 0) z6 rfl; have tz10 := lv_neT (a := 1) z10 rfl; have tz13 := lv_neT (a := 2) z13 rfl; have tz16 := lv_neT (a := 3) z16 rfl; have tz20 := lv_neT (a := 4) z20 rfl; omega) rfl ?_
    refine am_aload_n (pc' := 141) dX8_rule_140 rfl rfl ?_
    obtain ⟨x23, ex23, hF⟩ := am_bind hF
    refine am_getr (pc' := 144) dX8_rule_141 fw_X8_67 ex23 rfl ?_
    refine am_iload_n (pc' := 145) dX8_rule_144 rfl rfl ?_
    refine am_iload_n (pc' := 146) dX8_rule_145 rfl rfl ?_
    refine am_bipush (v := (10 : Int32)) (pc' := 148) dX8_rule_146 rfl rfl ?_
    refine am_isub (pc' := 149) dX8_rule_148 rfl ?_
    obtain ⟨x24, ex24, hF⟩ := am_bind hF
    obtain ⟨ox24, px24⟩ := t_X5_pieceOf ex24
    refine am_callV1 (Mc := M_X5_pieceOf) (As := [.int v3, .int (v2 - (10 : Int32))]) (st := []) (pc' := 152) dX8_rule_149 cw_X8_236 wd_3_162 wd_3_163 ⟨_, rfl, rfl⟩ (by decide) (by decide) rfl rfl (Nat.le_of_ble_eq_true rfl) px24 (c_X5_pieceOf ex24) rfl ?_
    cases hF
    exact am_iret dX8_rule_152 rfl rfl
  · refine am_if_eq_f (pc' := 41) (tgt := 44) dX8_rule_38 rfl z2 rfl ?_
    refine am_ldc (v := (-100005 : Int32)) (pc' := 43) dX8_rule_41 wd_2_153 rfl ?_
    cases hF
    exact am_iret dX8_rule_43 rfl rfl
def F_X8_rule_b (v0 : Nat) (v1 : Int32) (v2 : Int32) (v3 : Int32) (h : am_H) : Option (Int32 × am_H) :=
  (F_X8_blockOf v0 v1 h).bind fun x1 =>
  if x1 = 0 then
    some ((-100001 : Int32), h)
  else
    if v2 < 0 then
      F_X8_rule_30 h
    else
      if v2 ≤ (4 : Int32) then
        F_X8_rule_33 v0 v2 v3 x1 h
      else
        if (10 : Int32) ≤ v2 then
          F_X8_rule_33 v0 v2 v3 x1 h
        else
          F_X8_rule_30 h
theorem w_X8_rule {g : am_G} {l : Launch} {h0 : am_H} {x : Int32} {hf : am_H}  (v0 : Nat) (v1 : Int32) (v2 : Int32) (v3 : Int32) (h : am_H) (hF : F_X8_rule_b v0 v1 v2 v3 h = some (x, hf)) : am_W g l M_X8_rule h0 (some (.int x)) hf 0 [some (.ref v0), some (.int v1), some (.int v2), some (.int v3), none] [] h := by
  unfold F_X8_rule_b at hF
  refine am_aload_n (pc' := 1) dX8_rule_0 rfl rfl ?_
  refine am_iload_n (pc' := 2) dX8_rule_1 rfl rfl ?_
  obtain ⟨x1, ex1, hF⟩ := am_bind hF
  obtain ⟨ox1, px1⟩ := t_X8_blockOf ex1
  refine am_callV1 (Mc := M_X8_blockOf) (As := [.int v1]) (st := []) (pc' := 5) dX8_rule_2 cw_X8_176 wd_2_33 sl_X8_blockOf ⟨_, rfl, rfl⟩ (by decide) (by decide) rfl rfl (Nat.le_of_ble_eq_true rfl) px1 (c_X8_blockOf ex1) rfl ?_
  refine am_astore (ls' := [some (.ref v0), some (.int v1), some (.int v2), some (.int v3), some (.ref x1)]) (pc' := 7) dX8_rule_5 (Nat.le_of_ble_eq_true rfl) rfl rfl ?_
  refine am_aload (pc' := 9) dX8_rule_7 rfl rfl ?_
  rcases am_ite hF with ⟨z2, hF⟩ | ⟨z2, hF⟩
  · refine am_ifnonnull_f (pc' := 12) dX8_rule_9 z2 rfl ?_
    refine am_ldc (v := (-100001 : Int32)) (pc' := 14) dX8_rule_12 wd_2_137 rfl ?_
    cases hF
    exact am_iret dX8_rule_14 rfl rfl
  · refine am_ifnonnull_t (pc' := 15) dX8_rule_9 rfl z2 ?_
    refine am_iload_n (pc' := 16) dX8_rule_15 rfl rfl ?_
    rcases am_ite hF with ⟨z3, hF⟩ | ⟨z3, hF⟩
    · refine am_if_lt_t (pc' := 30) dX8_rule_16 rfl z3 ?_
      exact am_weak [false, false, false, false, false] (w_X8_rule_30 h hF)
    · refine am_if_lt_f (pc' := 19) (tgt := 30) dX8_rule_16 rfl z3 rfl ?_
      refine am_iload_n (pc' := 20) dX8_rule_19 rfl rfl ?_
      refine am_iconst (v := (4 : Int32)) (pc' := 21) dX8_rule_20 rfl rfl ?_
      rcases am_ite hF with ⟨z4, hF⟩ | ⟨z4, hF⟩
      · refine am_icmp_le_t (pc' := 33) dX8_rule_21 rfl z4 ?_
        exact am_weak [true, false, true, true, true] (w_X8_rule_33 v0 v2 v3 x1 h hF)
      · refine am_icmp_le_f (pc' := 24) (tgt := 33) dX8_rule_21 rfl z4 rfl ?_
        refine am_iload_n (pc' := 25) dX8_rule_24 rfl rfl ?_
        refine am_bipush (v := (10 : Int32)) (pc' := 27) dX8_rule_25 rfl rfl ?_
        rcases am_ite hF with ⟨z5, hF⟩ | ⟨z5, hF⟩
        · refine am_icmp_ge_t (pc' := 33) dX8_rule_27 rfl z5 ?_
          exact am_weak [true, false, true, true, true] (w_X8_rule_33 v0 v2 v3 x1 h hF)
        · refine am_icmp_ge_f (pc' := 30) (tgt := 33) dX8_rule_27 rfl z5 rfl ?_
          exact am_weak [false, false, false, false, false] (w_X8_rule_30 h hF)
def F_X8_rule (v0 : Nat) (v1 : Int32) (v2 : Int32) (v3 : Int32) (h : am_H) : Option (Int32 × am_H) := (am_obj v0 8 h).bind fun _ => F_X8_rule_b v0 v1 v2 v3 h
theorem t_X8_rule {x : Int32} {hf : am_H}  {v0 : Nat} {v1 : Int32} {v2 : Int32} {v3 : Int32} {h : am_H} (hF : F_X8_rule v0 v1 v2 v3 h = some (x, hf)) : ∃ fs, am_obj v0 8 h = some fs := by
  obtain ⟨fs, e, _⟩ := am_bind hF
  exact ⟨fs, e⟩
theorem c_X8_rule {g : am_G} {l : Launch} {x : Int32} {hf : am_H}  {v0 : Nat} {v1 : Int32} {v2 : Int32} {v3 : Int32} {h : am_H} (hF : F_X8_rule v0 v1 v2 v3 h = some (x, hf)) : am_Met g l M_X8_rule [.ref v0, .int v1, .int v2, .int v3] h (some (.int x)) hf := by
  obtain ⟨fs, e0, e⟩ := am_bind hF
  exact am_met (n := 1) (by decide +kernel) rfl (Nat.le_of_ble_eq_true rfl) (w_X8_rule v0 v1 v2 v3 h e)
def F_X9_rule_29 (h : am_H) : Option (Int32 × am_H) :=
  some ((-100002 : Int32), h)
theorem w_X9_rule_29 {g : am_G} {l : Launch} {h0 : am_H} {x : Int32} {hf : am_H}  (h : am_H) (hF : F_X9_rule_29 h = some (x, hf)) : am_W g l M_X9_rule h0 (some (.int x)) hf 29 [none, none, none, none] [] h := by
  unfold F_X9_rule_29 at hF
  refine am_ldc (v := (-100002 : Int32)) (pc' := 31) dX9_rule_29 wd_4_236 rfl ?_
  cases hF
  exact am_iret dX9_rule_31 rfl rfl
def F_X9_rule_81 (s0 : Int32) (h : am_H) : Option (Int32 × am_H) :=
  some (s0, h)
theorem w_X9_rule_81 {g : am_G} {l : Launch} {h0 : am_H} {x : Int32} {hf : am_H}  (s0 : Int32) (h : am_H) (hF : F_X9_rule_81 s0 h = some (x, hf)) : am_W g l M_X9_rule h0 (some (.int x)) hf 81 [none, none, none, none] [.int s0] h := by
  unfold F_X9_rule_81 at hF
  cases hF
  exact am_iret dX9_rule_81 rfl rfl
def F_X9_rule_113 (s0 : Int32) (h : am_H) : Option (Int32 × am_H) :=
  some (s0, h)
theorem w_X9_rule_113 {g : am_G} {l : Launch} {h0 : am_H} {x : Int32} {hf : am_H}  (s0 : Int32) (h : am_H) (hF : F_X9_rule_113 s0 h = some (x, hf)) : am_W g l M_X9_rule h0 (some (.int x)) hf 113 [none, none, none, none] [.int s0] h := by
  unfold F_X9_rule_113 at hF
  cases hF
  exact am_iret dX9_rule_113 rfl rfl
def F_X9_rule_177 (s0 : Int32) (h : am_H) : Option (Int32 × am_H) :=
  some (s0, h)
theorem w_X9_rule_177 {g : am_G} {l : Launch} {h0 : am_H} {x : Int32} {hf : am_H}  (s0 : Int32) (h : am_H) (hF : F_X9_rule_177 s0 h = some (x, hf)) : am_W g l M_X9_rule h0 (some (.int x)) hf 177 [none, none, none, none] [.int s0] h := by
  unfold F_X9_rule_177 at hF
  cases hF
  exact am_iret dX9_rule_177 rfl rfl
def F_X9_rule_b (v0 : Nat) (v1 : Int32) (v2 : Int32) (v3 : Int32) (h : am_H) : Option (Int32 × am_H) :=
  (F_X9_noBlock v0 v1 h).bind fun x1 =>
  if x1 = 0 then
    if v2 < 0 then
      F_X9_rule_29 h
    else
      (F_X9_in (Int32.toInt64 v2) (5 : Int64) (9 : Int64) h).bind fun x4 =>
      if x4 = 0 then
        (am_gr 9 5 v0 h).bind fun x6 =>
        (am_il 1 x6 v1 h).bind fun x7 =>
        if x7 = 0 then
          (F_X9_findRules v0 v1 h).bind fun h9 =>
          if (3 : Int32) ≤ v2 then
            if v2 = (3 : Int32) then
              (am_gi 9 24 v0 h9).bind fun x12 =>
              (F_X9_in (Int32.toInt64 v3) (0 : Int64) (Int32.toInt64 (x12 - (1 : Int32))) h9).bind fun x13 =>
              if x13 = 0 then
                F_X9_rule_113 (-1 : Int32) h9
              else
                (am_gr 9 23 v0 h9).bind fun x15 =>
                (am_il 0 x15 v3 h9).bind fun x16 =>
                F_X9_rule_113 x16 h9
            else
              (am_gi 9 25 v0 h9).bind fun x17 =>
              (F_X9_in (Int32.toInt64 v3) (0 : Int64) (Int32.toInt64 (x17 - (1 : Int32))) h9).bind fun x18 =>
              if x18 = 0 then
                some ((-1 : Int32), h9)
              else
                if v2 = (4 : Int32) then
                  (am_gr 9 26 v0 h9).bind fun x21 =>
                  (am_il 0 x21 v3 h9).bind fun x22 =>
                  F_X9_rule_177 x22 h9
                else
                  (am_gr 9 26 v0 h9).bind fun x23 =>
                  (am_il 0 x23 v3 h9).bind fun x24 =>
                  if x24 ≤ (v2 - (10 : Int32)) then
                    F_X9_rule_177 (-1 : Int32) h9
                  else
                    (am_gr 9 27 v0 h9).bind fun x26 =>
                    (am_il 0 x26 ((((24 : Int32) * v3) + v2) - (10 : Int32)) h9).bind fun x27 =>
                    F_X9_rule_177 x27 h9
          else
            if v2 = 0 then
              (am_gi 9 24 v0 h9).bind fun x29 =>
              F_X9_rule_81 x29 h9
            else
              if v2 = (1 : Int32) then
                (F_X9_rulesLeft v0 h9).bind fun x31 =>
                F_X9_rule_81 x31 h9
              else
                (am_gi 9 25 v0 h9).bind fun x32 =>
                F_X9_rule_81 x32 h9
        else
          some ((-100005 : Int32), h)
      else
        F_X9_rule_29 h
  else
    some ((-100001 : Int32), h)
theorem w_X9_rule {g : am_G} {l : Launch} {h0 : am_H} {x : Int32} {hf : am_H}  (v0 : Nat) (v1 : Int32) (v2 : Int32) (v3 : Int32) (h : am_H) (hF : F_X9_rule_b v0 v1 v2 v3 h = some (x, hf)) : am_W g l M_X9_rule h0 (some (.int x)) hf 0 [some (.ref v0), some (.int v1), some (.int v2), some (.int v3)] [] h := by
  unfold F_X9_rule_b at hF
  refine am_aload_n (pc' := 1) dX9_rule_0 rfl rfl ?_
  refine am_iload_n (pc' := 2) dX9_rule_1 rfl rfl ?_
  obtain ⟨x1, ex1, hF⟩ := am_bind hF
  obtain ⟨ox1, px1⟩ := t_X9_noBlock ex1
  refine am_callV1 (Mc := M_X9_noBlock) (As := [.int v1]) (st := []) (pc' := 5) dX9_rule_2 cw_X9_184 wd_5_98 sl_X9_noBlock ⟨_, rfl, rfl⟩ (by decide) (by decide) rfl rfl (Nat.le_of_ble_eq_true rfl) px1 (c_X9_noBlock ex1) rfl ?_
  rcases am_ite hF with ⟨z2, hF⟩ | ⟨z2, hF⟩
  · refine am_if_eq_t (pc' := 11) dX9_rule_5 rfl z2 ?_
    refine am_iload_n (pc' := 12) dX9_rule_11 rfl rfl ?_
    rcases am_ite hF with ⟨z3, hF⟩ | ⟨z3, hF⟩
    · refine am_if_lt_t (pc' := 29) dX9_rule_12 rfl z3 ?_
      exact am_weak [false, false, false, false] (w_X9_rule_29 h hF)
    · refine am_if_lt_f (pc' := 15) (tgt := 29) dX9_rule_12 rfl z3 rfl ?_
      refine am_iload_n (pc' := 16) dX9_rule_15 rfl rfl ?_
      refine am_i2l (pc' := 17) dX9_rule_16 rfl ?_
      refine am_ldc2 (v := (5 : Int64)) (pc' := 20) dX9_rule_17 wd_5_132 rfl ?_
      refine am_ldc2 (v := (9 : Int64)) (pc' := 23) dX9_rule_20 wd_5_133 rfl ?_
      obtain ⟨x4, ex4, hF⟩ := am_bind hF
      refine am_callS1 (Mc := M_X9_in) (As := [.long (Int32.toInt64 v2), .long (5 : Int64), .long (9 : Int64)]) (st := []) (pc' := 26) dX9_rule_23 cw_X9_96 wd_4_234 (by decide) (by decide) rfl rfl (Nat.le_of_ble_eq_true rfl) (c_X9_in ex4) rfl ?_
      rcases am_ite hF with ⟨z5, hF⟩ | ⟨z5, hF⟩
      · refine am_if_eq_t (pc' := 32) dX9_rule_26 rfl z5 ?_
        refine am_aload_n (pc' := 33) dX9_rule_32 rfl rfl ?_
        obtain ⟨x6, ex6, hF⟩ := am_bind hF
        refine am_getr (pc' := 36) dX9_rule_33 fw_X9_19 ex6 rfl ?_
        refine am_iload_n (pc' := 37) dX9_rule_36 rfl rfl ?_
        obtain ⟨x7, ex7, hF⟩ := am_bind hF
        refine am_bald (pc' := 38) dX9_rule_37 ex7 rfl ?_
        rcases am_ite hF with ⟨z8, hF⟩ | ⟨z8, hF⟩
        · refine am_if_eq_t (pc' := 44) dX9_rule_38 rfl z8 ?_
          refine am_aload_n (pc' := 45) dX9_rule_44 rfl rfl ?_
          refine am_iload_n (pc' := 46) dX9_rule_45 rfl rfl ?_
          obtain ⟨h9, eh9, hF⟩ := am_bind hF
          obtain ⟨oh9, ph9⟩ := t_X9_findRules eh9
          refine am_callV0 (Mc := M_X9_findRules) (As := [.int v1]) (st := []) (pc' := 49) dX9_rule_46 cw_X9_232 wd_5_136 sl_X9_findRules ⟨_, rfl, rfl⟩ (by decide) (by decide) rfl rfl (Nat.le_of_ble_eq_true rfl) ph9 (c_X9_findRules eh9) rfl ?_
          refine am_iload_n (pc' := 50) dX9_rule_49 rfl rfl ?_
          refine am_iconst (v := (3 : Int32)) (pc' := 51) dX9_rule_50 rfl rfl ?_
          rcases am_ite hF with ⟨z10, hF⟩ | ⟨z10, hF⟩
          · refine am_icmp_ge_t (pc' := 82) dX9_rule_51 rfl z10 ?_
            refine am_iload_n (pc' := 83) dX9_rule_82 rfl rfl ?_
            refine am_iconst (v := (3 : Int32)) (pc' := 84) dX9_rule_83 rfl rfl ?_
            rcases am_ite hF with ⟨z11, hF⟩ | ⟨z11, hF⟩
            · refine am_icmp_ne_f (pc' := 87) (tgt := 114) dX9_rule_84 rfl z11 rfl ?_
              refine am_iload_n (pc' := 88) dX9_rule_87 rfl rfl ?_
              refine am_i2l (pc' := 89) dX9_rule_88 rfl ?_
              refine am_lconst (v := (0 : Int64)) (pc' := 90) dX9_rule_89 rfl rfl ?_
              refine am_aload_n (pc' := 91) dX9_rule_90 rfl rfl ?_
              obtain ⟨x12, ex12, hF⟩ := am_bind hF
              refine am_geti (pc' := 94) dX9_rule_91 fw_X9_207 ex12 rfl ?_
              refine am_iconst (v := (1 : Int32)) (pc' := 95) dX9_rule_94 rfl rfl ?_
              refine am_isub (pc' := 96) dX9_rule_95 rfl ?_
              refine am_i2l (pc' := 97) dX9_rule_96 rfl ?_
              obtain ⟨x13, ex13, hF⟩ := am_bind hF
              refine am_callS1 (Mc := M_X9_in) (As := [.long (Int32.toInt64 v3), .long (0 : Int64), .long (Int32.toInt64 (x12 - (1 : Int32)))]) (st := []) (pc' := 100) dX9_rule_97 cw_X9_96 wd_4_234 (by decide) (by decide) rfl rfl (Nat.le_of_ble_eq_true rfl) (c_X9_in ex13) rfl ?_
              rcases am_ite hF with ⟨z14, hF⟩ | ⟨z14, hF⟩
              · refine am_if_eq_t (pc' := 112) dX9_rule_100 rfl z14 ?_
                refine am_iconst (v := (-1 : Int32)) (pc' := 113) dX9_rule_112 rfl rfl ?_
                exact am_weak [false, false, false, false] (w_X9_rule_113 (-1 : Int32) h9 hF)
              · refine am_if_eq_f (pc' := 103) (tgt := 112) dX9_rule_100 rfl z14 rfl ?_
                refine am_aload_n (pc' := 104) dX9_rule_103 rfl rfl ?_
                obtain ⟨x15, ex15, hF⟩ := am_bind hF
                refine am_getr (pc' := 107) dX9_rule_104 fw_X9_53 ex15 rfl ?_
                refine am_iload_n (pc' := 108) dX9_rule_107 rfl rfl ?_
                obtain ⟨x16, ex16, hF⟩ := am_bind hF
                refine am_iald (pc' := 109) dX9_rule_108 ex16 rfl ?_
                refine am_goto (pc' := 113) dX9_rule_109 rfl ?_
                exact am_weak [false, false, false, false] (w_X9_rule_113 x16 h9 hF)
            · refine am_icmp_ne_t (pc' := 114) dX9_rule_84 rfl z11 ?_
              refine am_iload_n (pc' := 115) dX9_rule_114 rfl rfl ?_
              refine am_i2l (pc' := 116) dX9_rule_115 rfl ?_
              refine am_lconst (v := (0 : Int64)) (pc' := 117) dX9_rule_116 rfl rfl ?_
              refine am_aload_n (pc' := 118) dX9_rule_117 rfl rfl ?_
              obtain ⟨x17, ex17, hF⟩ := am_bind hF
              refine am_geti (pc' := 121) dX9_rule_118 fw_X9_210 ex17 rfl ?_
              refine am_iconst (v := (1 : Int32)) (pc' := 122) dX9_rule_121 rfl rfl ?_
              refine am_isub (pc' := 123) dX9_rule_122 rfl ?_
              refine am_i2l (pc' := 124) dX9_rule_123 rfl ?_
              obtain ⟨x18, ex18, hF⟩ := am_bind hF
              refine am_callS1 (Mc := M_X9_in) (As := [.long (Int32.toInt64 v3), .long (0 : Int64), .long (Int32.toInt64 (x17 - (1 : Int32)))]) (st := []) (pc' := 127) dX9_rule_124 cw_X9_96 wd_4_234 (by decide) (by decide) rfl rfl (Nat.le_of_ble_eq_true rfl) (c_X9_in ex18) rfl ?_
              rcases am_ite hF with ⟨z19, hF⟩ | ⟨z19, hF⟩
              · refine am_if_ne_f (pc' := 130) (tgt := 132) dX9_rule_127 rfl z19 rfl ?_
                refine am_iconst (v := (-1 : Int32)) (pc' := 131) dX9_rule_130 rfl rfl ?_
                cases hF
                exact am_iret dX9_rule_131 rfl rfl
              · refine am_if_ne_t (pc' := 132) dX9_rule_127 rfl z19 ?_
                refine am_iload_n (pc' := 133) dX9_rule_132 rfl rfl ?_
                refine am_iconst (v := (4 : Int32)) (pc' := 134) dX9_rule_133 rfl rfl ?_
                rcases am_ite hF with ⟨z20, hF⟩ | ⟨z20, hF⟩
                · refine am_icmp_ne_f (pc' := 137) (tgt := 146) dX9_rule_134 rfl z20 rfl ?_
                  refine am_aload_n (pc' := 138) dX9_rule_137 rfl rfl ?_
                  obtain ⟨x21, ex21, hF⟩ := am_bind hF
                  refine am_getr (pc' := 141) dX9_rule_138 fw_X9_56 ex21 rfl ?_
                  refine am_iload_n (pc' := 142) dX9_rule_141 rfl rfl ?_
                  obtain ⟨x22, ex22, hF⟩ := am_bind hF
                  refine am_iald (pc' := 143) dX9_rule_142 ex22 rfl ?_
                  refine am_goto (pc' := 177) dX9_rule_143 rfl ?_
                  exact am_weak [false, false, false, false] (w_X9_rule_177 x22 h9 hF)
                · refine am_icmp_ne_t (pc' := 146) dX9_rule_134 rfl z20 ?_
                  refine am_iload_n (pc' := 147) dX9_rule_146 rfl rfl ?_
                  refine am_bipush (v := (10 : Int32)) (pc' := 149) dX9_rule_147 rfl rfl ?_
                  refine am_isub (pc' := 150) dX9_rule_149 rfl ?_
                  refine am_aload_n (pc' := 151) dX9_rule_150 rfl rfl ?_
                  obtain ⟨x23, ex23, hF⟩ := am_bind hF
                  refine am_getr (pc' := 154) dX9_rule_151 fw_X9_56 ex23 rfl ?_
                  refine am_iload_n (pc' := 155) dX9_rule_154 rfl rfl ?_
                  obtain ⟨x24, ex24, hF⟩ := am_bind hF
                  refine am_iald (pc' := 156) dX9_rule_155 ex24 rfl ?_
                  rcases am_ite hF with ⟨z25, hF⟩ | ⟨z25, hF⟩
                  · refine am_icmp_ge_t (pc' := 176) dX9_rule_156 rfl z25 ?_
                    refine am_iconst (v := (-1 : Int32)) (pc' := 177) dX9_rule_176 rfl rfl ?_
                    exact am_weak [false, false, false, false] (w_X9_rule_177 (-1 : Int32) h9 hF)
                  · refine am_icmp_ge_f (pc' := 159) (tgt := 176) dX9_rule_156 rfl z25 rfl ?_
                    refine am_aload_n (pc' := 160) dX9_rule_159 rfl rfl ?_
                    obtain ⟨x26, ex26, hF⟩ := am_bind hF
                    refine am_getr (pc' := 163) dX9_rule_160 fw_X9_59 ex26 rfl ?_
                    refine am_bipush (v := (24 : Int32)) (pc' := 165) dX9_rule_163 rfl rfl ?_
                    refine am_iload_n (pc' := 166) dX9_rule_165 rfl rfl ?_
                    refine am_imul (pc' := 167) dX9_rule_166 rfl ?_
                    refine am_iload_n (pc' := 168) dX9_rule_167 rfl rfl ?_
                    refine am_iadd (pc' := 169) dX9_rule_168 rfl ?_
                    refine am_bipush (v := (10 : Int32)) (pc' := 171) dX9_rule_169 rfl rfl ?_
                    refine am_isub (pc' := 172) dX9_rule_171 rfl ?_
                    obtain ⟨x27, ex27, hF⟩ := am_bind hF
                    refine am_iald (pc' := 173) dX9_rule_172 ex27 rfl ?_
                    refine am_goto (pc' := 177) dX9_rule_173 rfl ?_
                    exact am_weak [false, false, false, false] (w_X9_rule_177 x27 h9 hF)
          · refine am_icmp_ge_f (pc' := 54) (tgt := 82) dX9_rule_51 rfl z10 rfl ?_
            refine am_iload_n (pc' := 55) dX9_rule_54 rfl rfl ?_
            rcases am_ite hF with ⟨z28, hF⟩ | ⟨z28, hF⟩
            · refine am_if_ne_f (pc' := 58) (tgt := 65) dX9_rule_55 rfl z28 rfl ?_
              refine am_aload_n (pc' := 59) dX9_rule_58 rfl rfl ?_
              obtain ⟨x29, ex29, hF⟩ := am_bind hF
              refine am_geti (pc' := 62) dX9_rule_59 fw_X9_207 ex29 rfl ?_
              refine am_goto (pc' := 81) dX9_rule_62 rfl ?_
              exact am_weak [false, false, false, false] (w_X9_rule_81 x29 h9 hF)
            · refine am_if_ne_t (pc' := 65) dX9_rule_55 rfl z28 ?_
              refine am_iload_n (pc' := 66) dX9_rule_65 rfl rfl ?_
              refine am_iconst (v := (1 : Int32)) (pc' := 67) dX9_rule_66 rfl rfl ?_
              rcases am_ite hF with ⟨z30, hF⟩ | ⟨z30, hF⟩
              · refine am_icmp_ne_f (pc' := 70) (tgt := 77) dX9_rule_67 rfl z30 rfl ?_
                refine am_aload_n (pc' := 71) dX9_rule_70 rfl rfl ?_
                obtain ⟨x31, ex31, hF⟩ := am_bind hF
                obtain ⟨ox31, px31⟩ := t_X9_rulesLeft ex31
                refine am_callV1 (Mc := M_X9_rulesLeft) (As := []) (st := []) (pc' := 74) dX9_rule_71 cw_X9_235 wd_5_160 sl_X9_rulesLeft ⟨_, rfl, rfl⟩ (by decide) (by decide) rfl rfl (Nat.le_of_ble_eq_true rfl) px31 (c_X9_rulesLeft ex31) rfl ?_
                refine am_goto (pc' := 81) dX9_rule_74 rfl ?_
                exact am_weak [false, false, false, false] (w_X9_rule_81 x31 h9 hF)
              · refine am_icmp_ne_t (pc' := 77) dX9_rule_67 rfl z30 ?_
                refine am_aload_n (pc' := 78) dX9_rule_77 rfl rfl ?_
                obtain ⟨x32, ex32, hF⟩ := am_bind hF
                refine am_geti (pc' := 81) dX9_rule_78 fw_X9_210 ex32 rfl ?_
                exact am_weak [false, false, false, false] (w_X9_rule_81 x32 h9 hF)
        · refine am_if_eq_f (pc' := 41) (tgt := 44) dX9_rule_38 rfl z8 rfl ?_
          refine am_ldc (v := (-100005 : Int32)) (pc' := 43) dX9_rule_41 wd_5_55 rfl ?_
          cases hF
          exact am_iret dX9_rule_43 rfl rfl
      · refine am_if_eq_f (pc' := 29) (tgt := 32) dX9_rule_26 rfl z5 rfl ?_
        exact am_weak [false, false, false, false] (w_X9_rule_29 h hF)
  · refine am_if_eq_f (pc' := 8) (tgt := 11) dX9_rule_5 rfl z2 rfl ?_
    refine am_ldc (v := (-100001 : Int32)) (pc' := 10) dX9_rule_8 wd_5_47 rfl ?_
    cases hF
    exact am_iret dX9_rule_10 rfl rfl
def F_X9_rule (v0 : Nat) (v1 : Int32) (v2 : Int32) (v3 : Int32) (h : am_H) : Option (Int32 × am_H) := (am_obj v0 9 h).bind fun _ => F_X9_rule_b v0 v1 v2 v3 h
theorem t_X9_rule {x : Int32} {hf : am_H}  {v0 : Nat} {v1 : Int32} {v2 : Int32} {v3 : Int32} {h : am_H} (hF : F_X9_rule v0 v1 v2 v3 h = some (x, hf)) : ∃ fs, am_obj v0 9 h = some fs := by
  obtain ⟨fs, e, _⟩ := am_bind hF
  exact ⟨fs, e⟩
theorem c_X9_rule {g : am_G} {l : Launch} {x : Int32} {hf : am_H}  {v0 : Nat} {v1 : Int32} {v2 : Int32} {v3 : Int32} {h : am_H} (hF : F_X9_rule v0 v1 v2 v3 h = some (x, hf)) : am_Met g l M_X9_rule [.ref v0, .int v1, .int v2, .int v3] h (some (.int x)) hf := by
  obtain ⟨fs, e0, e⟩ := am_bind hF
  exact am_met (n := 0) (by decide +kernel) rfl (Nat.le_of_ble_eq_true rfl) (w_X9_rule v0 v1 v2 v3 h e)
def F_X8_bit_b (v0 : Nat) (v1 : Int32) (v2 : Int32) (h : am_H) : Option (Int32 × am_H) :=
  (F_X8_blockOf v0 v1 h).bind fun x1 =>
  if x1 = 0 then
    some ((-100001 : Int32), h)
  else
    (am_gi 0 3 x1 h).bind fun x3 =>
    if x3 = 0 then
      (am_gr 8 13 v0 h).bind fun x5 =>
      (am_gr 0 0 x1 h).bind fun x6 =>
      (F_X3_squeeze x5 x6 h).bind fun h7 =>
      (am_gr 8 13 v0 h7).bind fun x8 =>
      (am_gr 3 1 x8 h7).bind fun x9 =>
      (F_X4_at x9 v2 h7).bind fun x10 =>
      some (x10, h7)
    else
      some ((-100005 : Int32), h)
theorem w_X8_bit {g : am_G} {l : Launch} {h0 : am_H} {x : Int32} {hf : am_H}  (v0 : Nat) (v1 : Int32) (v2 : Int32) (h : am_H) (hF : F_X8_bit_b v0 v1 v2 h = some (x, hf)) : am_W g l M_X8_bit h0 (some (.int x)) hf 0 [some (.ref v0), some (.int v1), some (.int v2), none] [] h := by
  unfold F_X8_bit_b at hF
  refine am_aload_n (pc' := 1) dX8_bit_0 rfl rfl ?_
  refine am_iload_n (pc' := 2) dX8_bit_1 rfl rfl ?_
  obtain ⟨x1, ex1, hF⟩ := am_bind hF
  obtain ⟨ox1, px1⟩ := t_X8_blockOf ex1
  refine am_callV1 (Mc := M_X8_blockOf) (As := [.int v1]) (st := []) (pc' := 5) dX8_bit_2 cw_X8_176 wd_2_33 sl_X8_blockOf ⟨_, rfl, rfl⟩ (by decide) (by decide) rfl rfl (Nat.le_of_ble_eq_true rfl) px1 (c_X8_blockOf ex1) rfl ?_
  refine am_astore_n (ls' := [some (.ref v0), some (.int v1), some (.int v2), some (.ref x1)]) (pc' := 6) dX8_bit_5 (Nat.le_of_ble_eq_true rfl) rfl rfl ?_
  refine am_aload_n (pc' := 7) dX8_bit_6 rfl rfl ?_
  rcases am_ite hF with ⟨z2, hF⟩ | ⟨z2, hF⟩
  · refine am_ifnonnull_f (pc' := 10) dX8_bit_7 z2 rfl ?_
    refine am_ldc (v := (-100001 : Int32)) (pc' := 12) dX8_bit_10 wd_2_137 rfl ?_
    cases hF
    exact am_iret dX8_bit_12 rfl rfl
  · refine am_ifnonnull_t (pc' := 13) dX8_bit_7 rfl z2 ?_
    refine am_aload_n (pc' := 14) dX8_bit_13 rfl rfl ?_
    obtain ⟨x3, ex3, hF⟩ := am_bind hF
    refine am_geti (pc' := 17) dX8_bit_14 fw_X8_182 ex3 rfl ?_
    rcases am_ite hF with ⟨z4, hF⟩ | ⟨z4, hF⟩
    · refine am_if_eq_t (pc' := 23) dX8_bit_17 rfl z4 ?_
      refine am_aload_n (pc' := 24) dX8_bit_23 rfl rfl ?_
      obtain ⟨x5, ex5, hF⟩ := am_bind hF
      refine am_getr (pc' := 27) dX8_bit_24 fw_X8_74 ex5 rfl ?_
      refine am_aload_n (pc' := 28) dX8_bit_27 rfl rfl ?_
      obtain ⟨x6, ex6, hF⟩ := am_bind hF
      refine am_getr (pc' := 31) dX8_bit_28 fw_X8_180 ex6 rfl ?_
      obtain ⟨h7, eh7, hF⟩ := am_bind hF
      obtain ⟨oh7, ph7⟩ := t_X3_squeeze eh7
      refine am_callV0 (Mc := M_X3_squeeze) (As := [.ref x6]) (st := []) (pc' := 34) dX8_bit_31 cw_X8_239 wd_3_69 wd_3_70 ⟨_, rfl, rfl⟩ (by decide) (by decide) rfl rfl (Nat.le_of_ble_eq_true rfl) ph7 (c_X3_squeeze eh7) rfl ?_
      refine am_aload_n (pc' := 35) dX8_bit_34 rfl rfl ?_
      obtain ⟨x8, ex8, hF⟩ := am_bind hF
      refine am_getr (pc' := 38) dX8_bit_35 fw_X8_74 ex8 rfl ?_
      obtain ⟨x9, ex9, hF⟩ := am_bind hF
      refine am_getr (pc' := 41) dX8_bit_38 fw_X8_240 ex9 rfl ?_
      refine am_iload_n (pc' := 42) dX8_bit_41 rfl rfl ?_
      obtain ⟨x10, ex10, hF⟩ := am_bind hF
      obtain ⟨ox10, px10⟩ := t_X4_at ex10
      refine am_callV1 (Mc := M_X4_at) (As := [.int v2]) (st := []) (pc' := 45) dX8_bit_42 cw_X8_161 wd_2_40 wd_2_41 ⟨_, rfl, rfl⟩ (by decide) (by decide) rfl rfl (Nat.le_of_ble_eq_true rfl) px10 (c_X4_at ex10) rfl ?_
      cases hF
      exact am_iret dX8_bit_45 rfl rfl
    · refine am_if_eq_f (pc' := 20) (tgt := 23) dX8_bit_17 rfl z4 rfl ?_
      refine am_ldc (v := (-100005 : Int32)) (pc' := 22) dX8_bit_20 wd_2_153 rfl ?_
      cases hF
      exact am_iret dX8_bit_22 rfl rfl
def F_X8_bit (v0 : Nat) (v1 : Int32) (v2 : Int32) (h : am_H) : Option (Int32 × am_H) := (am_obj v0 8 h).bind fun _ => F_X8_bit_b v0 v1 v2 h
theorem t_X8_bit {x : Int32} {hf : am_H}  {v0 : Nat} {v1 : Int32} {v2 : Int32} {h : am_H} (hF : F_X8_bit v0 v1 v2 h = some (x, hf)) : ∃ fs, am_obj v0 8 h = some fs := by
  obtain ⟨fs, e, _⟩ := am_bind hF
  exact ⟨fs, e⟩
theorem c_X8_bit {g : am_G} {l : Launch} {x : Int32} {hf : am_H}  {v0 : Nat} {v1 : Int32} {v2 : Int32} {h : am_H} (hF : F_X8_bit v0 v1 v2 h = some (x, hf)) : am_Met g l M_X8_bit [.ref v0, .int v1, .int v2] h (some (.int x)) hf := by
  obtain ⟨fs, e0, e⟩ := am_bind hF
  exact am_met (n := 1) (by decide +kernel) rfl (Nat.le_of_ble_eq_true rfl) (w_X8_bit v0 v1 v2 h e)
def F_X9_bit_54 (s0 : Int32) (h : am_H) : Option (Int32 × am_H) :=
  some (s0, h)
theorem w_X9_bit_54 {g : am_G} {l : Launch} {h0 : am_H} {x : Int32} {hf : am_H}  (s0 : Int32) (h : am_H) (hF : F_X9_bit_54 s0 h = some (x, hf)) : am_W g l M_X9_bit h0 (some (.int x)) hf 54 [none, none, none] [.int s0] h := by
  unfold F_X9_bit_54 at hF
  cases hF
  exact am_iret dX9_bit_54 rfl rfl
def F_X9_bit_b (v0 : Nat) (v1 : Int32) (v2 : Int32) (h : am_H) : Option (Int32 × am_H) :=
  (F_X9_noBlock v0 v1 h).bind fun x1 =>
  if x1 = 0 then
    (am_gr 9 5 v0 h).bind fun x3 =>
    (am_il 1 x3 v1 h).bind fun x4 =>
    if x4 = 0 then
      (F_X9_code v0 v1 h).bind fun h6 =>
      (am_gi 9 29 v0 h6).bind fun x7 =>
      (F_X9_in (Int32.toInt64 v2) (0 : Int64) (Int32.toInt64 (x7 - (1 : Int32))) h6).bind fun x8 =>
      if x8 = 0 then
        F_X9_bit_54 (-1 : Int32) h6
      else
        (am_gr 9 28 v0 h6).bind fun x10 =>
        (am_il 0 x10 v2 h6).bind fun x11 =>
        F_X9_bit_54 x11 h6
    else
      some ((-100005 : Int32), h)
  else
    some ((-100001 : Int32), h)
theorem w_X9_bit {g : am_G} {l : Launch} {h0 : am_H} {x : Int32} {hf : am_H}  (v0 : Nat) (v1 : Int32) (v2 : Int32) (h : am_H) (hF : F_X9_bit_b v0 v1 v2 h = some (x, hf)) : am_W g l M_X9_bit h0 (some (.int x)) hf 0 [some (.ref v0), some (.int v1), some (.int v2)] [] h := by
  unfold F_X9_bit_b at hF
  refine am_aload_n (pc' := 1) dX9_bit_0 rfl rfl ?_
  refine am_iload_n (pc' := 2) dX9_bit_1 rfl rfl ?_
  obtain ⟨x1, ex1, hF⟩ := am_bind hF
  obtain ⟨ox1, px1⟩ := t_X9_noBlock ex1
  refine am_callV1 (Mc := M_X9_noBlock) (As := [.int v1]) (st := []) (pc' := 5) dX9_bit_2 cw_X9_184 wd_5_98 sl_X9_noBlock ⟨_, rfl, rfl⟩ (by decide) (by decide) rfl rfl (Nat.le_of_ble_eq_true rfl) px1 (c_X9_noBlock ex1) rfl ?_
  rcases am_ite hF with ⟨z2, hF⟩ | ⟨z2, hF⟩
  · refine am_if_eq_t (pc' := 11) dX9_bit_5 rfl z2 ?_
    refine am_aload_n (pc' := 12) dX9_bit_11 rfl rfl ?_
    obtain ⟨x3, ex3, hF⟩ := am_bind hF
    refine am_getr (pc' := 15) dX9_bit_12 fw_X9_19 ex3 rfl ?_
    refine am_iload_n (pc' := 16) dX9_bit_15 rfl rfl ?_
    obtain ⟨x4, ex4, hF⟩ := am_bind hF
    refine am_bald (pc' := 17) dX9_bit_16 ex4 rfl ?_
    rcases am_ite hF with ⟨z5, hF⟩ | ⟨z5, hF⟩
    · refine am_if_eq_t (pc' := 23) dX9_bit_17 rfl z5 ?_
      refine am_aload_n (pc' := 24) dX9_bit_23 rfl rfl ?_
      refine am_iload_n (pc' := 25) dX9_bit_24 rfl rfl ?_
      obtain ⟨h6, eh6, hF⟩ := am_bind hF
      obtain ⟨oh6, ph6⟩ := t_X9_code eh6
      refine am_callV0 (Mc := M_X9_code) (As := [.int v1]) (st := []) (pc' := 28) dX9_bit_25 cw_X9_251 wd_5_168 sl_X9_code ⟨_, rfl, rfl⟩ (by decide) (by decide) rfl rfl (Nat.le_of_ble_eq_true rfl) ph6 (c_X9_code eh6) rfl ?_
      refine am_iload_n (pc' := 29) dX9_bit_28 rfl rfl ?_
      refine am_i2l (pc' := 30) dX9_bit_29 rfl ?_
      refine am_lconst (v := (0 : Int64)) (pc' := 31) dX9_bit_30 rfl rfl ?_
      refine am_aload_n (pc' := 32) dX9_bit_31 rfl rfl ?_
      obtain ⟨x7, ex7, hF⟩ := am_bind hF
      refine am_geti (pc' := 35) dX9_bit_32 fw_X9_239 ex7 rfl ?_
      refine am_iconst (v := (1 : Int32)) (pc' := 36) dX9_bit_35 rfl rfl ?_
      refine am_isub (pc' := 37) dX9_bit_36 rfl ?_
      refine am_i2l (pc' := 38) dX9_bit_37 rfl ?_
      obtain ⟨x8, ex8, hF⟩ := am_bind hF
      refine am_callS1 (Mc := M_X9_in) (As := [.long (Int32.toInt64 v2), .long (0 : Int64), .long (Int32.toInt64 (x7 - (1 : Int32)))]) (st := []) (pc' := 41) dX9_bit_38 cw_X9_96 wd_4_234 (by decide) (by decide) rfl rfl (Nat.le_of_ble_eq_true rfl) (c_X9_in ex8) rfl ?_
      rcases am_ite hF with ⟨z9, hF⟩ | ⟨z9, hF⟩
      · refine am_if_eq_t (pc' := 53) dX9_bit_41 rfl z9 ?_
        refine am_iconst (v := (-1 : Int32)) (pc' := 54) dX9_bit_53 rfl rfl ?_
        exact am_weak [false, false, false] (w_X9_bit_54 (-1 : Int32) h6 hF)
      · refine am_if_eq_f (pc' := 44) (tgt := 53) dX9_bit_41 rfl z9 rfl ?_
        refine am_aload_n (pc' := 45) dX9_bit_44 rfl rfl ?_
        obtain ⟨x10, ex10, hF⟩ := am_bind hF
        refine am_getr (pc' := 48) dX9_bit_45 fw_X9_62 ex10 rfl ?_
        refine am_iload_n (pc' := 49) dX9_bit_48 rfl rfl ?_
        obtain ⟨x11, ex11, hF⟩ := am_bind hF
        refine am_iald (pc' := 50) dX9_bit_49 ex11 rfl ?_
        refine am_goto (pc' := 54) dX9_bit_50 rfl ?_
        exact am_weak [false, false, false] (w_X9_bit_54 x11 h6 hF)
    · refine am_if_eq_f (pc' := 20) (tgt := 23) dX9_bit_17 rfl z5 rfl ?_
      refine am_ldc (v := (-100005 : Int32)) (pc' := 22) dX9_bit_20 wd_5_55 rfl ?_
      cases hF
      exact am_iret dX9_bit_22 rfl rfl
  · refine am_if_eq_f (pc' := 8) (tgt := 11) dX9_bit_5 rfl z2 rfl ?_
    refine am_ldc (v := (-100001 : Int32)) (pc' := 10) dX9_bit_8 wd_5_47 rfl ?_
    cases hF
    exact am_iret dX9_bit_10 rfl rfl
def F_X9_bit (v0 : Nat) (v1 : Int32) (v2 : Int32) (h : am_H) : Option (Int32 × am_H) := (am_obj v0 9 h).bind fun _ => F_X9_bit_b v0 v1 v2 h
theorem t_X9_bit {x : Int32} {hf : am_H}  {v0 : Nat} {v1 : Int32} {v2 : Int32} {h : am_H} (hF : F_X9_bit v0 v1 v2 h = some (x, hf)) : ∃ fs, am_obj v0 9 h = some fs := by
  obtain ⟨fs, e, _⟩ := am_bind hF
  exact ⟨fs, e⟩
theorem c_X9_bit {g : am_G} {l : Launch} {x : Int32} {hf : am_H}  {v0 : Nat} {v1 : Int32} {v2 : Int32} {h : am_H} (hF : F_X9_bit v0 v1 v2 h = some (x, hf)) : am_Met g l M_X9_bit [.ref v0, .int v1, .int v2] h (some (.int x)) hf := by
  obtain ⟨fs, e0, e⟩ := am_bind hF
  exact am_met (n := 0) (by decide +kernel) rfl (Nat.le_of_ble_eq_true rfl) (w_X9_bit v0 v1 v2 h e)
theorem fw_X8_244 : am_fw "SignCellar" 244 6 4 := ⟨(RX6, TX6, 5), rfl, by decide, inX6, Or.inr ⟨_, wd_1_137⟩⟩
theorem fw_X8_247 : am_fw "SignCellar" 247 6 2 := ⟨(RX6, TX6, 5), rfl, by decide, inX6, Or.inr ⟨_, wd_1_133⟩⟩
theorem fw_X8_250 : am_fw "SignCellar" 250 6 3 := ⟨(RX6, TX6, 5), rfl, by decide, inX6, Or.inr ⟨_, wd_1_135⟩⟩
def F_X8_turned_24 (h : am_H) : Option (Int32 × am_H) :=
  some ((-100002 : Int32), h)
theorem w_X8_turned_24 {g : am_G} {l : Launch} {h0 : am_H} {x : Int32} {hf : am_H}  (h : am_H) (hF : F_X8_turned_24 h = some (x, hf)) : am_W g l M_X8_turned h0 (some (.int x)) hf 24 [none, none, none, none, none] [] h := by
  unfold F_X8_turned_24 at hF
  refine am_ldc (v := (-100002 : Int32)) (pc' := 26) dX8_turned_24 wd_1_233 rfl ?_
  cases hF
  exact am_iret dX8_turned_26 rfl rfl
def F_X8_turned_b (v0 : Nat) (v1 : Int32) (v2 : Int32) (v3 : Int32) (h : am_H) : Option (Int32 × am_H) :=
  (F_X8_blockOf v0 v1 h).bind fun x1 =>
  if x1 = 0 then
    some ((-100001 : Int32), h)
  else
    if v2 < 0 then
      F_X8_turned_24 h
    else
      if v2 ≤ (2 : Int32) then
        (am_gi 0 3 x1 h).bind fun x5 =>
        if x5 = 0 then
          (am_gr 8 14 v0 h).bind fun x7 =>
          (am_gr 0 0 x1 h).bind fun x8 =>
          (F_X6_squeeze x7 x8 h).bind fun h9 =>
          if v2 = (0 : Int32) then
            (am_gr 8 14 v0 h9).bind fun x11 =>
            (am_gi 6 4 x11 h9).bind fun x12 =>
            some (x12, h9)
          else
          if v2 = (1 : Int32) then
            (am_gr 8 14 v0 h9).bind fun x14 =>
            (am_gr 6 2 x14 h9).bind fun x15 =>
            (F_X4_at x15 v3 h9).bind fun x16 =>
            some (x16, h9)
          else
          (am_gr 8 14 v0 h9).bind fun x17 =>
          (am_gr 6 3 x17 h9).bind fun x18 =>
          (F_X4_at x18 v3 h9).bind fun x19 =>
          some (x19, h9)
        else
          some ((-100005 : Int32), h)
      else
        F_X8_turned_24 h
theorem w_X8_turned {g : am_G} {l : Launch} {h0 : am_H} {x : Int32} {hf : am_H}  (v0 : Nat) (v1 : Int32) (v2 : Int32) (v3 : Int32) (h : am_H) (hF : F_X8_turned_b v0 v1 v2 v3 h = some (x, hf)) : am_W g l M_X8_turned h0 (some (.int x)) hf 0 [some (.ref v0), some (.int v1), some (.int v2), some (.int v3), none] [] h := by
  unfold F_X8_turned_b at hF
  refine am_aload_n (pc' := 1) dX8_turned_0 rfl rfl ?_
  refine am_iload_n (pc' := 2) dX8_turned_1 rfl rfl ?_
  obtain ⟨x1, ex1, hF⟩ := am_bind hF
  obtain ⟨ox1, px1⟩ := t_X8_blockOf ex1
  refine am_callV1 (Mc := M_X8_blockOf) (As := [.int v1]) (st := []) (pc' := 5) dX8_turned_2 cw_X8_176 wd_2_33 sl_X8_blockOf ⟨_, rfl, rfl⟩ (by decide) (by decide) rfl rfl (Nat.le_of_ble_eq_true rfl) px1 (c_X8_blockOf ex1) rfl ?_
  refine am_astore (ls' := [some (.ref v0), some (.int v1), some (.int v2), some (.int v3), some (.ref x1)]) (pc' := 7) dX8_turned_5 (Nat.le_of_ble_eq_true rfl) rfl rfl ?_
  refine am_aload (pc' := 9) dX8_turned_7 rfl rfl ?_
  rcases am_ite hF with ⟨z2, hF⟩ | ⟨z2, hF⟩
  · refine am_ifnonnull_f (pc' := 12) dX8_turned_9 z2 rfl ?_
    refine am_ldc (v := (-100001 : Int32)) (pc' := 14) dX8_turned_12 wd_2_137 rfl ?_
    cases hF
    exact am_iret dX8_turned_14 rfl rfl
  · refine am_ifnonnull_t (pc' := 15) dX8_turned_9 rfl z2 ?_
    refine am_iload_n (pc' := 16) dX8_turned_15 rfl rfl ?_
    rcases am_ite hF with ⟨z3, hF⟩ | ⟨z3, hF⟩
    · refine am_if_lt_t (pc' := 24) dX8_turned_16 rfl z3 ?_
      exact am_weak [false, false, false, false, false] (w_X8_turned_24 h hF)
    · refine am_if_lt_f (pc' := 19) (tgt := 24) dX8_turned_16 rfl z3 rfl ?_
      refine am_iload_n (pc' := 20) dX8_turned_19 rfl rfl ?_
      refine am_iconst (v := (2 : Int32)) (pc' := 21) dX8_turned_20 rfl rfl ?_
      rcases am_ite hF with ⟨z4, hF⟩ | ⟨z4, hF⟩
      · refine am_icmp_le_t (pc' := 27) dX8_turned_21 rfl z4 ?_
        refine am_aload (pc' := 29) dX8_turned_27 rfl rfl ?_
        obtain ⟨x5, ex5, hF⟩ := am_bind hF
        refine am_geti (pc' := 32) dX8_turned_29 fw_X8_182 ex5 rfl ?_
        rcases am_ite hF with ⟨z6, hF⟩ | ⟨z6, hF⟩
        · refine am_if_eq_t (pc' := 38) dX8_turned_32 rfl z6 ?_
          refine am_aload_n (pc' := 39) dX8_turned_38 rfl rfl ?_
          obtain ⟨x7, ex7, hF⟩ := am_bind hF
          refine am_getr (pc' := 42) dX8_turned_39 fw_X8_81 ex7 rfl ?_
          refine am_aload (pc' := 44) dX8_turned_42 rfl rfl ?_
          obtain ⟨x8, ex8, hF⟩ := am_bind hF
          refine am_getr (pc' := 47) dX8_turned_44 fw_X8_180 ex8 rfl ?_
          obtain ⟨h9, eh9, hF⟩ := am_bind hF
          obtain ⟨oh9, ph9⟩ := t_X6_squeeze eh9
          refine am_callV0 (Mc := M_X6_squeeze) (As := [.ref x8]) (st := []) (pc' := 50) dX8_turned_47 cw_X8_243 wd_3_96 wd_3_97 ⟨_, rfl, rfl⟩ (by decide) (by decide) rfl rfl (Nat.le_of_ble_eq_true rfl) ph9 (c_X6_squeeze eh9) rfl ?_
          refine am_iload_n (pc' := 51) dX8_turned_50 rfl rfl ?_
          rcases am_ite hF with ⟨z10, hF⟩ | ⟨z10, hF⟩
          · refine am_lookup (off := 25) (pc' := 76) dX8_turned_51 rfl (by rw [z10] <;> rfl) rfl ?_
            refine am_aload_n (pc' := 77) dX8_turned_76 rfl rfl ?_
            obtain ⟨x11, ex11, hF⟩ := am_bind hF
            refine am_getr (pc' := 80) dX8_turned_77 fw_X8_81 ex11 rfl ?_
            obtain ⟨x12, ex12, hF⟩ := am_bind hF
            refine am_geti (pc' := 83) dX8_turned_80 fw_X8_244 ex12 rfl ?_
            cases hF
            exact am_iret dX8_turned_83 rfl rfl
          rcases am_ite hF with ⟨z13, hF⟩ | ⟨z13, hF⟩
          · refine am_lookup (off := 33) (pc' := 84) dX8_turned_51 rfl (by rw [z13] <;> rfl) rfl ?_
            refine am_aload_n (pc' := 85) dX8_turned_84 rfl rfl ?_
            obtain ⟨x14, ex14, hF⟩ := am_bind hF
            refine am_getr (pc' := 88) dX8_turned_85 fw_X8_81 ex14 rfl ?_
            obtain ⟨x15, ex15, hF⟩ := am_bind hF
            refine am_getr (pc' := 91) dX8_turned_88 fw_X8_247 ex15 rfl ?_
            refine am_iload_n (pc' := 92) dX8_turned_91 rfl rfl ?_
            obtain ⟨x16, ex16, hF⟩ := am_bind hF
            obtain ⟨ox16, px16⟩ := t_X4_at ex16
            refine am_callV1 (Mc := M_X4_at) (As := [.int v3]) (st := []) (pc' := 95) dX8_turned_92 cw_X8_161 wd_2_40 wd_2_41 ⟨_, rfl, rfl⟩ (by decide) (by decide) rfl rfl (Nat.le_of_ble_eq_true rfl) px16 (c_X4_at ex16) rfl ?_
            cases hF
            exact am_iret dX8_turned_95 rfl rfl
          refine am_lookup (off := 45) (pc' := 96) dX8_turned_51 rfl (by show Op.lookupswitch.offset [(0, 25), (1, 33)] _ _ = _; rw [lv_osw (a := 0) z10 rfl, lv_osw (a := 1) z13 rfl] <;> rfl) rfl ?_
          refine am_aload_n (pc' := 97) dX8_turned_96 rfl rfl ?_
          obtain ⟨x17, ex17, hF⟩ := am_bind hF
          refine am_getr (pc' := 100) dX8_turned_97 fw_X8_81 ex17 rfl ?_
          obtain ⟨x18, ex18, hF⟩ := am_bind hF
          refine am_getr (pc' := 103) dX8_turned_100 fw_X8_250 ex18 rfl ?_
          refine am_iload_n (pc' := 104) dX8_turned_103 rfl rfl ?_
          obtain ⟨x19, ex19, hF⟩ := am_bind hF
          obtain ⟨ox19, px19⟩ := t_X4_at ex19
          refine am_callV1 (Mc := M_X4_at) (As := [.int v3]) (st := []) (pc' := 107) dX8_turned_104 cw_X8_161 wd_2_40 wd_2_41 ⟨_, rfl, rfl⟩ (by decide) (by decide) rfl rfl (Nat.le_of_ble_eq_true rfl) px19 (c_X4_at ex19) rfl ?_
          cases hF
          exact am_iret dX8_turned_107 rfl rfl
        · refine am_if_eq_f (pc' := 35) (tgt := 38) dX8_turned_32 rfl z6 rfl ?_
          refine am_ldc (v := (-100005 : Int32)) (pc' := 37) dX8_turned_35 wd_2_153 rfl ?_
          cases hF
          exact am_iret dX8_turned_37 rfl rfl
      · refine am_icmp_le_f (pc' := 24) (tgt := 27) dX8_turned_21 rfl z4 rfl ?_
        exact am_weak [false, false, false, false, false] (w_X8_turned_24 h hF)
def F_X8_turned (v0 : Nat) (v1 : Int32) (v2 : Int32) (v3 : Int32) (h : am_H) : Option (Int32 × am_H) := (am_obj v0 8 h).bind fun _ => F_X8_turned_b v0 v1 v2 v3 h
theorem t_X8_turned {x : Int32} {hf : am_H}  {v0 : Nat} {v1 : Int32} {v2 : Int32} {v3 : Int32} {h : am_H} (hF : F_X8_turned v0 v1 v2 v3 h = some (x, hf)) : ∃ fs, am_obj v0 8 h = some fs := by
  obtain ⟨fs, e, _⟩ := am_bind hF
  exact ⟨fs, e⟩
theorem c_X8_turned {g : am_G} {l : Launch} {x : Int32} {hf : am_H}  {v0 : Nat} {v1 : Int32} {v2 : Int32} {v3 : Int32} {h : am_H} (hF : F_X8_turned v0 v1 v2 v3 h = some (x, hf)) : am_Met g l M_X8_turned [.ref v0, .int v1, .int v2, .int v3] h (some (.int x)) hf := by
  obtain ⟨fs, e0, e⟩ := am_bind hF
  exact am_met (n := 1) (by decide +kernel) rfl (Nat.le_of_ble_eq_true rfl) (w_X8_turned v0 v1 v2 v3 h e)
theorem fw_X9_261 : am_fw "SignCellarModel" 261 9 35 := ⟨(RX9, TX9, 42), rfl, by decide, inX9, Or.inl wd_4_135⟩
def F_X9_turned_96 (s0 : Int32) (h : am_H) : Option (Int32 × am_H) :=
  some (s0, h)
theorem w_X9_turned_96 {g : am_G} {l : Launch} {h0 : am_H} {x : Int32} {hf : am_H}  (s0 : Int32) (h : am_H) (hF : F_X9_turned_96 s0 h = some (x, hf)) : am_W g l M_X9_turned h0 (some (.int x)) hf 96 [none, none, none, none] [.int s0] h := by
  unfold F_X9_turned_96 at hF
  cases hF
  exact am_iret dX9_turned_96 rfl rfl
def F_X9_turned_b (v0 : Nat) (v1 : Int32) (v2 : Int32) (v3 : Int32) (h : am_H) : Option (Int32 × am_H) :=
  (F_X9_noBlock v0 v1 h).bind fun x1 =>
  if x1 = 0 then
    (F_X9_in (Int32.toInt64 v2) (0 : Int64) (2 : Int64) h).bind fun x3 =>
    if x3 = 0 then
      some ((-100002 : Int32), h)
    else
      (am_gr 9 5 v0 h).bind fun x5 =>
      (am_il 1 x5 v1 h).bind fun x6 =>
      if x6 = 0 then
        (F_X9_findTurns v0 v1 h).bind fun h8 =>
        if v2 = 0 then
          (am_gi 9 35 v0 h8).bind fun x10 =>
          F_X9_turned_96 x10 h8
        else
          (am_gr 9 3 v0 h8).bind fun x11 =>
          (am_il 0 x11 v1 h8).bind fun x12 =>
          (F_X9_in (Int32.toInt64 v3) (0 : Int64) (Int32.toInt64 (x12 - (1 : Int32))) h8).bind fun x13 =>
          if x13 = 0 then
            F_X9_turned_96 (-1 : Int32) h8
          else
            if v2 = (1 : Int32) then
              (am_gr 9 32 v0 h8).bind fun x16 =>
              (am_il 0 x16 v3 h8).bind fun x17 =>
              F_X9_turned_96 x17 h8
            else
              (am_gr 9 33 v0 h8).bind fun x18 =>
              (am_il 0 x18 v3 h8).bind fun x19 =>
              F_X9_turned_96 x19 h8
      else
        some ((-100005 : Int32), h)
  else
    some ((-100001 : Int32), h)
theorem w_X9_turned {g : am_G} {l : Launch} {h0 : am_H} {x : Int32} {hf : am_H}  (v0 : Nat) (v1 : Int32) (v2 : Int32) (v3 : Int32) (h : am_H) (hF : F_X9_turned_b v0 v1 v2 v3 h = some (x, hf)) : am_W g l M_X9_turned h0 (some (.int x)) hf 0 [some (.ref v0), some (.int v1), some (.int v2), some (.int v3)] [] h := by
  unfold F_X9_turned_b at hF
  refine am_aload_n (pc' := 1) dX9_turned_0 rfl rfl ?_
  refine am_iload_n (pc' := 2) dX9_turned_1 rfl rfl ?_
  obtain ⟨x1, ex1, hF⟩ := am_bind hF
  obtain ⟨ox1, px1⟩ := t_X9_noBlock ex1
  refine am_callV1 (Mc := M_X9_noBlock) (As := [.int v1]) (st := []) (pc' := 5) dX9_turned_2 cw_X9_184 wd_5_98 sl_X9_noBlock ⟨_, rfl, rfl⟩ (by decide) (by decide) rfl rfl (Nat.le_of_ble_eq_true rfl) px1 (c_X9_noBlock ex1) rfl ?_
  rcases am_ite hF with ⟨z2, hF⟩ | ⟨z2, hF⟩
  · refine am_if_eq_t (pc' := 11) dX9_turned_5 rfl z2 ?_
    refine am_iload_n (pc' := 12) dX9_turned_11 rfl rfl ?_
    refine am_i2l (pc' := 13) dX9_turned_12 rfl ?_
    refine am_lconst (v := (0 : Int64)) (pc' := 14) dX9_turned_13 rfl rfl ?_
    refine am_ldc2 (v := (2 : Int64)) (pc' := 17) dX9_turned_14 wd_5_181 rfl ?_
    obtain ⟨x3, ex3, hF⟩ := am_bind hF
    refine am_callS1 (Mc := M_X9_in) (As := [.long (Int32.toInt64 v2), .long (0 : Int64), .long (2 : Int64)]) (st := []) (pc' := 20) dX9_turned_17 cw_X9_96 wd_4_234 (by decide) (by decide) rfl rfl (Nat.le_of_ble_eq_true rfl) (c_X9_in ex3) rfl ?_
    rcases am_ite hF with ⟨z4, hF⟩ | ⟨z4, hF⟩
    · refine am_if_ne_f (pc' := 23) (tgt := 26) dX9_turned_20 rfl z4 rfl ?_
      refine am_ldc (v := (-100002 : Int32)) (pc' := 25) dX9_turned_23 wd_4_236 rfl ?_
      cases hF
      exact am_iret dX9_turned_25 rfl rfl
    · refine am_if_ne_t (pc' := 26) dX9_turned_20 rfl z4 ?_
      refine am_aload_n (pc' := 27) dX9_turned_26 rfl rfl ?_
      obtain ⟨x5, ex5, hF⟩ := am_bind hF
      refine am_getr (pc' := 30) dX9_turned_27 fw_X9_19 ex5 rfl ?_
      refine am_iload_n (pc' := 31) dX9_turned_30 rfl rfl ?_
      obtain ⟨x6, ex6, hF⟩ := am_bind hF
      refine am_bald (pc' := 32) dX9_turned_31 ex6 rfl ?_
      rcases am_ite hF with ⟨z7, hF⟩ | ⟨z7, hF⟩
      · refine am_if_eq_t (pc' := 38) dX9_turned_32 rfl z7 ?_
        refine am_aload_n (pc' := 39) dX9_turned_38 rfl rfl ?_
        refine am_iload_n (pc' := 40) dX9_turned_39 rfl rfl ?_
        obtain ⟨h8, eh8, hF⟩ := am_bind hF
        obtain ⟨oh8, ph8⟩ := t_X9_findTurns eh8
        refine am_callV0 (Mc := M_X9_findTurns) (As := [.int v1]) (st := []) (pc' := 43) dX9_turned_40 cw_X9_266 wd_5_184 sl_X9_findTurns ⟨_, rfl, rfl⟩ (by decide) (by decide) rfl rfl (Nat.le_of_ble_eq_true rfl) ph8 (c_X9_findTurns eh8) rfl ?_
        refine am_iload_n (pc' := 44) dX9_turned_43 rfl rfl ?_
        rcases am_ite hF with ⟨z9, hF⟩ | ⟨z9, hF⟩
        · refine am_if_ne_f (pc' := 47) (tgt := 54) dX9_turned_44 rfl z9 rfl ?_
          refine am_aload_n (pc' := 48) dX9_turned_47 rfl rfl ?_
          obtain ⟨x10, ex10, hF⟩ := am_bind hF
          refine am_geti (pc' := 51) dX9_turned_48 fw_X9_261 ex10 rfl ?_
          refine am_goto (pc' := 96) dX9_turned_51 rfl ?_
          exact am_weak [false, false, false, false] (w_X9_turned_96 x10 h8 hF)
        · refine am_if_ne_t (pc' := 54) dX9_turned_44 rfl z9 ?_
          refine am_iload_n (pc' := 55) dX9_turned_54 rfl rfl ?_
          refine am_i2l (pc' := 56) dX9_turned_55 rfl ?_
          refine am_lconst (v := (0 : Int64)) (pc' := 57) dX9_turned_56 rfl rfl ?_
          refine am_aload_n (pc' := 58) dX9_turned_57 rfl rfl ?_
          obtain ⟨x11, ex11, hF⟩ := am_bind hF
          refine am_getr (pc' := 61) dX9_turned_58 fw_X9_13 ex11 rfl ?_
          refine am_iload_n (pc' := 62) dX9_turned_61 rfl rfl ?_
          obtain ⟨x12, ex12, hF⟩ := am_bind hF
          refine am_iald (pc' := 63) dX9_turned_62 ex12 rfl ?_
          refine am_iconst (v := (1 : Int32)) (pc' := 64) dX9_turned_63 rfl rfl ?_
          refine am_isub (pc' := 65) dX9_turned_64 rfl ?_
          refine am_i2l (pc' := 66) dX9_turned_65 rfl ?_
          obtain ⟨x13, ex13, hF⟩ := am_bind hF
          refine am_callS1 (Mc := M_X9_in) (As := [.long (Int32.toInt64 v3), .long (0 : Int64), .long (Int32.toInt64 (x12 - (1 : Int32)))]) (st := []) (pc' := 69) dX9_turned_66 cw_X9_96 wd_4_234 (by decide) (by decide) rfl rfl (Nat.le_of_ble_eq_true rfl) (c_X9_in ex13) rfl ?_
          rcases am_ite hF with ⟨z14, hF⟩ | ⟨z14, hF⟩
          · refine am_if_ne_f (pc' := 72) (tgt := 76) dX9_turned_69 rfl z14 rfl ?_
            refine am_iconst (v := (-1 : Int32)) (pc' := 73) dX9_turned_72 rfl rfl ?_
            refine am_goto (pc' := 96) dX9_turned_73 rfl ?_
            exact am_weak [false, false, false, false] (w_X9_turned_96 (-1 : Int32) h8 hF)
          · refine am_if_ne_t (pc' := 76) dX9_turned_69 rfl z14 ?_
            refine am_iload_n (pc' := 77) dX9_turned_76 rfl rfl ?_
            refine am_iconst (v := (1 : Int32)) (pc' := 78) dX9_turned_77 rfl rfl ?_
            rcases am_ite hF with ⟨z15, hF⟩ | ⟨z15, hF⟩
            · refine am_icmp_ne_f (pc' := 81) (tgt := 90) dX9_turned_78 rfl z15 rfl ?_
              refine am_aload_n (pc' := 82) dX9_turned_81 rfl rfl ?_
              obtain ⟨x16, ex16, hF⟩ := am_bind hF
              refine am_getr (pc' := 85) dX9_turned_82 fw_X9_68 ex16 rfl ?_
              refine am_iload_n (pc' := 86) dX9_turned_85 rfl rfl ?_
              obtain ⟨x17, ex17, hF⟩ := am_bind hF
              refine am_iald (pc' := 87) dX9_turned_86 ex17 rfl ?_
              refine am_goto (pc' := 96) dX9_turned_87 rfl ?_
              exact am_weak [false, false, false, false] (w_X9_turned_96 x17 h8 hF)
            · refine am_icmp_ne_t (pc' := 90) dX9_turned_78 rfl z15 ?_
              refine am_aload_n (pc' := 91) dX9_turned_90 rfl rfl ?_
              obtain ⟨x18, ex18, hF⟩ := am_bind hF
              refine am_getr (pc' := 94) dX9_turned_91 fw_X9_71 ex18 rfl ?_
              refine am_iload_n (pc' := 95) dX9_turned_94 rfl rfl ?_
              obtain ⟨x19, ex19, hF⟩ := am_bind hF
              refine am_iald (pc' := 96) dX9_turned_95 ex19 rfl ?_
              exact am_weak [false, false, false, false] (w_X9_turned_96 x19 h8 hF)
      · refine am_if_eq_f (pc' := 35) (tgt := 38) dX9_turned_32 rfl z7 rfl ?_
        refine am_ldc (v := (-100005 : Int32)) (pc' := 37) dX9_turned_35 wd_5_55 rfl ?_
        cases hF
        exact am_iret dX9_turned_37 rfl rfl
  · refine am_if_eq_f (pc' := 8) (tgt := 11) dX9_turned_5 rfl z2 rfl ?_
    refine am_ldc (v := (-100001 : Int32)) (pc' := 10) dX9_turned_8 wd_5_47 rfl ?_
    cases hF
    exact am_iret dX9_turned_10 rfl rfl
def F_X9_turned (v0 : Nat) (v1 : Int32) (v2 : Int32) (v3 : Int32) (h : am_H) : Option (Int32 × am_H) := (am_obj v0 9 h).bind fun _ => F_X9_turned_b v0 v1 v2 v3 h
theorem t_X9_turned {x : Int32} {hf : am_H}  {v0 : Nat} {v1 : Int32} {v2 : Int32} {v3 : Int32} {h : am_H} (hF : F_X9_turned v0 v1 v2 v3 h = some (x, hf)) : ∃ fs, am_obj v0 9 h = some fs := by
  obtain ⟨fs, e, _⟩ := am_bind hF
  exact ⟨fs, e⟩
theorem c_X9_turned {g : am_G} {l : Launch} {x : Int32} {hf : am_H}  {v0 : Nat} {v1 : Int32} {v2 : Int32} {v3 : Int32} {h : am_H} (hF : F_X9_turned v0 v1 v2 v3 h = some (x, hf)) : am_Met g l M_X9_turned [.ref v0, .int v1, .int v2, .int v3] h (some (.int x)) hf := by
  obtain ⟨fs, e0, e⟩ := am_bind hF
  exact am_met (n := 0) (by decide +kernel) rfl (Nat.le_of_ble_eq_true rfl) (w_X9_turned v0 v1 v2 v3 h e)
theorem cw_X1_38 : am_cw "SignCellar$Choice" 38 M_X4_empty 0 := ⟨wd_1_2, wd_2_19, ⟨by decide, by decide, by decide⟩, Or.inl wd_3_181⟩
theorem fw_X1_14 : am_fw "SignCellar$Choice" 14 1 0 := ⟨(RX1, TX1, 6), rfl, by decide, inX1, Or.inl wd_1_158⟩
theorem fw_X1_20 : am_fw "SignCellar$Choice" 20 1 1 := ⟨(RX1, TX1, 6), rfl, by decide, inX1, Or.inl wd_1_159⟩
def F_X1_begin_b (v0 : Nat) (h : am_H) : Option am_H :=
  (am_gr 1 0 v0 h).bind fun x1 =>
  (F_X4_empty x1 h).bind fun h2 =>
  (am_gr 1 1 v0 h2).bind fun x3 =>
  (F_X4_empty x3 h2).bind fun h4 =>
  some h4
theorem w_X1_begin {g : am_G} {l : Launch} {h0 : am_H} {hf : am_H}  (v0 : Nat) (h : am_H) (hF : F_X1_begin_b v0 h = some hf) : am_W g l M_X1_begin h0 none hf 0 [some (.ref v0)] [] h := by
  unfold F_X1_begin_b at hF
  refine am_aload_n (pc' := 1) dX1_begin_0 rfl rfl ?_
  obtain ⟨x1, ex1, hF⟩ := am_bind hF
  refine am_getr (pc' := 4) dX1_begin_1 fw_X1_14 ex1 rfl ?_
  obtain ⟨h2, eh2, hF⟩ := am_bind hF
  obtain ⟨oh2, ph2⟩ := t_X4_empty eh2
  refine am_callV0 (Mc := M_X4_empty) (As := []) (st := []) (pc' := 7) dX1_begin_4 cw_X1_38 wd_2_17 wd_2_18 ⟨_, rfl, rfl⟩ (by decide) (by decide) rfl rfl (Nat.le_of_ble_eq_true rfl) ph2 (c_X4_empty eh2) rfl ?_
  refine am_aload_n (pc' := 8) dX1_begin_7 rfl rfl ?_
  obtain ⟨x3, ex3, hF⟩ := am_bind hF
  refine am_getr (pc' := 11) dX1_begin_8 fw_X1_20 ex3 rfl ?_
  obtain ⟨h4, eh4, hF⟩ := am_bind hF
  obtain ⟨oh4, ph4⟩ := t_X4_empty eh4
  refine am_callV0 (Mc := M_X4_empty) (As := []) (st := []) (pc' := 14) dX1_begin_11 cw_X1_38 wd_2_17 wd_2_18 ⟨_, rfl, rfl⟩ (by decide) (by decide) rfl rfl (Nat.le_of_ble_eq_true rfl) ph4 (c_X4_empty eh4) rfl ?_
  cases hF
  exact am_vret dX1_begin_14 rfl
def F_X1_begin (v0 : Nat) (h : am_H) : Option am_H := (am_obj v0 1 h).bind fun _ => F_X1_begin_b v0 h
theorem t_X1_begin {hf : am_H}  {v0 : Nat} {h : am_H} (hF : F_X1_begin v0 h = some hf) : ∃ fs, am_obj v0 1 h = some fs := by
  obtain ⟨fs, e, _⟩ := am_bind hF
  exact ⟨fs, e⟩
theorem c_X1_begin {g : am_G} {l : Launch} {hf : am_H}  {v0 : Nat} {h : am_H} (hF : F_X1_begin v0 h = some hf) : am_Met g l M_X1_begin [.ref v0] h none hf := by
  obtain ⟨fs, e0, e⟩ := am_bind hF
  exact am_met (n := 0) (by decide +kernel) rfl (Nat.le_of_ble_eq_true rfl) (w_X1_begin v0 h e)
theorem cw_X1_44 : am_cw "SignCellar$Choice" 44 M_X4_addPart 3 := ⟨wd_1_2, wd_2_53, ⟨by decide, by decide, by decide⟩, Or.inl wd_3_186⟩
theorem fw_X1_41 : am_fw "SignCellar$Choice" 41 0 1 := ⟨(RX0, TX0, 4), rfl, by decide, inX0, Or.inr ⟨_, wd_2_58⟩⟩
theorem fw_X1_48 : am_fw "SignCellar$Choice" 48 0 2 := ⟨(RX0, TX0, 4), rfl, by decide, inX0, Or.inr ⟨_, wd_2_61⟩⟩
def F_X1_addBlock_b (v0 : Nat) (v1 : Nat) (h : am_H) : Option am_H :=
  (am_gr 1 0 v0 h).bind fun x1 =>
  (am_gr 0 1 v1 h).bind fun x2 =>
  (F_X4_addPart x1 x2 (0 : Int32) (5 : Int32) h).bind fun h3 =>
  (am_gr 1 1 v0 h3).bind fun x4 =>
  (am_gr 0 2 v1 h3).bind fun x5 =>
  (F_X4_addPart x4 x5 (0 : Int32) (5 : Int32) h3).bind fun h6 =>
  some h6
theorem w_X1_addBlock {g : am_G} {l : Launch} {h0 : am_H} {hf : am_H}  (v0 : Nat) (v1 : Nat) (h : am_H) (hF : F_X1_addBlock_b v0 v1 h = some hf) : am_W g l M_X1_addBlock h0 none hf 0 [some (.ref v0), some (.ref v1)] [] h := by
  unfold F_X1_addBlock_b at hF
  refine am_aload_n (pc' := 1) dX1_addBlock_0 rfl rfl ?_
  obtain ⟨x1, ex1, hF⟩ := am_bind hF
  refine am_getr (pc' := 4) dX1_addBlock_1 fw_X1_14 ex1 rfl ?_
  refine am_aload_n (pc' := 5) dX1_addBlock_4 rfl rfl ?_
  obtain ⟨x2, ex2, hF⟩ := am_bind hF
  refine am_getr (pc' := 8) dX1_addBlock_5 fw_X1_41 ex2 rfl ?_
  refine am_iconst (v := (0 : Int32)) (pc' := 9) dX1_addBlock_8 rfl rfl ?_
  refine am_iconst (v := (5 : Int32)) (pc' := 10) dX1_addBlock_9 rfl rfl ?_
  obtain ⟨h3, eh3, hF⟩ := am_bind hF
  obtain ⟨oh3, ph3⟩ := t_X4_addPart eh3
  refine am_callV0 (Mc := M_X4_addPart) (As := [.ref x2, .int (0 : Int32), .int (5 : Int32)]) (st := []) (pc' := 13) dX1_addBlock_10 cw_X1_44 wd_2_51 wd_2_52 ⟨_, rfl, rfl⟩ (by decide) (by decide) rfl rfl (Nat.le_of_ble_eq_true rfl) ph3 (c_X4_addPart eh3) rfl ?_
  refine am_aload_n (pc' := 14) dX1_addBlock_13 rfl rfl ?_
  obtain ⟨x4, ex4, hF⟩ := am_bind hF
  refine am_getr (pc' := 17) dX1_addBlock_14 fw_X1_20 ex4 rfl ?_
  refine am_aload_n (pc' := 18) dX1_addBlock_17 rfl rfl ?_
  obtain ⟨x5, ex5, hF⟩ := am_bind hF
  refine am_getr (pc' := 21) dX1_addBlock_18 fw_X1_48 ex5 rfl ?_
  refine am_iconst (v := (0 : Int32)) (pc' := 22) dX1_addBlock_21 rfl rfl ?_
  refine am_iconst (v := (5 : Int32)) (pc' := 23) dX1_addBlock_22 rfl rfl ?_
  obtain ⟨h6, eh6, hF⟩ := am_bind hF
  obtain ⟨oh6, ph6⟩ := t_X4_addPart eh6
  refine am_callV0 (Mc := M_X4_addPart) (As := [.ref x5, .int (0 : Int32), .int (5 : Int32)]) (st := []) (pc' := 26) dX1_addBlock_23 cw_X1_44 wd_2_51 wd_2_52 ⟨_, rfl, rfl⟩ (by decide) (by decide) rfl rfl (Nat.le_of_ble_eq_true rfl) ph6 (c_X4_addPart eh6) rfl ?_
  cases hF
  exact am_vret dX1_addBlock_26 rfl
def F_X1_addBlock (v0 : Nat) (v1 : Nat) (h : am_H) : Option am_H := (am_obj v0 1 h).bind fun _ => F_X1_addBlock_b v0 v1 h
theorem t_X1_addBlock {hf : am_H}  {v0 : Nat} {v1 : Nat} {h : am_H} (hF : F_X1_addBlock v0 v1 h = some hf) : ∃ fs, am_obj v0 1 h = some fs := by
  obtain ⟨fs, e, _⟩ := am_bind hF
  exact ⟨fs, e⟩
theorem c_X1_addBlock {g : am_G} {l : Launch} {hf : am_H}  {v0 : Nat} {v1 : Nat} {h : am_H} (hF : F_X1_addBlock v0 v1 h = some hf) : am_Met g l M_X1_addBlock [.ref v0, .ref v1] h none hf := by
  obtain ⟨fs, e0, e⟩ := am_bind hF
  exact am_met (n := 0) (by decide +kernel) rfl (Nat.le_of_ble_eq_true rfl) (w_X1_addBlock v0 v1 h e)
theorem cw_X1_74 : am_cw "SignCellar$Choice" 74 M_X4_at 1 := ⟨wd_1_2, wd_2_42, ⟨by decide, by decide, by decide⟩, Or.inl wd_3_197⟩
def F_X1_timeOfSmallest_53 (k4 : Nat → Int32 → Int32 → Int32 → am_H → Option Int32) (k18 : Nat → Int32 → Int32 → Int32 → Int32 → Int32 → am_H → Option Int32) (v0 : Nat) (v1 : Int32) (v2 : Int32) (v3 : Int32) (v4 : Int32) (v5 : Int32) (h : am_H) : Option Int32 :=
  k18 v0 v1 v2 v3 v4 (v5 + (1 : Int32)) h
theorem w_X1_timeOfSmallest_53 {g : am_G} {l : Launch} {h0 : am_H} {x : Int32}  {k4 : Nat → Int32 → Int32 → Int32 → am_H → Option Int32} {k18 : Nat → Int32 → Int32 → Int32 → Int32 → Int32 → am_H → Option Int32} (j4 : ∀ (v0 : Nat) (v1 : Int32) (v2 : Int32) (v3 : Int32) (h : am_H), k4 v0 v1 v2 v3 h = some x → am_W g l M_X1_timeOfSmallest h0 (some (.int x)) h 4 [some (.ref v0), some (.int v1), some (.int v2), some (.int v3), none, none] [] h) (j18 : ∀ (v0 : Nat) (v1 : Int32) (v2 : Int32) (v3 : Int32) (v4 : Int32) (v5 : Int32) (h : am_H), k18 v0 v1 v2 v3 v4 v5 h = some x → am_W g l M_X1_timeOfSmallest h0 (some (.int x)) h 18 [some (.ref v0), some (.int v1), some (.int v2), some (.int v3), some (.int v4), some (.int v5)] [] h) (v0 : Nat) (v1 : Int32) (v2 : Int32) (v3 : Int32) (v4 : Int32) (v5 : Int32) (h : am_H) (hF : F_X1_timeOfSmallest_53 k4 k18 v0 v1 v2 v3 v4 v5 h = some x) : am_W g l M_X1_timeOfSmallest h0 (some (.int x)) h 53 [some (.ref v0), some (.int v1), some (.int v2), some (.int v3), some (.int v4), some (.int v5)] [] h := by
  unfold F_X1_timeOfSmallest_53 at hF
  refine am_iinc (ls' := [some (.ref v0), some (.int v1), some (.int v2), some (.int v3), some (.int v4), some (.int (v5 + (1 : Int32)))]) (pc' := 56) (v := (v5 + (1 : Int32))) dX1_timeOfSmallest_53 rfl rfl (Nat.le_of_ble_eq_true rfl) rfl rfl ?_
  refine am_goto (pc' := 18) dX1_timeOfSmallest_56 rfl ?_
  exact j18 v0 v1 v2 v3 v4 (v5 + (1 : Int32)) h hF
def F_X1_timeOfSmallest_18 (k4 : Nat → Int32 → Int32 → Int32 → am_H → Option Int32) : Nat → Nat → Int32 → Int32 → Int32 → Int32 → Int32 → am_H → Option Int32
  | 0, _, _, _, _, _, _, _ => none
  | n + 1, v0, v1, v2, v3, v4, v5, h =>
  if ((v3 + (1 : Int32)) * (5 : Int32)) ≤ v5 then
    (am_gr 1 1 v0 h).bind fun x2 =>
    (F_X4_at x2 v4 h).bind fun x3 =>
    k4 v0 v1 (v2 + x3) (v3 + (1 : Int32)) h
  else
    (am_gr 1 0 v0 h).bind fun x4 =>
    (F_X4_at x4 v5 h).bind fun x5 =>
    (am_gr 1 0 v0 h).bind fun x6 =>
    (F_X4_at x6 v4 h).bind fun x7 =>
    if x7 ≤ x5 then
      F_X1_timeOfSmallest_53 k4 (F_X1_timeOfSmallest_18 k4 n) v0 v1 v2 v3 v4 v5 h
    else
      F_X1_timeOfSmallest_53 k4 (F_X1_timeOfSmallest_18 k4 n) v0 v1 v2 v3 v5 v5 h
theorem w_X1_timeOfSmallest_18 {g : am_G} {l : Launch} {h0 : am_H} {x : Int32}  {k4 : Nat → Int32 → Int32 → Int32 → am_H → Option Int32} (j4 : ∀ (v0 : Nat) (v1 : Int32) (v2 : Int32) (v3 : Int32) (h : am_H), k4 v0 v1 v2 v3 h = some x → am_W g l M_X1_timeOfSmallest h0 (some (.int x)) h 4 [some (.ref v0), some (.int v1), some (.int v2), some (.int v3), none, none] [] h) : ∀ (n : Nat) (v0 : Nat) (v1 : Int32) (v2 : Int32) (v3 : Int32) (v4 : Int32) (v5 : Int32) (h : am_H), F_X1_timeOfSmallest_18 k4 n v0 v1 v2 v3 v4 v5 h = some x → am_W g l M_X1_timeOfSmallest h0 (some (.int x)) h 18 [some (.ref v0), some (.int v1), some (.int v2), some (.int v3), some (.int v4), some (.int v5)] [] h
  | 0, _, _, _, _, _, _, _, hF => by cases hF
  | n + 1, v0, v1, v2, v3, v4, v5, h, hF => by
    rw [F_X1_timeOfSmallest_18] at hF
    refine am_iload (pc' := 20) dX1_timeOfSmallest_18 rfl rfl ?_
    refine am_iload_n (pc' := 21) dX1_timeOfSmallest_20 rfl rfl ?_
    refine am_iconst (v := (1 : Int32)) (pc' := 22) dX1_timeOfSmallest_21 rfl rfl ?_
    refine am_iadd (pc' := 23) dX1_timeOfSmallest_22 rfl ?_
    refine am_iconst (v := (5 : Int32)) (pc' := 24) dX1_timeOfSmallest_23 rfl rfl ?_
    refine am_imul (pc' := 25) dX1_timeOfSmallest_24 rfl ?_
    rcases am_ite hF with ⟨z1, hF⟩ | ⟨z1, hF⟩
    · refine am_icmp_ge_t (pc' := 59) dX1_timeOfSmallest_25 rfl z1 ?_
      refine am_iload_n (pc' := 60) dX1_timeOfSmallest_59 rfl rfl ?_
      refine am_aload_n (pc' := 61) dX1_timeOfSmallest_60 rfl rfl ?_
      obtain ⟨x2, ex2, hF⟩ := am_bind hF
      refine am_getr (pc' := 64) dX1_timeOfSmallest_61 fw_X1_20 ex2 rfl ?_
      refine am_iload (pc' := 66) dX1_timeOfSmallest_64 rfl rfl ?_
      obtain ⟨x3, ex3, hF⟩ := am_bind hF
      obtain ⟨ox3, px3⟩ := t_X4_at ex3
      refine am_callV1 (Mc := M_X4_at) (As := [.int v4]) (st := [.int v2]) (pc' := 69) dX1_timeOfSmallest_66 cw_X1_74 wd_2_40 wd_2_41 ⟨_, rfl, rfl⟩ (by decide) (by decide) rfl rfl (Nat.le_of_ble_eq_true rfl) px3 (c_X4_at ex3) rfl ?_
      refine am_iadd (pc' := 70) dX1_timeOfSmallest_69 rfl ?_
      refine am_istore_n (ls' := [some (.ref v0), some (.int v1), some (.int (v2 + x3)), some (.int v3), some (.int v4), some (.int v5)]) (pc' := 71) dX1_timeOfSmallest_70 (Nat.le_of_ble_eq_true rfl) rfl rfl ?_
      refine am_iinc (ls' := [some (.ref v0), some (.int v1), some (.int (v2 + x3)), some (.int (v3 + (1 : Int32))), some (.int v4), some (.int v5)]) (pc' := 74) (v := (v3 + (1 : Int32))) dX1_timeOfSmallest_71 rfl rfl (Nat.le_of_ble_eq_true rfl) rfl rfl ?_
      refine am_goto (pc' := 4) dX1_timeOfSmallest_74 rfl ?_
      exact am_weak [true, true, true, true, false, false] (j4 v0 v1 (v2 + x3) (v3 + (1 : Int32)) h hF)
    · refine am_icmp_ge_f (pc' := 28) (tgt := 59) dX1_timeOfSmallest_25 rfl z1 rfl ?_
      refine am_aload_n (pc' := 29) dX1_timeOfSmallest_28 rfl rfl ?_
      obtain ⟨x4, ex4, hF⟩ := am_bind hF
      refine am_getr (pc' := 32) dX1_timeOfSmallest_29 fw_X1_14 ex4 rfl ?_
      refine am_iload (pc' := 34) dX1_timeOfSmallest_32 rfl rfl ?_
      obtain ⟨x5, ex5, hF⟩ := am_bind hF
      obtain ⟨ox5, px5⟩ := t_X4_at ex5
      refine am_callV1 (Mc := M_X4_at) (As := [.int v5]) (st := []) (pc' := 37) dX1_timeOfSmallest_34 cw_X1_74 wd_2_40 wd_2_41 ⟨_, rfl, rfl⟩ (by decide) (by decide) rfl rfl (Nat.le_of_ble_eq_true rfl) px5 (c_X4_at ex5) rfl ?_
      refine am_aload_n (pc' := 38) dX1_timeOfSmallest_37 rfl rfl ?_
      obtain ⟨x6, ex6, hF⟩ := am_bind hF
      refine am_getr (pc' := 41) dX1_timeOfSmallest_38 fw_X1_14 ex6 rfl ?_
      refine am_iload (pc' := 43) dX1_timeOfSmallest_41 rfl rfl ?_
      obtain ⟨x7, ex7, hF⟩ := am_bind hF
      obtain ⟨ox7, px7⟩ := t_X4_at ex7
      refine am_callV1 (Mc := M_X4_at) (As := [.int v4]) (st := [.int x5]) (pc' := 46) dX1_timeOfSmallest_43 cw_X1_74 wd_2_40 wd_2_41 ⟨_, rfl, rfl⟩ (by decide) (by decide) rfl rfl (Nat.le_of_ble_eq_true rfl) px7 (c_X4_at ex7) rfl ?_
      rcases am_ite hF with ⟨z8, hF⟩ | ⟨z8, hF⟩
      · refine am_icmp_ge_t (pc' := 53) dX1_timeOfSmallest_46 rfl z8 ?_
        exact w_X1_timeOfSmallest_53 j4 (w_X1_timeOfSmallest_18 j4 n) v0 v1 v2 v3 v4 v5 h hF
      · refine am_icmp_ge_f (pc' := 49) (tgt := 53) dX1_timeOfSmallest_46 rfl z8 rfl ?_
        refine am_iload (pc' := 51) dX1_timeOfSmallest_49 rfl rfl ?_
        refine am_istore (ls' := [some (.ref v0), some (.int v1), some (.int v2), some (.int v3), some (.int v5), some (.int v5)]) (pc' := 53) dX1_timeOfSmallest_51 (Nat.le_of_ble_eq_true rfl) rfl rfl ?_
        exact w_X1_timeOfSmallest_53 j4 (w_X1_timeOfSmallest_18 j4 n) v0 v1 v2 v3 v5 v5 h hF
def F_X1_timeOfSmallest_4 : Nat → Nat → Int32 → Int32 → Int32 → am_H → Option Int32
  | 0, _, _, _, _, _ => none
  | n + 1, v0, v1, v2, v3, h =>
  if v1 ≤ v3 then
    some v2
  else
    F_X1_timeOfSmallest_18 (F_X1_timeOfSmallest_4 n) am_F v0 v1 v2 v3 (v3 * (5 : Int32)) (v3 * (5 : Int32)) h
theorem w_X1_timeOfSmallest_4 {g : am_G} {l : Launch} {h0 : am_H} {x : Int32}  : ∀ (n : Nat) (v0 : Nat) (v1 : Int32) (v2 : Int32) (v3 : Int32) (h : am_H), F_X1_timeOfSmallest_4 n v0 v1 v2 v3 h = some x → am_W g l M_X1_timeOfSmallest h0 (some (.int x)) h 4 [some (.ref v0), some (.int v1), some (.int v2), some (.int v3), none, none] [] h
  | 0, _, _, _, _, _, hF => by cases hF
  | n + 1, v0, v1, v2, v3, h, hF => by
    rw [F_X1_timeOfSmallest_4] at hF
    refine am_iload_n (pc' := 5) dX1_timeOfSmallest_4 rfl rfl ?_
    refine am_iload_n (pc' := 6) dX1_timeOfSmallest_5 rfl rfl ?_
    rcases am_ite hF with ⟨z1, hF⟩ | ⟨z1, hF⟩
    · refine am_icmp_ge_t (pc' := 77) dX1_timeOfSmallest_6 rfl z1 ?_
      refine am_iload_n (pc' := 78) dX1_timeOfSmallest_77 rfl rfl ?_
      cases hF
      exact am_iret dX1_timeOfSmallest_78 rfl rfl
    · refine am_icmp_ge_f (pc' := 9) (tgt := 77) dX1_timeOfSmallest_6 rfl z1 rfl ?_
      refine am_iload_n (pc' := 10) dX1_timeOfSmallest_9 rfl rfl ?_
      refine am_iconst (v := (5 : Int32)) (pc' := 11) dX1_timeOfSmallest_10 rfl rfl ?_
      refine am_imul (pc' := 12) dX1_timeOfSmallest_11 rfl ?_
      refine am_istore (ls' := [some (.ref v0), some (.int v1), some (.int v2), some (.int v3), some (.int (v3 * (5 : Int32))), none]) (pc' := 14) dX1_timeOfSmallest_12 (Nat.le_of_ble_eq_true rfl) rfl rfl ?_
      refine am_iload (pc' := 16) dX1_timeOfSmallest_14 rfl rfl ?_
      refine am_istore (ls' := [some (.ref v0), some (.int v1), some (.int v2), some (.int v3), some (.int (v3 * (5 : Int32))), some (.int (v3 * (5 : Int32)))]) (pc' := 18) dX1_timeOfSmallest_16 (Nat.le_of_ble_eq_true rfl) rfl rfl ?_
      exact w_X1_timeOfSmallest_18 (w_X1_timeOfSmallest_4 n) am_F v0 v1 v2 v3 (v3 * (5 : Int32)) (v3 * (5 : Int32)) h hF
def F_X1_timeOfSmallest_b (v0 : Nat) (v1 : Int32) (h : am_H) : Option Int32 :=
  F_X1_timeOfSmallest_4 am_F v0 v1 (0 : Int32) (0 : Int32) h
theorem w_X1_timeOfSmallest {g : am_G} {l : Launch} {h0 : am_H} {x : Int32}  (v0 : Nat) (v1 : Int32) (h : am_H) (hF : F_X1_timeOfSmallest_b v0 v1 h = some x) : am_W g l M_X1_timeOfSmallest h0 (some (.int x)) h 0 [some (.ref v0), some (.int v1), none, none, none, none] [] h := by
  unfold F_X1_timeOfSmallest_b at hF
  refine am_iconst (v := (0 : Int32)) (pc' := 1) dX1_timeOfSmallest_0 rfl rfl ?_
  refine am_istore_n (ls' := [some (.ref v0), some (.int v1), some (.int (0 : Int32)), none, none, none]) (pc' := 2) dX1_timeOfSmallest_1 (Nat.le_of_ble_eq_true rfl) rfl rfl ?_
  refine am_iconst (v := (0 : Int32)) (pc' := 3) dX1_timeOfSmallest_2 rfl rfl ?_
  refine am_istore_n (ls' := [some (.ref v0), some (.int v1), some (.int (0 : Int32)), some (.int (0 : Int32)), none, none]) (pc' := 4) dX1_timeOfSmallest_3 (Nat.le_of_ble_eq_true rfl) rfl rfl ?_
  exact w_X1_timeOfSmallest_4 am_F v0 v1 (0 : Int32) (0 : Int32) h hF
def F_X1_timeOfSmallest (v0 : Nat) (v1 : Int32) (h : am_H) : Option Int32 := (am_obj v0 1 h).bind fun _ => F_X1_timeOfSmallest_b v0 v1 h
theorem t_X1_timeOfSmallest {x : Int32}  {v0 : Nat} {v1 : Int32} {h : am_H} (hF : F_X1_timeOfSmallest v0 v1 h = some x) : ∃ fs, am_obj v0 1 h = some fs := by
  obtain ⟨fs, e, _⟩ := am_bind hF
  exact ⟨fs, e⟩
theorem c_X1_timeOfSmallest {g : am_G} {l : Launch} {x : Int32}  {v0 : Nat} {v1 : Int32} {h : am_H} (hF : F_X1_timeOfSmallest v0 v1 h = some x) : am_Met g l M_X1_timeOfSmallest [.ref v0, .int v1] h (some (.int x)) h := by
  obtain ⟨fs, e0, e⟩ := am_bind hF
  exact am_met (n := 4) (by decide +kernel) rfl (Nat.le_of_ble_eq_true rfl) (w_X1_timeOfSmallest v0 v1 h e)
theorem fw_X1_25 : am_fw "SignCellar$Choice" 25 1 2 := ⟨(RX1, TX1, 6), rfl, by decide, inX1, Or.inl wd_1_160⟩
def F_X1_sizeWith_40 (h : am_H) : Option Int32 :=
  some (1000000 : Int32)
theorem w_X1_sizeWith_40 {g : am_G} {l : Launch} {h0 : am_H} {x : Int32}  (h : am_H) (hF : F_X1_sizeWith_40 h = some x) : am_W g l M_X1_sizeWith h0 (some (.int x)) h 40 [none, none, none, none, none] [] h := by
  unfold F_X1_sizeWith_40 at hF
  refine am_ldc (v := (1000000 : Int32)) (pc' := 42) dX1_sizeWith_40 wd_3_203 rfl ?_
  cases hF
  exact am_iret dX1_sizeWith_42 rfl rfl
def F_X1_sizeWith_b (v0 : Nat) (v1 : Int32) (v2 : Int32) (v3 : Int32) (h : am_H) : Option Int32 :=
  (am_gr 1 1 v0 h).bind fun x1 =>
  (F_X4_at x1 ((v1 * (5 : Int32)) + v2) h).bind fun x2 =>
  (am_gr 1 2 v0 h).bind fun x3 =>
  (am_ln x3 h).bind fun x4 =>
  if x4 ≤ (v1 + (1 : Int32)) then
    F_X1_sizeWith_40 h
  else
    if (v3 - x2) < 0 then
      F_X1_sizeWith_40 h
    else
      if (v3 - x2) ≤ (1152 : Int32) then
        (am_gr 1 0 v0 h).bind fun x8 =>
        (F_X4_at x8 ((v1 * (5 : Int32)) + v2) h).bind fun x9 =>
        (am_gr 1 2 v0 h).bind fun x10 =>
        (am_al 5 x10 (v1 + (1 : Int32)) h).bind fun x11 =>
        (am_il 0 x11 (v3 - x2) h).bind fun x12 =>
        some (x9 + x12)
      else
        F_X1_sizeWith_40 h
theorem w_X1_sizeWith {g : am_G} {l : Launch} {h0 : am_H} {x : Int32}  (v0 : Nat) (v1 : Int32) (v2 : Int32) (v3 : Int32) (h : am_H) (hF : F_X1_sizeWith_b v0 v1 v2 v3 h = some x) : am_W g l M_X1_sizeWith h0 (some (.int x)) h 0 [some (.ref v0), some (.int v1), some (.int v2), some (.int v3), none] [] h := by
  unfold F_X1_sizeWith_b at hF
  refine am_iload_n (pc' := 1) dX1_sizeWith_0 rfl rfl ?_
  refine am_aload_n (pc' := 2) dX1_sizeWith_1 rfl rfl ?_
  obtain ⟨x1, ex1, hF⟩ := am_bind hF
  refine am_getr (pc' := 5) dX1_sizeWith_2 fw_X1_20 ex1 rfl ?_
  refine am_iload_n (pc' := 6) dX1_sizeWith_5 rfl rfl ?_
  refine am_iconst (v := (5 : Int32)) (pc' := 7) dX1_sizeWith_6 rfl rfl ?_
  refine am_imul (pc' := 8) dX1_sizeWith_7 rfl ?_
  refine am_iload_n (pc' := 9) dX1_sizeWith_8 rfl rfl ?_
  refine am_iadd (pc' := 10) dX1_sizeWith_9 rfl ?_
  obtain ⟨x2, ex2, hF⟩ := am_bind hF
  obtain ⟨ox2, px2⟩ := t_X4_at ex2
  refine am_callV1 (Mc := M_X4_at) (As := [.int ((v1 * (5 : Int32)) + v2)]) (st := [.int v3]) (pc' := 13) dX1_sizeWith_10 cw_X1_74 wd_2_40 wd_2_41 ⟨_, rfl, rfl⟩ (by decide) (by decide) rfl rfl (Nat.le_of_ble_eq_true rfl) px2 (c_X4_at ex2) rfl ?_
  refine am_isub (pc' := 14) dX1_sizeWith_13 rfl ?_
  refine am_istore (ls' := [some (.ref v0), some (.int v1), some (.int v2), some (.int v3), some (.int (v3 - x2))]) (pc' := 16) dX1_sizeWith_14 (Nat.le_of_ble_eq_true rfl) rfl rfl ?_
  refine am_iload_n (pc' := 17) dX1_sizeWith_16 rfl rfl ?_
  refine am_iconst (v := (1 : Int32)) (pc' := 18) dX1_sizeWith_17 rfl rfl ?_
  refine am_iadd (pc' := 19) dX1_sizeWith_18 rfl ?_
  refine am_aload_n (pc' := 20) dX1_sizeWith_19 rfl rfl ?_
  obtain ⟨x3, ex3, hF⟩ := am_bind hF
  refine am_getr (pc' := 23) dX1_sizeWith_20 fw_X1_25 ex3 rfl ?_
  obtain ⟨x4, ex4, hF⟩ := am_bind hF
  refine am_alen (pc' := 24) dX1_sizeWith_23 ex4 rfl ?_
  rcases am_ite hF with ⟨z5, hF⟩ | ⟨z5, hF⟩
  · refine am_icmp_ge_t (pc' := 40) dX1_sizeWith_24 rfl z5 ?_
    exact am_weak [false, false, false, false, false] (w_X1_sizeWith_40 h hF)
  · refine am_icmp_ge_f (pc' := 27) (tgt := 40) dX1_sizeWith_24 rfl z5 rfl ?_
    refine am_iload (pc' := 29) dX1_sizeWith_27 rfl rfl ?_
    rcases am_ite hF with ⟨z6, hF⟩ | ⟨z6, hF⟩
    · refine am_if_lt_t (pc' := 40) dX1_sizeWith_29 rfl z6 ?_
      exact am_weak [false, false, false, false, false] (w_X1_sizeWith_40 h hF)
    · refine am_if_lt_f (pc' := 32) (tgt := 40) dX1_sizeWith_29 rfl z6 rfl ?_
      refine am_iload (pc' := 34) dX1_sizeWith_32 rfl rfl ?_
      refine am_sipush (v := (1152 : Int32)) (pc' := 37) dX1_sizeWith_34 rfl rfl ?_
      rcases am_ite hF with ⟨z7, hF⟩ | ⟨z7, hF⟩
      · refine am_icmp_le_t (pc' := 43) dX1_sizeWith_37 rfl z7 ?_
        refine am_aload_n (pc' := 44) dX1_sizeWith_43 rfl rfl ?_
        obtain ⟨x8, ex8, hF⟩ := am_bind hF
        refine am_getr (pc' := 47) dX1_sizeWith_44 fw_X1_14 ex8 rfl ?_
        refine am_iload_n (pc' := 48) dX1_sizeWith_47 rfl rfl ?_
        refine am_iconst (v := (5 : Int32)) (pc' := 49) dX1_sizeWith_48 rfl rfl ?_
        refine am_imul (pc' := 50) dX1_sizeWith_49 rfl ?_
        refine am_iload_n (pc' := 51) dX1_sizeWith_50 rfl rfl ?_
        refine am_iadd (pc' := 52) dX1_sizeWith_51 rfl ?_
        obtain ⟨x9, ex9, hF⟩ := am_bind hF
        obtain ⟨ox9, px9⟩ := t_X4_at ex9
        refine am_callV1 (Mc := M_X4_at) (As := [.int ((v1 * (5 : Int32)) + v2)]) (st := []) (pc' := 55) dX1_sizeWith_52 cw_X1_74 wd_2_40 wd_2_41 ⟨_, rfl, rfl⟩ (by decide) (by decide) rfl rfl (Nat.le_of_ble_eq_true rfl) px9 (c_X4_at ex9) rfl ?_
        refine am_aload_n (pc' := 56) dX1_sizeWith_55 rfl rfl ?_
        obtain ⟨x10, ex10, hF⟩ := am_bind hF
        refine am_getr (pc' := 59) dX1_sizeWith_56 fw_X1_25 ex10 rfl ?_
        refine am_iload_n (pc' := 60) dX1_sizeWith_59 rfl rfl ?_
        refine am_iconst (v := (1 : Int32)) (pc' := 61) dX1_sizeWith_60 rfl rfl ?_
        refine am_iadd (pc' := 62) dX1_sizeWith_61 rfl ?_
        obtain ⟨x11, ex11, hF⟩ := am_bind hF
        refine am_aald5 (pc' := 63) dX1_sizeWith_62 ex11 rfl ?_
        refine am_iload (pc' := 65) dX1_sizeWith_63 rfl rfl ?_
        obtain ⟨x12, ex12, hF⟩ := am_bind hF
        refine am_iald (pc' := 66) dX1_sizeWith_65 ex12 rfl ?_
        refine am_iadd (pc' := 67) dX1_sizeWith_66 rfl ?_
        cases hF
        exact am_iret dX1_sizeWith_67 rfl rfl
      · refine am_icmp_le_f (pc' := 40) (tgt := 43) dX1_sizeWith_37 rfl z7 rfl ?_
        exact am_weak [false, false, false, false, false] (w_X1_sizeWith_40 h hF)
def F_X1_sizeWith (v0 : Nat) (v1 : Int32) (v2 : Int32) (v3 : Int32) (h : am_H) : Option Int32 := (am_obj v0 1 h).bind fun _ => F_X1_sizeWith_b v0 v1 v2 v3 h
theorem t_X1_sizeWith {x : Int32}  {v0 : Nat} {v1 : Int32} {v2 : Int32} {v3 : Int32} {h : am_H} (hF : F_X1_sizeWith v0 v1 v2 v3 h = some x) : ∃ fs, am_obj v0 1 h = some fs := by
  obtain ⟨fs, e, _⟩ := am_bind hF
  exact ⟨fs, e⟩
theorem c_X1_sizeWith {g : am_G} {l : Launch} {x : Int32}  {v0 : Nat} {v1 : Int32} {v2 : Int32} {v3 : Int32} {h : am_H} (hF : F_X1_sizeWith v0 v1 v2 v3 h = some x) : am_Met g l M_X1_sizeWith [.ref v0, .int v1, .int v2, .int v3] h (some (.int x)) h := by
  obtain ⟨fs, e0, e⟩ := am_bind hF
  exact am_met (n := 1) (by decide +kernel) rfl (Nat.le_of_ble_eq_true rfl) (w_X1_sizeWith v0 v1 v2 v3 h e)
theorem cw_X1_53 : am_cw "SignCellar$Choice" 53 M_J9_min_7cf53 2 := ⟨wd_1_3, wd_2_22, ⟨by decide, by decide, by decide⟩, Or.inl wd_3_192⟩
theorem cw_X1_77 : am_cw "SignCellar$Choice" 77 M_X1_sizeWith 3 := ⟨wd_1_8, wd_3_207, ⟨by decide, by decide, by decide⟩, Or.inl wd_3_204⟩
theorem sl_X1_sizeWith : Cond.selects (⟨"SignCellar$Choice", "sizeWith", "(III)I"⟩ : MethodName).cls ⟨"SignCellar$Choice", "sizeWith", "(III)I"⟩ ⟨"SignCellar$Choice", "sizeWith", "(III)I"⟩ ∈ am_ts := am_in_p (q := (⟨"SignCellar$Choice", "sizeWith", "(III)I"⟩, 6)) (by decide +kernel)
def F_X1_leastFrom_6 : Nat → Nat → Int32 → Int32 → Int32 → Int32 → am_H → Option Int32
  | 0, _, _, _, _, _, _ => none
  | n + 1, v0, v1, v2, v3, v4, h =>
  if (5 : Int32) ≤ v4 then
    some v3
  else
    (F_X1_sizeWith v0 v1 v4 v2 h).bind fun x2 =>
    (F_J9_min_7cf53 v3 x2 h).bind fun x3 =>
    F_X1_leastFrom_6 n v0 v1 v2 x3 (v4 + (1 : Int32)) h
theorem w_X1_leastFrom_6 {g : am_G} {l : Launch} {h0 : am_H} {x : Int32}  : ∀ (n : Nat) (v0 : Nat) (v1 : Int32) (v2 : Int32) (v3 : Int32) (v4 : Int32) (h : am_H), F_X1_leastFrom_6 n v0 v1 v2 v3 v4 h = some x → am_W g l M_X1_leastFrom h0 (some (.int x)) h 6 [some (.ref v0), some (.int v1), some (.int v2), some (.int v3), some (.int v4)] [] h
  | 0, _, _, _, _, _, _, hF => by cases hF
  | n + 1, v0, v1, v2, v3, v4, h, hF => by
    rw [F_X1_leastFrom_6] at hF
    refine am_iload (pc' := 8) dX1_leastFrom_6 rfl rfl ?_
    refine am_iconst (v := (5 : Int32)) (pc' := 9) dX1_leastFrom_8 rfl rfl ?_
    rcases am_ite hF with ⟨z1, hF⟩ | ⟨z1, hF⟩
    · refine am_icmp_ge_t (pc' := 31) dX1_leastFrom_9 rfl z1 ?_
      refine am_iload_n (pc' := 32) dX1_leastFrom_31 rfl rfl ?_
      cases hF
      exact am_iret dX1_leastFrom_32 rfl rfl
    · refine am_icmp_ge_f (pc' := 12) (tgt := 31) dX1_leastFrom_9 rfl z1 rfl ?_
      refine am_iload_n (pc' := 13) dX1_leastFrom_12 rfl rfl ?_
      refine am_aload_n (pc' := 14) dX1_leastFrom_13 rfl rfl ?_
      refine am_iload_n (pc' := 15) dX1_leastFrom_14 rfl rfl ?_
      refine am_iload (pc' := 17) dX1_leastFrom_15 rfl rfl ?_
      refine am_iload_n (pc' := 18) dX1_leastFrom_17 rfl rfl ?_
      obtain ⟨x2, ex2, hF⟩ := am_bind hF
      obtain ⟨ox2, px2⟩ := t_X1_sizeWith ex2
      refine am_callV1 (Mc := M_X1_sizeWith) (As := [.int v1, .int v4, .int v2]) (st := [.int v3]) (pc' := 21) dX1_leastFrom_18 cw_X1_77 wd_3_206 sl_X1_sizeWith ⟨_, rfl, rfl⟩ (by decide) (by decide) rfl rfl (Nat.le_of_ble_eq_true rfl) px2 (c_X1_sizeWith ex2) rfl ?_
      obtain ⟨x3, ex3, hF⟩ := am_bind hF
      refine am_callS1 (Mc := M_J9_min_7cf53) (As := [.int v3, .int x2]) (st := []) (pc' := 24) dX1_leastFrom_21 cw_X1_53 wd_2_21 (by decide) (by decide) rfl rfl (Nat.le_of_ble_eq_true rfl) (c_J9_min_7cf53 ex3) rfl ?_
      refine am_istore_n (ls' := [some (.ref v0), some (.int v1), some (.int v2), some (.int x3), some (.int v4)]) (pc' := 25) dX1_leastFrom_24 (Nat.le_of_ble_eq_true rfl) rfl rfl ?_
      refine am_iinc (ls' := [some (.ref v0), some (.int v1), some (.int v2), some (.int x3), some (.int (v4 + (1 : Int32)))]) (pc' := 28) (v := (v4 + (1 : Int32))) dX1_leastFrom_25 rfl rfl (Nat.le_of_ble_eq_true rfl) rfl rfl ?_
      refine am_goto (pc' := 6) dX1_leastFrom_28 rfl ?_
      exact w_X1_leastFrom_6 n v0 v1 v2 x3 (v4 + (1 : Int32)) h hF
def F_X1_leastFrom_b (v0 : Nat) (v1 : Int32) (v2 : Int32) (h : am_H) : Option Int32 :=
  F_X1_leastFrom_6 am_F v0 v1 v2 (1000000 : Int32) (0 : Int32) h
theorem w_X1_leastFrom {g : am_G} {l : Launch} {h0 : am_H} {x : Int32}  (v0 : Nat) (v1 : Int32) (v2 : Int32) (h : am_H) (hF : F_X1_leastFrom_b v0 v1 v2 h = some x) : am_W g l M_X1_leastFrom h0 (some (.int x)) h 0 [some (.ref v0), some (.int v1), some (.int v2), none, none] [] h := by
  unfold F_X1_leastFrom_b at hF
  refine am_ldc (v := (1000000 : Int32)) (pc' := 2) dX1_leastFrom_0 wd_3_203 rfl ?_
  refine am_istore_n (ls' := [some (.ref v0), some (.int v1), some (.int v2), some (.int (1000000 : Int32)), none]) (pc' := 3) dX1_leastFrom_2 (Nat.le_of_ble_eq_true rfl) rfl rfl ?_
  refine am_iconst (v := (0 : Int32)) (pc' := 4) dX1_leastFrom_3 rfl rfl ?_
  refine am_istore (ls' := [some (.ref v0), some (.int v1), some (.int v2), some (.int (1000000 : Int32)), some (.int (0 : Int32))]) (pc' := 6) dX1_leastFrom_4 (Nat.le_of_ble_eq_true rfl) rfl rfl ?_
  exact w_X1_leastFrom_6 am_F v0 v1 v2 (1000000 : Int32) (0 : Int32) h hF
def F_X1_leastFrom (v0 : Nat) (v1 : Int32) (v2 : Int32) (h : am_H) : Option Int32 := (am_obj v0 1 h).bind fun _ => F_X1_leastFrom_b v0 v1 v2 h
theorem t_X1_leastFrom {x : Int32}  {v0 : Nat} {v1 : Int32} {v2 : Int32} {h : am_H} (hF : F_X1_leastFrom v0 v1 v2 h = some x) : ∃ fs, am_obj v0 1 h = some fs := by
  obtain ⟨fs, e, _⟩ := am_bind hF
  exact ⟨fs, e⟩
theorem c_X1_leastFrom {g : am_G} {l : Launch} {x : Int32}  {v0 : Nat} {v1 : Int32} {v2 : Int32} {h : am_H} (hF : F_X1_leastFrom v0 v1 v2 h = some x) : am_Met g l M_X1_leastFrom [.ref v0, .int v1, .int v2] h (some (.int x)) h := by
  obtain ⟨fs, e0, e⟩ := am_bind hF
  exact am_met (n := 2) (by decide +kernel) rfl (Nat.le_of_ble_eq_true rfl) (w_X1_leastFrom v0 v1 v2 h e)
