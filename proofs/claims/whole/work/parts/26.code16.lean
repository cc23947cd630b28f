abbrev M_X4_sum : am_M := ((⟨"SignCellar$Row", "sum", "(II)I"⟩ : MethodName), prog_6_method_14_code, 5, (some .int), 1, 21)
theorem dX4_sum_0 : decode prog_6_method_14_code 0 = .ok (.iconst 0, 1) := by decide +kernel
theorem dX4_sum_1 : decode prog_6_method_14_code 1 = .ok (.istore_n 3, 1) := by decide +kernel
theorem dX4_sum_2 : decode prog_6_method_14_code 2 = .ok (.iload_n 1, 1) := by decide +kernel
theorem dX4_sum_3 : decode prog_6_method_14_code 3 = .ok (.istore 4, 2) := by decide +kernel
theorem dX4_sum_5 : decode prog_6_method_14_code 5 = .ok (.iload 4, 2) := by decide +kernel
theorem dX4_sum_7 : decode prog_6_method_14_code 7 = .ok (.iload_n 2, 1) := by decide +kernel
theorem dX4_sum_8 : decode prog_6_method_14_code 8 = .ok (.if_icmp .ge 18, 3) := by decide +kernel
theorem dX4_sum_11 : decode prog_6_method_14_code 11 = .ok (.iload_n 3, 1) := by decide +kernel
theorem dX4_sum_12 : decode prog_6_method_14_code 12 = .ok (.aload_n 0, 1) := by decide +kernel
theorem dX4_sum_13 : decode prog_6_method_14_code 13 = .ok (.iload 4, 2) := by decide +kernel
theorem dX4_sum_15 : decode prog_6_method_14_code 15 = .ok (.invokevirtual 25, 3) := by decide +kernel
theorem dX4_sum_18 : decode prog_6_method_14_code 18 = .ok (.iadd, 1) := by decide +kernel
theorem dX4_sum_19 : decode prog_6_method_14_code 19 = .ok (.istore_n 3, 1) := by decide +kernel
theorem dX4_sum_20 : decode prog_6_method_14_code 20 = .ok (.iinc 4 1, 3) := by decide +kernel
theorem dX4_sum_23 : decode prog_6_method_14_code 23 = .ok (.goto (-18), 3) := by decide +kernel
theorem dX4_sum_26 : decode prog_6_method_14_code 26 = .ok (.iload_n 3, 1) := by decide +kernel
theorem dX4_sum_27 : decode prog_6_method_14_code 27 = .ok (.ireturn, 1) := by decide +kernel
abbrev M_X4_least : am_M := ((⟨"SignCellar$Row", "least", "(II)I"⟩ : MethodName), prog_6_method_15_code, 5, (some .int), 1, 21)
theorem dX4_least_0 : decode prog_6_method_15_code 0 = .ok (.aload_n 0, 1) := by decide +kernel
theorem dX4_least_1 : decode prog_6_method_15_code 1 = .ok (.iload_n 1, 1) := by decide +kernel
theorem dX4_least_2 : decode prog_6_method_15_code 2 = .ok (.invokevirtual 25, 3) := by decide +kernel
theorem dX4_least_5 : decode prog_6_method_15_code 5 = .ok (.istore_n 3, 1) := by decide +kernel
theorem dX4_least_6 : decode prog_6_method_15_code 6 = .ok (.iload_n 1, 1) := by decide +kernel
theorem dX4_least_7 : decode prog_6_method_15_code 7 = .ok (.istore 4, 2) := by decide +kernel
theorem dX4_least_9 : decode prog_6_method_15_code 9 = .ok (.iload 4, 2) := by decide +kernel
theorem dX4_least_11 : decode prog_6_method_15_code 11 = .ok (.iload_n 2, 1) := by decide +kernel
theorem dX4_least_12 : decode prog_6_method_15_code 12 = .ok (.if_icmp .ge 20, 3) := by decide +kernel
theorem dX4_least_15 : decode prog_6_method_15_code 15 = .ok (.iload_n 3, 1) := by decide +kernel
theorem dX4_least_16 : decode prog_6_method_15_code 16 = .ok (.aload_n 0, 1) := by decide +kernel
theorem dX4_least_17 : decode prog_6_method_15_code 17 = .ok (.iload 4, 2) := by decide +kernel
theorem dX4_least_19 : decode prog_6_method_15_code 19 = .ok (.invokevirtual 25, 3) := by decide +kernel
theorem dX4_least_22 : decode prog_6_method_15_code 22 = .ok (.invokestatic 47, 3) := by decide +kernel
theorem dX4_least_25 : decode prog_6_method_15_code 25 = .ok (.istore_n 3, 1) := by decide +kernel
theorem dX4_least_26 : decode prog_6_method_15_code 26 = .ok (.iinc 4 1, 3) := by decide +kernel
theorem dX4_least_29 : decode prog_6_method_15_code 29 = .ok (.goto (-20), 3) := by decide +kernel
theorem dX4_least_32 : decode prog_6_method_15_code 32 = .ok (.iload_n 3, 1) := by decide +kernel
theorem dX4_least_33 : decode prog_6_method_15_code 33 = .ok (.ireturn, 1) := by decide +kernel
abbrev M_X4_greatest : am_M := ((⟨"SignCellar$Row", "greatest", "(II)I"⟩ : MethodName), prog_6_method_16_code, 5, (some .int), 1, 21)
theorem dX4_greatest_0 : decode prog_6_method_16_code 0 = .ok (.aload_n 0, 1) := by decide +kernel
theorem dX4_greatest_1 : decode prog_6_method_16_code 1 = .ok (.iload_n 1, 1) := by decide +kernel
theorem dX4_greatest_2 : decode prog_6_method_16_code 2 = .ok (.invokevirtual 25, 3) := by decide +kernel
theorem dX4_greatest_5 : decode prog_6_method_16_code 5 = .ok (.istore_n 3, 1) := by decide +kernel
theorem dX4_greatest_6 : decode prog_6_method_16_code 6 = .ok (.iload_n 1, 1) := by decide +kernel
theorem dX4_greatest_7 : decode prog_6_method_16_code 7 = .ok (.istore 4, 2) := by decide +kernel
theorem dX4_greatest_9 : decode prog_6_method_16_code 9 = .ok (.iload 4, 2) := by decide +kernel
theorem dX4_greatest_11 : decode prog_6_method_16_code 11 = .ok (.iload_n 2, 1) := by decide +kernel
theorem dX4_greatest_12 : decode prog_6_method_16_code 12 = .ok (.if_icmp .ge 20, 3) := by decide +kernel
theorem dX4_greatest_15 : decode prog_6_method_16_code 15 = .ok (.iload_n 3, 1) := by decide +kernel
theorem dX4_greatest_16 : decode prog_6_method_16_code 16 = .ok (.aload_n 0, 1) := by decide +kernel
theorem dX4_greatest_17 : decode prog_6_method_16_code 17 = .ok (.iload 4, 2) := by decide +kernel
theorem dX4_greatest_19 : decode prog_6_method_16_code 19 = .ok (.invokevirtual 25, 3) := by decide +kernel
theorem dX4_greatest_22 : decode prog_6_method_16_code 22 = .ok (.invokestatic 15, 3) := by decide +kernel
theorem dX4_greatest_25 : decode prog_6_method_16_code 25 = .ok (.istore_n 3, 1) := by decide +kernel
theorem dX4_greatest_26 : decode prog_6_method_16_code 26 = .ok (.iinc 4 1, 3) := by decide +kernel
theorem dX4_greatest_29 : decode prog_6_method_16_code 29 = .ok (.goto (-20), 3) := by decide +kernel
theorem dX4_greatest_32 : decode prog_6_method_16_code 32 = .ok (.iload_n 3, 1) := by decide +kernel
theorem dX4_greatest_33 : decode prog_6_method_16_code 33 = .ok (.ireturn, 1) := by decide +kernel
abbrev M_X8_mostOften : am_M := ((⟨"SignCellar", "mostOften", "(II)I"⟩ : MethodName), prog_1_method_63_code, 7, (some .int), 2, 46)
theorem dX8_mostOften_0 : decode prog_1_method_63_code 0 = .ok (.iconst 0, 1) := by decide +kernel
theorem dX8_mostOften_1 : decode prog_1_method_63_code 1 = .ok (.istore_n 3, 1) := by decide +kernel
theorem dX8_mostOften_2 : decode prog_1_method_63_code 2 = .ok (.iconst 0, 1) := by decide +kernel
theorem dX8_mostOften_3 : decode prog_1_method_63_code 3 = .ok (.istore 4, 2) := by decide +kernel
theorem dX8_mostOften_5 : decode prog_1_method_63_code 5 = .ok (.iconst 0, 1) := by decide +kernel
theorem dX8_mostOften_6 : decode prog_1_method_63_code 6 = .ok (.istore 5, 2) := by decide +kernel
theorem dX8_mostOften_8 : decode prog_1_method_63_code 8 = .ok (.iload 5, 2) := by decide +kernel
theorem dX8_mostOften_10 : decode prog_1_method_63_code 10 = .ok (.bipush 16, 2) := by decide +kernel
theorem dX8_mostOften_12 : decode prog_1_method_63_code 12 = .ok (.if_icmp .ge 35, 3) := by decide +kernel
theorem dX8_mostOften_15 : decode prog_1_method_63_code 15 = .ok (.aload_n 0, 1) := by decide +kernel
theorem dX8_mostOften_16 : decode prog_1_method_63_code 16 = .ok (.getfield 49, 3) := by decide +kernel
theorem dX8_mostOften_19 : decode prog_1_method_63_code 19 = .ok (.iload 5, 2) := by decide +kernel
theorem dX8_mostOften_21 : decode prog_1_method_63_code 21 = .ok (.iload_n 1, 1) := by decide +kernel
theorem dX8_mostOften_22 : decode prog_1_method_63_code 22 = .ok (.iload_n 2, 1) := by decide +kernel
theorem dX8_mostOften_23 : decode prog_1_method_63_code 23 = .ok (.invokevirtual 383, 3) := by decide +kernel
theorem dX8_mostOften_26 : decode prog_1_method_63_code 26 = .ok (.istore 6, 2) := by decide +kernel
theorem dX8_mostOften_28 : decode prog_1_method_63_code 28 = .ok (.iload 6, 2) := by decide +kernel
theorem dX8_mostOften_30 : decode prog_1_method_63_code 30 = .ok (.iload_n 3, 1) := by decide +kernel
theorem dX8_mostOften_31 : decode prog_1_method_63_code 31 = .ok (.if_icmp .le 10, 3) := by decide +kernel
theorem dX8_mostOften_34 : decode prog_1_method_63_code 34 = .ok (.iload 6, 2) := by decide +kernel
theorem dX8_mostOften_36 : decode prog_1_method_63_code 36 = .ok (.istore_n 3, 1) := by decide +kernel
theorem dX8_mostOften_37 : decode prog_1_method_63_code 37 = .ok (.iload 5, 2) := by decide +kernel
theorem dX8_mostOften_39 : decode prog_1_method_63_code 39 = .ok (.istore 4, 2) := by decide +kernel
theorem dX8_mostOften_41 : decode prog_1_method_63_code 41 = .ok (.iinc 5 1, 3) := by decide +kernel
theorem dX8_mostOften_44 : decode prog_1_method_63_code 44 = .ok (.goto (-36), 3) := by decide +kernel
theorem dX8_mostOften_47 : decode prog_1_method_63_code 47 = .ok (.iload 4, 2) := by decide +kernel
theorem dX8_mostOften_49 : decode prog_1_method_63_code 49 = .ok (.ireturn, 1) := by decide +kernel
abbrev M_X8_span : am_M := ((⟨"SignCellar", "span", "(IIII)I"⟩ : MethodName), prog_1_method_23_code, 7, (some .int), 3, 72)
theorem dX8_span_0 : decode prog_1_method_23_code 0 = .ok (.aload_n 0, 1) := by decide +kernel
theorem dX8_span_1 : decode prog_1_method_23_code 1 = .ok (.iload_n 1, 1) := by decide +kernel
theorem dX8_span_2 : decode prog_1_method_23_code 2 = .ok (.invokevirtual 126, 3) := by decide +kernel
theorem dX8_span_5 : decode prog_1_method_23_code 5 = .ok (.astore 5, 2) := by decide +kernel
theorem dX8_span_7 : decode prog_1_method_23_code 7 = .ok (.aload 5, 2) := by decide +kernel
theorem dX8_span_9 : decode prog_1_method_23_code 9 = .ok (.ifnull 21, 3) := by decide +kernel
theorem dX8_span_12 : decode prog_1_method_23_code 12 = .ok (.iload_n 2, 1) := by decide +kernel
theorem dX8_span_13 : decode prog_1_method_23_code 13 = .ok (.ifCond .lt 17, 3) := by decide +kernel
theorem dX8_span_16 : decode prog_1_method_23_code 16 = .ok (.iload_n 3, 1) := by decide +kernel
theorem dX8_span_17 : decode prog_1_method_23_code 17 = .ok (.aload 5, 2) := by decide +kernel
theorem dX8_span_19 : decode prog_1_method_23_code 19 = .ok (.getfield 130, 3) := by decide +kernel
theorem dX8_span_22 : decode prog_1_method_23_code 22 = .ok (.if_icmp .gt 8, 3) := by decide +kernel
theorem dX8_span_25 : decode prog_1_method_23_code 25 = .ok (.iload_n 2, 1) := by decide +kernel
theorem dX8_span_26 : decode prog_1_method_23_code 26 = .ok (.iload_n 3, 1) := by decide +kernel
theorem dX8_span_27 : decode prog_1_method_23_code 27 = .ok (.if_icmp .lt 6, 3) := by decide +kernel
theorem dX8_span_30 : decode prog_1_method_23_code 30 = .ok (.ldc 133, 2) := by decide +kernel
theorem dX8_span_32 : decode prog_1_method_23_code 32 = .ok (.ireturn, 1) := by decide +kernel
theorem dX8_span_33 : decode prog_1_method_23_code 33 = .ok (.iload 4, 2) := by decide +kernel
theorem dX8_span_35 : decode prog_1_method_23_code 35 = .ok (.ifCond .lt 9, 3) := by decide +kernel
theorem dX8_span_38 : decode prog_1_method_23_code 38 = .ok (.iload 4, 2) := by decide +kernel
theorem dX8_span_40 : decode prog_1_method_23_code 40 = .ok (.iconst 3, 1) := by decide +kernel
theorem dX8_span_41 : decode prog_1_method_23_code 41 = .ok (.if_icmp .le 6, 3) := by decide +kernel
theorem dX8_span_44 : decode prog_1_method_23_code 44 = .ok (.ldc 92, 2) := by decide +kernel
theorem dX8_span_46 : decode prog_1_method_23_code 46 = .ok (.ireturn, 1) := by decide +kernel
theorem dX8_span_47 : decode prog_1_method_23_code 47 = .ok (.aload_n 0, 1) := by decide +kernel
theorem dX8_span_48 : decode prog_1_method_23_code 48 = .ok (.aload 5, 2) := by decide +kernel
theorem dX8_span_50 : decode prog_1_method_23_code 50 = .ok (.iload_n 2, 1) := by decide +kernel
theorem dX8_span_51 : decode prog_1_method_23_code 51 = .ok (.invokevirtual 141, 3) := by decide +kernel
theorem dX8_span_54 : decode prog_1_method_23_code 54 = .ok (.istore 6, 2) := by decide +kernel
theorem dX8_span_56 : decode prog_1_method_23_code 56 = .ok (.iload 6, 2) := by decide +kernel
theorem dX8_span_58 : decode prog_1_method_23_code 58 = .ok (.aload_n 0, 1) := by decide +kernel
theorem dX8_span_59 : decode prog_1_method_23_code 59 = .ok (.aload 5, 2) := by decide +kernel
theorem dX8_span_61 : decode prog_1_method_23_code 61 = .ok (.iload_n 3, 1) := by decide +kernel
theorem dX8_span_62 : decode prog_1_method_23_code 62 = .ok (.iconst 1, 1) := by decide +kernel
theorem dX8_span_63 : decode prog_1_method_23_code 63 = .ok (.isub, 1) := by decide +kernel
theorem dX8_span_64 : decode prog_1_method_23_code 64 = .ok (.invokevirtual 141, 3) := by decide +kernel
theorem dX8_span_67 : decode prog_1_method_23_code 67 = .ok (.if_icmp .gt 23, 3) := by decide +kernel
theorem dX8_span_70 : decode prog_1_method_23_code 70 = .ok (.aload_n 0, 1) := by decide +kernel
theorem dX8_span_71 : decode prog_1_method_23_code 71 = .ok (.aload 5, 2) := by decide +kernel
theorem dX8_span_73 : decode prog_1_method_23_code 73 = .ok (.iload 6, 2) := by decide +kernel
theorem dX8_span_75 : decode prog_1_method_23_code 75 = .ok (.invokevirtual 164, 3) := by decide +kernel
theorem dX8_span_78 : decode prog_1_method_23_code 78 = .ok (.ifCond .eq 6, 3) := by decide +kernel
theorem dX8_span_81 : decode prog_1_method_23_code 81 = .ok (.ldc 168, 2) := by decide +kernel
theorem dX8_span_83 : decode prog_1_method_23_code 83 = .ok (.ireturn, 1) := by decide +kernel
theorem dX8_span_84 : decode prog_1_method_23_code 84 = .ok (.iinc 6 1, 3) := by decide +kernel
theorem dX8_span_87 : decode prog_1_method_23_code 87 = .ok (.goto (-31), 3) := by decide +kernel
theorem dX8_span_90 : decode prog_1_method_23_code 90 = .ok (.aload_n 0, 1) := by decide +kernel
theorem dX8_span_91 : decode prog_1_method_23_code 91 = .ok (.aload 5, 2) := by decide +kernel
theorem dX8_span_93 : decode prog_1_method_23_code 93 = .ok (.invokevirtual 272, 3) := by decide +kernel
theorem dX8_span_96 : decode prog_1_method_23_code 96 = .ok (.iload 4, 2) := by decide +kernel
theorem dX8_span_98 : decode prog_1_method_23_code 98 = .ok (.tableswitch 56 0 2 #[26, 36, 46], 26) := by decide +kernel
theorem dX8_span_124 : decode prog_1_method_23_code 124 = .ok (.aload_n 0, 1) := by decide +kernel
theorem dX8_span_125 : decode prog_1_method_23_code 125 = .ok (.getfield 49, 3) := by decide +kernel
theorem dX8_span_128 : decode prog_1_method_23_code 128 = .ok (.iload_n 2, 1) := by decide +kernel
theorem dX8_span_129 : decode prog_1_method_23_code 129 = .ok (.iload_n 3, 1) := by decide +kernel
theorem dX8_span_130 : decode prog_1_method_23_code 130 = .ok (.invokevirtual 279, 3) := by decide +kernel
theorem dX8_span_133 : decode prog_1_method_23_code 133 = .ok (.ireturn, 1) := by decide +kernel
theorem dX8_span_134 : decode prog_1_method_23_code 134 = .ok (.aload_n 0, 1) := by decide +kernel
theorem dX8_span_135 : decode prog_1_method_23_code 135 = .ok (.getfield 49, 3) := by decide +kernel
theorem dX8_span_138 : decode prog_1_method_23_code 138 = .ok (.iload_n 2, 1) := by decide +kernel
theorem dX8_span_139 : decode prog_1_method_23_code 139 = .ok (.iload_n 3, 1) := by decide +kernel
theorem dX8_span_140 : decode prog_1_method_23_code 140 = .ok (.invokevirtual 282, 3) := by decide +kernel
theorem dX8_span_143 : decode prog_1_method_23_code 143 = .ok (.ireturn, 1) := by decide +kernel
theorem dX8_span_144 : decode prog_1_method_23_code 144 = .ok (.aload_n 0, 1) := by decide +kernel
theorem dX8_span_145 : decode prog_1_method_23_code 145 = .ok (.getfield 49, 3) := by decide +kernel
theorem dX8_span_148 : decode prog_1_method_23_code 148 = .ok (.iload_n 2, 1) := by decide +kernel
theorem dX8_span_149 : decode prog_1_method_23_code 149 = .ok (.iload_n 3, 1) := by decide +kernel
theorem dX8_span_150 : decode prog_1_method_23_code 150 = .ok (.invokevirtual 285, 3) := by decide +kernel
theorem dX8_span_153 : decode prog_1_method_23_code 153 = .ok (.ireturn, 1) := by decide +kernel
theorem dX8_span_154 : decode prog_1_method_23_code 154 = .ok (.aload_n 0, 1) := by decide +kernel
theorem dX8_span_155 : decode prog_1_method_23_code 155 = .ok (.iload_n 2, 1) := by decide +kernel
theorem dX8_span_156 : decode prog_1_method_23_code 156 = .ok (.iload_n 3, 1) := by decide +kernel
theorem dX8_span_157 : decode prog_1_method_23_code 157 = .ok (.invokevirtual 288, 3) := by decide +kernel
theorem dX8_span_160 : decode prog_1_method_23_code 160 = .ok (.ireturn, 1) := by decide +kernel
abbrev M_X9_span : am_M := ((⟨"SignCellarModel", "span", "(IIII)I"⟩ : MethodName), prog_11_method_64_code, 13, (some .int), 3, 66)
theorem dX9_span_0 : decode prog_11_method_64_code 0 = .ok (.aload_n 0, 1) := by decide +kernel
theorem dX9_span_1 : decode prog_11_method_64_code 1 = .ok (.iload_n 1, 1) := by decide +kernel
theorem dX9_span_2 : decode prog_11_method_64_code 2 = .ok (.invokevirtual 154, 3) := by decide +kernel
theorem dX9_span_5 : decode prog_11_method_64_code 5 = .ok (.ifCond .ne 36, 3) := by decide +kernel
theorem dX9_span_8 : decode prog_11_method_64_code 8 = .ok (.iload_n 2, 1) := by decide +kernel
theorem dX9_span_9 : decode prog_11_method_64_code 9 = .ok (.i2l, 1) := by decide +kernel
theorem dX9_span_10 : decode prog_11_method_64_code 10 = .ok (.lconst 0, 1) := by decide +kernel
theorem dX9_span_11 : decode prog_11_method_64_code 11 = .ok (.aload_n 0, 1) := by decide +kernel
theorem dX9_span_12 : decode prog_11_method_64_code 12 = .ok (.iload_n 1, 1) := by decide +kernel
theorem dX9_span_13 : decode prog_11_method_64_code 13 = .ok (.invokevirtual 157, 3) := by decide +kernel
theorem dX9_span_16 : decode prog_11_method_64_code 16 = .ok (.i2l, 1) := by decide +kernel
theorem dX9_span_17 : decode prog_11_method_64_code 17 = .ok (.invokestatic 96, 3) := by decide +kernel
theorem dX9_span_20 : decode prog_11_method_64_code 20 = .ok (.ifCond .eq 21, 3) := by decide +kernel
theorem dX9_span_23 : decode prog_11_method_64_code 23 = .ok (.iload_n 3, 1) := by decide +kernel
theorem dX9_span_24 : decode prog_11_method_64_code 24 = .ok (.i2l, 1) := by decide +kernel
theorem dX9_span_25 : decode prog_11_method_64_code 25 = .ok (.iload_n 2, 1) := by decide +kernel
theorem dX9_span_26 : decode prog_11_method_64_code 26 = .ok (.iconst 1, 1) := by decide +kernel
theorem dX9_span_27 : decode prog_11_method_64_code 27 = .ok (.iadd, 1) := by decide +kernel
theorem dX9_span_28 : decode prog_11_method_64_code 28 = .ok (.i2l, 1) := by decide +kernel
theorem dX9_span_29 : decode prog_11_method_64_code 29 = .ok (.aload_n 0, 1) := by decide +kernel
theorem dX9_span_30 : decode prog_11_method_64_code 30 = .ok (.iload_n 1, 1) := by decide +kernel
theorem dX9_span_31 : decode prog_11_method_64_code 31 = .ok (.invokevirtual 157, 3) := by decide +kernel
theorem dX9_span_34 : decode prog_11_method_64_code 34 = .ok (.i2l, 1) := by decide +kernel
theorem dX9_span_35 : decode prog_11_method_64_code 35 = .ok (.invokestatic 96, 3) := by decide +kernel
theorem dX9_span_38 : decode prog_11_method_64_code 38 = .ok (.ifCond .ne 6, 3) := by decide +kernel
theorem dX9_span_41 : decode prog_11_method_64_code 41 = .ok (.ldc 164, 2) := by decide +kernel
theorem dX9_span_43 : decode prog_11_method_64_code 43 = .ok (.ireturn, 1) := by decide +kernel
theorem dX9_span_44 : decode prog_11_method_64_code 44 = .ok (.iload 4, 2) := by decide +kernel
theorem dX9_span_46 : decode prog_11_method_64_code 46 = .ok (.i2l, 1) := by decide +kernel
theorem dX9_span_47 : decode prog_11_method_64_code 47 = .ok (.lconst 0, 1) := by decide +kernel
theorem dX9_span_48 : decode prog_11_method_64_code 48 = .ok (.ldc2_w 291, 3) := by decide +kernel
theorem dX9_span_51 : decode prog_11_method_64_code 51 = .ok (.invokestatic 96, 3) := by decide +kernel
theorem dX9_span_54 : decode prog_11_method_64_code 54 = .ok (.ifCond .ne 6, 3) := by decide +kernel
theorem dX9_span_57 : decode prog_11_method_64_code 57 = .ok (.ldc 105, 2) := by decide +kernel
theorem dX9_span_59 : decode prog_11_method_64_code 59 = .ok (.ireturn, 1) := by decide +kernel
theorem dX9_span_60 : decode prog_11_method_64_code 60 = .ok (.iconst 0, 1) := by decide +kernel
theorem dX9_span_61 : decode prog_11_method_64_code 61 = .ok (.istore 5, 2) := by decide +kernel
theorem dX9_span_63 : decode prog_11_method_64_code 63 = .ok (.bipush 16, 2) := by decide +kernel
theorem dX9_span_65 : decode prog_11_method_64_code 65 = .ok (.istore 6, 2) := by decide +kernel
theorem dX9_span_67 : decode prog_11_method_64_code 67 = .ok (.iconst (-1), 1) := by decide +kernel
theorem dX9_span_68 : decode prog_11_method_64_code 68 = .ok (.istore 7, 2) := by decide +kernel
theorem dX9_span_70 : decode prog_11_method_64_code 70 = .ok (.iconst 0, 1) := by decide +kernel
theorem dX9_span_71 : decode prog_11_method_64_code 71 = .ok (.istore 8, 2) := by decide +kernel
theorem dX9_span_73 : decode prog_11_method_64_code 73 = .ok (.iconst (-1), 1) := by decide +kernel
theorem dX9_span_74 : decode prog_11_method_64_code 74 = .ok (.istore 9, 2) := by decide +kernel
theorem dX9_span_76 : decode prog_11_method_64_code 76 = .ok (.iload_n 2, 1) := by decide +kernel
theorem dX9_span_77 : decode prog_11_method_64_code 77 = .ok (.istore 10, 2) := by decide +kernel
theorem dX9_span_79 : decode prog_11_method_64_code 79 = .ok (.iload 10, 2) := by decide +kernel
theorem dX9_span_81 : decode prog_11_method_64_code 81 = .ok (.iload_n 3, 1) := by decide +kernel
theorem dX9_span_82 : decode prog_11_method_64_code 82 = .ok (.if_icmp .ge 94, 3) := by decide +kernel
theorem dX9_span_85 : decode prog_11_method_64_code 85 = .ok (.aload_n 0, 1) := by decide +kernel
theorem dX9_span_86 : decode prog_11_method_64_code 86 = .ok (.iload_n 1, 1) := by decide +kernel
theorem dX9_span_87 : decode prog_11_method_64_code 87 = .ok (.iload 10, 2) := by decide +kernel
theorem dX9_span_89 : decode prog_11_method_64_code 89 = .ok (.invokevirtual 169, 3) := by decide +kernel
theorem dX9_span_92 : decode prog_11_method_64_code 92 = .ok (.aload_n 0, 1) := by decide +kernel
theorem dX9_span_93 : decode prog_11_method_64_code 93 = .ok (.getfield 19, 3) := by decide +kernel
theorem dX9_span_96 : decode prog_11_method_64_code 96 = .ok (.aload_n 0, 1) := by decide +kernel
theorem dX9_span_97 : decode prog_11_method_64_code 97 = .ok (.iload_n 1, 1) := by decide +kernel
theorem dX9_span_98 : decode prog_11_method_64_code 98 = .ok (.aload_n 0, 1) := by decide +kernel
theorem dX9_span_99 : decode prog_11_method_64_code 99 = .ok (.getfield 144, 3) := by decide +kernel
theorem dX9_span_102 : decode prog_11_method_64_code 102 = .ok (.invokevirtual 141, 3) := by decide +kernel
theorem dX9_span_105 : decode prog_11_method_64_code 105 = .ok (.baload, 1) := by decide +kernel
theorem dX9_span_106 : decode prog_11_method_64_code 106 = .ok (.ifCond .eq 6, 3) := by decide +kernel
theorem dX9_span_109 : decode prog_11_method_64_code 109 = .ok (.ldc 168, 2) := by decide +kernel
theorem dX9_span_111 : decode prog_11_method_64_code 111 = .ok (.ireturn, 1) := by decide +kernel
theorem dX9_span_112 : decode prog_11_method_64_code 112 = .ok (.aload_n 0, 1) := by decide +kernel
theorem dX9_span_113 : decode prog_11_method_64_code 113 = .ok (.aload_n 0, 1) := by decide +kernel
theorem dX9_span_114 : decode prog_11_method_64_code 114 = .ok (.iload_n 1, 1) := by decide +kernel
theorem dX9_span_115 : decode prog_11_method_64_code 115 = .ok (.aload_n 0, 1) := by decide +kernel
theorem dX9_span_116 : decode prog_11_method_64_code 116 = .ok (.getfield 144, 3) := by decide +kernel
theorem dX9_span_119 : decode prog_11_method_64_code 119 = .ok (.invokevirtual 141, 3) := by decide +kernel
theorem dX9_span_122 : decode prog_11_method_64_code 122 = .ok (.aload_n 0, 1) := by decide +kernel
theorem dX9_span_123 : decode prog_11_method_64_code 123 = .ok (.getfield 147, 3) := by decide +kernel
theorem dX9_span_126 : decode prog_11_method_64_code 126 = .ok (.invokevirtual 113, 3) := by decide +kernel
theorem dX9_span_129 : decode prog_11_method_64_code 129 = .ok (.istore 11, 2) := by decide +kernel
theorem dX9_span_131 : decode prog_11_method_64_code 131 = .ok (.iload 5, 2) := by decide +kernel
theorem dX9_span_133 : decode prog_11_method_64_code 133 = .ok (.iload 11, 2) := by decide +kernel
theorem dX9_span_135 : decode prog_11_method_64_code 135 = .ok (.iadd, 1) := by decide +kernel
theorem dX9_span_136 : decode prog_11_method_64_code 136 = .ok (.istore 5, 2) := by decide +kernel
theorem dX9_span_138 : decode prog_11_method_64_code 138 = .ok (.iload 11, 2) := by decide +kernel
theorem dX9_span_140 : decode prog_11_method_64_code 140 = .ok (.iload 6, 2) := by decide +kernel
theorem dX9_span_142 : decode prog_11_method_64_code 142 = .ok (.if_icmp .ge 8, 3) := by decide +kernel
theorem dX9_span_145 : decode prog_11_method_64_code 145 = .ok (.iload 11, 2) := by decide +kernel
theorem dX9_span_147 : decode prog_11_method_64_code 147 = .ok (.goto 5, 3) := by decide +kernel
theorem dX9_span_150 : decode prog_11_method_64_code 150 = .ok (.iload 6, 2) := by decide +kernel
theorem dX9_span_152 : decode prog_11_method_64_code 152 = .ok (.istore 6, 2) := by decide +kernel
theorem dX9_span_154 : decode prog_11_method_64_code 154 = .ok (.iload 11, 2) := by decide +kernel
theorem dX9_span_156 : decode prog_11_method_64_code 156 = .ok (.iload 7, 2) := by decide +kernel
theorem dX9_span_158 : decode prog_11_method_64_code 158 = .ok (.if_icmp .le 8, 3) := by decide +kernel
theorem dX9_span_161 : decode prog_11_method_64_code 161 = .ok (.iload 11, 2) := by decide +kernel
theorem dX9_span_163 : decode prog_11_method_64_code 163 = .ok (.goto 5, 3) := by decide +kernel
theorem dX9_span_166 : decode prog_11_method_64_code 166 = .ok (.iload 7, 2) := by decide +kernel
theorem dX9_span_168 : decode prog_11_method_64_code 168 = .ok (.istore 7, 2) := by decide +kernel
theorem dX9_span_170 : decode prog_11_method_64_code 170 = .ok (.iinc 10 1, 3) := by decide +kernel
theorem dX9_span_173 : decode prog_11_method_64_code 173 = .ok (.goto (-94), 3) := by decide +kernel
theorem dX9_span_176 : decode prog_11_method_64_code 176 = .ok (.iconst 0, 1) := by decide +kernel
theorem dX9_span_177 : decode prog_11_method_64_code 177 = .ok (.istore 10, 2) := by decide +kernel
theorem dX9_span_179 : decode prog_11_method_64_code 179 = .ok (.iload 10, 2) := by decide +kernel
theorem dX9_span_181 : decode prog_11_method_64_code 181 = .ok (.bipush 16, 2) := by decide +kernel
theorem dX9_span_183 : decode prog_11_method_64_code 183 = .ok (.if_icmp .ge 84, 3) := by decide +kernel
theorem dX9_span_186 : decode prog_11_method_64_code 186 = .ok (.iconst 0, 1) := by decide +kernel
theorem dX9_span_187 : decode prog_11_method_64_code 187 = .ok (.istore 11, 2) := by decide +kernel
theorem dX9_span_189 : decode prog_11_method_64_code 189 = .ok (.iload_n 2, 1) := by decide +kernel
theorem dX9_span_190 : decode prog_11_method_64_code 190 = .ok (.istore 12, 2) := by decide +kernel
theorem dX9_span_192 : decode prog_11_method_64_code 192 = .ok (.iload 12, 2) := by decide +kernel
theorem dX9_span_194 : decode prog_11_method_64_code 194 = .ok (.iload_n 3, 1) := by decide +kernel
theorem dX9_span_195 : decode prog_11_method_64_code 195 = .ok (.if_icmp .ge 34, 3) := by decide +kernel
theorem dX9_span_198 : decode prog_11_method_64_code 198 = .ok (.iload 11, 2) := by decide +kernel
theorem dX9_span_200 : decode prog_11_method_64_code 200 = .ok (.aload_n 0, 1) := by decide +kernel
theorem dX9_span_201 : decode prog_11_method_64_code 201 = .ok (.iload_n 1, 1) := by decide +kernel
theorem dX9_span_202 : decode prog_11_method_64_code 202 = .ok (.iload 12, 2) := by decide +kernel
theorem dX9_span_204 : decode prog_11_method_64_code 204 = .ok (.invokevirtual 293, 3) := by decide +kernel
theorem dX9_span_207 : decode prog_11_method_64_code 207 = .ok (.iload 10, 2) := by decide +kernel
theorem dX9_span_209 : decode prog_11_method_64_code 209 = .ok (.if_icmp .ne 7, 3) := by decide +kernel
theorem dX9_span_212 : decode prog_11_method_64_code 212 = .ok (.iconst 1, 1) := by decide +kernel
theorem dX9_span_213 : decode prog_11_method_64_code 213 = .ok (.goto 4, 3) := by decide +kernel
theorem dX9_span_216 : decode prog_11_method_64_code 216 = .ok (.iconst 0, 1) := by decide +kernel
theorem dX9_span_217 : decode prog_11_method_64_code 217 = .ok (.invokestatic 150, 3) := by decide +kernel
theorem dX9_span_220 : decode prog_11_method_64_code 220 = .ok (.iadd, 1) := by decide +kernel
theorem dX9_span_221 : decode prog_11_method_64_code 221 = .ok (.istore 11, 2) := by decide +kernel
theorem dX9_span_223 : decode prog_11_method_64_code 223 = .ok (.iinc 12 1, 3) := by decide +kernel
theorem dX9_span_226 : decode prog_11_method_64_code 226 = .ok (.goto (-34), 3) := by decide +kernel
theorem dX9_span_229 : decode prog_11_method_64_code 229 = .ok (.iload 11, 2) := by decide +kernel
theorem dX9_span_231 : decode prog_11_method_64_code 231 = .ok (.iload 8, 2) := by decide +kernel
theorem dX9_span_233 : decode prog_11_method_64_code 233 = .ok (.if_icmp .le 8, 3) := by decide +kernel
theorem dX9_span_236 : decode prog_11_method_64_code 236 = .ok (.iload 10, 2) := by decide +kernel
theorem dX9_span_238 : decode prog_11_method_64_code 238 = .ok (.goto 5, 3) := by decide +kernel
theorem dX9_span_241 : decode prog_11_method_64_code 241 = .ok (.iload 9, 2) := by decide +kernel
theorem dX9_span_243 : decode prog_11_method_64_code 243 = .ok (.istore 9, 2) := by decide +kernel
theorem dX9_span_245 : decode prog_11_method_64_code 245 = .ok (.iload 11, 2) := by decide +kernel
theorem dX9_span_247 : decode prog_11_method_64_code 247 = .ok (.iload 8, 2) := by decide +kernel
theorem dX9_span_249 : decode prog_11_method_64_code 249 = .ok (.if_icmp .le 8, 3) := by decide +kernel
theorem dX9_span_252 : decode prog_11_method_64_code 252 = .ok (.iload 11, 2) := by decide +kernel
theorem dX9_span_254 : decode prog_11_method_64_code 254 = .ok (.goto 5, 3) := by decide +kernel
theorem dX9_span_257 : decode prog_11_method_64_code 257 = .ok (.iload 8, 2) := by decide +kernel
theorem dX9_span_259 : decode prog_11_method_64_code 259 = .ok (.istore 8, 2) := by decide +kernel
theorem dX9_span_261 : decode prog_11_method_64_code 261 = .ok (.iinc 10 1, 3) := by decide +kernel
theorem dX9_span_264 : decode prog_11_method_64_code 264 = .ok (.goto (-85), 3) := by decide +kernel
theorem dX9_span_267 : decode prog_11_method_64_code 267 = .ok (.iload 4, 2) := by decide +kernel
theorem dX9_span_269 : decode prog_11_method_64_code 269 = .ok (.ifCond .ne 8, 3) := by decide +kernel
theorem dX9_span_272 : decode prog_11_method_64_code 272 = .ok (.iload 5, 2) := by decide +kernel
theorem dX9_span_274 : decode prog_11_method_64_code 274 = .ok (.goto 27, 3) := by decide +kernel
theorem dX9_span_277 : decode prog_11_method_64_code 277 = .ok (.iload 4, 2) := by decide +kernel
theorem dX9_span_279 : decode prog_11_method_64_code 279 = .ok (.iconst 1, 1) := by decide +kernel
theorem dX9_span_280 : decode prog_11_method_64_code 280 = .ok (.if_icmp .ne 8, 3) := by decide +kernel
theorem dX9_span_283 : decode prog_11_method_64_code 283 = .ok (.iload 6, 2) := by decide +kernel
theorem dX9_span_285 : decode prog_11_method_64_code 285 = .ok (.goto 16, 3) := by decide +kernel
theorem dX9_span_288 : decode prog_11_method_64_code 288 = .ok (.iload 4, 2) := by decide +kernel
theorem dX9_span_290 : decode prog_11_method_64_code 290 = .ok (.iconst 2, 1) := by decide +kernel
theorem dX9_span_291 : decode prog_11_method_64_code 291 = .ok (.if_icmp .ne 8, 3) := by decide +kernel
theorem dX9_span_294 : decode prog_11_method_64_code 294 = .ok (.iload 7, 2) := by decide +kernel
theorem dX9_span_296 : decode prog_11_method_64_code 296 = .ok (.goto 5, 3) := by decide +kernel
theorem dX9_span_299 : decode prog_11_method_64_code 299 = .ok (.iload 9, 2) := by decide +kernel
theorem dX9_span_301 : decode prog_11_method_64_code 301 = .ok (.ireturn, 1) := by decide +kernel
abbrev M_X4_set : am_M := ((⟨"SignCellar$Row", "set", "(II)V"⟩ : MethodName), prog_6_method_4_code, 3, none, 0, 0)
theorem dX4_set_0 : decode prog_6_method_4_code 0 = .ok (.iload_n 1, 1) := by decide +kernel
theorem dX4_set_1 : decode prog_6_method_4_code 1 = .ok (.ifCond .lt 27, 3) := by decide +kernel
theorem dX4_set_4 : decode prog_6_method_4_code 4 = .ok (.iload_n 1, 1) := by decide +kernel
theorem dX4_set_5 : decode prog_6_method_4_code 5 = .ok (.aload_n 0, 1) := by decide +kernel
theorem dX4_set_6 : decode prog_6_method_4_code 6 = .ok (.getfield 9, 3) := by decide +kernel
theorem dX4_set_9 : decode prog_6_method_4_code 9 = .ok (.if_icmp .ge 19, 3) := by decide +kernel
theorem dX4_set_12 : decode prog_6_method_4_code 12 = .ok (.iload_n 1, 1) := by decide +kernel
theorem dX4_set_13 : decode prog_6_method_4_code 13 = .ok (.aload_n 0, 1) := by decide +kernel
theorem dX4_set_14 : decode prog_6_method_4_code 14 = .ok (.getfield 21, 3) := by decide +kernel
theorem dX4_set_17 : decode prog_6_method_4_code 17 = .ok (.arraylength, 1) := by decide +kernel
theorem dX4_set_18 : decode prog_6_method_4_code 18 = .ok (.if_icmp .ge 10, 3) := by decide +kernel
theorem dX4_set_21 : decode prog_6_method_4_code 21 = .ok (.aload_n 0, 1) := by decide +kernel
theorem dX4_set_22 : decode prog_6_method_4_code 22 = .ok (.getfield 21, 3) := by decide +kernel
theorem dX4_set_25 : decode prog_6_method_4_code 25 = .ok (.iload_n 1, 1) := by decide +kernel
theorem dX4_set_26 : decode prog_6_method_4_code 26 = .ok (.iload_n 2, 1) := by decide +kernel
theorem dX4_set_27 : decode prog_6_method_4_code 27 = .ok (.iastore, 1) := by decide +kernel
theorem dX4_set_28 : decode prog_6_method_4_code 28 = .ok (.return_, 1) := by decide +kernel
abbrev M_X0_lose : am_M := ((⟨"SignCellar$Block", "lose", "()V"⟩ : MethodName), prog_2_method_3_code, 2, none, 1, 22)
theorem dX0_lose_0 : decode prog_2_method_3_code 0 = .ok (.aload_n 0, 1) := by decide +kernel
theorem dX0_lose_1 : decode prog_2_method_3_code 1 = .ok (.iconst 1, 1) := by decide +kernel
theorem dX0_lose_2 : decode prog_2_method_3_code 2 = .ok (.putfield 23, 3) := by decide +kernel
theorem dX0_lose_5 : decode prog_2_method_3_code 5 = .ok (.iconst 0, 1) := by decide +kernel
theorem dX0_lose_6 : decode prog_2_method_3_code 6 = .ok (.istore_n 1, 1) := by decide +kernel
theorem dX0_lose_7 : decode prog_2_method_3_code 7 = .ok (.iload_n 1, 1) := by decide +kernel
theorem dX0_lose_8 : decode prog_2_method_3_code 8 = .ok (.aload_n 0, 1) := by decide +kernel
theorem dX0_lose_9 : decode prog_2_method_3_code 9 = .ok (.getfield 27, 3) := by decide +kernel
theorem dX0_lose_12 : decode prog_2_method_3_code 12 = .ok (.invokevirtual 37, 3) := by decide +kernel
theorem dX0_lose_15 : decode prog_2_method_3_code 15 = .ok (.if_icmp .ge 18, 3) := by decide +kernel
theorem dX0_lose_18 : decode prog_2_method_3_code 18 = .ok (.aload_n 0, 1) := by decide +kernel
theorem dX0_lose_19 : decode prog_2_method_3_code 19 = .ok (.getfield 27, 3) := by decide +kernel
theorem dX0_lose_22 : decode prog_2_method_3_code 22 = .ok (.iload_n 1, 1) := by decide +kernel
theorem dX0_lose_23 : decode prog_2_method_3_code 23 = .ok (.iconst 0, 1) := by decide +kernel
theorem dX0_lose_24 : decode prog_2_method_3_code 24 = .ok (.invokevirtual 41, 3) := by decide +kernel
theorem dX0_lose_27 : decode prog_2_method_3_code 27 = .ok (.iinc 1 1, 3) := by decide +kernel
theorem dX0_lose_30 : decode prog_2_method_3_code 30 = .ok (.goto (-23), 3) := by decide +kernel
theorem dX0_lose_33 : decode prog_2_method_3_code 33 = .ok (.return_, 1) := by decide +kernel
abbrev M_X8_tear : am_M := ((⟨"SignCellar", "tear", "(I)I"⟩ : MethodName), prog_1_method_24_code, 3, (some .int), 2, 43)
theorem dX8_tear_0 : decode prog_1_method_24_code 0 = .ok (.aload_n 0, 1) := by decide +kernel
theorem dX8_tear_1 : decode prog_1_method_24_code 1 = .ok (.iload_n 1, 1) := by decide +kernel
theorem dX8_tear_2 : decode prog_1_method_24_code 2 = .ok (.invokevirtual 176, 3) := by decide +kernel
theorem dX8_tear_5 : decode prog_1_method_24_code 5 = .ok (.astore_n 2, 1) := by decide +kernel
theorem dX8_tear_6 : decode prog_1_method_24_code 6 = .ok (.aload_n 2, 1) := by decide +kernel
theorem dX8_tear_7 : decode prog_1_method_24_code 7 = .ok (.ifnonnull 6, 3) := by decide +kernel
theorem dX8_tear_10 : decode prog_1_method_24_code 10 = .ok (.ldc 133, 2) := by decide +kernel
theorem dX8_tear_12 : decode prog_1_method_24_code 12 = .ok (.ireturn, 1) := by decide +kernel
theorem dX8_tear_13 : decode prog_1_method_24_code 13 = .ok (.aload_n 2, 1) := by decide +kernel
theorem dX8_tear_14 : decode prog_1_method_24_code 14 = .ok (.getfield 182, 3) := by decide +kernel
theorem dX8_tear_17 : decode prog_1_method_24_code 17 = .ok (.ifCond .eq 6, 3) := by decide +kernel
theorem dX8_tear_20 : decode prog_1_method_24_code 20 = .ok (.ldc 101, 2) := by decide +kernel
theorem dX8_tear_22 : decode prog_1_method_24_code 22 = .ok (.ireturn, 1) := by decide +kernel
theorem dX8_tear_23 : decode prog_1_method_24_code 23 = .ok (.aload_n 2, 1) := by decide +kernel
theorem dX8_tear_24 : decode prog_1_method_24_code 24 = .ok (.invokevirtual 291, 3) := by decide +kernel
theorem dX8_tear_27 : decode prog_1_method_24_code 27 = .ok (.iconst 1, 1) := by decide +kernel
theorem dX8_tear_28 : decode prog_1_method_24_code 28 = .ok (.ireturn, 1) := by decide +kernel
abbrev M_X9_tear : am_M := ((⟨"SignCellarModel", "tear", "(I)I"⟩ : MethodName), prog_11_method_65_code, 2, (some .int), 2, 46)
theorem dX9_tear_0 : decode prog_11_method_65_code 0 = .ok (.aload_n 0, 1) := by decide +kernel
theorem dX9_tear_1 : decode prog_11_method_65_code 1 = .ok (.iload_n 1, 1) := by decide +kernel
theorem dX9_tear_2 : decode prog_11_method_65_code 2 = .ok (.invokevirtual 184, 3) := by decide +kernel
theorem dX9_tear_5 : decode prog_11_method_65_code 5 = .ok (.ifCond .eq 6, 3) := by decide +kernel
theorem dX9_tear_8 : decode prog_11_method_65_code 8 = .ok (.ldc 164, 2) := by decide +kernel
theorem dX9_tear_10 : decode prog_11_method_65_code 10 = .ok (.ireturn, 1) := by decide +kernel
theorem dX9_tear_11 : decode prog_11_method_65_code 11 = .ok (.aload_n 0, 1) := by decide +kernel
theorem dX9_tear_12 : decode prog_11_method_65_code 12 = .ok (.getfield 19, 3) := by decide +kernel
theorem dX9_tear_15 : decode prog_11_method_65_code 15 = .ok (.iload_n 1, 1) := by decide +kernel
theorem dX9_tear_16 : decode prog_11_method_65_code 16 = .ok (.baload, 1) := by decide +kernel
theorem dX9_tear_17 : decode prog_11_method_65_code 17 = .ok (.ifCond .eq 6, 3) := by decide +kernel
theorem dX9_tear_20 : decode prog_11_method_65_code 20 = .ok (.ldc 127, 2) := by decide +kernel
theorem dX9_tear_22 : decode prog_11_method_65_code 22 = .ok (.ireturn, 1) := by decide +kernel
theorem dX9_tear_23 : decode prog_11_method_65_code 23 = .ok (.aload_n 0, 1) := by decide +kernel
theorem dX9_tear_24 : decode prog_11_method_65_code 24 = .ok (.getfield 19, 3) := by decide +kernel
theorem dX9_tear_27 : decode prog_11_method_65_code 27 = .ok (.iload_n 1, 1) := by decide +kernel
theorem dX9_tear_28 : decode prog_11_method_65_code 28 = .ok (.iconst 1, 1) := by decide +kernel
theorem dX9_tear_29 : decode prog_11_method_65_code 29 = .ok (.bastore, 1) := by decide +kernel
theorem dX9_tear_30 : decode prog_11_method_65_code 30 = .ok (.iconst 1, 1) := by decide +kernel
theorem dX9_tear_31 : decode prog_11_method_65_code 31 = .ok (.ireturn, 1) := by decide +kernel
abbrev M_X8_sums : am_M := ((⟨"SignCellar", "sums", "(III)I"⟩ : MethodName), prog_1_method_25_code, 5, (some .int), 1, 21)
theorem dX8_sums_0 : decode prog_1_method_25_code 0 = .ok (.aload_n 0, 1) := by decide +kernel
theorem dX8_sums_1 : decode prog_1_method_25_code 1 = .ok (.iload_n 1, 1) := by decide +kernel
theorem dX8_sums_2 : decode prog_1_method_25_code 2 = .ok (.invokevirtual 126, 3) := by decide +kernel
theorem dX8_sums_5 : decode prog_1_method_25_code 5 = .ok (.astore 4, 2) := by decide +kernel
theorem dX8_sums_7 : decode prog_1_method_25_code 7 = .ok (.aload 4, 2) := by decide +kernel
theorem dX8_sums_9 : decode prog_1_method_25_code 9 = .ok (.ifnonnull 6, 3) := by decide +kernel
theorem dX8_sums_12 : decode prog_1_method_25_code 12 = .ok (.ldc 133, 2) := by decide +kernel
theorem dX8_sums_14 : decode prog_1_method_25_code 14 = .ok (.ireturn, 1) := by decide +kernel
theorem dX8_sums_15 : decode prog_1_method_25_code 15 = .ok (.iload_n 2, 1) := by decide +kernel
theorem dX8_sums_16 : decode prog_1_method_25_code 16 = .ok (.ifCond .lt 18, 3) := by decide +kernel
theorem dX8_sums_19 : decode prog_1_method_25_code 19 = .ok (.iload_n 2, 1) := by decide +kernel
theorem dX8_sums_20 : decode prog_1_method_25_code 20 = .ok (.iconst 1, 1) := by decide +kernel
theorem dX8_sums_21 : decode prog_1_method_25_code 21 = .ok (.if_icmp .gt 13, 3) := by decide +kernel
theorem dX8_sums_24 : decode prog_1_method_25_code 24 = .ok (.iload_n 3, 1) := by decide +kernel
theorem dX8_sums_25 : decode prog_1_method_25_code 25 = .ok (.ifCond .lt 9, 3) := by decide +kernel
theorem dX8_sums_28 : decode prog_1_method_25_code 28 = .ok (.iload_n 3, 1) := by decide +kernel
theorem dX8_sums_29 : decode prog_1_method_25_code 29 = .ok (.bipush 24, 2) := by decide +kernel
theorem dX8_sums_31 : decode prog_1_method_25_code 31 = .ok (.if_icmp .lt 6, 3) := by decide +kernel
theorem dX8_sums_34 : decode prog_1_method_25_code 34 = .ok (.ldc 92, 2) := by decide +kernel
theorem dX8_sums_36 : decode prog_1_method_25_code 36 = .ok (.ireturn, 1) := by decide +kernel
theorem dX8_sums_37 : decode prog_1_method_25_code 37 = .ok (.iload_n 2, 1) := by decide +kernel
theorem dX8_sums_38 : decode prog_1_method_25_code 38 = .ok (.ifCond .ne 15, 3) := by decide +kernel
theorem dX8_sums_41 : decode prog_1_method_25_code 41 = .ok (.aload 4, 2) := by decide +kernel
theorem dX8_sums_43 : decode prog_1_method_25_code 43 = .ok (.getfield 294, 3) := by decide +kernel
theorem dX8_sums_46 : decode prog_1_method_25_code 46 = .ok (.iload_n 3, 1) := by decide +kernel
theorem dX8_sums_47 : decode prog_1_method_25_code 47 = .ok (.invokevirtual 161, 3) := by decide +kernel
theorem dX8_sums_50 : decode prog_1_method_25_code 50 = .ok (.goto 12, 3) := by decide +kernel
theorem dX8_sums_53 : decode prog_1_method_25_code 53 = .ok (.aload 4, 2) := by decide +kernel
theorem dX8_sums_55 : decode prog_1_method_25_code 55 = .ok (.getfield 297, 3) := by decide +kernel
theorem dX8_sums_58 : decode prog_1_method_25_code 58 = .ok (.iload_n 3, 1) := by decide +kernel
theorem dX8_sums_59 : decode prog_1_method_25_code 59 = .ok (.invokevirtual 161, 3) := by decide +kernel
theorem dX8_sums_62 : decode prog_1_method_25_code 62 = .ok (.ireturn, 1) := by decide +kernel
def F_X4_sum_5 : Nat → Nat → Int32 → Int32 → Int32 → am_H → Option Int32
  | 0, _, _, _, _, _ => none
  | n + 1, v0, v2, v3, v4, h =>
  if v2 ≤ v4 then
    some v3
  else
    (F_X4_at v0 v4 h).bind fun x2 =>
    F_X4_sum_5 n v0 v2 (v3 + x2) (v4 + (1 : Int32)) h
theorem w_X4_sum_5 {g : am_G} {l : Launch} {h0 : am_H} {x : Int32}  : ∀ (n : Nat) (v0 : Nat) (v2 : Int32) (v3 : Int32) (v4 : Int32) (h : am_H), F_X4_sum_5 n v0 v2 v3 v4 h = some x → am_W g l M_X4_sum h0 (some (.int x)) h 5 [some (.ref v0), none, some (.int v2), some (.int v3), some (.int v4)] [] h
  | 0, _, _, _, _, _, hF => by cases hF
  | n + 1, v0, v2, v3, v4, h, hF => by
    rw [F_X4_sum_5] at hF
    refine am_iload (pc' := 7) dX4_sum_5 rfl rfl ?_
    refine am_iload_n (pc' := 8) dX4_sum_7 rfl rfl ?_
    rcases am_ite hF with ⟨z1, hF⟩ | ⟨z1, hF⟩
    · refine am_icmp_ge_t (pc' := 26) dX4_sum_8 rfl z1 ?_
      refine am_iload_n (pc' := 27) dX4_sum_26 rfl rfl ?_
      cases hF
      exact am_iret dX4_sum_27 rfl rfl
    · refine am_icmp_ge_f (pc' := 11) (tgt := 26) dX4_sum_8 rfl z1 rfl ?_
      refine am_iload_n (pc' := 12) dX4_sum_11 rfl rfl ?_
      refine am_aload_n (pc' := 13) dX4_sum_12 rfl rfl ?_
      refine am_iload (pc' := 15) dX4_sum_13 rfl rfl ?_
      obtain ⟨x2, ex2, hF⟩ := am_bind hF
      obtain ⟨ox2, px2⟩ := t_X4_at ex2
      refine am_callV1 (Mc := M_X4_at) (As := [.int v4]) (st := [.int v3]) (pc' := 18) dX4_sum_15 cw_X4_25 wd_2_40 wd_2_41 ⟨_, rfl, rfl⟩ (by decide) (by decide) rfl rfl (Nat.le_of_ble_eq_true rfl) px2 (c_X4_at ex2) rfl ?_
      refine am_iadd (pc' := 19) dX4_sum_18 rfl ?_
      refine am_istore_n (ls' := [some (.ref v0), none, some (.int v2), some (.int (v3 + x2)), some (.int v4)]) (pc' := 20) dX4_sum_19 (Nat.le_of_ble_eq_true rfl) rfl rfl ?_
      refine am_iinc (ls' := [some (.ref v0), none, some (.int v2), some (.int (v3 + x2)), some (.int (v4 + (1 : Int32)))]) (pc' := 23) (v := (v4 + (1 : Int32))) dX4_sum_20 rfl rfl (Nat.le_of_ble_eq_true rfl) rfl rfl ?_
      refine am_goto (pc' := 5) dX4_sum_23 rfl ?_
      exact w_X4_sum_5 n v0 v2 (v3 + x2) (v4 + (1 : Int32)) h hF
def F_X4_sum_b (v0 : Nat) (v1 : Int32) (v2 : Int32) (h : am_H) : Option Int32 :=
  F_X4_sum_5 am_F v0 v2 (0 : Int32) v1 h
theorem w_X4_sum {g : am_G} {l : Launch} {h0 : am_H} {x : Int32}  (v0 : Nat) (v1 : Int32) (v2 : Int32) (h : am_H) (hF : F_X4_sum_b v0 v1 v2 h = some x) : am_W g l M_X4_sum h0 (some (.int x)) h 0 [some (.ref v0), some (.int v1), some (.int v2), none, none] [] h := by
  unfold F_X4_sum_b at hF
  refine am_iconst (v := (0 : Int32)) (pc' := 1) dX4_sum_0 rfl rfl ?_
  refine am_istore_n (ls' := [some (.ref v0), some (.int v1), some (.int v2), some (.int (0 : Int32)), none]) (pc' := 2) dX4_sum_1 (Nat.le_of_ble_eq_true rfl) rfl rfl ?_
  refine am_iload_n (pc' := 3) dX4_sum_2 rfl rfl ?_
  refine am_istore (ls' := [some (.ref v0), some (.int v1), some (.int v2), some (.int (0 : Int32)), some (.int v1)]) (pc' := 5) dX4_sum_3 (Nat.le_of_ble_eq_true rfl) rfl rfl ?_
  exact am_weak [true, false, true, true, true] (w_X4_sum_5 am_F v0 v2 (0 : Int32) v1 h hF)
def F_X4_sum (v0 : Nat) (v1 : Int32) (v2 : Int32) (h : am_H) : Option Int32 := (am_obj v0 4 h).bind fun _ => F_X4_sum_b v0 v1 v2 h
theorem t_X4_sum {x : Int32}  {v0 : Nat} {v1 : Int32} {v2 : Int32} {h : am_H} (hF : F_X4_sum v0 v1 v2 h = some x) : ∃ fs, am_obj v0 4 h = some fs := by
  obtain ⟨fs, e, _⟩ := am_bind hF
  exact ⟨fs, e⟩
theorem c_X4_sum {g : am_G} {l : Launch} {x : Int32}  {v0 : Nat} {v1 : Int32} {v2 : Int32} {h : am_H} (hF : F_X4_sum v0 v1 v2 h = some x) : am_Met g l M_X4_sum [.ref v0, .int v1, .int v2] h (some (.int x)) h := by
  obtain ⟨fs, e0, e⟩ := am_bind hF
  exact am_met (n := 2) (by decide +kernel) rfl (Nat.le_of_ble_eq_true rfl) (w_X4_sum v0 v1 v2 h e)
theorem cw_X4_47 : am_cw "SignCellar$Row" 47 M_J9_min_7cf53 2 := ⟨wd_1_3, wd_2_22, ⟨by decide, by decide, by decide⟩, Or.inl wd_4_6⟩
def F_X4_least_9 : Nat → Nat → Int32 → Int32 → Int32 → am_H → Option Int32
  | 0, _, _, _, _, _ => none
  | n + 1, v0, v2, v3, v4, h =>
  if v2 ≤ v4 then
    some v3
  else
    (F_X4_at v0 v4 h).bind fun x2 =>
    (F_J9_min_7cf53 v3 x2 h).bind fun x3 =>
    F_X4_least_9 n v0 v2 x3 (v4 + (1 : Int32)) h
theorem w_X4_least_9 {g : am_G} {l : Launch} {h0 : am_H} {x : Int32}  : ∀ (n : Nat) (v0 : Nat) (v2 : Int32) (v3 : Int32) (v4 : Int32) (h : am_H), F_X4_least_9 n v0 v2 v3 v4 h = some x → am_W g l M_X4_least h0 (some (.int x)) h 9 [some (.ref v0), none, some (.int v2), some (.int v3), some (.int v4)] [] h
  | 0, _, _, _, _, _, hF => by cases hF
  | n + 1, v0, v2, v3, v4, h, hF => by
    rw [F_X4_least_9] at hF
    refine am_iload (pc' := 11) dX4_least_9 rfl rfl ?_
    refine am_iload_n (pc' := 12) dX4_least_11 rfl rfl ?_
    rcases am_ite hF with ⟨z1, hF⟩ | ⟨z1, hF⟩
    · refine am_icmp_ge_t (pc' := 32) dX4_least_12 rfl z1 ?_
      refine am_iload_n (pc' := 33) dX4_least_32 rfl rfl ?_
      cases hF
      exact am_iret dX4_least_33 rfl rfl
    · refine am_icmp_ge_f (pc' := 15) (tgt := 32) dX4_least_12 rfl z1 rfl ?_
      refine am_iload_n (pc' := 16) dX4_least_15 rfl rfl ?_
      refine am_aload_n (pc' := 17) dX4_least_16 rfl rfl ?_
      refine am_iload (pc' := 19) dX4_least_17 rfl rfl ?_
      obtain ⟨x2, ex2, hF⟩ := am_bind hF
      obtain ⟨ox2, px2⟩ := t_X4_at ex2
      refine am_callV1 (Mc := M_X4_at) (As := [.int v4]) (st := [.int v3]) (pc' := 22) dX4_least_19 cw_X4_25 wd_2_40 wd_2_41 ⟨_, rfl, rfl⟩ (by decide) (by decide) rfl rfl (Nat.le_of_ble_eq_true rfl) px2 (c_X4_at ex2) rfl ?_
      obtain ⟨x3, ex3, hF⟩ := am_bind hF
      refine am_callS1 (Mc := M_J9_min_7cf53) (As := [.int v3, .int x2]) (st := []) (pc' := 25) dX4_least_22 cw_X4_47 wd_2_21 (by decide) (by decide) rfl rfl (Nat.le_of_ble_eq_true rfl) (c_J9_min_7cf53 ex3) rfl ?_
      refine am_istore_n (ls' := [some (.ref v0), none, some (.int v2), some (.int x3), some (.int v4)]) (pc' := 26) dX4_least_25 (Nat.le_of_ble_eq_true rfl) rfl rfl ?_
      refine am_iinc (ls' := [some (.ref v0), none, some (.int v2), some (.int x3), some (.int (v4 + (1 : Int32)))]) (pc' := 29) (v := (v4 + (1 : Int32))) dX4_least_26 rfl rfl (Nat.le_of_ble_eq_true rfl) rfl rfl ?_
      refine am_goto (pc' := 9) dX4_least_29 rfl ?_
      exact w_X4_least_9 n v0 v2 x3 (v4 + (1 : Int32)) h hF
def F_X4_least_b (v0 : Nat) (v1 : Int32) (v2 : Int32) (h : am_H) : Option Int32 :=
  (F_X4_at v0 v1 h).bind fun x1 =>
  F_X4_least_9 am_F v0 v2 x1 v1 h
theorem w_X4_least {g : am_G} {l : Launch} {h0 : am_H} {x : Int32}  (v0 : Nat) (v1 : Int32) (v2 : Int32) (h : am_H) (hF : F_X4_least_b v0 v1 v2 h = some x) : am_W g l M_X4_least h0 (some (.int x)) h 0 [some (.ref v0), some (.int v1), some (.int v2), none, none] [] h := by
  unfold F_X4_least_b at hF
  refine am_aload_n (pc' := 1) dX4_least_0 rfl rfl ?_
  refine am_iload_n (pc' := 2) dX4_least_1 rfl rfl ?_
  obtain ⟨x1, ex1, hF⟩ := am_bind hF
  obtain ⟨ox1, px1⟩ := t_X4_at ex1
  refine am_callV1 (Mc := M_X4_at) (As := [.int v1]) (st := []) (pc' := 5) dX4_least_2 cw_X4_25 wd_2_40 wd_2_41 ⟨_, rfl, rfl⟩ (by decide) (by decide) rfl rfl (Nat.le_of_ble_eq_true rfl) px1 (c_X4_at ex1) rfl ?_
  refine am_istore_n (ls' := [some (.ref v0), some (.int v1), some (.int v2), some (.int x1), none]) (pc' := 6) dX4_least_5 (Nat.le_of_ble_eq_true rfl) rfl rfl ?_
  refine am_iload_n (pc' := 7) dX4_least_6 rfl rfl ?_
  refine am_istore (ls' := [some (.ref v0), some (.int v1), some (.int v2), some (.int x1), some (.int v1)]) (pc' := 9) dX4_least_7 (Nat.le_of_ble_eq_true rfl) rfl rfl ?_
  exact am_weak [true, false, true, true, true] (w_X4_least_9 am_F v0 v2 x1 v1 h hF)
def F_X4_least (v0 : Nat) (v1 : Int32) (v2 : Int32) (h : am_H) : Option Int32 := (am_obj v0 4 h).bind fun _ => F_X4_least_b v0 v1 v2 h
theorem t_X4_least {x : Int32}  {v0 : Nat} {v1 : Int32} {v2 : Int32} {h : am_H} (hF : F_X4_least v0 v1 v2 h = some x) : ∃ fs, am_obj v0 4 h = some fs := by
  obtain ⟨fs, e, _⟩ := am_bind hF
  exact ⟨fs, e⟩
theorem c_X4_least {g : am_G} {l : Launch} {x : Int32}  {v0 : Nat} {v1 : Int32} {v2 : Int32} {h : am_H} (hF : F_X4_least v0 v1 v2 h = some x) : am_Met g l M_X4_least [.ref v0, .int v1, .int v2] h (some (.int x)) h := by
  obtain ⟨fs, e0, e⟩ := am_bind hF
  exact am_met (n := 2) (by decide +kernel) rfl (Nat.le_of_ble_eq_true rfl) (w_X4_least v0 v1 v2 h e)
def F_X4_greatest_9 : Nat → Nat → Int32 → Int32 → Int32 → am_H → Option Int32
  | 0, _, _, _, _, _ => none
  | n + 1, v0, v2, v3, v4, h =>
  if v2 ≤ v4 then
    some v3
  else
    (F_X4_at v0 v4 h).bind fun x2 =>
    (F_J9_max_7cf53 v3 x2 h).bind fun x3 =>
    F_X4_greatest_9 n v0 v2 x3 (v4 + (1 : Int32)) h
theorem w_X4_greatest_9 {g : am_G} {l : Launch} {h0 : am_H} {x : Int32}  : ∀ (n : Nat) (v0 : Nat) (v2 : Int32) (v3 : Int32) (v4 : Int32) (h : am_H), F_X4_greatest_9 n v0 v2 v3 v4 h = some x → am_W g l M_X4_greatest h0 (some (.int x)) h 9 [some (.ref v0), none, some (.int v2), some (.int v3), some (.int v4)] [] h
  | 0, _, _, _, _, _, hF => by cases hF
  | n + 1, v0, v2, v3, v4, h, hF => by
    rw [F_X4_greatest_9] at hF
    refine am_iload (pc' := 11) dX4_greatest_9 rfl rfl ?_
    refine am_iload_n (pc' := 12) dX4_greatest_11 rfl rfl ?_
    rcases am_ite hF with ⟨z1, hF⟩ | ⟨z1, hF⟩
    · refine am_icmp_ge_t (pc' := 32) dX4_greatest_12 rfl z1 ?_
      refine am_iload_n (pc' := 33) dX4_greatest_32 rfl rfl ?_
      cases hF
      exact am_iret dX4_greatest_33 rfl rfl
    · refine am_icmp_ge_f (pc' := 15) (tgt := 32) dX4_greatest_12 rfl z1 rfl ?_
      refine am_iload_n (pc' := 16) dX4_greatest_15 rfl rfl ?_
      refine am_aload_n (pc' := 17) dX4_greatest_16 rfl rfl ?_
      refine am_iload (pc' := 19) dX4_greatest_17 rfl rfl ?_
      obtain ⟨x2, ex2, hF⟩ := am_bind hF
      obtain ⟨ox2, px2⟩ := t_X4_at ex2
      refine am_callV1 (Mc := M_X4_at) (As := [.int v4]) (st := [.int v3]) (pc' := 22) dX4_greatest_19 cw_X4_25 wd_2_40 wd_2_41 ⟨_, rfl, rfl⟩ (by decide) (by decide) rfl rfl (Nat.le_of_ble_eq_true rfl) px2 (c_X4_at ex2) rfl ?_
      obtain ⟨x3, ex3, hF⟩ := am_bind hF
      refine am_callS1 (Mc := M_J9_max_7cf53) (As := [.int v3, .int x2]) (st := []) (pc' := 25) dX4_greatest_22 cw_X4_15 wd_1_28 (by decide) (by decide) rfl rfl (Nat.le_of_ble_eq_true rfl) (c_J9_max_7cf53 ex3) rfl ?_
      refine am_istore_n (ls' := [some (.ref v0), none, some (.int v2), some (.int x3), some (.int v4)]) (pc' := 26) dX4_greatest_25 (Nat.le_of_ble_eq_true rfl) rfl rfl ?_
      refine am_iinc (ls' := [some (.ref v0), none, some (.int v2), some (.int x3), some (.int (v4 + (1 : Int32)))]) (pc' := 29) (v := (v4 + (1 : Int32))) dX4_greatest_26 rfl rfl (Nat.le_of_ble_eq_true rfl) rfl rfl ?_
      refine am_goto (pc' := 9) dX4_greatest_29 rfl ?_
      exact w_X4_greatest_9 n v0 v2 x3 (v4 + (1 : Int32)) h hF
def F_X4_greatest_b (v0 : Nat) (v1 : Int32) (v2 : Int32) (h : am_H) : Option Int32 :=
  (F_X4_at v0 v1 h).bind fun x1 =>
  F_X4_greatest_9 am_F v0 v2 x1 v1 h
theorem w_X4_greatest {g : am_G} {l : Launch} {h0 : am_H} {x : Int32}  (v0 : Nat) (v1 : Int32) (v2 : Int32) (h : am_H) (hF : F_X4_greatest_b v0 v1 v2 h = some x) : am_W g l M_X4_greatest h0 (some (.int x)) h 0 [some (.ref v0), some (.int v1), some (.int v2), none, none] [] h := by
  unfold F_X4_greatest_b at hF
  refine am_aload_n (pc' := 1) dX4_greatest_0 rfl rfl ?_
  refine am_iload_n (pc' := 2) dX4_greatest_1 rfl rfl ?_
  obtain ⟨x1, ex1, hF⟩ := am_bind hF
  obtain ⟨ox1, px1⟩ := t_X4_at ex1
  refine am_callV1 (Mc := M_X4_at) (As := [.int v1]) (st := []) (pc' := 5) dX4_greatest_2 cw_X4_25 wd_2_40 wd_2_41 ⟨_, rfl, rfl⟩ (by decide) (by decide) rfl rfl (Nat.le_of_ble_eq_true rfl) px1 (c_X4_at ex1) rfl ?_
  refine am_istore_n (ls' := [some (.ref v0), some (.int v1), some (.int v2), some (.int x1), none]) (pc' := 6) dX4_greatest_5 (Nat.le_of_ble_eq_true rfl) rfl rfl ?_
  refine am_iload_n (pc' := 7) dX4_greatest_6 rfl rfl ?_
  refine am_istore (ls' := [some (.ref v0), some (.int v1), some (.int v2), some (.int x1), some (.int v1)]) (pc' := 9) dX4_greatest_7 (Nat.le_of_ble_eq_true rfl) rfl rfl ?_
  exact am_weak [true, false, true, true, true] (w_X4_greatest_9 am_F v0 v2 x1 v1 h hF)
def F_X4_greatest (v0 : Nat) (v1 : Int32) (v2 : Int32) (h : am_H) : Option Int32 := (am_obj v0 4 h).bind fun _ => F_X4_greatest_b v0 v1 v2 h
theorem t_X4_greatest {x : Int32}  {v0 : Nat} {v1 : Int32} {v2 : Int32} {h : am_H} (hF : F_X4_greatest v0 v1 v2 h = some x) : ∃ fs, am_obj v0 4 h = some fs := by
  obtain ⟨fs, e, _⟩ := am_bind hF
  exact ⟨fs, e⟩
theorem c_X4_greatest {g : am_G} {l : Launch} {x : Int32}  {v0 : Nat} {v1 : Int32} {v2 : Int32} {h : am_H} (hF : F_X4_greatest v0 v1 v2 h = some x) : am_Met g l M_X4_greatest [.ref v0, .int v1, .int v2] h (some (.int x)) h := by
  obtain ⟨fs, e0, e⟩ := am_bind hF
  exact am_met (n := 2) (by decide +kernel) rfl (Nat.le_of_ble_eq_true rfl) (w_X4_greatest v0 v1 v2 h e)
theorem cw_X8_383 : am_cw "SignCellar" 383 M_X4_timesWithin 3 := ⟨wd_1_2, wd_3_58, ⟨by decide, by decide, by decide⟩, Or.inl wd_4_15⟩
def F_X8_mostOften_41 (k8 : Nat → Int32 → Int32 → Int32 → Int32 → Int32 → am_H → Option Int32) (v0 : Nat) (v1 : Int32) (v2 : Int32) (v3 : Int32) (v4 : Int32) (v5 : Int32) (h : am_H) : Option Int32 :=
  k8 v0 v1 v2 v3 v4 (v5 + (1 : Int32)) h
theorem w_X8_mostOften_41 {g : am_G} {l : Launch} {h0 : am_H} {x : Int32}  {k8 : Nat → Int32 → Int32 → Int32 → Int32 → Int32 → am_H → Option Int32} (j8 : ∀ (v0 : Nat) (v1 : Int32) (v2 : Int32) (v3 : Int32) (v4 : Int32) (v5 : Int32) (h : am_H), k8 v0 v1 v2 v3 v4 v5 h = some x → am_W g l M_X8_mostOften h0 (some (.int x)) h 8 [some (.ref v0), some (.int v1), some (.int v2), some (.int v3), some (.int v4), some (.int v5), none] [] h) (v0 : Nat) (v1 : Int32) (v2 : Int32) (v3 : Int32) (v4 : Int32) (v5 : Int32) (h : am_H) (hF : F_X8_mostOften_41 k8 v0 v1 v2 v3 v4 v5 h = some x) : am_W g l M_X8_mostOften h0 (some (.int x)) h 41 [some (.ref v0), some (.int v1), some (.int v2), some (.int v3), some (.int v4), some (.int v5), none] [] h := by
  unfold F_X8_mostOften_41 at hF
  refine am_iinc (ls' := [some (.ref v0), some (.int v1), some (.int v2), some (.int v3), some (.int v4), some (.int (v5 + (1 : Int32))), none]) (pc' := 44) (v := (v5 + (1 : Int32))) dX8_mostOften_41 rfl rfl (Nat.le_of_ble_eq_true rfl) rfl rfl ?_
  refine am_goto (pc' := 8) dX8_mostOften_44 rfl ?_
  exact j8 v0 v1 v2 v3 v4 (v5 + (1 : Int32)) h hF
def F_X8_mostOften_8 : Nat → Nat → Int32 → Int32 → Int32 → Int32 → Int32 → am_H → Option Int32
  | 0, _, _, _, _, _, _, _ => none
  | n + 1, v0, v1, v2, v3, v4, v5, h =>
  if (16 : Int32) ≤ v5 then
    some v4
  else
    (am_gr 8 9 v0 h).bind fun x2 =>
    (F_X4_timesWithin x2 v5 v1 v2 h).bind fun x3 =>
    if x3 ≤ v3 then
      F_X8_mostOften_41 (F_X8_mostOften_8 n) v0 v1 v2 v3 v4 v5 h
    else
      F_X8_mostOften_41 (F_X8_mostOften_8 n) v0 v1 v2 x3 v5 v5 h
theorem w_X8_mostOften_8 {g : am_G} {l : Launch} {h0 : am_H} {x : Int32}  : ∀ (n : Nat) (v0 : Nat) (v1 : Int32) (v2 : Int32) (v3 : Int32) (v4 : Int32) (v5 : Int32) (h : am_H), F_X8_mostOften_8 n v0 v1 v2 v3 v4 v5 h = some x → am_W g l M_X8_mostOften h0 (some (.int x)) h 8 [some (.ref v0), some (.int v1), some (.int v2), some (.int v3), some (.int v4), some (.int v5), none] [] h
  | 0, _, _, _, _, _, _, _, hF => by cases hF
  | n + 1, v0, v1, v2, v3, v4, v5, h, hF => by
    rw [F_X8_mostOften_8] at hF
    refine am_iload (pc' := 10) dX8_mostOften_8 rfl rfl ?_
    refine am_bipush (v := (16 : Int32)) (pc' := 12) dX8_mostOften_10 rfl rfl ?_
    rcases am_ite hF with ⟨z1, hF⟩ | ⟨z1, hF⟩
    · refine am_icmp_ge_t (pc' := 47) dX8_mostOften_12 rfl z1 ?_
      refine am_iload (pc' := 49) dX8_mostOften_47 rfl rfl ?_
      cases hF
      exact am_iret dX8_mostOften_49 rfl rfl
    · refine am_icmp_ge_f (pc' := 15) (tgt := 47) dX8_mostOften_12 rfl z1 rfl ?_
      refine am_aload_n (pc' := 16) dX8_mostOften_15 rfl rfl ?_
      obtain ⟨x2, ex2, hF⟩ := am_bind hF
      refine am_getr (pc' := 19) dX8_mostOften_16 fw_X8_49 ex2 rfl ?_
      refine am_iload (pc' := 21) dX8_mostOften_19 rfl rfl ?_
      refine am_iload_n (pc' := 22) dX8_mostOften_21 rfl rfl ?_
      refine am_iload_n (pc' := 23) dX8_mostOften_22 rfl rfl ?_
      obtain ⟨x3, ex3, hF⟩ := am_bind hF
      obtain ⟨ox3, px3⟩ := t_X4_timesWithin ex3
      refine am_callV1 (Mc := M_X4_timesWithin) (As := [.int v5, .int v1, .int v2]) (st := []) (pc' := 26) dX8_mostOften_23 cw_X8_383 wd_3_56 wd_3_57 ⟨_, rfl, rfl⟩ (by decide) (by decide) rfl rfl (Nat.le_of_ble_eq_true rfl) px3 (c_X4_timesWithin ex3) rfl ?_
      refine am_istore (ls' := [some (.ref v0), some (.int v1), some (.int v2), some (.int v3), some (.int v4), some (.int v5), some (.int x3)]) (pc' := 28) dX8_mostOften_26 (Nat.le_of_ble_eq_true rfl) rfl rfl ?_
      refine am_iload (pc' := 30) dX8_mostOften_28 rfl rfl ?_
      refine am_iload_n (pc' := 31) dX8_mostOften_30 rfl rfl ?_
      rcases am_ite hF with ⟨z4, hF⟩ | ⟨z4, hF⟩
      · refine am_icmp_le_t (pc' := 41) dX8_mostOften_31 rfl z4 ?_
        exact am_weak [true, true, true, true, true, true, false] (w_X8_mostOften_41 (w_X8_mostOften_8 n) v0 v1 v2 v3 v4 v5 h hF)
      · refine am_icmp_le_f (pc' := 34) (tgt := 41) dX8_mostOften_31 rfl z4 rfl ?_
        refine am_iload (pc' := 36) dX8_mostOften_34 rfl rfl ?_
        refine am_istore_n (ls' := [some (.ref v0), some (.int v1), some (.int v2), some (.int x3), some (.int v4), some (.int v5), some (.int x3)]) (pc' := 37) dX8_mostOften_36 (Nat.le_of_ble_eq_true rfl) rfl rfl ?_
        refine am_iload (pc' := 39) dX8_mostOften_37 rfl rfl ?_
        refine am_istore (ls' := [some (.ref v0), some (.int v1), some (.int v2), some (.int x3), some (.int v5), some (.int v5), some (.int x3)]) (pc' := 41) dX8_mostOften_39 (Nat.le_of_ble_eq_true rfl) rfl rfl ?_
        exact am_weak [true, true, true, true, true, true, false] (w_X8_mostOften_41 (w_X8_mostOften_8 n) v0 v1 v2 x3 v5 v5 h hF)
def F_X8_mostOften_b (v0 : Nat) (v1 : Int32) (v2 : Int32) (h : am_H) : Option Int32 :=
  F_X8_mostOften_8 am_F v0 v1 v2 (0 : Int32) (0 : Int32) (0 : Int32) h
theorem w_X8_mostOften {g : am_G} {l : Launch} {h0 : am_H} {x : Int32}  (v0 : Nat) (v1 : Int32) (v2 : Int32) (h : am_H) (hF : F_X8_mostOften_b v0 v1 v2 h = some x) : am_W g l M_X8_mostOften h0 (some (.int x)) h 0 [some (.ref v0), some (.int v1), some (.int v2), none, none, none, none] [] h := by
  unfold F_X8_mostOften_b at hF
  refine am_iconst (v := (0 : Int32)) (pc' := 1) dX8_mostOften_0 rfl rfl ?_
  refine am_istore_n (ls' := [some (.ref v0), some (.int v1), some (.int v2), some (.int (0 : Int32)), none, none, none]) (pc' := 2) dX8_mostOften_1 (Nat.le_of_ble_eq_true rfl) rfl rfl ?_
  refine am_iconst (v := (0 : Int32)) (pc' := 3) dX8_mostOften_2 rfl rfl ?_
  refine am_istore (ls' := [some (.ref v0), some (.int v1), some (.int v2), some (.int (0 : Int32)), some (.int (0 : Int32)), none, none]) (pc' := 5) dX8_mostOften_3 (Nat.le_of_ble_eq_true rfl) rfl rfl ?_
  refine am_iconst (v := (0 : Int32)) (pc' := 6) dX8_mostOften_5 rfl rfl ?_
  refine am_istore (ls' := [some (.ref v0), some (.int v1), some (.int v2), some (.int (0 : Int32)), some (.int (0 : Int32)), some (.int (0 : Int32)), none]) (pc' := 8) dX8_mostOften_6 (Nat.le_of_ble_eq_true rfl) rfl rfl ?_
  exact w_X8_mostOften_8 am_F v0 v1 v2 (0 : Int32) (0 : Int32) (0 : Int32) h hF
def F_X8_mostOften (v0 : Nat) (v1 : Int32) (v2 : Int32) (h : am_H) : Option Int32 := (am_obj v0 8 h).bind fun _ => F_X8_mostOften_b v0 v1 v2 h
theorem t_X8_mostOften {x : Int32}  {v0 : Nat} {v1 : Int32} {v2 : Int32} {h : am_H} (hF : F_X8_mostOften v0 v1 v2 h = some x) : ∃ fs, am_obj v0 8 h = some fs := by
  obtain ⟨fs, e, _⟩ := am_bind hF
  exact ⟨fs, e⟩
theorem c_X8_mostOften {g : am_G} {l : Launch} {x : Int32}  {v0 : Nat} {v1 : Int32} {v2 : Int32} {h : am_H} (hF : F_X8_mostOften v0 v1 v2 h = some x) : am_Met g l M_X8_mostOften [.ref v0, .int v1, .int v2] h (some (.int x)) h := by
  obtain ⟨fs, e0, e⟩ := am_bind hF
  exact am_met (n := 4) (by decide +kernel) rfl (Nat.le_of_ble_eq_true rfl) (w_X8_mostOften v0 v1 v2 h e)
theorem cw_X8_279 : am_cw "SignCellar" 279 M_X4_sum 2 := ⟨wd_1_2, wd_4_1, ⟨by decide, by decide, by decide⟩, Or.inl wd_3_238⟩
theorem cw_X8_282 : am_cw "SignCellar" 282 M_X4_least 2 := ⟨wd_1_2, wd_4_5, ⟨by decide, by decide, by decide⟩, Or.inl wd_4_2⟩
theorem cw_X8_285 : am_cw "SignCellar" 285 M_X4_greatest 2 := ⟨wd_1_2, wd_4_10, ⟨by decide, by decide, by decide⟩, Or.inl wd_4_7⟩
theorem cw_X8_288 : am_cw "SignCellar" 288 M_X8_mostOften 2 := ⟨wd_1_1, wd_4_14, ⟨by decide, by decide, by decide⟩, Or.inl wd_4_11⟩
theorem sl_X8_mostOften : Cond.selects (⟨"SignCellar", "mostOften", "(II)I"⟩ : MethodName).cls ⟨"SignCellar", "mostOften", "(II)I"⟩ ⟨"SignCellar", "mostOften", "(II)I"⟩ ∈ am_ts := am_in_p (q := (⟨"SignCellar", "mostOften", "(II)I"⟩, 16)) (by decide +kernel)
def F_X8_span_30 (h : am_H) : Option (Int32 × am_H) :=
  some ((-100001 : Int32), h)
theorem w_X8_span_30 {g : am_G} {l : Launch} {h0 : am_H} {x : Int32} {hf : am_H}  (h : am_H) (hF : F_X8_span_30 h = some (x, hf)) : am_W g l M_X8_span h0 (some (.int x)) hf 30 [none, none, none, none, none, none, none] [] h := by
  unfold F_X8_span_30 at hF
  refine am_ldc (v := (-100001 : Int32)) (pc' := 32) dX8_span_30 wd_2_137 rfl ?_
  cases hF
  exact am_iret dX8_span_32 rfl rfl
def F_X8_span_44 (h : am_H) : Option (Int32 × am_H) :=
  some ((-100002 : Int32), h)
theorem w_X8_span_44 {g : am_G} {l : Launch} {h0 : am_H} {x : Int32} {hf : am_H}  (h : am_H) (hF : F_X8_span_44 h = some (x, hf)) : am_W g l M_X8_span h0 (some (.int x)) hf 44 [none, none, none, none, none, none, none] [] h := by
  unfold F_X8_span_44 at hF
  refine am_ldc (v := (-100002 : Int32)) (pc' := 46) dX8_span_44 wd_1_233 rfl ?_
  cases hF
  exact am_iret dX8_span_46 rfl rfl
def F_X8_span_56 : Nat → Nat → Int32 → Int32 → Int32 → Nat → Int32 → am_H → Option (Int32 × am_H)
  | 0, _, _, _, _, _, _, _ => none
  | n + 1, v0, v2, v3, v4, v5, v6, h =>
  (F_X8_indexAt v0 v5 (v3 - (1 : Int32)) h).bind fun x1 =>
  if x1 < v6 then
    (F_X8_openAll v0 v5 h).bind fun h3 =>
    if v4 = (0 : Int32) then
      (am_gr 8 9 v0 h3).bind fun x5 =>
      (F_X4_sum x5 v2 v3 h3).bind fun x6 =>
      some (x6, h3)
    else
    if v4 = (1 : Int32) then
      (am_gr 8 9 v0 h3).bind fun x8 =>
      (F_X4_least x8 v2 v3 h3).bind fun x9 =>
      some (x9, h3)
    else
    if v4 = (2 : Int32) then
      (am_gr 8 9 v0 h3).bind fun x11 =>
      (F_X4_greatest x11 v2 v3 h3).bind fun x12 =>
      some (x12, h3)
    else
    (F_X8_mostOften v0 v2 v3 h3).bind fun x13 =>
    some (x13, h3)
  else
    (F_X8_isTornIn v0 v5 v6 h).bind fun x14 =>
    if x14 = 0 then
      F_X8_span_56 n v0 v2 v3 v4 v5 (v6 + (1 : Int32)) h
    else
      some ((-100005 : Int32), h)
theorem w_X8_span_56 {g : am_G} {l : Launch} {h0 : am_H} {x : Int32} {hf : am_H}  : ∀ (n : Nat) (v0 : Nat) (v2 : Int32) (v3 : Int32) (v4 : Int32) (v5 : Nat) (v6 : Int32) (h : am_H), F_X8_span_56 n v0 v2 v3 v4 v5 v6 h = some (x, hf) → am_W g l M_X8_span h0 (some (.int x)) hf 56 [some (.ref v0), none, some (.int v2), some (.int v3), some (.int v4), some (.ref v5), some (.int v6)] [] h
  | 0, _, _, _, _, _, _, _, hF => by cases hF
  | n + 1, v0, v2, v3, v4, v5, v6, h, hF => by
    rw [F_X8_span_56] at hF
    refine am_iload (pc' := 58) dX8_span_56 rfl rfl ?_
    refine am_aload_n (pc' := 59) dX8_span_58 rfl rfl ?_
    refine am_aload (pc' := 61) dX8_span_59 rfl rfl ?_
    refine am_iload_n (pc' := 62) dX8_span_61 rfl rfl ?_
    refine am_iconst (v := (1 : Int32)) (pc' := 63) dX8_span_62 rfl rfl ?_
    refine am_isub (pc' := 64) dX8_span_63 rfl ?_
    obtain ⟨x1, ex1, hF⟩ := am_bind hF
    obtain ⟨ox1, px1⟩ := t_X8_indexAt ex1
    refine am_callV1 (Mc := M_X8_indexAt) (As := [.ref v5, .int (v3 - (1 : Int32))]) (st := [.int v6]) (pc' := 67) dX8_span_64 cw_X8_141 wd_2_156 sl_X8_indexAt ⟨_, rfl, rfl⟩ (by decide) (by decide) rfl rfl (Nat.le_of_ble_eq_true rfl) px1 (c_X8_indexAt ex1) rfl ?_
    rcases am_ite hF with ⟨z2, hF⟩ | ⟨z2, hF⟩
    · refine am_icmp_gt_t (pc' := 90) dX8_span_67 rfl z2 ?_
      refine am_aload_n (pc' := 91) dX8_span_90 rfl rfl ?_
      refine am_aload (pc' := 93) dX8_span_91 rfl rfl ?_
      obtain ⟨h3, eh3, hF⟩ := am_bind hF
      obtain ⟨oh3, ph3⟩ := t_X8_openAll eh3
      refine am_callV0 (Mc := M_X8_openAll) (As := [.ref v5]) (st := []) (pc' := 96) dX8_span_93 cw_X8_272 wd_3_228 sl_X8_openAll ⟨_, rfl, rfl⟩ (by decide) (by decide) rfl rfl (Nat.le_of_ble_eq_true rfl) ph3 (c_X8_openAll eh3) rfl ?_
      refine am_iload (pc' := 98) dX8_span_96 rfl rfl ?_
      rcases am_ite hF with ⟨z4, hF⟩ | ⟨z4, hF⟩
      · refine am_tableIn (c := (0 : Int32)) (pc' := 124) dX8_span_98 z4 (by decide) (by decide) rfl rfl ?_
        refine am_aload_n (pc' := 125) dX8_span_124 rfl rfl ?_
        obtain ⟨x5, ex5, hF⟩ := am_bind hF
        refine am_getr (pc' := 128) dX8_span_125 fw_X8_49 ex5 rfl ?_
        refine am_iload_n (pc' := 129) dX8_span_128 rfl rfl ?_
        refine am_iload_n (pc' := 130) dX8_span_129 rfl rfl ?_
        obtain ⟨x6, ex6, hF⟩ := am_bind hF
        obtain ⟨ox6, px6⟩ := t_X4_sum ex6
        refine am_callV1 (Mc := M_X4_sum) (As := [.int v2, .int v3]) (st := []) (pc' := 133) dX8_span_130 cw_X8_279 wd_3_239 wd_4_0 ⟨_, rfl, rfl⟩ (by decide) (by decide) rfl rfl (Nat.le_of_ble_eq_true rfl) px6 (c_X4_sum ex6) rfl ?_
        cases hF
        exact am_iret dX8_span_133 rfl rfl
      rcases am_ite hF with ⟨z7, hF⟩ | ⟨z7, hF⟩
      · refine am_tableIn (c := (1 : Int32)) (pc' := 134) dX8_span_98 z7 (by decide) (by decide) rfl rfl ?_
        refine am_aload_n (pc' := 135) dX8_span_134 rfl rfl ?_
        obtain ⟨x8, ex8, hF⟩ := am_bind hF
        refine am_getr (pc' := 138) dX8_span_135 fw_X8_49 ex8 rfl ?_
        refine am_iload_n (pc' := 139) dX8_span_138 rfl rfl ?_
        refine am_iload_n (pc' := 140) dX8_span_139 rfl rfl ?_
        obtain ⟨x9, ex9, hF⟩ := am_bind hF
        obtain ⟨ox9, px9⟩ := t_X4_least ex9
        refine am_callV1 (Mc := M_X4_least) (As := [.int v2, .int v3]) (st := []) (pc' := 143) dX8_span_140 cw_X8_282 wd_4_3 wd_4_4 ⟨_, rfl, rfl⟩ (by decide) (by decide) rfl rfl (Nat.le_of_ble_eq_true rfl) px9 (c_X4_least ex9) rfl ?_
        cases hF
        exact am_iret dX8_span_143 rfl rfl
      rcases am_ite hF with ⟨z10, hF⟩ | ⟨z10, hF⟩
      · refine am_tableIn (c := (2 : Int32)) (pc' := 144) dX8_span_98 z10 (by decide) (by decide) rfl rfl ?_
        refine am_aload_n (pc' := 145) dX8_span_144 rfl rfl ?_
        obtain ⟨x11, ex11, hF⟩ := am_bind hF
        refine am_getr (pc' := 148) dX8_span_145 fw_X8_49 ex11 rfl ?_
        refine am_iload_n (pc' := 149) dX8_span_148 rfl rfl ?_
        refine am_iload_n (pc' := 150) dX8_span_149 rfl rfl ?_
        obtain ⟨x12, ex12, hF⟩ := am_bind hF
        obtain ⟨ox12, px12⟩ := t_X4_greatest ex12
        refine am_callV1 (Mc := M_X4_greatest) (As := [.int v2, .int v3]) (st := []) (pc' := 153) dX8_span_150 cw_X8_285 wd_4_8 wd_4_9 ⟨_, rfl, rfl⟩ (by decide) (by decide) rfl rfl (Nat.le_of_ble_eq_true rfl) px12 (c_X4_greatest ex12) rfl ?_
        cases hF
        exact am_iret dX8_span_153 rfl rfl
      refine am_tableOut (pc' := 154) dX8_span_98 (by have tz4 := lv_neT (a := 0) z4 rfl; have tz7 := lv_neT (a := 1) z7 rfl; have tz10 := lv_neT (a := 2) z10 rfl; omega) rfl ?_
      refine am_aload_n (pc' := 155) dX8_span_154 rfl rfl ?_
      refine am_iload_n (pc' := 156) dX8_span_155 rfl rfl ?_
      refine am_iload_n (pc' := 157) dX8_span_156 rfl rfl ?_
      obtain ⟨x13, ex13, hF⟩ := am_bind hF
      obtain ⟨ox13, px13⟩ := t_X8_mostOften ex13
      refine am_callV1 (Mc := M_X8_mostOften) (As := [.int v2, .int v3]) (st := []) (pc' := 160) dX8_span_157 cw_X8_288 wd_4_13 sl_X8_mostOften ⟨_, rfl, rfl⟩ (by decide) (by decide) rfl rfl (Nat.le_of_ble_eq_true rfl) px13 (c_X8_mostOften ex13) rfl ?_
      cases hF
      exact am_iret dX8_span_160 rfl rfl
    · refine am_icmp_gt_f (pc' := 70) (tgt := 90) dX8_span_67 rfl z2 rfl ?_
      refine am_aload_n (pc' := 71) dX8_span_70 rfl rfl ?_
      refine am_aload (pc' := 73) dX8_span_71 rfl rfl ?_
      refine am_iload (pc' := 75) dX8_span_73 rfl rfl ?_
      obtain ⟨x14, ex14, hF⟩ := am_bind hF
      obtain ⟨ox14, px14⟩ := t_X8_isTornIn ex14
      refine am_callV1 (Mc := M_X8_isTornIn) (As := [.ref v5, .int v6]) (st := []) (pc' := 78) dX8_span_75 cw_X8_164 wd_2_151 sl_X8_isTornIn ⟨_, rfl, rfl⟩ (by decide) (by decide) rfl rfl (Nat.le_of_ble_eq_true rfl) px14 (c_X8_isTornIn ex14) rfl ?_
      rcases am_ite hF with ⟨z15, hF⟩ | ⟨z15, hF⟩
      · refine am_if_eq_t (pc' := 84) dX8_span_78 rfl z15 ?_
        refine am_iinc (ls' := [some (.ref v0), none, some (.int v2), some (.int v3), some (.int v4), some (.ref v5), some (.int (v6 + (1 : Int32)))]) (pc' := 87) (v := (v6 + (1 : Int32))) dX8_span_84 rfl rfl (Nat.le_of_ble_eq_true rfl) rfl rfl ?_
        refine am_goto (pc' := 56) dX8_span_87 rfl ?_
        exact w_X8_span_56 n v0 v2 v3 v4 v5 (v6 + (1 : Int32)) h hF
      · refine am_if_eq_f (pc' := 81) (tgt := 84) dX8_span_78 rfl z15 rfl ?_
        refine am_ldc (v := (-100005 : Int32)) (pc' := 83) dX8_span_81 wd_2_153 rfl ?_
        cases hF
        exact am_iret dX8_span_83 rfl rfl
def F_X8_span_b (v0 : Nat) (v1 : Int32) (v2 : Int32) (v3 : Int32) (v4 : Int32) (h : am_H) : Option (Int32 × am_H) :=
  (F_X8_versionOf v0 v1 h).bind fun x1 =>
  if x1 = 0 then
    F_X8_span_30 h
  else
    if v2 < 0 then
      F_X8_span_30 h
    else
      (am_gi 7 3 x1 h).bind fun x4 =>
      if x4 < v3 then
        F_X8_span_30 h
      else
        if v2 < v3 then
          if v4 < 0 then
            F_X8_span_44 h
          else
            if v4 ≤ (3 : Int32) then
              (F_X8_indexAt v0 x1 v2 h).bind fun x9 =>
              F_X8_span_56 am_F v0 v2 v3 v4 x1 x9 h
            else
              F_X8_span_44 h
        else
          F_X8_span_30 h
theorem w_X8_span {g : am_G} {l : Launch} {h0 : am_H} {x : Int32} {hf : am_H}  (v0 : Nat) (v1 : Int32) (v2 : Int32) (v3 : Int32) (v4 : Int32) (h : am_H) (hF : F_X8_span_b v0 v1 v2 v3 v4 h = some (x, hf)) : am_W g l M_X8_span h0 (some (.int x)) hf 0 [some (.ref v0), some (.int v1), some (.int v2), some (.int v3), some (.int v4), none, none] [] h := by
  unfold F_X8_span_b at hF
  refine am_aload_n (pc' := 1) dX8_span_0 rfl rfl ?_
  refine am_iload_n (pc' := 2) dX8_span_1 rfl rfl ?_
  obtain ⟨x1, ex1, hF⟩ := am_bind hF
  obtain ⟨ox1, px1⟩ := t_X8_versionOf ex1
  refine am_callV1 (Mc := M_X8_versionOf) (As := [.int v1]) (st := []) (pc' := 5) dX8_span_2 cw_X8_126 wd_2_135 sl_X8_versionOf ⟨_, rfl, rfl⟩ (by decide) (by decide) rfl rfl (Nat.le_of_ble_eq_true rfl) px1 (c_X8_versionOf ex1) rfl ?_
  refine am_astore (ls' := [some (.ref v0), some (.int v1), some (.int v2), some (.int v3), some (.int v4), some (.ref x1), none]) (pc' := 7) dX8_span_5 (Nat.le_of_ble_eq_true rfl) rfl rfl ?_
  refine am_aload (pc' := 9) dX8_span_7 rfl rfl ?_
  rcases am_ite hF with ⟨z2, hF⟩ | ⟨z2, hF⟩
  · refine am_ifnull_t (pc' := 30) dX8_span_9 rfl z2 ?_
    exact am_weak [false, false, false, false, false, false, false] (w_X8_span_30 h hF)
  · refine am_ifnull_f (pc' := 12) dX8_span_9 z2 rfl ?_
    refine am_iload_n (pc' := 13) dX8_span_12 rfl rfl ?_
    rcases am_ite hF with ⟨z3, hF⟩ | ⟨z3, hF⟩
    · refine am_if_lt_t (pc' := 30) dX8_span_13 rfl z3 ?_
      exact am_weak [false, false, false, false, false, false, false] (w_X8_span_30 h hF)
    · refine am_if_lt_f (pc' := 16) (tgt := 30) dX8_span_13 rfl z3 rfl ?_
      refine am_iload_n (pc' := 17) dX8_span_16 rfl rfl ?_
      refine am_aload (pc' := 19) dX8_span_17 rfl rfl ?_
      obtain ⟨x4, ex4, hF⟩ := am_bind hF
      refine am_geti (pc' := 22) dX8_span_19 fw_X8_130 ex4 rfl ?_
      rcases am_ite hF with ⟨z5, hF⟩ | ⟨z5, hF⟩
      · refine am_icmp_gt_t (pc' := 30) dX8_span_22 rfl z5 ?_
        exact am_weak [false, false, false, false, false, false, false] (w_X8_span_30 h hF)
      · refine am_icmp_gt_f (pc' := 25) (tgt := 30) dX8_span_22 rfl z5 rfl ?_
        refine am_iload_n (pc' := 26) dX8_span_25 rfl rfl ?_
        refine am_iload_n (pc' := 27) dX8_span_26 rfl rfl ?_
        rcases am_ite hF with ⟨z6, hF⟩ | ⟨z6, hF⟩
        · refine am_icmp_lt_t (pc' := 33) dX8_span_27 rfl z6 ?_
          refine am_iload (pc' := 35) dX8_span_33 rfl rfl ?_
          rcases am_ite hF with ⟨z7, hF⟩ | ⟨z7, hF⟩
          · refine am_if_lt_t (pc' := 44) dX8_span_35 rfl z7 ?_
            exact am_weak [false, false, false, false, false, false, false] (w_X8_span_44 h hF)
          · refine am_if_lt_f (pc' := 38) (tgt := 44) dX8_span_35 rfl z7 rfl ?_
            refine am_iload (pc' := 40) dX8_span_38 rfl rfl ?_
            refine am_iconst (v := (3 : Int32)) (pc' := 41) dX8_span_40 rfl rfl ?_
            rcases am_ite hF with ⟨z8, hF⟩ | ⟨z8, hF⟩
            · refine am_icmp_le_t (pc' := 47) dX8_span_41 rfl z8 ?_
              refine am_aload_n (pc' := 48) dX8_span_47 rfl rfl ?_
              refine am_aload (pc' := 50) dX8_span_48 rfl rfl ?_
              refine am_iload_n (pc' := 51) dX8_span_50 rfl rfl ?_
              obtain ⟨x9, ex9, hF⟩ := am_bind hF
              obtain ⟨ox9, px9⟩ := t_X8_indexAt ex9
              refine am_callV1 (Mc := M_X8_indexAt) (As := [.ref x1, .int v2]) (st := []) (pc' := 54) dX8_span_51 cw_X8_141 wd_2_156 sl_X8_indexAt ⟨_, rfl, rfl⟩ (by decide) (by decide) rfl rfl (Nat.le_of_ble_eq_true rfl) px9 (c_X8_indexAt ex9) rfl ?_
              refine am_istore (ls' := [some (.ref v0), some (.int v1), some (.int v2), some (.int v3), some (.int v4), some (.ref x1), some (.int x9)]) (pc' := 56) dX8_span_54 (Nat.le_of_ble_eq_true rfl) rfl rfl ?_
              exact am_weak [true, false, true, true, true, true, true] (w_X8_span_56 am_F v0 v2 v3 v4 x1 x9 h hF)
            · refine am_icmp_le_f (pc' := 44) (tgt := 47) dX8_span_41 rfl z8 rfl ?_
              exact am_weak [false, false, false, false, false, false, false] (w_X8_span_44 h hF)
        · refine am_icmp_lt_f (pc' := 30) (tgt := 33) dX8_span_27 rfl z6 rfl ?_
          exact am_weak [false, false, false, false, false, false, false] (w_X8_span_30 h hF)
def F_X8_span (v0 : Nat) (v1 : Int32) (v2 : Int32) (v3 : Int32) (v4 : Int32) (h : am_H) : Option (Int32 × am_H) := (am_obj v0 8 h).bind fun _ => F_X8_span_b v0 v1 v2 v3 v4 h
theorem t_X8_span {x : Int32} {hf : am_H}  {v0 : Nat} {v1 : Int32} {v2 : Int32} {v3 : Int32} {v4 : Int32} {h : am_H} (hF : F_X8_span v0 v1 v2 v3 v4 h = some (x, hf)) : ∃ fs, am_obj v0 8 h = some fs := by
  obtain ⟨fs, e, _⟩ := am_bind hF
  exact ⟨fs, e⟩
theorem c_X8_span {g : am_G} {l : Launch} {x : Int32} {hf : am_H}  {v0 : Nat} {v1 : Int32} {v2 : Int32} {v3 : Int32} {v4 : Int32} {h : am_H} (hF : F_X8_span v0 v1 v2 v3 v4 h = some (x, hf)) : am_Met g l M_X8_span [.ref v0, .int v1, .int v2, .int v3, .int v4] h (some (.int x)) hf := by
  obtain ⟨fs, e0, e⟩ := am_bind hF
  exact am_met (n := 2) (by decide +kernel) rfl (Nat.le_of_ble_eq_true rfl) (w_X8_span v0 v1 v2 v3 v4 h e)
def F_X9_span_41 (h : am_H) : Option (Int32 × am_H) :=
  some ((-100001 : Int32), h)
theorem w_X9_span_41 {g : am_G} {l : Launch} {h0 : am_H} {x : Int32} {hf : am_H}  (h : am_H) (hF : F_X9_span_41 h = some (x, hf)) : am_W g l M_X9_span h0 (some (.int x)) hf 41 [none, none, none, none, none, none, none, none, none, none, none, none, none] [] h := by
  unfold F_X9_span_41 at hF
  refine am_ldc (v := (-100001 : Int32)) (pc' := 43) dX9_span_41 wd_5_47 rfl ?_
  cases hF
  exact am_iret dX9_span_43 rfl rfl
def F_X9_span_168 (k79 : Nat → Int32 → Int32 → Int32 → Int32 → Int32 → Int32 → Int32 → Int32 → Int32 → Int32 → am_H → Option (Int32 × am_H)) (v0 : Nat) (v1 : Int32) (v2 : Int32) (v3 : Int32) (v4 : Int32) (v5 : Int32) (v6 : Int32) (v8 : Int32) (v9 : Int32) (v10 : Int32) (s0 : Int32) (h : am_H) : Option (Int32 × am_H) :=
  k79 v0 v1 v2 v3 v4 v5 v6 s0 v8 v9 (v10 + (1 : Int32)) h
theorem w_X9_span_168 {g : am_G} {l : Launch} {h0 : am_H} {x : Int32} {hf : am_H}  {k79 : Nat → Int32 → Int32 → Int32 → Int32 → Int32 → Int32 → Int32 → Int32 → Int32 → Int32 → am_H → Option (Int32 × am_H)} (j79 : ∀ (v0 : Nat) (v1 : Int32) (v2 : Int32) (v3 : Int32) (v4 : Int32) (v5 : Int32) (v6 : Int32) (v7 : Int32) (v8 : Int32) (v9 : Int32) (v10 : Int32) (h : am_H), k79 v0 v1 v2 v3 v4 v5 v6 v7 v8 v9 v10 h = some (x, hf) → am_W g l M_X9_span h0 (some (.int x)) hf 79 [some (.ref v0), some (.int v1), some (.int v2), some (.int v3), some (.int v4), some (.int v5), some (.int v6), some (.int v7), some (.int v8), some (.int v9), some (.int v10), none, none] [] h) (v0 : Nat) (v1 : Int32) (v2 : Int32) (v3 : Int32) (v4 : Int32) (v5 : Int32) (v6 : Int32) (v8 : Int32) (v9 : Int32) (v10 : Int32) (s0 : Int32) (h : am_H) (hF : F_X9_span_168 k79 v0 v1 v2 v3 v4 v5 v6 v8 v9 v10 s0 h = some (x, hf)) : am_W g l M_X9_span h0 (some (.int x)) hf 168 [some (.ref v0), some (.int v1), some (.int v2), some (.int v3), some (.int v4), some (.int v5), some (.int v6), none, some (.int v8), some (.int v9), some (.int v10), none, none] [.int s0] h := by
  unfold F_X9_span_168 at hF
  refine am_istore (ls' := [some (.ref v0), some (.int v1), some (.int v2), some (.int v3), some (.int v4), some (.int v5), some (.int v6), some (.int s0), some (.int v8), some (.int v9), some (.int v10), none, none]) (pc' := 170) dX9_span_168 (Nat.le_of_ble_eq_true rfl) rfl rfl ?_
  refine am_iinc (ls' := [some (.ref v0), some (.int v1), some (.int v2), some (.int v3), some (.int v4), some (.int v5), some (.int v6), some (.int s0), some (.int v8), some (.int v9), some (.int (v10 + (1 : Int32))), none, none]) (pc' := 173) (v := (v10 + (1 : Int32))) dX9_span_170 rfl rfl (Nat.le_of_ble_eq_true rfl) rfl rfl ?_
  refine am_goto (pc' := 79) dX9_span_173 rfl ?_
  exact j79 v0 v1 v2 v3 v4 v5 v6 s0 v8 v9 (v10 + (1 : Int32)) h hF
def F_X9_span_152 (k79 : Nat → Int32 → Int32 → Int32 → Int32 → Int32 → Int32 → Int32 → Int32 → Int32 → Int32 → am_H → Option (Int32 × am_H)) (v0 : Nat) (v1 : Int32) (v2 : Int32) (v3 : Int32) (v4 : Int32) (v5 : Int32) (v7 : Int32) (v8 : Int32) (v9 : Int32) (v10 : Int32) (v11 : Int32) (s0 : Int32) (h : am_H) : Option (Int32 × am_H) :=
  if v11 ≤ v7 then
    F_X9_span_168 k79 v0 v1 v2 v3 v4 v5 s0 v8 v9 v10 v7 h
  else
    F_X9_span_168 k79 v0 v1 v2 v3 v4 v5 s0 v8 v9 v10 v11 h
theorem w_X9_span_152 {g : am_G} {l : Launch} {h0 : am_H} {x : Int32} {hf : am_H}  {k79 : Nat → Int32 → Int32 → Int32 → Int32 → Int32 → Int32 → Int32 → Int32 → Int32 → Int32 → am_H → Option (Int32 × am_H)} (j79 : ∀ (v0 : Nat) (v1 : Int32) (v2 : Int32) (v3 : Int32) (v4 : Int32) (v5 : Int32) (v6 : Int32) (v7 : Int32) (v8 : Int32) (v9 : Int32) (v10 : Int32) (h : am_H), k79 v0 v1 v2 v3 v4 v5 v6 v7 v8 v9 v10 h = some (x, hf) → am_W g l M_X9_span h0 (some (.int x)) hf 79 [some (.ref v0), some (.int v1), some (.int v2), some (.int v3), some (.int v4), some (.int v5), some (.int v6), some (.int v7), some (.int v8), some (.int v9), some (.int v10), none, none] [] h) (v0 : Nat) (v1 : Int32) (v2 : Int32) (v3 : Int32) (v4 : Int32) (v5 : Int32) (v7 : Int32) (v8 : Int32) (v9 : Int32) (v10 : Int32) (v11 : Int32) (s0 : Int32) (h : am_H) (hF : F_X9_span_152 k79 v0 v1 v2 v3 v4 v5 v7 v8 v9 v10 v11 s0 h = some (x, hf)) : am_W g l M_X9_span h0 (some (.int x)) hf 152 [some (.ref v0), some (.int v1), some (.int v2), some (.int v3), some (.int v4), some (.int v5), none, some (.int v7), some (.int v8), some (.int v9), some (.int v10), some (.int v11), none] [.int s0] h := by
  unfold F_X9_span_152 at hF
  refine am_istore (ls' := [some (.ref v0), some (.int v1), some (.int v2), some (.int v3), some (.int v4), some (.int v5), some (.int s0), some (.int v7), some (.int v8), some (.int v9), some (.int v10), some (.int v11), none]) (pc' := 154) dX9_span_152 (Nat.le_of_ble_eq_true rfl) rfl rfl ?_
  refine am_iload (pc' := 156) dX9_span_154 rfl rfl ?_
  refine am_iload (pc' := 158) dX9_span_156 rfl rfl ?_
  rcases am_ite hF with ⟨z1, hF⟩ | ⟨z1, hF⟩
  · refine am_icmp_le_t (pc' := 166) dX9_span_158 rfl z1 ?_
    refine am_iload (pc' := 168) dX9_span_166 rfl rfl ?_
    exact am_weak [true, true, true, true, true, true, true, false, true, true, true, false, false] (w_X9_span_168 j79 v0 v1 v2 v3 v4 v5 s0 v8 v9 v10 v7 h hF)
  · refine am_icmp_le_f (pc' := 161) (tgt := 166) dX9_span_158 rfl z1 rfl ?_
    refine am_iload (pc' := 163) dX9_span_161 rfl rfl ?_
    refine am_goto (pc' := 168) dX9_span_163 rfl ?_
    exact am_weak [true, true, true, true, true, true, true, false, true, true, true, false, false] (w_X9_span_168 j79 v0 v1 v2 v3 v4 v5 s0 v8 v9 v10 v11 h hF)
def F_X9_span_217 (k179 : Nat → Int32 → Int32 → Int32 → Int32 → Int32 → Int32 → Int32 → Int32 → Int32 → Int32 → am_H → Option (Int32 × am_H)) (k192 : Nat → Int32 → Int32 → Int32 → Int32 → Int32 → Int32 → Int32 → Int32 → Int32 → Int32 → Int32 → Int32 → am_H → Option (Int32 × am_H)) (v0 : Nat) (v1 : Int32) (v2 : Int32) (v3 : Int32) (v4 : Int32) (v5 : Int32) (v6 : Int32) (v7 : Int32) (v8 : Int32) (v9 : Int32) (v10 : Int32) (v12 : Int32) (s0 : Int32) (s1 : Int32) (h : am_H) : Option (Int32 × am_H) :=
  (F_X9_one s1 h).bind fun x1 =>
  k192 v0 v1 v2 v3 v4 v5 v6 v7 v8 v9 v10 (s0 + x1) (v12 + (1 : Int32)) h
theorem w_X9_span_217 {g : am_G} {l : Launch} {h0 : am_H} {x : Int32} {hf : am_H}  {k179 : Nat → Int32 → Int32 → Int32 → Int32 → Int32 → Int32 → Int32 → Int32 → Int32 → Int32 → am_H → Option (Int32 × am_H)} {k192 : Nat → Int32 → Int32 → Int32 → Int32 → Int32 → Int32 → Int32 → Int32 → Int32 → Int32 → Int32 → Int32 → am_H → Option (Int32 × am_H)} (j179 : ∀ (v0 : Nat) (v1 : Int32) (v2 : Int32) (v3 : Int32) (v4 : Int32) (v5 : Int32) (v6 : Int32) (v7 : Int32) (v8 : Int32) (v9 : Int32) (v10 : Int32) (h : am_H), k179 v0 v1 v2 v3 v4 v5 v6 v7 v8 v9 v10 h = some (x, hf) → am_W g l M_X9_span h0 (some (.int x)) hf 179 [some (.ref v0), some (.int v1), some (.int v2), some (.int v3), some (.int v4), some (.int v5), some (.int v6), some (.int v7), some (.int v8), some (.int v9), some (.int v10), none, none] [] h) (j192 : ∀ (v0 : Nat) (v1 : Int32) (v2 : Int32) (v3 : Int32) (v4 : Int32) (v5 : Int32) (v6 : Int32) (v7 : Int32) (v8 : Int32) (v9 : Int32) (v10 : Int32) (v11 : Int32) (v12 : Int32) (h : am_H), k192 v0 v1 v2 v3 v4 v5 v6 v7 v8 v9 v10 v11 v12 h = some (x, hf) → am_W g l M_X9_span h0 (some (.int x)) hf 192 [some (.ref v0), some (.int v1), some (.int v2), some (.int v3), some (.int v4), some (.int v5), some (.int v6), some (.int v7), some (.int v8), some (.int v9), some (.int v10), some (.int v11), some (.int v12)] [] h) (v0 : Nat) (v1 : Int32) (v2 : Int32) (v3 : Int32) (v4 : Int32) (v5 : Int32) (v6 : Int32) (v7 : Int32) (v8 : Int32) (v9 : Int32) (v10 : Int32) (v12 : Int32) (s0 : Int32) (s1 : Int32) (h : am_H) (hF : F_X9_span_217 k179 k192 v0 v1 v2 v3 v4 v5 v6 v7 v8 v9 v10 v12 s0 s1 h = some (x, hf)) : am_W g l M_X9_span h0 (some (.int x)) hf 217 [some (.ref v0), some (.int v1), some (.int v2), some (.int v3), some (.int v4), some (.int v5), some (.int v6), some (.int v7), some (.int v8), some (.int v9), some (.int v10), none, some (.int v12)] [.int s1, .int s0] h := by
  unfold F_X9_span_217 at hF
  obtain ⟨x1, ex1, hF⟩ := am_bind hF
  refine am_callS1 (Mc := M_X9_one) (As := [.int s1]) (st := [.int s0]) (pc' := 220) dX9_span_217 cw_X9_150 wd_5_53 (by decide) (by decide) rfl rfl (Nat.le_of_ble_eq_true rfl) (c_X9_one ex1) rfl ?_
  refine am_iadd (pc' := 221) dX9_span_220 rfl ?_
  refine am_istore (ls' := [some (.ref v0), some (.int v1), some (.int v2), some (.int v3), some (.int v4), some (.int v5), some (.int v6), some (.int v7), some (.int v8), some (.int v9), some (.int v10), some (.int (s0 + x1)), some (.int v12)]) (pc' := 223) dX9_span_221 (Nat.le_of_ble_eq_true rfl) rfl rfl ?_
  refine am_iinc (ls' := [some (.ref v0), some (.int v1), some (.int v2), some (.int v3), some (.int v4), some (.int v5), some (.int v6), some (.int v7), some (.int v8), some (.int v9), some (.int v10), some (.int (s0 + x1)), some (.int (v12 + (1 : Int32)))]) (pc' := 226) (v := (v12 + (1 : Int32))) dX9_span_223 rfl rfl (Nat.le_of_ble_eq_true rfl) rfl rfl ?_
  refine am_goto (pc' := 192) dX9_span_226 rfl ?_
  exact j192 v0 v1 v2 v3 v4 v5 v6 v7 v8 v9 v10 (s0 + x1) (v12 + (1 : Int32)) h hF
def F_X9_span_259 (k179 : Nat → Int32 → Int32 → Int32 → Int32 → Int32 → Int32 → Int32 → Int32 → Int32 → Int32 → am_H → Option (Int32 × am_H)) (v0 : Nat) (v1 : Int32) (v2 : Int32) (v3 : Int32) (v4 : Int32) (v5 : Int32) (v6 : Int32) (v7 : Int32) (v9 : Int32) (v10 : Int32) (s0 : Int32) (h : am_H) : Option (Int32 × am_H) :=
  k179 v0 v1 v2 v3 v4 v5 v6 v7 s0 v9 (v10 + (1 : Int32)) h
theorem w_X9_span_259 {g : am_G} {l : Launch} {h0 : am_H} {x : Int32} {hf : am_H}  {k179 : Nat → Int32 → Int32 → Int32 → Int32 → Int32 → Int32 → Int32 → Int32 → Int32 → Int32 → am_H → Option (Int32 × am_H)} (j179 : ∀ (v0 : Nat) (v1 : Int32) (v2 : Int32) (v3 : Int32) (v4 : Int32) (v5 : Int32) (v6 : Int32) (v7 : Int32) (v8 : Int32) (v9 : Int32) (v10 : Int32) (h : am_H), k179 v0 v1 v2 v3 v4 v5 v6 v7 v8 v9 v10 h = some (x, hf) → am_W g l M_X9_span h0 (some (.int x)) hf 179 [some (.ref v0), some (.int v1), some (.int v2), some (.int v3), some (.int v4), some (.int v5), some (.int v6), some (.int v7), some (.int v8), some (.int v9), some (.int v10), none, none] [] h) (v0 : Nat) (v1 : Int32) (v2 : Int32) (v3 : Int32) (v4 : Int32) (v5 : Int32) (v6 : Int32) (v7 : Int32) (v9 : Int32) (v10 : Int32) (s0 : Int32) (h : am_H) (hF : F_X9_span_259 k179 v0 v1 v2 v3 v4 v5 v6 v7 v9 v10 s0 h = some (x, hf)) : am_W g l M_X9_span h0 (some (.int x)) hf 259 [some (.ref v0), some (.int v1), some (.int v2), some (.int v3), some (.int v4), some (.int v5), some (.int v6), some (.int v7), none, some (.int v9), some (.int v10), none, none] [.int s0] h := by
  unfold F_X9_span_259 at hF
  refine am_istore (ls' := [some (.ref v0), some (.int v1), some (.int v2), some (.int v3), some (.int v4), some (.int v5), some (.int v6), some (.int v7), some (.int s0), some (.int v9), some (.int v10), none, none]) (pc' := 261) dX9_span_259 (Nat.le_of_ble_eq_true rfl) rfl rfl ?_
  refine am_iinc (ls' := [some (.ref v0), some (.int v1), some (.int v2), some (.int v3), some (.int v4), some (.int v5), some (.int v6), some (.int v7), some (.int s0), some (.int v9), some (.int (v10 + (1 : Int32))), none, none]) (pc' := 264) (v := (v10 + (1 : Int32))) dX9_span_261 rfl rfl (Nat.le_of_ble_eq_true rfl) rfl rfl ?_
  refine am_goto (pc' := 179) dX9_span_264 rfl ?_
  exact j179 v0 v1 v2 v3 v4 v5 v6 v7 s0 v9 (v10 + (1 : Int32)) h hF
def F_X9_span_243 (k179 : Nat → Int32 → Int32 → Int32 → Int32 → Int32 → Int32 → Int32 → Int32 → Int32 → Int32 → am_H → Option (Int32 × am_H)) (v0 : Nat) (v1 : Int32) (v2 : Int32) (v3 : Int32) (v4 : Int32) (v5 : Int32) (v6 : Int32) (v7 : Int32) (v8 : Int32) (v10 : Int32) (v11 : Int32) (s0 : Int32) (h : am_H) : Option (Int32 × am_H) :=
  if v11 ≤ v8 then
    F_X9_span_259 k179 v0 v1 v2 v3 v4 v5 v6 v7 s0 v10 v8 h
  else
    F_X9_span_259 k179 v0 v1 v2 v3 v4 v5 v6 v7 s0 v10 v11 h
theorem w_X9_span_243 {g : am_G} {l : Launch} {h0 : am_H} {x : Int32} {hf : am_H}  {k179 : Nat → Int32 → Int32 → Int32 → Int32 → Int32 → Int32 → Int32 → Int32 → Int32 → Int32 → am_H → Option (Int32 × am_H)} (j179 : ∀ (v0 : Nat) (v1 : Int32) (v2 : Int32) (v3 : Int32) (v4 : Int32) (v5 : Int32) (v6 : Int32) (v7 : Int32) (v8 : Int32) (v9 : Int32) (v10 : Int32) (h : am_H), k179 v0 v1 v2 v3 v4 v5 v6 v7 v8 v9 v10 h = some (x, hf) → am_W g l M_X9_span h0 (some (.int x)) hf 179 [some (.ref v0), some (.int v1), some (.int v2), some (.int v3), some (.int v4), some (.int v5), some (.int v6), some (.int v7), some (.int v8), some (.int v9), some (.int v10), none, none] [] h) (v0 : Nat) (v1 : Int32) (v2 : Int32) (v3 : Int32) (v4 : Int32) (v5 : Int32) (v6 : Int32) (v7 : Int32) (v8 : Int32) (v10 : Int32) (v11 : Int32) (s0 : Int32) (h : am_H) (hF : F_X9_span_243 k179 v0 v1 v2 v3 v4 v5 v6 v7 v8 v10 v11 s0 h = some (x, hf)) : am_W g l M_X9_span h0 (some (.int x)) hf 243 [some (.ref v0), some (.int v1), some (.int v2), some (.int v3), some (.int v4), some (.int v5), some (.int v6), some (.int v7), some (.int v8), none, some (.int v10), some (.int v11), none] [.int s0] h := by
  unfold F_X9_span_243 at hF
  refine am_istore (ls' := [some (.ref v0), some (.int v1), some (.int v2), some (.int v3), some (.int v4), some (.int v5), some (.int v6), some (.int v7), some (.int v8), some (.int s0), some (.int v10), some (.int v11), none]) (pc' := 245) dX9_span_243 (Nat.le_of_ble_eq_true rfl) rfl rfl ?_
  refine am_iload (pc' := 247) dX9_span_245 rfl rfl ?_
  refine am_iload (pc' := 249) dX9_span_247 rfl rfl ?_
  rcases am_ite hF with ⟨z1, hF⟩ | ⟨z1, hF⟩
  · refine am_icmp_le_t (pc' := 257) dX9_span_249 rfl z1 ?_
    refine am_iload (pc' := 259) dX9_span_257 rfl rfl ?_
    exact am_weak [true, true, true, true, true, true, true, true, false, true, true, false, false] (w_X9_span_259 j179 v0 v1 v2 v3 v4 v5 v6 v7 s0 v10 v8 h hF)
  · refine am_icmp_le_f (pc' := 252) (tgt := 257) dX9_span_249 rfl z1 rfl ?_
    refine am_iload (pc' := 254) dX9_span_252 rfl rfl ?_
    refine am_goto (pc' := 259) dX9_span_254 rfl ?_
    exact am_weak [true, true, true, true, true, true, true, true, false, true, true, false, false] (w_X9_span_259 j179 v0 v1 v2 v3 v4 v5 v6 v7 s0 v10 v11 h hF)
def F_X9_span_192 (k179 : Nat → Int32 → Int32 → Int32 → Int32 → Int32 → Int32 → Int32 → Int32 → Int32 → Int32 → am_H → Option (Int32 × am_H)) : Nat → Nat → Int32 → Int32 → Int32 → Int32 → Int32 → Int32 → Int32 → Int32 → Int32 → Int32 → Int32 → Int32 → am_H → Option (Int32 × am_H)
  | 0, _, _, _, _, _, _, _, _, _, _, _, _, _, _ => none
  | n + 1, v0, v1, v2, v3, v4, v5, v6, v7, v8, v9, v10, v11, v12, h =>
  if v3 ≤ v12 then
    if v11 ≤ v8 then
      F_X9_span_243 k179 v0 v1 v2 v3 v4 v5 v6 v7 v8 v10 v11 v9 h
    else
      F_X9_span_243 k179 v0 v1 v2 v3 v4 v5 v6 v7 v8 v10 v11 v10 h
  else
    (F_X9_signAt v0 v1 v12 h).bind fun q3 =>
    if q3.1 = v10 then
      F_X9_span_217 k179 (F_X9_span_192 k179 n) v0 v1 v2 v3 v4 v5 v6 v7 v8 v9 v10 v12 v11 (1 : Int32) q3.2
    else
      F_X9_span_217 k179 (F_X9_span_192 k179 n) v0 v1 v2 v3 v4 v5 v6 v7 v8 v9 v10 v12 v11 (0 : Int32) q3.2
theorem w_X9_span_192 {g : am_G} {l : Launch} {h0 : am_H} {x : Int32} {hf : am_H}  {k179 : Nat → Int32 → Int32 → Int32 → Int32 → Int32 → Int32 → Int32 → Int32 → Int32 → Int32 → am_H → Option (Int32 × am_H)} (j179 : ∀ (v0 : Nat) (v1 : Int32) (v2 : Int32) (v3 : Int32) (v4 : Int32) (v5 : Int32) (v6 : Int32) (v7 : Int32) (v8 : Int32) (v9 : Int32) (v10 : Int32) (h : am_H), k179 v0 v1 v2 v3 v4 v5 v6 v7 v8 v9 v10 h = some (x, hf) → am_W g l M_X9_span h0 (some (.int x)) hf 179 [some (.ref v0), some (.int v1), some (.int v2), some (.int v3), some (.int v4), some (.int v5), some (.int v6), some (.int v7), some (.int v8), some (.int v9), some (.int v10), none, none] [] h) : ∀ (n : Nat) (v0 : Nat) (v1 : Int32) (v2 : Int32) (v3 : Int32) (v4 : Int32) (v5 : Int32) (v6 : Int32) (v7 : Int32) (v8 : Int32) (v9 : Int32) (v10 : Int32) (v11 : Int32) (v12 : Int32) (h : am_H), F_X9_span_192 k179 n v0 v1 v2 v3 v4 v5 v6 v7 v8 v9 v10 v11 v12 h = some (x, hf) → am_W g l M_X9_span h0 (some (.int x)) hf 192 [some (.ref v0), some (.int v1), some (.int v2), some (.int v3), some (.int v4), some (.int v5), some (.int v6), some (.int v7), some (.int v8), some (.int v9), some (.int v10), some (.int v11), some (.int v12)] [] h
  | 0, _, _, _, _, _, _, _, _, _, _, _, _, _, _, hF => by cases hF
  | n + 1, v0, v1, v2, v3, v4, v5, v6, v7, v8, v9, v10, v11, v12, h, hF => by
    rw [F_X9_span_192] at hF
    refine am_iload (pc' := 194) dX9_span_192 rfl rfl ?_
    refine am_iload_n (pc' := 195) dX9_span_194 rfl rfl ?_
    rcases am_ite hF with ⟨z1, hF⟩ | ⟨z1, hF⟩
    · refine am_icmp_ge_t (pc' := 229) dX9_span_195 rfl z1 ?_
      refine am_iload (pc' := 231) dX9_span_229 rfl rfl ?_
      refine am_iload (pc' := 233) dX9_span_231 rfl rfl ?_
      rcases am_ite hF with ⟨z2, hF⟩ | ⟨z2, hF⟩
      · refine am_icmp_le_t (pc' := 241) dX9_span_233 rfl z2 ?_
        refine am_iload (pc' := 243) dX9_span_241 rfl rfl ?_
        exact am_weak [true, true, true, true, true, true, true, true, true, false, true, true, false] (w_X9_span_243 j179 v0 v1 v2 v3 v4 v5 v6 v7 v8 v10 v11 v9 h hF)
      · refine am_icmp_le_f (pc' := 236) (tgt := 241) dX9_span_233 rfl z2 rfl ?_
        refine am_iload (pc' := 238) dX9_span_236 rfl rfl ?_
        refine am_goto (pc' := 243) dX9_span_238 rfl ?_
        exact am_weak [true, true, true, true, true, true, true, true, true, false, true, true, false] (w_X9_span_243 j179 v0 v1 v2 v3 v4 v5 v6 v7 v8 v10 v11 v10 h hF)
    · refine am_icmp_ge_f (pc' := 198) (tgt := 229) dX9_span_195 rfl z1 rfl ?_
      refine am_iload (pc' := 200) dX9_span_198 rfl rfl ?_
      refine am_aload_n (pc' := 201) dX9_span_200 rfl rfl ?_
      refine am_iload_n (pc' := 202) dX9_span_201 rfl rfl ?_
      refine am_iload (pc' := 204) dX9_span_202 rfl rfl ?_
      obtain ⟨q3, eq3, hF⟩ := am_bind hF
      obtain ⟨oq3, pq3⟩ := t_X9_signAt eq3
      refine am_callV1 (Mc := M_X9_signAt) (As := [.int v1, .int v12]) (st := [.int v11]) (pc' := 207) dX9_span_204 cw_X9_293 wd_6_4 sl_X9_signAt ⟨_, rfl, rfl⟩ (by decide) (by decide) rfl rfl (Nat.le_of_ble_eq_true rfl) pq3 (c_X9_signAt eq3) rfl ?_
      refine am_iload (pc' := 209) dX9_span_207 rfl rfl ?_
      rcases am_ite hF with ⟨z4, hF⟩ | ⟨z4, hF⟩
      · refine am_icmp_ne_f (pc' := 212) (tgt := 216) dX9_span_209 rfl z4 rfl ?_
        refine am_iconst (v := (1 : Int32)) (pc' := 213) dX9_span_212 rfl rfl ?_
        refine am_goto (pc' := 217) dX9_span_213 rfl ?_
        exact am_weak [true, true, true, true, true, true, true, true, true, true, true, false, true] (w_X9_span_217 j179 (w_X9_span_192 j179 n) v0 v1 v2 v3 v4 v5 v6 v7 v8 v9 v10 v12 v11 (1 : Int32) q3.2 hF)
      · refine am_icmp_ne_t (pc' := 216) dX9_span_209 rfl z4 ?_
        refine am_iconst (v := (0 : Int32)) (pc' := 217) dX9_span_216 rfl rfl ?_
        exact am_weak [true, true, true, true, true, true, true, true, true, true, true, false, true] (w_X9_span_217 j179 (w_X9_span_192 j179 n) v0 v1 v2 v3 v4 v5 v6 v7 v8 v9 v10 v12 v11 (0 : Int32) q3.2 hF)
def F_X9_span_301 (s0 : Int32) (h : am_H) : Option (Int32 × am_H) :=
  some (s0, h)
theorem w_X9_span_301 {g : am_G} {l : Launch} {h0 : am_H} {x : Int32} {hf : am_H}  (s0 : Int32) (h : am_H) (hF : F_X9_span_301 s0 h = some (x, hf)) : am_W g l M_X9_span h0 (some (.int x)) hf 301 [none, none, none, none, none, none, none, none, none, none, none, none, none] [.int s0] h := by
  unfold F_X9_span_301 at hF
  cases hF
  exact am_iret dX9_span_301 rfl rfl
def F_X9_span_179 : Nat → Nat → Int32 → Int32 → Int32 → Int32 → Int32 → Int32 → Int32 → Int32 → Int32 → Int32 → am_H → Option (Int32 × am_H)
  | 0, _, _, _, _, _, _, _, _, _, _, _, _ => none
  | n + 1, v0, v1, v2, v3, v4, v5, v6, v7, v8, v9, v10, h =>
  if (16 : Int32) ≤ v10 then
    if v4 = 0 then
      F_X9_span_301 v5 h
    else
      if v4 = (1 : Int32) then
        F_X9_span_301 v6 h
      else
        if v4 = (2 : Int32) then
          F_X9_span_301 v7 h
        else
          F_X9_span_301 v9 h
  else
    F_X9_span_192 (F_X9_span_179 n) am_F v0 v1 v2 v3 v4 v5 v6 v7 v8 v9 v10 (0 : Int32) v2 h
theorem w_X9_span_179 {g : am_G} {l : Launch} {h0 : am_H} {x : Int32} {hf : am_H}  : ∀ (n : Nat) (v0 : Nat) (v1 : Int32) (v2 : Int32) (v3 : Int32) (v4 : Int32) (v5 : Int32) (v6 : Int32) (v7 : Int32) (v8 : Int32) (v9 : Int32) (v10 : Int32) (h : am_H), F_X9_span_179 n v0 v1 v2 v3 v4 v5 v6 v7 v8 v9 v10 h = some (x, hf) → am_W g l M_X9_span h0 (some (.int x)) hf 179 [some (.ref v0), some (.int v1), some (.int v2), some (.int v3), some (.int v4), some (.int v5), some (.int v6), some (.int v7), some (.int v8), some (.int v9), some (.int v10), none, none] [] h
  | 0, _, _, _, _, _, _, _, _, _, _, _, _, hF => by cases hF
  | n + 1, v0, v1, v2, v3, v4, v5, v6, v7, v8, v9, v10, h, hF => by
    rw [F_X9_span_179] at hF
    refine am_iload (pc' := 181) dX9_span_179 rfl rfl ?_
    refine am_bipush (v := (16 : Int32)) (pc' := 183) dX9_span_181 rfl rfl ?_
    rcases am_ite hF with ⟨z1, hF⟩ | ⟨z1, hF⟩
    · refine am_icmp_ge_t (pc' := 267) dX9_span_183 rfl z1 ?_
      refine am_iload (pc' := 269) dX9_span_267 rfl rfl ?_
      rcases am_ite hF with ⟨z2, hF⟩ | ⟨z2, hF⟩
      · refine am_if_ne_f (pc' := 272) (tgt := 277) dX9_span_269 rfl z2 rfl ?_
        refine am_iload (pc' := 274) dX9_span_272 rfl rfl ?_
        refine am_goto (pc' := 301) dX9_span_274 rfl ?_
        exact am_weak [false, false, false, false, false, false, false, false, false, false, false, false, false] (w_X9_span_301 v5 h hF)
      · refine am_if_ne_t (pc' := 277) dX9_span_269 rfl z2 ?_
        refine am_iload (pc' := 279) dX9_span_277 rfl rfl ?_
        refine am_iconst (v := (1 : Int32)) (pc' := 280) dX9_span_279 rfl rfl ?_
        rcases am_ite hF with ⟨z3, hF⟩ | ⟨z3, hF⟩
        · refine am_icmp_ne_f (pc' := 283) (tgt := 288) dX9_span_280 rfl z3 rfl ?_
          refine am_iload (pc' := 285) dX9_span_283 rfl rfl ?_
          refine am_goto (pc' := 301) dX9_span_285 rfl ?_
          exact am_weak [false, false, false, false, false, false, false, false, false, false, false, false, false] (w_X9_span_301 v6 h hF)
        · refine am_icmp_ne_t (pc' := 288) dX9_span_280 rfl z3 ?_
          refine am_iload (pc' := 290) dX9_span_288 rfl rfl ?_
          refine am_iconst (v := (2 : Int32)) (pc' := 291) dX9_span_290 rfl rfl ?_
          rcases am_ite hF with ⟨z4, hF⟩ | ⟨z4, hF⟩
          · refine am_icmp_ne_f (pc' := 294) (tgt := 299) dX9_span_291 rfl z4 rfl ?_
            refine am_iload (pc' := 296) dX9_span_294 rfl rfl ?_
            refine am_goto (pc' := 301) dX9_span_296 rfl ?_
            exact am_weak [false, false, false, false, false, false, false, false, false, false, false, false, false] (w_X9_span_301 v7 h hF)
          · refine am_icmp_ne_t (pc' := 299) dX9_span_291 rfl z4 ?_
            refine am_iload (pc' := 301) dX9_span_299 rfl rfl ?_
            exact am_weak [false, false, false, false, false, false, false, false, false, false, false, false, false] (w_X9_span_301 v9 h hF)
    · refine am_icmp_ge_f (pc' := 186) (tgt := 267) dX9_span_183 rfl z1 rfl ?_
      refine am_iconst (v := (0 : Int32)) (pc' := 187) dX9_span_186 rfl rfl ?_
      refine am_istore (ls' := [some (.ref v0), some (.int v1), some (.int v2), some (.int v3), some (.int v4), some (.int v5), some (.int v6), some (.int v7), some (.int v8), some (.int v9), some (.int v10), some (.int (0 : Int32)), none]) (pc' := 189) dX9_span_187 (Nat.le_of_ble_eq_true rfl) rfl rfl ?_
      refine am_iload_n (pc' := 190) dX9_span_189 rfl rfl ?_
      refine am_istore (ls' := [some (.ref v0), some (.int v1), some (.int v2), some (.int v3), some (.int v4), some (.int v5), some (.int v6), some (.int v7), some (.int v8), some (.int v9), some (.int v10), some (.int (0 : Int32)), some (.int v2)]) (pc' := 192) dX9_span_190 (Nat.le_of_ble_eq_true rfl) rfl rfl ?_
      exact w_X9_span_192 (w_X9_span_179 n) am_F v0 v1 v2 v3 v4 v5 v6 v7 v8 v9 v10 (0 : Int32) v2 h hF
def F_X9_span_79 : Nat → Nat → Int32 → Int32 → Int32 → Int32 → Int32 → Int32 → Int32 → Int32 → Int32 → Int32 → am_H → Option (Int32 × am_H)
  | 0, _, _, _, _, _, _, _, _, _, _, _, _ => none
  | n + 1, v0, v1, v2, v3, v4, v5, v6, v7, v8, v9, v10, h =>
  if v3 ≤ v10 then
    F_X9_span_179 am_F v0 v1 v2 v3 v4 v5 v6 v7 v8 v9 (0 : Int32) h
  else
    (F_X9_find v0 v1 v10 h).bind fun h2 =>
    (am_gr 9 5 v0 h2).bind fun x3 =>
    (am_gi 9 18 v0 h2).bind fun x4 =>
    (F_X9_blockAt v0 v1 x4 h2).bind fun x5 =>
    (am_il 1 x3 x5 h2).bind fun x6 =>
    if x6 = 0 then
      (am_gi 9 18 v0 h2).bind fun x8 =>
      (F_X9_blockAt v0 v1 x8 h2).bind fun x9 =>
      (am_gi 9 19 v0 h2).bind fun x10 =>
      (F_X9_sign v0 x9 x10 h2).bind fun x11 =>
      if v6 ≤ x11 then
        F_X9_span_152 (F_X9_span_79 n) v0 v1 v2 v3 v4 (v5 + x11) v7 v8 v9 v10 x11 v6 h2
      else
        F_X9_span_152 (F_X9_span_79 n) v0 v1 v2 v3 v4 (v5 + x11) v7 v8 v9 v10 x11 x11 h2
    else
      some ((-100005 : Int32), h2)
theorem w_X9_span_79 {g : am_G} {l : Launch} {h0 : am_H} {x : Int32} {hf : am_H}  : ∀ (n : Nat) (v0 : Nat) (v1 : Int32) (v2 : Int32) (v3 : Int32) (v4 : Int32) (v5 : Int32) (v6 : Int32) (v7 : Int32) (v8 : Int32) (v9 : Int32) (v10 : Int32) (h : am_H), F_X9_span_79 n v0 v1 v2 v3 v4 v5 v6 v7 v8 v9 v10 h = some (x, hf) → am_W g l M_X9_span h0 (some (.int x)) hf 79 [some (.ref v0), some (.int v1), some (.int v2), some (.int v3), some (.int v4), some (.int v5), some (.int v6), some (.int v7), some (.int v8), some (.int v9), some (.int v10), none, none] [] h
  | 0, _, _, _, _, _, _, _, _, _, _, _, _, hF => by cases hF
  | n + 1, v0, v1, v2, v3, v4, v5, v6, v7, v8, v9, v10, h, hF => by
    rw [F_X9_span_79] at hF
    refine am_iload (pc' := 81) dX9_span_79 rfl rfl ?_
    refine am_iload_n (pc' := 82) dX9_span_81 rfl rfl ?_
    rcases am_ite hF with ⟨z1, hF⟩ | ⟨z1, hF⟩
    · refine am_icmp_ge_t (pc' := 176) dX9_span_82 rfl z1 ?_
      refine am_iconst (v := (0 : Int32)) (pc' := 177) dX9_span_176 rfl rfl ?_
      refine am_istore (ls' := [some (.ref v0), some (.int v1), some (.int v2), some (.int v3), some (.int v4), some (.int v5), some (.int v6), some (.int v7), some (.int v8), some (.int v9), some (.int (0 : Int32)), none, none]) (pc' := 179) dX9_span_177 (Nat.le_of_ble_eq_true rfl) rfl rfl ?_
      exact w_X9_span_179 am_F v0 v1 v2 v3 v4 v5 v6 v7 v8 v9 (0 : Int32) h hF
    · refine am_icmp_ge_f (pc' := 85) (tgt := 176) dX9_span_82 rfl z1 rfl ?_
      refine am_aload_n (pc' := 86) dX9_span_85 rfl rfl ?_
      refine am_iload_n (pc' := 87) dX9_span_86 rfl rfl ?_
      refine am_iload (pc' := 89) dX9_span_87 rfl rfl ?_
      obtain ⟨h2, eh2, hF⟩ := am_bind hF
      obtain ⟨oh2, ph2⟩ := t_X9_find eh2
      refine am_callV0 (Mc := M_X9_find) (As := [.int v1, .int v10]) (st := []) (pc' := 92) dX9_span_89 cw_X9_169 wd_5_58 sl_X9_find ⟨_, rfl, rfl⟩ (by decide) (by decide) rfl rfl (Nat.le_of_ble_eq_true rfl) ph2 (c_X9_find eh2) rfl ?_
      refine am_aload_n (pc' := 93) dX9_span_92 rfl rfl ?_
      obtain ⟨x3, ex3, hF⟩ := am_bind hF
      refine am_getr (pc' := 96) dX9_span_93 fw_X9_19 ex3 rfl ?_
      refine am_aload_n (pc' := 97) dX9_span_96 rfl rfl ?_
      refine am_iload_n (pc' := 98) dX9_span_97 rfl rfl ?_
      refine am_aload_n (pc' := 99) dX9_span_98 rfl rfl ?_
      obtain ⟨x4, ex4, hF⟩ := am_bind hF
      refine am_geti (pc' := 102) dX9_span_99 fw_X9_144 ex4 rfl ?_
      obtain ⟨x5, ex5, hF⟩ := am_bind hF
      obtain ⟨ox5, px5⟩ := t_X9_blockAt ex5
      refine am_callV1 (Mc := M_X9_blockAt) (As := [.int v1, .int x4]) (st := [.ref x3]) (pc' := 105) dX9_span_102 cw_X9_141 wd_5_45 sl_X9_blockAt ⟨_, rfl, rfl⟩ (by decide) (by decide) rfl rfl (Nat.le_of_ble_eq_true rfl) px5 (c_X9_blockAt ex5) rfl ?_
      obtain ⟨x6, ex6, hF⟩ := am_bind hF
      refine am_bald (pc' := 106) dX9_span_105 ex6 rfl ?_
      rcases am_ite hF with ⟨z7, hF⟩ | ⟨z7, hF⟩
      · refine am_if_eq_t (pc' := 112) dX9_span_106 rfl z7 ?_
        refine am_aload_n (pc' := 113) dX9_span_112 rfl rfl ?_
        refine am_aload_n (pc' := 114) dX9_span_113 rfl rfl ?_
        refine am_iload_n (pc' := 115) dX9_span_114 rfl rfl ?_
        refine am_aload_n (pc' := 116) dX9_span_115 rfl rfl ?_
        obtain ⟨x8, ex8, hF⟩ := am_bind hF
        refine am_geti (pc' := 119) dX9_span_116 fw_X9_144 ex8 rfl ?_
        obtain ⟨x9, ex9, hF⟩ := am_bind hF
        obtain ⟨ox9, px9⟩ := t_X9_blockAt ex9
        refine am_callV1 (Mc := M_X9_blockAt) (As := [.int v1, .int x8]) (st := [.ref v0]) (pc' := 122) dX9_span_119 cw_X9_141 wd_5_45 sl_X9_blockAt ⟨_, rfl, rfl⟩ (by decide) (by decide) rfl rfl (Nat.le_of_ble_eq_true rfl) px9 (c_X9_blockAt ex9) rfl ?_
        refine am_aload_n (pc' := 123) dX9_span_122 rfl rfl ?_
        obtain ⟨x10, ex10, hF⟩ := am_bind hF
        refine am_geti (pc' := 126) dX9_span_123 fw_X9_147 ex10 rfl ?_
        obtain ⟨x11, ex11, hF⟩ := am_bind hF
        obtain ⟨ox11, px11⟩ := t_X9_sign ex11
        refine am_callV1 (Mc := M_X9_sign) (As := [.int x9, .int x10]) (st := []) (pc' := 129) dX9_span_126 cw_X9_113 wd_5_21 sl_X9_sign ⟨_, rfl, rfl⟩ (by decide) (by decide) rfl rfl (Nat.le_of_ble_eq_true rfl) px11 (c_X9_sign ex11) rfl ?_
        refine am_istore (ls' := [some (.ref v0), some (.int v1), some (.int v2), some (.int v3), some (.int v4), some (.int v5), some (.int v6), some (.int v7), some (.int v8), some (.int v9), some (.int v10), some (.int x11), none]) (pc' := 131) dX9_span_129 (Nat.le_of_ble_eq_true rfl) rfl rfl ?_
        refine am_iload (pc' := 133) dX9_span_131 rfl rfl ?_
        refine am_iload (pc' := 135) dX9_span_133 rfl rfl ?_
        refine am_iadd (pc' := 136) dX9_span_135 rfl ?_
        refine am_istore (ls' := [some (.ref v0), some (.int v1), some (.int v2), some (.int v3), some (.int v4), some (.int (v5 + x11)), some (.int v6), some (.int v7), some (.int v8), some (.int v9), some (.int v10), some (.int x11), none]) (pc' := 138) dX9_span_136 (Nat.le_of_ble_eq_true rfl) rfl rfl ?_
        refine am_iload (pc' := 140) dX9_span_138 rfl rfl ?_
        refine am_iload (pc' := 142) dX9_span_140 rfl rfl ?_
        rcases am_ite hF with ⟨z12, hF⟩ | ⟨z12, hF⟩
        · refine am_icmp_ge_t (pc' := 150) dX9_span_142 rfl z12 ?_
          refine am_iload (pc' := 152) dX9_span_150 rfl rfl ?_
          exact am_weak [true, true, true, true, true, true, false, true, true, true, true, true, false] (w_X9_span_152 (w_X9_span_79 n) v0 v1 v2 v3 v4 (v5 + x11) v7 v8 v9 v10 x11 v6 h2 hF)
        · refine am_icmp_ge_f (pc' := 145) (tgt := 150) dX9_span_142 rfl z12 rfl ?_
          refine am_iload (pc' := 147) dX9_span_145 rfl rfl ?_
          refine am_goto (pc' := 152) dX9_span_147 rfl ?_
          exact am_weak [true, true, true, true, true, true, false, true, true, true, true, true, false] (w_X9_span_152 (w_X9_span_79 n) v0 v1 v2 v3 v4 (v5 + x11) v7 v8 v9 v10 x11 x11 h2 hF)
      · refine am_if_eq_f (pc' := 109) (tgt := 112) dX9_span_106 rfl z7 rfl ?_
        refine am_ldc (v := (-100005 : Int32)) (pc' := 111) dX9_span_109 wd_5_55 rfl ?_
        cases hF
        exact am_iret dX9_span_111 rfl rfl
def F_X9_span_b (v0 : Nat) (v1 : Int32) (v2 : Int32) (v3 : Int32) (v4 : Int32) (h : am_H) : Option (Int32 × am_H) :=
  (F_X9_noVersion v0 v1 h).bind fun x1 =>
  if x1 = 0 then
    (F_X9_placesOf v0 v1 h).bind fun x3 =>
    (F_X9_in (Int32.toInt64 v2) (0 : Int64) (Int32.toInt64 x3) h).bind fun x4 =>
    if x4 = 0 then
      F_X9_span_41 h
    else
      (F_X9_placesOf v0 v1 h).bind fun x6 =>
      (F_X9_in (Int32.toInt64 v3) (Int32.toInt64 (v2 + (1 : Int32))) (Int32.toInt64 x6) h).bind fun x7 =>
      if x7 = 0 then
        F_X9_span_41 h
      else
        (F_X9_in (Int32.toInt64 v4) (0 : Int64) (3 : Int64) h).bind fun x9 =>
        if x9 = 0 then
          some ((-100002 : Int32), h)
        else
          F_X9_span_79 am_F v0 v1 v2 v3 v4 (0 : Int32) (16 : Int32) (-1 : Int32) (0 : Int32) (-1 : Int32) v2 h
  else
    F_X9_span_41 h
theorem w_X9_span {g : am_G} {l : Launch} {h0 : am_H} {x : Int32} {hf : am_H}  (v0 : Nat) (v1 : Int32) (v2 : Int32) (v3 : Int32) (v4 : Int32) (h : am_H) (hF : F_X9_span_b v0 v1 v2 v3 v4 h = some (x, hf)) : am_W g l M_X9_span h0 (some (.int x)) hf 0 [some (.ref v0), some (.int v1), some (.int v2), some (.int v3), some (.int v4), none, none, none, none, none, none, none, none] [] h := by
  unfold F_X9_span_b at hF
  refine am_aload_n (pc' := 1) dX9_span_0 rfl rfl ?_
  refine am_iload_n (pc' := 2) dX9_span_1 rfl rfl ?_
  obtain ⟨x1, ex1, hF⟩ := am_bind hF
  obtain ⟨ox1, px1⟩ := t_X9_noVersion ex1
  refine am_callV1 (Mc := M_X9_noVersion) (As := [.int v1]) (st := []) (pc' := 5) dX9_span_2 cw_X9_154 wd_5_37 sl_X9_noVersion ⟨_, rfl, rfl⟩ (by decide) (by decide) rfl rfl (Nat.le_of_ble_eq_true rfl) px1 (c_X9_noVersion ex1) rfl ?_
  rcases am_ite hF with ⟨z2, hF⟩ | ⟨z2, hF⟩
  · refine am_if_ne_f (pc' := 8) (tgt := 41) dX9_span_5 rfl z2 rfl ?_
    refine am_iload_n (pc' := 9) dX9_span_8 rfl rfl ?_
    refine am_i2l (pc' := 10) dX9_span_9 rfl ?_
    refine am_lconst (v := (0 : Int64)) (pc' := 11) dX9_span_10 rfl rfl ?_
    refine am_aload_n (pc' := 12) dX9_span_11 rfl rfl ?_
    refine am_iload_n (pc' := 13) dX9_span_12 rfl rfl ?_
    obtain ⟨x3, ex3, hF⟩ := am_bind hF
    obtain ⟨ox3, px3⟩ := t_X9_placesOf ex3
    refine am_callV1 (Mc := M_X9_placesOf) (As := [.int v1]) (st := [.long (0 : Int64), .long (Int32.toInt64 v2)]) (pc' := 16) dX9_span_13 cw_X9_157 wd_5_41 sl_X9_placesOf ⟨_, rfl, rfl⟩ (by decide) (by decide) rfl rfl (Nat.le_of_ble_eq_true rfl) px3 (c_X9_placesOf ex3) rfl ?_
    refine am_i2l (pc' := 17) dX9_span_16 rfl ?_
    obtain ⟨x4, ex4, hF⟩ := am_bind hF
    refine am_callS1 (Mc := M_X9_in) (As := [.long (Int32.toInt64 v2), .long (0 : Int64), .long (Int32.toInt64 x3)]) (st := []) (pc' := 20) dX9_span_17 cw_X9_96 wd_4_234 (by decide) (by decide) rfl rfl (Nat.le_of_ble_eq_true rfl) (c_X9_in ex4) rfl ?_
    rcases am_ite hF with ⟨z5, hF⟩ | ⟨z5, hF⟩
    · refine am_if_eq_t (pc' := 41) dX9_span_20 rfl z5 ?_
      exact am_weak [false, false, false, false, false, false, false, false, false, false, false, false, false] (w_X9_span_41 h hF)
    · refine am_if_eq_f (pc' := 23) (tgt := 41) dX9_span_20 rfl z5 rfl ?_
      refine am_iload_n (pc' := 24) dX9_span_23 rfl rfl ?_
      refine am_i2l (pc' := 25) dX9_span_24 rfl ?_
      refine am_iload_n (pc' := 26) dX9_span_25 rfl rfl ?_
      refine am_iconst (v := (1 : Int32)) (pc' := 27) dX9_span_26 rfl rfl ?_
      refine am_iadd (pc' := 28) dX9_span_27 rfl ?_
      refine am_i2l (pc' := 29) dX9_span_28 rfl ?_
      refine am_aload_n (pc' := 30) dX9_span_29 rfl rfl ?_
      refine am_iload_n (pc' := 31) dX9_span_30 rfl rfl ?_
      obtain ⟨x6, ex6, hF⟩ := am_bind hF
      obtain ⟨ox6, px6⟩ := t_X9_placesOf ex6
      refine am_callV1 (Mc := M_X9_placesOf) (As := [.int v1]) (st := [.long (Int32.toInt64 (v2 + (1 : Int32))), .long (Int32.toInt64 v3)]) (pc' := 34) dX9_span_31 cw_X9_157 wd_5_41 sl_X9_placesOf ⟨_, rfl, rfl⟩ (by decide) (by decide) rfl rfl (Nat.le_of_ble_eq_true rfl) px6 (c_X9_placesOf ex6) rfl ?_
      refine am_i2l (pc' := 35) dX9_span_34 rfl ?_
      obtain ⟨x7, ex7, hF⟩ := am_bind hF
      refine am_callS1 (Mc := M_X9_in) (As := [.long (Int32.toInt64 v3), .long (Int32.toInt64 (v2 + (1 : Int32))), .long (Int32.toInt64 x6)]) (st := []) (pc' := 38) dX9_span_35 cw_X9_96 wd_4_234 (by decide) (by decide) rfl rfl (Nat.le_of_ble_eq_true rfl) (c_X9_in ex7) rfl ?_
      rcases am_ite hF with ⟨z8, hF⟩ | ⟨z8, hF⟩
      · refine am_if_ne_f (pc' := 41) (tgt := 44) dX9_span_38 rfl z8 rfl ?_
        exact am_weak [false, false, false, false, false, false, false, false, false, false, false, false, false] (w_X9_span_41 h hF)
      · refine am_if_ne_t (pc' := 44) dX9_span_38 rfl z8 ?_
        refine am_iload (pc' := 46) dX9_span_44 rfl rfl ?_
        refine am_i2l (pc' := 47) dX9_span_46 rfl ?_
        refine am_lconst (v := (0 : Int64)) (pc' := 48) dX9_span_47 rfl rfl ?_
        refine am_ldc2 (v := (3 : Int64)) (pc' := 51) dX9_span_48 wd_6_1 rfl ?_
        obtain ⟨x9, ex9, hF⟩ := am_bind hF
        refine am_callS1 (Mc := M_X9_in) (As := [.long (Int32.toInt64 v4), .long (0 : Int64), .long (3 : Int64)]) (st := []) (pc' := 54) dX9_span_51 cw_X9_96 wd_4_234 (by decide) (by decide) rfl rfl (Nat.le_of_ble_eq_true rfl) (c_X9_in ex9) rfl ?_
        rcases am_ite hF with ⟨z10, hF⟩ | ⟨z10, hF⟩
        · refine am_if_ne_f (pc' := 57) (tgt := 60) dX9_span_54 rfl z10 rfl ?_
          refine am_ldc (v := (-100002 : Int32)) (pc' := 59) dX9_span_57 wd_4_236 rfl ?_
          cases hF
          exact am_iret dX9_span_59 rfl rfl
        · refine am_if_ne_t (pc' := 60) dX9_span_54 rfl z10 ?_
          refine am_iconst (v := (0 : Int32)) (pc' := 61) dX9_span_60 rfl rfl ?_
          refine am_istore (ls' := [some (.ref v0), some (.int v1), some (.int v2), some (.int v3), some (.int v4), some (.int (0 : Int32)), none, none, none, none, none, none, none]) (pc' := 63) dX9_span_61 (Nat.le_of_ble_eq_true rfl) rfl rfl ?_
          refine am_bipush (v := (16 : Int32)) (pc' := 65) dX9_span_63 rfl rfl ?_
          refine am_istore (ls' := [some (.ref v0), some (.int v1), some (.int v2), some (.int v3), some (.int v4), some (.int (0 : Int32)), some (.int (16 : Int32)), none, none, none, none, none, none]) (pc' := 67) dX9_span_65 (Nat.le_of_ble_eq_true rfl) rfl rfl ?_
          refine am_iconst (v := (-1 : Int32)) (pc' := 68) dX9_span_67 rfl rfl ?_
          refine am_istore (ls' := [some (.ref v0), some (.int v1), some (.int v2), some (.int v3), some (.int v4), some (.int (0 : Int32)), some (.int (16 : Int32)), some (.int (-1 : Int32)), none, none, none, none, none]) (pc' := 70) dX9_span_68 (Nat.le_of_ble_eq_true rfl) rfl rfl ?_
          refine am_iconst (v := (0 : Int32)) (pc' := 71) dX9_span_70 rfl rfl ?_
          refine am_istore (ls' := [some (.ref v0), some (.int v1), some (.int v2), some (.int v3), some (.int v4), some (.int (0 : Int32)), some (.int (16 : Int32)), some (.int (-1 : Int32)), some (.int (0 : Int32)), none, none, none, none]) (pc' := 73) dX9_span_71 (Nat.le_of_ble_eq_true rfl) rfl rfl ?_
          refine am_iconst (v := (-1 : Int32)) (pc' := 74) dX9_span_73 rfl rfl ?_
          refine am_istore (ls' := [some (.ref v0), some (.int v1), some (.int v2), some (.int v3), some (.int v4), some (.int (0 : Int32)), some (.int (16 : Int32)), some (.int (-1 : Int32)), some (.int (0 : Int32)), some (.int (-1 : Int32)), none, none, none]) (pc' := 76) dX9_span_74 (Nat.le_of_ble_eq_true rfl) rfl rfl ?_
          refine am_iload_n (pc' := 77) dX9_span_76 rfl rfl ?_
          refine am_istore (ls' := [some (.ref v0), some (.int v1), some (.int v2), some (.int v3), some (.int v4), some (.int (0 : Int32)), some (.int (16 : Int32)), some (.int (-1 : Int32)), some (.int (0 : Int32)), some (.int (-1 : Int32)), some (.int v2), none, none]) (pc' := 79) dX9_span_77 (Nat.le_of_ble_eq_true rfl) rfl rfl ?_
          exact w_X9_span_79 am_F v0 v1 v2 v3 v4 (0 : Int32) (16 : Int32) (-1 : Int32) (0 : Int32) (-1 : Int32) v2 h hF
  · refine am_if_ne_t (pc' := 41) dX9_span_5 rfl z2 ?_
    exact am_weak [false, false, false, false, false, false, false, false, false, false, false, false, false] (w_X9_span_41 h hF)
def F_X9_span (v0 : Nat) (v1 : Int32) (v2 : Int32) (v3 : Int32) (v4 : Int32) (h : am_H) : Option (Int32 × am_H) := (am_obj v0 9 h).bind fun _ => F_X9_span_b v0 v1 v2 v3 v4 h
theorem t_X9_span {x : Int32} {hf : am_H}  {v0 : Nat} {v1 : Int32} {v2 : Int32} {v3 : Int32} {v4 : Int32} {h : am_H} (hF : F_X9_span v0 v1 v2 v3 v4 h = some (x, hf)) : ∃ fs, am_obj v0 9 h = some fs := by
  obtain ⟨fs, e, _⟩ := am_bind hF
  exact ⟨fs, e⟩
theorem c_X9_span {g : am_G} {l : Launch} {x : Int32} {hf : am_H}  {v0 : Nat} {v1 : Int32} {v2 : Int32} {v3 : Int32} {v4 : Int32} {h : am_H} (hF : F_X9_span v0 v1 v2 v3 v4 h = some (x, hf)) : am_Met g l M_X9_span [.ref v0, .int v1, .int v2, .int v3, .int v4] h (some (.int x)) hf := by
  obtain ⟨fs, e0, e⟩ := am_bind hF
  exact am_met (n := 8) (by decide +kernel) rfl (Nat.le_of_ble_eq_true rfl) (w_X9_span v0 v1 v2 v3 v4 h e)
def F_X4_set_28 (h : am_H) : Option am_H :=
  some h
theorem w_X4_set_28 {g : am_G} {l : Launch} {h0 : am_H} {hf : am_H}  (h : am_H) (hF : F_X4_set_28 h = some hf) : am_W g l M_X4_set h0 none hf 28 [none, none, none] [] h := by
  unfold F_X4_set_28 at hF
  cases hF
  exact am_vret dX4_set_28 rfl
def F_X4_set_b (v0 : Nat) (v1 : Int32) (v2 : Int32) (h : am_H) : Option am_H :=
  if v1 < 0 then
    F_X4_set_28 h
  else
    (am_gi 4 1 v0 h).bind fun x2 =>
    if x2 ≤ v1 then
      F_X4_set_28 h
    else
      (am_gr 4 0 v0 h).bind fun x4 =>
      (am_ln x4 h).bind fun x5 =>
      if x5 ≤ v1 then
        F_X4_set_28 h
      else
        (am_gr 4 0 v0 h).bind fun x7 =>
        (am_is 0 x7 v1 v2 h).bind fun h8 =>
        F_X4_set_28 h8
theorem w_X4_set {g : am_G} {l : Launch} {h0 : am_H} {hf : am_H}  (v0 : Nat) (v1 : Int32) (v2 : Int32) (h : am_H) (hF : F_X4_set_b v0 v1 v2 h = some hf) : am_W g l M_X4_set h0 none hf 0 [some (.ref v0), some (.int v1), some (.int v2)] [] h := by
  unfold F_X4_set_b at hF
  refine am_iload_n (pc' := 1) dX4_set_0 rfl rfl ?_
  rcases am_ite hF with ⟨z1, hF⟩ | ⟨z1, hF⟩
  · refine am_if_lt_t (pc' := 28) dX4_set_1 rfl z1 ?_
    exact am_weak [false, false, false] (w_X4_set_28 h hF)
  · refine am_if_lt_f (pc' := 4) (tgt := 28) dX4_set_1 rfl z1 rfl ?_
    refine am_iload_n (pc' := 5) dX4_set_4 rfl rfl ?_
    refine am_aload_n (pc' := 6) dX4_set_5 rfl rfl ?_
    obtain ⟨x2, ex2, hF⟩ := am_bind hF
    refine am_geti (pc' := 9) dX4_set_6 fw_X4_9 ex2 rfl ?_
    rcases am_ite hF with ⟨z3, hF⟩ | ⟨z3, hF⟩
    · refine am_icmp_ge_t (pc' := 28) dX4_set_9 rfl z3 ?_
      exact am_weak [false, false, false] (w_X4_set_28 h hF)
    · refine am_icmp_ge_f (pc' := 12) (tgt := 28) dX4_set_9 rfl z3 rfl ?_
      refine am_iload_n (pc' := 13) dX4_set_12 rfl rfl ?_
      refine am_aload_n (pc' := 14) dX4_set_13 rfl rfl ?_
      obtain ⟨x4, ex4, hF⟩ := am_bind hF
      refine am_getr (pc' := 17) dX4_set_14 fw_X4_21 ex4 rfl ?_
      obtain ⟨x5, ex5, hF⟩ := am_bind hF
      refine am_alen (pc' := 18) dX4_set_17 ex5 rfl ?_
      rcases am_ite hF with ⟨z6, hF⟩ | ⟨z6, hF⟩
      · refine am_icmp_ge_t (pc' := 28) dX4_set_18 rfl z6 ?_
        exact am_weak [false, false, false] (w_X4_set_28 h hF)
      · refine am_icmp_ge_f (pc' := 21) (tgt := 28) dX4_set_18 rfl z6 rfl ?_
        refine am_aload_n (pc' := 22) dX4_set_21 rfl rfl ?_
        obtain ⟨x7, ex7, hF⟩ := am_bind hF
        refine am_getr (pc' := 25) dX4_set_22 fw_X4_21 ex7 rfl ?_
        refine am_iload_n (pc' := 26) dX4_set_25 rfl rfl ?_
        refine am_iload_n (pc' := 27) dX4_set_26 rfl rfl ?_
        obtain ⟨h8, eh8, hF⟩ := am_bind hF
        refine am_iast (pc' := 28) dX4_set_27 eh8 rfl ?_
        exact am_weak [false, false, false] (w_X4_set_28 h8 hF)
def F_X4_set (v0 : Nat) (v1 : Int32) (v2 : Int32) (h : am_H) : Option am_H := (am_obj v0 4 h).bind fun _ => F_X4_set_b v0 v1 v2 h
theorem t_X4_set {hf : am_H}  {v0 : Nat} {v1 : Int32} {v2 : Int32} {h : am_H} (hF : F_X4_set v0 v1 v2 h = some hf) : ∃ fs, am_obj v0 4 h = some fs := by
  obtain ⟨fs, e, _⟩ := am_bind hF
  exact ⟨fs, e⟩
theorem c_X4_set {g : am_G} {l : Launch} {hf : am_H}  {v0 : Nat} {v1 : Int32} {v2 : Int32} {h : am_H} (hF : F_X4_set v0 v1 v2 h = some hf) : am_Met g l M_X4_set [.ref v0, .int v1, .int v2] h none hf := by
  obtain ⟨fs, e0, e⟩ := am_bind hF
  exact am_met (n := 0) (by decide +kernel) rfl (Nat.le_of_ble_eq_true rfl) (w_X4_set v0 v1 v2 h e)
theorem cw_X0_37 : am_cw "SignCellar$Block" 37 M_X4_length 0 := ⟨wd_1_2, wd_1_237, ⟨by decide, by decide, by decide⟩, Or.inl wd_4_24⟩
theorem cw_X0_41 : am_cw "SignCellar$Block" 41 M_X4_set 2 := ⟨wd_1_2, wd_4_28, ⟨by decide, by decide, by decide⟩, Or.inl wd_4_25⟩
theorem fx_X0_23 {nm : String} : am_fx "SignCellar$Block" 23 0 3 .boolean nm := ⟨(RX0, TX0, 4), tyX0, rfl, by decide, inX0, tyX0_ok, nmX0, rfl, Or.inl ⟨wd_2_63, Or.inl rfl⟩⟩
def F_X0_lose_7 : Nat → Nat → Int32 → am_H → Option am_H
  | 0, _, _, _ => none
  | n + 1, v0, v1, h =>
  (am_gr 0 0 v0 h).bind fun x1 =>
  (F_X4_length x1 h).bind fun x2 =>
  if x2 ≤ v1 then
    some h
  else
    (am_gr 0 0 v0 h).bind fun x4 =>
    (F_X4_set x4 v1 (0 : Int32) h).bind fun h5 =>
    F_X0_lose_7 n v0 (v1 + (1 : Int32)) h5
theorem w_X0_lose_7 {g : am_G} {l : Launch} {h0 : am_H} {hf : am_H}  : ∀ (n : Nat) (v0 : Nat) (v1 : Int32) (h : am_H), F_X0_lose_7 n v0 v1 h = some hf → am_W g l M_X0_lose h0 none hf 7 [some (.ref v0), some (.int v1)] [] h
  | 0, _, _, _, hF => by cases hF
  | n + 1, v0, v1, h, hF => by
    rw [F_X0_lose_7] at hF
    refine am_iload_n (pc' := 8) dX0_lose_7 rfl rfl ?_
    refine am_aload_n (pc' := 9) dX0_lose_8 rfl rfl ?_
    obtain ⟨x1, ex1, hF⟩ := am_bind hF
    refine am_getr (pc' := 12) dX0_lose_9 fw_X0_27 ex1 rfl ?_
    obtain ⟨x2, ex2, hF⟩ := am_bind hF
    obtain ⟨ox2, px2⟩ := t_X4_length ex2
    refine am_callV1 (Mc := M_X4_length) (As := []) (st := [.int v1]) (pc' := 15) dX0_lose_12 cw_X0_37 wd_1_235 wd_1_236 ⟨_, rfl, rfl⟩ (by decide) (by decide) rfl rfl (Nat.le_of_ble_eq_true rfl) px2 (c_X4_length ex2) rfl ?_
    rcases am_ite hF with ⟨z3, hF⟩ | ⟨z3, hF⟩
    · refine am_icmp_ge_t (pc' := 33) dX0_lose_15 rfl z3 ?_
      cases hF
      exact am_vret dX0_lose_33 rfl
    · refine am_icmp_ge_f (pc' := 18) (tgt := 33) dX0_lose_15 rfl z3 rfl ?_
      refine am_aload_n (pc' := 19) dX0_lose_18 rfl rfl ?_
      obtain ⟨x4, ex4, hF⟩ := am_bind hF
      refine am_getr (pc' := 22) dX0_lose_19 fw_X0_27 ex4 rfl ?_
      refine am_iload_n (pc' := 23) dX0_lose_22 rfl rfl ?_
      refine am_iconst (v := (0 : Int32)) (pc' := 24) dX0_lose_23 rfl rfl ?_
      obtain ⟨h5, eh5, hF⟩ := am_bind hF
      obtain ⟨oh5, ph5⟩ := t_X4_set eh5
      refine am_callV0 (Mc := M_X4_set) (As := [.int v1, .int (0 : Int32)]) (st := []) (pc' := 27) dX0_lose_24 cw_X0_41 wd_4_26 wd_4_27 ⟨_, rfl, rfl⟩ (by decide) (by decide) rfl rfl (Nat.le_of_ble_eq_true rfl) ph5 (c_X4_set eh5) rfl ?_
      refine am_iinc (ls' := [some (.ref v0), some (.int (v1 + (1 : Int32)))]) (pc' := 30) (v := (v1 + (1 : Int32))) dX0_lose_27 rfl rfl (Nat.le_of_ble_eq_true rfl) rfl rfl ?_
      refine am_goto (pc' := 7) dX0_lose_30 rfl ?_
      exact w_X0_lose_7 n v0 (v1 + (1 : Int32)) h5 hF
def F_X0_lose_b (v0 : Nat) (h : am_H) : Option am_H :=
  (am_pz 0 3 v0 (1 : Int32) h).bind fun h1 =>
  F_X0_lose_7 am_F v0 (0 : Int32) h1
theorem w_X0_lose {g : am_G} {l : Launch} {h0 : am_H} {hf : am_H}  (v0 : Nat) (h : am_H) (hF : F_X0_lose_b v0 h = some hf) : am_W g l M_X0_lose h0 none hf 0 [some (.ref v0), none] [] h := by
  unfold F_X0_lose_b at hF
  refine am_aload_n (pc' := 1) dX0_lose_0 rfl rfl ?_
  refine am_iconst (v := (1 : Int32)) (pc' := 2) dX0_lose_1 rfl rfl ?_
  obtain ⟨h1, eh1, hF⟩ := am_bind hF
  refine am_putz (pc' := 5) dX0_lose_2 fx_X0_23 eh1 rfl ?_
  refine am_iconst (v := (0 : Int32)) (pc' := 6) dX0_lose_5 rfl rfl ?_
  refine am_istore_n (ls' := [some (.ref v0), some (.int (0 : Int32))]) (pc' := 7) dX0_lose_6 (Nat.le_of_ble_eq_true rfl) rfl rfl ?_
  exact w_X0_lose_7 am_F v0 (0 : Int32) h1 hF
def F_X0_lose (v0 : Nat) (h : am_H) : Option am_H := (am_obj v0 0 h).bind fun _ => F_X0_lose_b v0 h
theorem t_X0_lose {hf : am_H}  {v0 : Nat} {h : am_H} (hF : F_X0_lose v0 h = some hf) : ∃ fs, am_obj v0 0 h = some fs := by
  obtain ⟨fs, e, _⟩ := am_bind hF
  exact ⟨fs, e⟩
theorem c_X0_lose {g : am_G} {l : Launch} {hf : am_H}  {v0 : Nat} {h : am_H} (hF : F_X0_lose v0 h = some hf) : am_Met g l M_X0_lose [.ref v0] h none hf := by
  obtain ⟨fs, e0, e⟩ := am_bind hF
  exact am_met (n := 1) (by decide +kernel) rfl (Nat.le_of_ble_eq_true rfl) (w_X0_lose v0 h e)
theorem cw_X8_291 : am_cw "SignCellar" 291 M_X0_lose 0 := ⟨wd_1_10, wd_4_23, ⟨by decide, by decide, by decide⟩, Or.inl wd_4_20⟩
def F_X8_tear_b (v0 : Nat) (v1 : Int32) (h : am_H) : Option (Int32 × am_H) :=
  (F_X8_blockOf v0 v1 h).bind fun x1 =>
  if x1 = 0 then
    some ((-100001 : Int32), h)
  else
    (am_gi 0 3 x1 h).bind fun x3 =>
    if x3 = 0 then
      (F_X0_lose x1 h).bind fun h5 =>
      some ((1 : Int32), h5)
    else
      some ((-100003 : Int32), h)
theorem w_X8_tear {g : am_G} {l : Launch} {h0 : am_H} {x : Int32} {hf : am_H}  (v0 : Nat) (v1 : Int32) (h : am_H) (hF : F_X8_tear_b v0 v1 h = some (x, hf)) : am_W g l M_X8_tear h0 (some (.int x)) hf 0 [some (.ref v0), some (.int v1), none] [] h := by
  unfold F_X8_tear_b at hF
  refine am_aload_n (pc' := 1) dX8_tear_0 rfl rfl ?_
  refine am_iload_n (pc' := 2) dX8_tear_1 rfl rfl ?_
  obtain ⟨x1, ex1, hF⟩ := am_bind hF
  obtain ⟨ox1, px1⟩ := t_X8_blockOf ex1
  refine am_callV1 (Mc := M_X8_blockOf) (As := [.int v1]) (st := []) (pc' := 5) dX8_tear_2 cw_X8_176 wd_2_33 sl_X8_blockOf ⟨_, rfl, rfl⟩ (by decide) (by decide) rfl rfl (Nat.le_of_ble_eq_true rfl) px1 (c_X8_blockOf ex1) rfl ?_
  refine am_astore_n (ls' := [some (.ref v0), some (.int v1), some (.ref x1)]) (pc' := 6) dX8_tear_5 (Nat.le_of_ble_eq_true rfl) rfl rfl ?_
  refine am_aload_n (pc' := 7) dX8_tear_6 rfl rfl ?_
  rcases am_ite hF with ⟨z2, hF⟩ | ⟨z2, hF⟩
  · refine am_ifnonnull_f (pc' := 10) dX8_tear_7 z2 rfl ?_
    refine am_ldc (v := (-100001 : Int32)) (pc' := 12) dX8_tear_10 wd_2_137 rfl ?_
    cases hF
    exact am_iret dX8_tear_12 rfl rfl
  · refine am_ifnonnull_t (pc' := 13) dX8_tear_7 rfl z2 ?_
    refine am_aload_n (pc' := 14) dX8_tear_13 rfl rfl ?_
    obtain ⟨x3, ex3, hF⟩ := am_bind hF
    refine am_geti (pc' := 17) dX8_tear_14 fw_X8_182 ex3 rfl ?_
    rcases am_ite hF with ⟨z4, hF⟩ | ⟨z4, hF⟩
    · refine am_if_eq_t (pc' := 23) dX8_tear_17 rfl z4 ?_
      refine am_aload_n (pc' := 24) dX8_tear_23 rfl rfl ?_
      obtain ⟨h5, eh5, hF⟩ := am_bind hF
      obtain ⟨oh5, ph5⟩ := t_X0_lose eh5
      refine am_callV0 (Mc := M_X0_lose) (As := []) (st := []) (pc' := 27) dX8_tear_24 cw_X8_291 wd_4_21 wd_4_22 ⟨_, rfl, rfl⟩ (by decide) (by decide) rfl rfl (Nat.le_of_ble_eq_true rfl) ph5 (c_X0_lose eh5) rfl ?_
      refine am_iconst (v := (1 : Int32)) (pc' := 28) dX8_tear_27 rfl rfl ?_
      cases hF
      exact am_iret dX8_tear_28 rfl rfl
    · refine am_if_eq_f (pc' := 20) (tgt := 23) dX8_tear_17 rfl z4 rfl ?_
      refine am_ldc (v := (-100003 : Int32)) (pc' := 22) dX8_tear_20 wd_2_7 rfl ?_
      cases hF
      exact am_iret dX8_tear_22 rfl rfl
def F_X8_tear (v0 : Nat) (v1 : Int32) (h : am_H) : Option (Int32 × am_H) := (am_obj v0 8 h).bind fun _ => F_X8_tear_b v0 v1 h
theorem t_X8_tear {x : Int32} {hf : am_H}  {v0 : Nat} {v1 : Int32} {h : am_H} (hF : F_X8_tear v0 v1 h = some (x, hf)) : ∃ fs, am_obj v0 8 h = some fs := by
  obtain ⟨fs, e, _⟩ := am_bind hF
  exact ⟨fs, e⟩
theorem c_X8_tear {g : am_G} {l : Launch} {x : Int32} {hf : am_H}  {v0 : Nat} {v1 : Int32} {h : am_H} (hF : F_X8_tear v0 v1 h = some (x, hf)) : am_Met g l M_X8_tear [.ref v0, .int v1] h (some (.int x)) hf := by
  obtain ⟨fs, e0, e⟩ := am_bind hF
  exact am_met (n := 1) (by decide +kernel) rfl (Nat.le_of_ble_eq_true rfl) (w_X8_tear v0 v1 h e)
def F_X9_tear_b (v0 : Nat) (v1 : Int32) (h : am_H) : Option (Int32 × am_H) :=
  (F_X9_noBlock v0 v1 h).bind fun x1 =>
  if x1 = 0 then
    (am_gr 9 5 v0 h).bind fun x3 =>
    (am_il 1 x3 v1 h).bind fun x4 =>
    if x4 = 0 then
      (am_gr 9 5 v0 h).bind fun x6 =>
      (am_zs 1 x6 v1 (1 : Int32) h).bind fun h7 =>
      some ((1 : Int32), h7)
    else
      some ((-100003 : Int32), h)
  else
    some ((-100001 : Int32), h)
theorem w_X9_tear {g : am_G} {l : Launch} {h0 : am_H} {x : Int32} {hf : am_H}  (v0 : Nat) (v1 : Int32) (h : am_H) (hF : F_X9_tear_b v0 v1 h = some (x, hf)) : am_W g l M_X9_tear h0 (some (.int x)) hf 0 [some (.ref v0), some (.int v1)] [] h := by
  unfold F_X9_tear_b at hF
  refine am_aload_n (pc' := 1) dX9_tear_0 rfl rfl ?_
  refine am_iload_n (pc' := 2) dX9_tear_1 rfl rfl ?_
  obtain ⟨x1, ex1, hF⟩ := am_bind hF
  obtain ⟨ox1, px1⟩ := t_X9_noBlock ex1
  refine am_callV1 (Mc := M_X9_noBlock) (As := [.int v1]) (st := []) (pc' := 5) dX9_tear_2 cw_X9_184 wd_5_98 sl_X9_noBlock ⟨_, rfl, rfl⟩ (by decide) (by decide) rfl rfl (Nat.le_of_ble_eq_true rfl) px1 (c_X9_noBlock ex1) rfl ?_
  rcases am_ite hF with ⟨z2, hF⟩ | ⟨z2, hF⟩
  · refine am_if_eq_t (pc' := 11) dX9_tear_5 rfl z2 ?_
    refine am_aload_n (pc' := 12) dX9_tear_11 rfl rfl ?_
    obtain ⟨x3, ex3, hF⟩ := am_bind hF
    refine am_getr (pc' := 15) dX9_tear_12 fw_X9_19 ex3 rfl ?_
    refine am_iload_n (pc' := 16) dX9_tear_15 rfl rfl ?_
    obtain ⟨x4, ex4, hF⟩ := am_bind hF
    refine am_bald (pc' := 17) dX9_tear_16 ex4 rfl ?_
    rcases am_ite hF with ⟨z5, hF⟩ | ⟨z5, hF⟩
    · refine am_if_eq_t (pc' := 23) dX9_tear_17 rfl z5 ?_
      refine am_aload_n (pc' := 24) dX9_tear_23 rfl rfl ?_
      obtain ⟨x6, ex6, hF⟩ := am_bind hF
      refine am_getr (pc' := 27) dX9_tear_24 fw_X9_19 ex6 rfl ?_
      refine am_iload_n (pc' := 28) dX9_tear_27 rfl rfl ?_
      refine am_iconst (v := (1 : Int32)) (pc' := 29) dX9_tear_28 rfl rfl ?_
      obtain ⟨h7, eh7, hF⟩ := am_bind hF
      refine am_bast (pc' := 30) dX9_tear_29 eh7 rfl ?_
      refine am_iconst (v := (1 : Int32)) (pc' := 31) dX9_tear_30 rfl rfl ?_
      cases hF
      exact am_iret dX9_tear_31 rfl rfl
    · refine am_if_eq_f (pc' := 20) (tgt := 23) dX9_tear_17 rfl z5 rfl ?_
      refine am_ldc (v := (-100003 : Int32)) (pc' := 22) dX9_tear_20 wd_5_2 rfl ?_
      cases hF
      exact am_iret dX9_tear_22 rfl rfl
  · refine am_if_eq_f (pc' := 8) (tgt := 11) dX9_tear_5 rfl z2 rfl ?_
    refine am_ldc (v := (-100001 : Int32)) (pc' := 10) dX9_tear_8 wd_5_47 rfl ?_
    cases hF
    exact am_iret dX9_tear_10 rfl rfl
def F_X9_tear (v0 : Nat) (v1 : Int32) (h : am_H) : Option (Int32 × am_H) := (am_obj v0 9 h).bind fun _ => F_X9_tear_b v0 v1 h
theorem t_X9_tear {x : Int32} {hf : am_H}  {v0 : Nat} {v1 : Int32} {h : am_H} (hF : F_X9_tear v0 v1 h = some (x, hf)) : ∃ fs, am_obj v0 9 h = some fs := by
  obtain ⟨fs, e, _⟩ := am_bind hF
  exact ⟨fs, e⟩
theorem c_X9_tear {g : am_G} {l : Launch} {x : Int32} {hf : am_H}  {v0 : Nat} {v1 : Int32} {h : am_H} (hF : F_X9_tear v0 v1 h = some (x, hf)) : am_Met g l M_X9_tear [.ref v0, .int v1] h (some (.int x)) hf := by
  obtain ⟨fs, e0, e⟩ := am_bind hF
  exact am_met (n := 0) (by decide +kernel) rfl (Nat.le_of_ble_eq_true rfl) (w_X9_tear v0 v1 h e)
def F_X8_sums_34 (h : am_H) : Option Int32 :=
  some (-100002 : Int32)
theorem w_X8_sums_34 {g : am_G} {l : Launch} {h0 : am_H} {x : Int32}  (h : am_H) (hF : F_X8_sums_34 h = some x) : am_W g l M_X8_sums h0 (some (.int x)) h 34 [none, none, none, none, none] [] h := by
  unfold F_X8_sums_34 at hF
  refine am_ldc (v := (-100002 : Int32)) (pc' := 36) dX8_sums_34 wd_1_233 rfl ?_
  cases hF
  exact am_iret dX8_sums_36 rfl rfl
def F_X8_sums_62 (s0 : Int32) (h : am_H) : Option Int32 :=
  some s0
theorem w_X8_sums_62 {g : am_G} {l : Launch} {h0 : am_H} {x : Int32}  (s0 : Int32) (h : am_H) (hF : F_X8_sums_62 s0 h = some x) : am_W g l M_X8_sums h0 (some (.int x)) h 62 [none, none, none, none, none] [.int s0] h := by
  unfold F_X8_sums_62 at hF
  cases hF
  exact am_iret dX8_sums_62 rfl rfl
def F_X8_sums_b (v0 : Nat) (v1 : Int32) (v2 : Int32) (v3 : Int32) (h : am_H) : Option Int32 :=
  (F_X8_versionOf v0 v1 h).bind fun x1 =>
  if x1 = 0 then
    some (-100001 : Int32)
  else
    if v2 < 0 then
      F_X8_sums_34 h
    else
      if (1 : Int32) < v2 then
        F_X8_sums_34 h
      else
        if v3 < 0 then
          F_X8_sums_34 h
        else
          if v3 < (24 : Int32) then
            if v2 = 0 then
              (am_gr 7 4 x1 h).bind fun x8 =>
              (F_X4_at x8 v3 h).bind fun x9 =>
              F_X8_sums_62 x9 h
            else
              (am_gr 7 5 x1 h).bind fun x10 =>
              (F_X4_at x10 v3 h).bind fun x11 =>
              F_X8_sums_62 x11 h
          else
            F_X8_sums_34 h
theorem w_X8_sums {g : am_G} {l : Launch} {h0 : am_H} {x : Int32}  (v0 : Nat) (v1 : Int32) (v2 : Int32) (v3 : Int32) (h : am_H) (hF : F_X8_sums_b v0 v1 v2 v3 h = some x) : am_W g l M_X8_sums h0 (some (.int x)) h 0 [some (.ref v0), some (.int v1), some (.int v2), some (.int v3), none] [] h := by
  unfold F_X8_sums_b at hF
  refine am_aload_n (pc' := 1) dX8_sums_0 rfl rfl ?_
  refine am_iload_n (pc' := 2) dX8_sums_1 rfl rfl ?_
  obtain ⟨x1, ex1, hF⟩ := am_bind hF
  obtain ⟨ox1, px1⟩ := t_X8_versionOf ex1
  refine am_callV1 (Mc := M_X8_versionOf) (As := [.int v1]) (st := []) (pc' := 5) dX8_sums_2 cw_X8_126 wd_2_135 sl_X8_versionOf ⟨_, rfl, rfl⟩ (by decide) (by decide) rfl rfl (Nat.le_of_ble_eq_true rfl) px1 (c_X8_versionOf ex1) rfl ?_
  refine am_astore (ls' := [some (.ref v0), some (.int v1), some (.int v2), some (.int v3), some (.ref x1)]) (pc' := 7) dX8_sums_5 (Nat.le_of_ble_eq_true rfl) rfl rfl ?_
  refine am_aload (pc' := 9) dX8_sums_7 rfl rfl ?_
  rcases am_ite hF with ⟨z2, hF⟩ | ⟨z2, hF⟩
  · refine am_ifnonnull_f (pc' := 12) dX8_sums_9 z2 rfl ?_
    refine am_ldc (v := (-100001 : Int32)) (pc' := 14) dX8_sums_12 wd_2_137 rfl ?_
    cases hF
    exact am_iret dX8_sums_14 rfl rfl
  · refine am_ifnonnull_t (pc' := 15) dX8_sums_9 rfl z2 ?_
    refine am_iload_n (pc' := 16) dX8_sums_15 rfl rfl ?_
    rcases am_ite hF with ⟨z3, hF⟩ | ⟨z3, hF⟩
    · refine am_if_lt_t (pc' := 34) dX8_sums_16 rfl z3 ?_
      exact am_weak [false, false, false, false, false] (w_X8_sums_34 h hF)
    · refine am_if_lt_f (pc' := 19) (tgt := 34) dX8_sums_16 rfl z3 rfl ?_
      refine am_iload_n (pc' := 20) dX8_sums_19 rfl rfl ?_
      refine am_iconst (v := (1 : Int32)) (pc' := 21) dX8_sums_20 rfl rfl ?_
      rcases am_ite hF with ⟨z4, hF⟩ | ⟨z4, hF⟩
      · refine am_icmp_gt_t (pc' := 34) dX8_sums_21 rfl z4 ?_
        exact am_weak [false, false, false, false, false] (w_X8_sums_34 h hF)
      · refine am_icmp_gt_f (pc' := 24) (tgt := 34) dX8_sums_21 rfl z4 rfl ?_
        refine am_iload_n (pc' := 25) dX8_sums_24 rfl rfl ?_
        rcases am_ite hF with ⟨z5, hF⟩ | ⟨z5, hF⟩
        · refine am_if_lt_t (pc' := 34) dX8_sums_25 rfl z5 ?_
          exact am_weak [false, false, false, false, false] (w_X8_sums_34 h hF)
        · refine am_if_lt_f (pc' := 28) (tgt := 34) dX8_sums_25 rfl z5 rfl ?_
          refine am_iload_n (pc' := 29) dX8_sums_28 rfl rfl ?_
          refine am_bipush (v := (24 : Int32)) (pc' := 31) dX8_sums_29 rfl rfl ?_
          rcases am_ite hF with ⟨z6, hF⟩ | ⟨z6, hF⟩
          · refine am_icmp_lt_t (pc' := 37) dX8_sums_31 rfl z6 ?_
            refine am_iload_n (pc' := 38) dX8_sums_37 rfl rfl ?_
            rcases am_ite hF with ⟨z7, hF⟩ | ⟨z7, hF⟩
            · refine am_if_ne_f (pc' := 41) (tgt := 53) dX8_sums_38 rfl z7 rfl ?_
              refine am_aload (pc' := 43) dX8_sums_41 rfl rfl ?_
              obtain ⟨x8, ex8, hF⟩ := am_bind hF
              refine am_getr (pc' := 46) dX8_sums_43 fw_X8_294 ex8 rfl ?_
              refine am_iload_n (pc' := 47) dX8_sums_46 rfl rfl ?_
              obtain ⟨x9, ex9, hF⟩ := am_bind hF
              obtain ⟨ox9, px9⟩ := t_X4_at ex9
              refine am_callV1 (Mc := M_X4_at) (As := [.int v3]) (st := []) (pc' := 50) dX8_sums_47 cw_X8_161 wd_2_40 wd_2_41 ⟨_, rfl, rfl⟩ (by decide) (by decide) rfl rfl (Nat.le_of_ble_eq_true rfl) px9 (c_X4_at ex9) rfl ?_
              refine am_goto (pc' := 62) dX8_sums_50 rfl ?_
              exact am_weak [false, false, false, false, false] (w_X8_sums_62 x9 h hF)
            · refine am_if_ne_t (pc' := 53) dX8_sums_38 rfl z7 ?_
              refine am_aload (pc' := 55) dX8_sums_53 rfl rfl ?_
              obtain ⟨x10, ex10, hF⟩ := am_bind hF
              refine am_getr (pc' := 58) dX8_sums_55 fw_X8_297 ex10 rfl ?_
              refine am_iload_n (pc' := 59) dX8_sums_58 rfl rfl ?_
              obtain ⟨x11, ex11, hF⟩ := am_bind hF
              obtain ⟨ox11, px11⟩ := t_X4_at ex11
              refine am_callV1 (Mc := M_X4_at) (As := [.int v3]) (st := []) (pc' := 62) dX8_sums_59 cw_X8_161 wd_2_40 wd_2_41 ⟨_, rfl, rfl⟩ (by decide) (by decide) rfl rfl (Nat.le_of_ble_eq_true rfl) px11 (c_X4_at ex11) rfl ?_
              exact am_weak [false, false, false, false, false] (w_X8_sums_62 x11 h hF)
          · refine am_icmp_lt_f (pc' := 34) (tgt := 37) dX8_sums_31 rfl z6 rfl ?_
            exact am_weak [false, false, false, false, false] (w_X8_sums_34 h hF)
def F_X8_sums (v0 : Nat) (v1 : Int32) (v2 : Int32) (v3 : Int32) (h : am_H) : Option Int32 := (am_obj v0 8 h).bind fun _ => F_X8_sums_b v0 v1 v2 v3 h
theorem t_X8_sums {x : Int32}  {v0 : Nat} {v1 : Int32} {v2 : Int32} {v3 : Int32} {h : am_H} (hF : F_X8_sums v0 v1 v2 v3 h = some x) : ∃ fs, am_obj v0 8 h = some fs := by
  obtain ⟨fs, e, _⟩ := am_bind hF
  exact ⟨fs, e⟩
theorem c_X8_sums {g : am_G} {l : Launch} {x : Int32}  {v0 : Nat} {v1 : Int32} {v2 : Int32} {v3 : Int32} {h : am_H} (hF : F_X8_sums v0 v1 v2 v3 h = some x) : am_Met g l M_X8_sums [.ref v0, .int v1, .int v2, .int v3] h (some (.int x)) h := by
  obtain ⟨fs, e0, e⟩ := am_bind hF
  exact am_met (n := 1) (by decide +kernel) rfl (Nat.le_of_ble_eq_true rfl) (w_X8_sums v0 v1 v2 v3 h e)
