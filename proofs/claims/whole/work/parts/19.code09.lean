abbrev M_X5_price : am_M := ((⟨"SignCellar$Rules", "price", "()I"⟩ : MethodName), prog_7_method_4_code, 3, (some .int), 3, 63)
theorem dX5_price_0 : decode prog_7_method_4_code 0 = .ok (.iconst 5, 1) := by decide +kernel
theorem dX5_price_1 : decode prog_7_method_4_code 1 = .ok (.aload_n 0, 1) := by decide +kernel
theorem dX5_price_2 : decode prog_7_method_4_code 2 = .ok (.getfield 14, 3) := by decide +kernel
theorem dX5_price_5 : decode prog_7_method_4_code 5 = .ok (.invokevirtual 64, 3) := by decide +kernel
theorem dX5_price_8 : decode prog_7_method_4_code 8 = .ok (.imul, 1) := by decide +kernel
theorem dX5_price_9 : decode prog_7_method_4_code 9 = .ok (.aload_n 0, 1) := by decide +kernel
theorem dX5_price_10 : decode prog_7_method_4_code 10 = .ok (.invokevirtual 68, 3) := by decide +kernel
theorem dX5_price_13 : decode prog_7_method_4_code 13 = .ok (.iadd, 1) := by decide +kernel
theorem dX5_price_14 : decode prog_7_method_4_code 14 = .ok (.istore_n 1, 1) := by decide +kernel
theorem dX5_price_15 : decode prog_7_method_4_code 15 = .ok (.iconst 0, 1) := by decide +kernel
theorem dX5_price_16 : decode prog_7_method_4_code 16 = .ok (.istore_n 2, 1) := by decide +kernel
theorem dX5_price_17 : decode prog_7_method_4_code 17 = .ok (.iload_n 2, 1) := by decide +kernel
theorem dX5_price_18 : decode prog_7_method_4_code 18 = .ok (.aload_n 0, 1) := by decide +kernel
theorem dX5_price_19 : decode prog_7_method_4_code 19 = .ok (.getfield 27, 3) := by decide +kernel
theorem dX5_price_22 : decode prog_7_method_4_code 22 = .ok (.if_icmp .ge 19, 3) := by decide +kernel
theorem dX5_price_25 : decode prog_7_method_4_code 25 = .ok (.iload_n 1, 1) := by decide +kernel
theorem dX5_price_26 : decode prog_7_method_4_code 26 = .ok (.iconst 5, 1) := by decide +kernel
theorem dX5_price_27 : decode prog_7_method_4_code 27 = .ok (.aload_n 0, 1) := by decide +kernel
theorem dX5_price_28 : decode prog_7_method_4_code 28 = .ok (.iload_n 2, 1) := by decide +kernel
theorem dX5_price_29 : decode prog_7_method_4_code 29 = .ok (.invokevirtual 61, 3) := by decide +kernel
theorem dX5_price_32 : decode prog_7_method_4_code 32 = .ok (.imul, 1) := by decide +kernel
theorem dX5_price_33 : decode prog_7_method_4_code 33 = .ok (.iadd, 1) := by decide +kernel
theorem dX5_price_34 : decode prog_7_method_4_code 34 = .ok (.istore_n 1, 1) := by decide +kernel
theorem dX5_price_35 : decode prog_7_method_4_code 35 = .ok (.iinc 2 1, 3) := by decide +kernel
theorem dX5_price_38 : decode prog_7_method_4_code 38 = .ok (.goto (-21), 3) := by decide +kernel
theorem dX5_price_41 : decode prog_7_method_4_code 41 = .ok (.iload_n 1, 1) := by decide +kernel
theorem dX5_price_42 : decode prog_7_method_4_code 42 = .ok (.ireturn, 1) := by decide +kernel
abbrev M_X6_placePrice : am_M := ((⟨"SignCellar$Turns", "placePrice", "(I)I"⟩ : MethodName), prog_8_method_4_code, 3, (some .int), 0, 0)
theorem dX6_placePrice_0 : decode prog_8_method_4_code 0 = .ok (.iconst 1, 1) := by decide +kernel
theorem dX6_placePrice_1 : decode prog_8_method_4_code 1 = .ok (.istore_n 1, 1) := by decide +kernel
theorem dX6_placePrice_2 : decode prog_8_method_4_code 2 = .ok (.iload_n 0, 1) := by decide +kernel
theorem dX6_placePrice_3 : decode prog_8_method_4_code 3 = .ok (.iconst 1, 1) := by decide +kernel
theorem dX6_placePrice_4 : decode prog_8_method_4_code 4 = .ok (.iadd, 1) := by decide +kernel
theorem dX6_placePrice_5 : decode prog_8_method_4_code 5 = .ok (.istore_n 2, 1) := by decide +kernel
theorem dX6_placePrice_6 : decode prog_8_method_4_code 6 = .ok (.iload_n 2, 1) := by decide +kernel
theorem dX6_placePrice_7 : decode prog_8_method_4_code 7 = .ok (.iconst 1, 1) := by decide +kernel
theorem dX6_placePrice_8 : decode prog_8_method_4_code 8 = .ok (.if_icmp .le 13, 3) := by decide +kernel
theorem dX6_placePrice_11 : decode prog_8_method_4_code 11 = .ok (.iinc 1 2, 3) := by decide +kernel
theorem dX6_placePrice_14 : decode prog_8_method_4_code 14 = .ok (.iload_n 2, 1) := by decide +kernel
theorem dX6_placePrice_15 : decode prog_8_method_4_code 15 = .ok (.iconst 2, 1) := by decide +kernel
theorem dX6_placePrice_16 : decode prog_8_method_4_code 16 = .ok (.idiv, 1) := by decide +kernel
theorem dX6_placePrice_17 : decode prog_8_method_4_code 17 = .ok (.istore_n 2, 1) := by decide +kernel
theorem dX6_placePrice_18 : decode prog_8_method_4_code 18 = .ok (.goto (-12), 3) := by decide +kernel
theorem dX6_placePrice_21 : decode prog_8_method_4_code 21 = .ok (.iload_n 1, 1) := by decide +kernel
theorem dX6_placePrice_22 : decode prog_8_method_4_code 22 = .ok (.ireturn, 1) := by decide +kernel
abbrev M_X6_price : am_M := ((⟨"SignCellar$Turns", "price", "()I"⟩ : MethodName), prog_8_method_3_code, 3, (some .int), 1, 22)
theorem dX6_price_0 : decode prog_8_method_3_code 0 = .ok (.iconst 5, 1) := by decide +kernel
theorem dX6_price_1 : decode prog_8_method_3_code 1 = .ok (.istore_n 1, 1) := by decide +kernel
theorem dX6_price_2 : decode prog_8_method_3_code 2 = .ok (.iconst 0, 1) := by decide +kernel
theorem dX6_price_3 : decode prog_8_method_3_code 3 = .ok (.istore_n 2, 1) := by decide +kernel
theorem dX6_price_4 : decode prog_8_method_3_code 4 = .ok (.iload_n 2, 1) := by decide +kernel
theorem dX6_price_5 : decode prog_8_method_3_code 5 = .ok (.aload_n 0, 1) := by decide +kernel
theorem dX6_price_6 : decode prog_8_method_3_code 6 = .ok (.getfield 27, 3) := by decide +kernel
theorem dX6_price_9 : decode prog_8_method_3_code 9 = .ok (.invokevirtual 34, 3) := by decide +kernel
theorem dX6_price_12 : decode prog_8_method_3_code 12 = .ok (.if_icmp .ge 23, 3) := by decide +kernel
theorem dX6_price_15 : decode prog_8_method_3_code 15 = .ok (.iload_n 1, 1) := by decide +kernel
theorem dX6_price_16 : decode prog_8_method_3_code 16 = .ok (.aload_n 0, 1) := by decide +kernel
theorem dX6_price_17 : decode prog_8_method_3_code 17 = .ok (.getfield 27, 3) := by decide +kernel
theorem dX6_price_20 : decode prog_8_method_3_code 20 = .ok (.iload_n 2, 1) := by decide +kernel
theorem dX6_price_21 : decode prog_8_method_3_code 21 = .ok (.invokevirtual 51, 3) := by decide +kernel
theorem dX6_price_24 : decode prog_8_method_3_code 24 = .ok (.invokestatic 61, 3) := by decide +kernel
theorem dX6_price_27 : decode prog_8_method_3_code 27 = .ok (.iadd, 1) := by decide +kernel
theorem dX6_price_28 : decode prog_8_method_3_code 28 = .ok (.istore_n 1, 1) := by decide +kernel
theorem dX6_price_29 : decode prog_8_method_3_code 29 = .ok (.iinc 2 1, 3) := by decide +kernel
theorem dX6_price_32 : decode prog_8_method_3_code 32 = .ok (.goto (-28), 3) := by decide +kernel
theorem dX6_price_35 : decode prog_8_method_3_code 35 = .ok (.iload_n 1, 1) := by decide +kernel
theorem dX6_price_36 : decode prog_8_method_3_code 36 = .ok (.ireturn, 1) := by decide +kernel
abbrev M_X8_weigh : am_M := ((⟨"SignCellar", "weigh", "(LSignCellar$Block;)V"⟩ : MethodName), prog_1_method_60_code, 3, none, 6, 133)
theorem dX8_weigh_0 : decode prog_1_method_60_code 0 = .ok (.aload_n 1, 1) := by decide +kernel
theorem dX8_weigh_1 : decode prog_1_method_60_code 1 = .ok (.getfield 212, 3) := by decide +kernel
theorem dX8_weigh_4 : decode prog_1_method_60_code 4 = .ok (.invokevirtual 93, 3) := by decide +kernel
theorem dX8_weigh_7 : decode prog_1_method_60_code 7 = .ok (.ifCond .le 4, 3) := by decide +kernel
theorem dX8_weigh_10 : decode prog_1_method_60_code 10 = .ok (.return_, 1) := by decide +kernel
theorem dX8_weigh_11 : decode prog_1_method_60_code 11 = .ok (.aload_n 1, 1) := by decide +kernel
theorem dX8_weigh_12 : decode prog_1_method_60_code 12 = .ok (.getfield 180, 3) := by decide +kernel
theorem dX8_weigh_15 : decode prog_1_method_60_code 15 = .ok (.invokevirtual 93, 3) := by decide +kernel
theorem dX8_weigh_18 : decode prog_1_method_60_code 18 = .ok (.istore_n 2, 1) := by decide +kernel
theorem dX8_weigh_19 : decode prog_1_method_60_code 19 = .ok (.aload_n 0, 1) := by decide +kernel
theorem dX8_weigh_20 : decode prog_1_method_60_code 20 = .ok (.getfield 60, 3) := by decide +kernel
theorem dX8_weigh_23 : decode prog_1_method_60_code 23 = .ok (.aload_n 1, 1) := by decide +kernel
theorem dX8_weigh_24 : decode prog_1_method_60_code 24 = .ok (.getfield 180, 3) := by decide +kernel
theorem dX8_weigh_27 : decode prog_1_method_60_code 27 = .ok (.invokevirtual 218, 3) := by decide +kernel
theorem dX8_weigh_30 : decode prog_1_method_60_code 30 = .ok (.aload_n 0, 1) := by decide +kernel
theorem dX8_weigh_31 : decode prog_1_method_60_code 31 = .ok (.getfield 67, 3) := by decide +kernel
theorem dX8_weigh_34 : decode prog_1_method_60_code 34 = .ok (.aload_n 1, 1) := by decide +kernel
theorem dX8_weigh_35 : decode prog_1_method_60_code 35 = .ok (.getfield 180, 3) := by decide +kernel
theorem dX8_weigh_38 : decode prog_1_method_60_code 38 = .ok (.invokevirtual 225, 3) := by decide +kernel
theorem dX8_weigh_41 : decode prog_1_method_60_code 41 = .ok (.aload_n 0, 1) := by decide +kernel
theorem dX8_weigh_42 : decode prog_1_method_60_code 42 = .ok (.getfield 74, 3) := by decide +kernel
theorem dX8_weigh_45 : decode prog_1_method_60_code 45 = .ok (.aload_n 1, 1) := by decide +kernel
theorem dX8_weigh_46 : decode prog_1_method_60_code 46 = .ok (.getfield 180, 3) := by decide +kernel
theorem dX8_weigh_49 : decode prog_1_method_60_code 49 = .ok (.invokevirtual 239, 3) := by decide +kernel
theorem dX8_weigh_52 : decode prog_1_method_60_code 52 = .ok (.aload_n 0, 1) := by decide +kernel
theorem dX8_weigh_53 : decode prog_1_method_60_code 53 = .ok (.getfield 81, 3) := by decide +kernel
theorem dX8_weigh_56 : decode prog_1_method_60_code 56 = .ok (.aload_n 1, 1) := by decide +kernel
theorem dX8_weigh_57 : decode prog_1_method_60_code 57 = .ok (.getfield 180, 3) := by decide +kernel
theorem dX8_weigh_60 : decode prog_1_method_60_code 60 = .ok (.invokevirtual 243, 3) := by decide +kernel
theorem dX8_weigh_63 : decode prog_1_method_60_code 63 = .ok (.aload_n 1, 1) := by decide +kernel
theorem dX8_weigh_64 : decode prog_1_method_60_code 64 = .ok (.iconst 4, 1) := by decide +kernel
theorem dX8_weigh_65 : decode prog_1_method_60_code 65 = .ok (.iload_n 2, 1) := by decide +kernel
theorem dX8_weigh_66 : decode prog_1_method_60_code 66 = .ok (.imul, 1) := by decide +kernel
theorem dX8_weigh_67 : decode prog_1_method_60_code 67 = .ok (.iload_n 2, 1) := by decide +kernel
theorem dX8_weigh_68 : decode prog_1_method_60_code 68 = .ok (.invokevirtual 375, 3) := by decide +kernel
theorem dX8_weigh_71 : decode prog_1_method_60_code 71 = .ok (.aload_n 1, 1) := by decide +kernel
theorem dX8_weigh_72 : decode prog_1_method_60_code 72 = .ok (.aload_n 0, 1) := by decide +kernel
theorem dX8_weigh_73 : decode prog_1_method_60_code 73 = .ok (.getfield 60, 3) := by decide +kernel
theorem dX8_weigh_76 : decode prog_1_method_60_code 76 = .ok (.invokevirtual 378, 3) := by decide +kernel
theorem dX8_weigh_79 : decode prog_1_method_60_code 79 = .ok (.aload_n 0, 1) := by decide +kernel
theorem dX8_weigh_80 : decode prog_1_method_60_code 80 = .ok (.getfield 60, 3) := by decide +kernel
theorem dX8_weigh_83 : decode prog_1_method_60_code 83 = .ok (.getfield 222, 3) := by decide +kernel
theorem dX8_weigh_86 : decode prog_1_method_60_code 86 = .ok (.invokevirtual 93, 3) := by decide +kernel
theorem dX8_weigh_89 : decode prog_1_method_60_code 89 = .ok (.iload_n 2, 1) := by decide +kernel
theorem dX8_weigh_90 : decode prog_1_method_60_code 90 = .ok (.iadd, 1) := by decide +kernel
theorem dX8_weigh_91 : decode prog_1_method_60_code 91 = .ok (.invokevirtual 375, 3) := by decide +kernel
theorem dX8_weigh_94 : decode prog_1_method_60_code 94 = .ok (.aload_n 1, 1) := by decide +kernel
theorem dX8_weigh_95 : decode prog_1_method_60_code 95 = .ok (.aload_n 0, 1) := by decide +kernel
theorem dX8_weigh_96 : decode prog_1_method_60_code 96 = .ok (.getfield 67, 3) := by decide +kernel
theorem dX8_weigh_99 : decode prog_1_method_60_code 99 = .ok (.invokevirtual 381, 3) := by decide +kernel
theorem dX8_weigh_102 : decode prog_1_method_60_code 102 = .ok (.iconst 2, 1) := by decide +kernel
theorem dX8_weigh_103 : decode prog_1_method_60_code 103 = .ok (.iload_n 2, 1) := by decide +kernel
theorem dX8_weigh_104 : decode prog_1_method_60_code 104 = .ok (.imul, 1) := by decide +kernel
theorem dX8_weigh_105 : decode prog_1_method_60_code 105 = .ok (.aload_n 0, 1) := by decide +kernel
theorem dX8_weigh_106 : decode prog_1_method_60_code 106 = .ok (.getfield 67, 3) := by decide +kernel
theorem dX8_weigh_109 : decode prog_1_method_60_code 109 = .ok (.invokevirtual 227, 3) := by decide +kernel
theorem dX8_weigh_112 : decode prog_1_method_60_code 112 = .ok (.iadd, 1) := by decide +kernel
theorem dX8_weigh_113 : decode prog_1_method_60_code 113 = .ok (.invokevirtual 375, 3) := by decide +kernel
theorem dX8_weigh_116 : decode prog_1_method_60_code 116 = .ok (.aload_n 1, 1) := by decide +kernel
theorem dX8_weigh_117 : decode prog_1_method_60_code 117 = .ok (.aload_n 0, 1) := by decide +kernel
theorem dX8_weigh_118 : decode prog_1_method_60_code 118 = .ok (.getfield 74, 3) := by decide +kernel
theorem dX8_weigh_121 : decode prog_1_method_60_code 121 = .ok (.getfield 240, 3) := by decide +kernel
theorem dX8_weigh_124 : decode prog_1_method_60_code 124 = .ok (.invokevirtual 93, 3) := by decide +kernel
theorem dX8_weigh_127 : decode prog_1_method_60_code 127 = .ok (.bipush 6, 2) := by decide +kernel
theorem dX8_weigh_129 : decode prog_1_method_60_code 129 = .ok (.iload_n 2, 1) := by decide +kernel
theorem dX8_weigh_130 : decode prog_1_method_60_code 130 = .ok (.imul, 1) := by decide +kernel
theorem dX8_weigh_131 : decode prog_1_method_60_code 131 = .ok (.invokevirtual 375, 3) := by decide +kernel
theorem dX8_weigh_134 : decode prog_1_method_60_code 134 = .ok (.aload_n 1, 1) := by decide +kernel
theorem dX8_weigh_135 : decode prog_1_method_60_code 135 = .ok (.aload_n 0, 1) := by decide +kernel
theorem dX8_weigh_136 : decode prog_1_method_60_code 136 = .ok (.getfield 81, 3) := by decide +kernel
theorem dX8_weigh_139 : decode prog_1_method_60_code 139 = .ok (.invokevirtual 382, 3) := by decide +kernel
theorem dX8_weigh_142 : decode prog_1_method_60_code 142 = .ok (.iconst 3, 1) := by decide +kernel
theorem dX8_weigh_143 : decode prog_1_method_60_code 143 = .ok (.iload_n 2, 1) := by decide +kernel
theorem dX8_weigh_144 : decode prog_1_method_60_code 144 = .ok (.imul, 1) := by decide +kernel
theorem dX8_weigh_145 : decode prog_1_method_60_code 145 = .ok (.invokevirtual 375, 3) := by decide +kernel
theorem dX8_weigh_148 : decode prog_1_method_60_code 148 = .ok (.return_, 1) := by decide +kernel
abbrev M_X8_size : am_M := ((⟨"SignCellar", "size", "(II)I"⟩ : MethodName), prog_1_method_13_code, 5, (some .int), 7, 155)
theorem dX8_size_0 : decode prog_1_method_13_code 0 = .ok (.aload_n 0, 1) := by decide +kernel
theorem dX8_size_1 : decode prog_1_method_13_code 1 = .ok (.iload_n 1, 1) := by decide +kernel
theorem dX8_size_2 : decode prog_1_method_13_code 2 = .ok (.invokevirtual 176, 3) := by decide +kernel
theorem dX8_size_5 : decode prog_1_method_13_code 5 = .ok (.astore_n 3, 1) := by decide +kernel
theorem dX8_size_6 : decode prog_1_method_13_code 6 = .ok (.aload_n 3, 1) := by decide +kernel
theorem dX8_size_7 : decode prog_1_method_13_code 7 = .ok (.iload_n 2, 1) := by decide +kernel
theorem dX8_size_8 : decode prog_1_method_13_code 8 = .ok (.invokestatic 204, 3) := by decide +kernel
theorem dX8_size_11 : decode prog_1_method_13_code 11 = .ok (.istore 4, 2) := by decide +kernel
theorem dX8_size_13 : decode prog_1_method_13_code 13 = .ok (.aload_n 3, 1) := by decide +kernel
theorem dX8_size_14 : decode prog_1_method_13_code 14 = .ok (.ifnull 8, 3) := by decide +kernel
theorem dX8_size_17 : decode prog_1_method_13_code 17 = .ok (.iload 4, 2) := by decide +kernel
theorem dX8_size_19 : decode prog_1_method_13_code 19 = .ok (.ifCond .eq 6, 3) := by decide +kernel
theorem dX8_size_22 : decode prog_1_method_13_code 22 = .ok (.iload 4, 2) := by decide +kernel
theorem dX8_size_24 : decode prog_1_method_13_code 24 = .ok (.ireturn, 1) := by decide +kernel
theorem dX8_size_25 : decode prog_1_method_13_code 25 = .ok (.aload_n 0, 1) := by decide +kernel
theorem dX8_size_26 : decode prog_1_method_13_code 26 = .ok (.aload_n 3, 1) := by decide +kernel
theorem dX8_size_27 : decode prog_1_method_13_code 27 = .ok (.invokevirtual 208, 3) := by decide +kernel
theorem dX8_size_30 : decode prog_1_method_13_code 30 = .ok (.aload_n 3, 1) := by decide +kernel
theorem dX8_size_31 : decode prog_1_method_13_code 31 = .ok (.getfield 212, 3) := by decide +kernel
theorem dX8_size_34 : decode prog_1_method_13_code 34 = .ok (.iload_n 2, 1) := by decide +kernel
theorem dX8_size_35 : decode prog_1_method_13_code 35 = .ok (.invokevirtual 161, 3) := by decide +kernel
theorem dX8_size_38 : decode prog_1_method_13_code 38 = .ok (.ireturn, 1) := by decide +kernel
abbrev M_X9_why : am_M := ((⟨"SignCellarModel", "why", "(II)I"⟩ : MethodName), prog_11_method_54_code, 3, (some .int), 2, 46)
theorem dX9_why_0 : decode prog_11_method_54_code 0 = .ok (.aload_n 0, 1) := by decide +kernel
theorem dX9_why_1 : decode prog_11_method_54_code 1 = .ok (.iload_n 1, 1) := by decide +kernel
theorem dX9_why_2 : decode prog_11_method_54_code 2 = .ok (.invokevirtual 184, 3) := by decide +kernel
theorem dX9_why_5 : decode prog_11_method_54_code 5 = .ok (.ifCond .eq 8, 3) := by decide +kernel
theorem dX9_why_8 : decode prog_11_method_54_code 8 = .ok (.ldc 164, 2) := by decide +kernel
theorem dX9_why_10 : decode prog_11_method_54_code 10 = .ok (.goto 35, 3) := by decide +kernel
theorem dX9_why_13 : decode prog_11_method_54_code 13 = .ok (.iload_n 2, 1) := by decide +kernel
theorem dX9_why_14 : decode prog_11_method_54_code 14 = .ok (.i2l, 1) := by decide +kernel
theorem dX9_why_15 : decode prog_11_method_54_code 15 = .ok (.lconst 0, 1) := by decide +kernel
theorem dX9_why_16 : decode prog_11_method_54_code 16 = .ok (.ldc2_w 269, 3) := by decide +kernel
theorem dX9_why_19 : decode prog_11_method_54_code 19 = .ok (.invokestatic 96, 3) := by decide +kernel
theorem dX9_why_22 : decode prog_11_method_54_code 22 = .ok (.ifCond .ne 8, 3) := by decide +kernel
theorem dX9_why_25 : decode prog_11_method_54_code 25 = .ok (.ldc 105, 2) := by decide +kernel
theorem dX9_why_27 : decode prog_11_method_54_code 27 = .ok (.goto 18, 3) := by decide +kernel
theorem dX9_why_30 : decode prog_11_method_54_code 30 = .ok (.aload_n 0, 1) := by decide +kernel
theorem dX9_why_31 : decode prog_11_method_54_code 31 = .ok (.getfield 19, 3) := by decide +kernel
theorem dX9_why_34 : decode prog_11_method_54_code 34 = .ok (.iload_n 1, 1) := by decide +kernel
theorem dX9_why_35 : decode prog_11_method_54_code 35 = .ok (.baload, 1) := by decide +kernel
theorem dX9_why_36 : decode prog_11_method_54_code 36 = .ok (.ifCond .eq 8, 3) := by decide +kernel
theorem dX9_why_39 : decode prog_11_method_54_code 39 = .ok (.ldc 168, 2) := by decide +kernel
theorem dX9_why_41 : decode prog_11_method_54_code 41 = .ok (.goto 4, 3) := by decide +kernel
theorem dX9_why_44 : decode prog_11_method_54_code 44 = .ok (.iconst 0, 1) := by decide +kernel
theorem dX9_why_45 : decode prog_11_method_54_code 45 = .ok (.ireturn, 1) := by decide +kernel
abbrev M_X9_isMate : am_M := ((⟨"SignCellarModel", "isMate", "(IIII)Z"⟩ : MethodName), prog_11_method_33_code, 7, (some .boolean), 1, 22)
theorem dX9_isMate_0 : decode prog_11_method_33_code 0 = .ok (.iload 4, 2) := by decide +kernel
theorem dX9_isMate_2 : decode prog_11_method_33_code 2 = .ok (.iload_n 2, 1) := by decide +kernel
theorem dX9_isMate_3 : decode prog_11_method_33_code 3 = .ok (.if_icmp .gt 19, 3) := by decide +kernel
theorem dX9_isMate_6 : decode prog_11_method_33_code 6 = .ok (.iload_n 2, 1) := by decide +kernel
theorem dX9_isMate_7 : decode prog_11_method_33_code 7 = .ok (.iload_n 3, 1) := by decide +kernel
theorem dX9_isMate_8 : decode prog_11_method_33_code 8 = .ok (.iadd, 1) := by decide +kernel
theorem dX9_isMate_9 : decode prog_11_method_33_code 9 = .ok (.aload_n 0, 1) := by decide +kernel
theorem dX9_isMate_10 : decode prog_11_method_33_code 10 = .ok (.getfield 13, 3) := by decide +kernel
theorem dX9_isMate_13 : decode prog_11_method_33_code 13 = .ok (.iload_n 1, 1) := by decide +kernel
theorem dX9_isMate_14 : decode prog_11_method_33_code 14 = .ok (.iaload, 1) := by decide +kernel
theorem dX9_isMate_15 : decode prog_11_method_33_code 15 = .ok (.if_icmp .gt 7, 3) := by decide +kernel
theorem dX9_isMate_18 : decode prog_11_method_33_code 18 = .ok (.iconst 1, 1) := by decide +kernel
theorem dX9_isMate_19 : decode prog_11_method_33_code 19 = .ok (.goto 4, 3) := by decide +kernel
theorem dX9_isMate_22 : decode prog_11_method_33_code 22 = .ok (.iconst 0, 1) := by decide +kernel
theorem dX9_isMate_23 : decode prog_11_method_33_code 23 = .ok (.istore 5, 2) := by decide +kernel
theorem dX9_isMate_25 : decode prog_11_method_33_code 25 = .ok (.iconst 0, 1) := by decide +kernel
theorem dX9_isMate_26 : decode prog_11_method_33_code 26 = .ok (.istore 6, 2) := by decide +kernel
theorem dX9_isMate_28 : decode prog_11_method_33_code 28 = .ok (.iload 6, 2) := by decide +kernel
theorem dX9_isMate_30 : decode prog_11_method_33_code 30 = .ok (.iload_n 3, 1) := by decide +kernel
theorem dX9_isMate_31 : decode prog_11_method_33_code 31 = .ok (.if_icmp .ge 45, 3) := by decide +kernel
theorem dX9_isMate_34 : decode prog_11_method_33_code 34 = .ok (.iload 5, 2) := by decide +kernel
theorem dX9_isMate_36 : decode prog_11_method_33_code 36 = .ok (.ifCond .eq 40, 3) := by decide +kernel
theorem dX9_isMate_39 : decode prog_11_method_33_code 39 = .ok (.aload_n 0, 1) := by decide +kernel
theorem dX9_isMate_40 : decode prog_11_method_33_code 40 = .ok (.iload_n 1, 1) := by decide +kernel
theorem dX9_isMate_41 : decode prog_11_method_33_code 41 = .ok (.iload_n 2, 1) := by decide +kernel
theorem dX9_isMate_42 : decode prog_11_method_33_code 42 = .ok (.iload 6, 2) := by decide +kernel
theorem dX9_isMate_44 : decode prog_11_method_33_code 44 = .ok (.iadd, 1) := by decide +kernel
theorem dX9_isMate_45 : decode prog_11_method_33_code 45 = .ok (.invokevirtual 113, 3) := by decide +kernel
theorem dX9_isMate_48 : decode prog_11_method_33_code 48 = .ok (.aload_n 0, 1) := by decide +kernel
theorem dX9_isMate_49 : decode prog_11_method_33_code 49 = .ok (.iload_n 1, 1) := by decide +kernel
theorem dX9_isMate_50 : decode prog_11_method_33_code 50 = .ok (.iload_n 2, 1) := by decide +kernel
theorem dX9_isMate_51 : decode prog_11_method_33_code 51 = .ok (.iload 6, 2) := by decide +kernel
theorem dX9_isMate_53 : decode prog_11_method_33_code 53 = .ok (.iadd, 1) := by decide +kernel
theorem dX9_isMate_54 : decode prog_11_method_33_code 54 = .ok (.iload 4, 2) := by decide +kernel
theorem dX9_isMate_56 : decode prog_11_method_33_code 56 = .ok (.isub, 1) := by decide +kernel
theorem dX9_isMate_57 : decode prog_11_method_33_code 57 = .ok (.invokevirtual 113, 3) := by decide +kernel
theorem dX9_isMate_60 : decode prog_11_method_33_code 60 = .ok (.if_icmp .ne 7, 3) := by decide +kernel
theorem dX9_isMate_63 : decode prog_11_method_33_code 63 = .ok (.iconst 1, 1) := by decide +kernel
theorem dX9_isMate_64 : decode prog_11_method_33_code 64 = .ok (.goto 4, 3) := by decide +kernel
theorem dX9_isMate_67 : decode prog_11_method_33_code 67 = .ok (.iconst 0, 1) := by decide +kernel
theorem dX9_isMate_68 : decode prog_11_method_33_code 68 = .ok (.istore 5, 2) := by decide +kernel
theorem dX9_isMate_70 : decode prog_11_method_33_code 70 = .ok (.iinc 6 1, 3) := by decide +kernel
theorem dX9_isMate_73 : decode prog_11_method_33_code 73 = .ok (.goto (-45), 3) := by decide +kernel
theorem dX9_isMate_76 : decode prog_11_method_33_code 76 = .ok (.iload 5, 2) := by decide +kernel
theorem dX9_isMate_78 : decode prog_11_method_33_code 78 = .ok (.ireturn, 1) := by decide +kernel
abbrev M_X9_pieceAt : am_M := ((⟨"SignCellarModel", "pieceAt", "(II)I"⟩ : MethodName), prog_11_method_34_code, 5, (some .int), 2, 48)
theorem dX9_pieceAt_0 : decode prog_11_method_34_code 0 = .ok (.iconst 5, 1) := by decide +kernel
theorem dX9_pieceAt_1 : decode prog_11_method_34_code 1 = .ok (.aload_n 0, 1) := by decide +kernel
theorem dX9_pieceAt_2 : decode prog_11_method_34_code 2 = .ok (.getfield 47, 3) := by decide +kernel
theorem dX9_pieceAt_5 : decode prog_11_method_34_code 5 = .ok (.iload_n 2, 1) := by decide +kernel
theorem dX9_pieceAt_6 : decode prog_11_method_34_code 6 = .ok (.iconst 1, 1) := by decide +kernel
theorem dX9_pieceAt_7 : decode prog_11_method_34_code 7 = .ok (.iadd, 1) := by decide +kernel
theorem dX9_pieceAt_8 : decode prog_11_method_34_code 8 = .ok (.iaload, 1) := by decide +kernel
theorem dX9_pieceAt_9 : decode prog_11_method_34_code 9 = .ok (.iadd, 1) := by decide +kernel
theorem dX9_pieceAt_10 : decode prog_11_method_34_code 10 = .ok (.aload_n 0, 1) := by decide +kernel
theorem dX9_pieceAt_11 : decode prog_11_method_34_code 11 = .ok (.getfield 47, 3) := by decide +kernel
theorem dX9_pieceAt_14 : decode prog_11_method_34_code 14 = .ok (.iload_n 2, 1) := by decide +kernel
theorem dX9_pieceAt_15 : decode prog_11_method_34_code 15 = .ok (.iaload, 1) := by decide +kernel
theorem dX9_pieceAt_16 : decode prog_11_method_34_code 16 = .ok (.if_icmp .ne 5, 3) := by decide +kernel
theorem dX9_pieceAt_19 : decode prog_11_method_34_code 19 = .ok (.iconst 0, 1) := by decide +kernel
theorem dX9_pieceAt_20 : decode prog_11_method_34_code 20 = .ok (.ireturn, 1) := by decide +kernel
theorem dX9_pieceAt_21 : decode prog_11_method_34_code 21 = .ok (.iconst 2, 1) := by decide +kernel
theorem dX9_pieceAt_22 : decode prog_11_method_34_code 22 = .ok (.istore_n 3, 1) := by decide +kernel
theorem dX9_pieceAt_23 : decode prog_11_method_34_code 23 = .ok (.iload_n 3, 1) := by decide +kernel
theorem dX9_pieceAt_24 : decode prog_11_method_34_code 24 = .ok (.bipush 10, 2) := by decide +kernel
theorem dX9_pieceAt_26 : decode prog_11_method_34_code 26 = .ok (.if_icmp .ge 65, 3) := by decide +kernel
theorem dX9_pieceAt_29 : decode prog_11_method_34_code 29 = .ok (.iconst 1, 1) := by decide +kernel
theorem dX9_pieceAt_30 : decode prog_11_method_34_code 30 = .ok (.istore 4, 2) := by decide +kernel
theorem dX9_pieceAt_32 : decode prog_11_method_34_code 32 = .ok (.iload 4, 2) := by decide +kernel
theorem dX9_pieceAt_34 : decode prog_11_method_34_code 34 = .ok (.bipush 16, 2) := by decide +kernel
theorem dX9_pieceAt_36 : decode prog_11_method_34_code 36 = .ok (.if_icmp .ge 49, 3) := by decide +kernel
theorem dX9_pieceAt_39 : decode prog_11_method_34_code 39 = .ok (.aload_n 0, 1) := by decide +kernel
theorem dX9_pieceAt_40 : decode prog_11_method_34_code 40 = .ok (.iload_n 1, 1) := by decide +kernel
theorem dX9_pieceAt_41 : decode prog_11_method_34_code 41 = .ok (.iload_n 2, 1) := by decide +kernel
theorem dX9_pieceAt_42 : decode prog_11_method_34_code 42 = .ok (.iload_n 3, 1) := by decide +kernel
theorem dX9_pieceAt_43 : decode prog_11_method_34_code 43 = .ok (.iload 4, 2) := by decide +kernel
theorem dX9_pieceAt_45 : decode prog_11_method_34_code 45 = .ok (.invokevirtual 194, 3) := by decide +kernel
theorem dX9_pieceAt_48 : decode prog_11_method_34_code 48 = .ok (.ifCond .eq 31, 3) := by decide +kernel
theorem dX9_pieceAt_51 : decode prog_11_method_34_code 51 = .ok (.bipush 11, 2) := by decide +kernel
theorem dX9_pieceAt_53 : decode prog_11_method_34_code 53 = .ok (.aload_n 0, 1) := by decide +kernel
theorem dX9_pieceAt_54 : decode prog_11_method_34_code 54 = .ok (.getfield 47, 3) := by decide +kernel
theorem dX9_pieceAt_57 : decode prog_11_method_34_code 57 = .ok (.iload_n 2, 1) := by decide +kernel
theorem dX9_pieceAt_58 : decode prog_11_method_34_code 58 = .ok (.iload_n 3, 1) := by decide +kernel
theorem dX9_pieceAt_59 : decode prog_11_method_34_code 59 = .ok (.iadd, 1) := by decide +kernel
theorem dX9_pieceAt_60 : decode prog_11_method_34_code 60 = .ok (.iaload, 1) := by decide +kernel
theorem dX9_pieceAt_61 : decode prog_11_method_34_code 61 = .ok (.iadd, 1) := by decide +kernel
theorem dX9_pieceAt_62 : decode prog_11_method_34_code 62 = .ok (.aload_n 0, 1) := by decide +kernel
theorem dX9_pieceAt_63 : decode prog_11_method_34_code 63 = .ok (.getfield 47, 3) := by decide +kernel
theorem dX9_pieceAt_66 : decode prog_11_method_34_code 66 = .ok (.iload_n 2, 1) := by decide +kernel
theorem dX9_pieceAt_67 : decode prog_11_method_34_code 67 = .ok (.iaload, 1) := by decide +kernel
theorem dX9_pieceAt_68 : decode prog_11_method_34_code 68 = .ok (.if_icmp .ne 11, 3) := by decide +kernel
theorem dX9_pieceAt_71 : decode prog_11_method_34_code 71 = .ok (.bipush 16, 2) := by decide +kernel
theorem dX9_pieceAt_73 : decode prog_11_method_34_code 73 = .ok (.iload_n 3, 1) := by decide +kernel
theorem dX9_pieceAt_74 : decode prog_11_method_34_code 74 = .ok (.imul, 1) := by decide +kernel
theorem dX9_pieceAt_75 : decode prog_11_method_34_code 75 = .ok (.iload 4, 2) := by decide +kernel
theorem dX9_pieceAt_77 : decode prog_11_method_34_code 77 = .ok (.iadd, 1) := by decide +kernel
theorem dX9_pieceAt_78 : decode prog_11_method_34_code 78 = .ok (.ireturn, 1) := by decide +kernel
theorem dX9_pieceAt_79 : decode prog_11_method_34_code 79 = .ok (.iinc 4 1, 3) := by decide +kernel
theorem dX9_pieceAt_82 : decode prog_11_method_34_code 82 = .ok (.goto (-50), 3) := by decide +kernel
theorem dX9_pieceAt_85 : decode prog_11_method_34_code 85 = .ok (.iinc 3 1, 3) := by decide +kernel
theorem dX9_pieceAt_88 : decode prog_11_method_34_code 88 = .ok (.goto (-65), 3) := by decide +kernel
theorem dX9_pieceAt_91 : decode prog_11_method_34_code 91 = .ok (.iconst (-1), 1) := by decide +kernel
theorem dX9_pieceAt_92 : decode prog_11_method_34_code 92 = .ok (.ireturn, 1) := by decide +kernel
abbrev M_X9_findCuts : am_M := ((⟨"SignCellarModel", "findCuts", "(I)V"⟩ : MethodName), prog_11_method_35_code, 8, none, 3, 72)
theorem dX9_findCuts_0 : decode prog_11_method_35_code 0 = .ok (.aload_n 0, 1) := by decide +kernel
theorem dX9_findCuts_1 : decode prog_11_method_35_code 1 = .ok (.getfield 13, 3) := by decide +kernel
theorem dX9_findCuts_4 : decode prog_11_method_35_code 4 = .ok (.iload_n 1, 1) := by decide +kernel
theorem dX9_findCuts_5 : decode prog_11_method_35_code 5 = .ok (.iaload, 1) := by decide +kernel
theorem dX9_findCuts_6 : decode prog_11_method_35_code 6 = .ok (.istore_n 2, 1) := by decide +kernel
theorem dX9_findCuts_7 : decode prog_11_method_35_code 7 = .ok (.aload_n 0, 1) := by decide +kernel
theorem dX9_findCuts_8 : decode prog_11_method_35_code 8 = .ok (.getfield 47, 3) := by decide +kernel
theorem dX9_findCuts_11 : decode prog_11_method_35_code 11 = .ok (.iload_n 2, 1) := by decide +kernel
theorem dX9_findCuts_12 : decode prog_11_method_35_code 12 = .ok (.iconst 0, 1) := by decide +kernel
theorem dX9_findCuts_13 : decode prog_11_method_35_code 13 = .ok (.iastore, 1) := by decide +kernel
theorem dX9_findCuts_14 : decode prog_11_method_35_code 14 = .ok (.iload_n 2, 1) := by decide +kernel
theorem dX9_findCuts_15 : decode prog_11_method_35_code 15 = .ok (.iconst 1, 1) := by decide +kernel
theorem dX9_findCuts_16 : decode prog_11_method_35_code 16 = .ok (.isub, 1) := by decide +kernel
theorem dX9_findCuts_17 : decode prog_11_method_35_code 17 = .ok (.istore_n 3, 1) := by decide +kernel
theorem dX9_findCuts_18 : decode prog_11_method_35_code 18 = .ok (.iload_n 3, 1) := by decide +kernel
theorem dX9_findCuts_19 : decode prog_11_method_35_code 19 = .ok (.ifCond .lt 138, 3) := by decide +kernel
theorem dX9_findCuts_22 : decode prog_11_method_35_code 22 = .ok (.iconst 5, 1) := by decide +kernel
theorem dX9_findCuts_23 : decode prog_11_method_35_code 23 = .ok (.aload_n 0, 1) := by decide +kernel
theorem dX9_findCuts_24 : decode prog_11_method_35_code 24 = .ok (.getfield 47, 3) := by decide +kernel
theorem dX9_findCuts_27 : decode prog_11_method_35_code 27 = .ok (.iload_n 3, 1) := by decide +kernel
theorem dX9_findCuts_28 : decode prog_11_method_35_code 28 = .ok (.iconst 1, 1) := by decide +kernel
theorem dX9_findCuts_29 : decode prog_11_method_35_code 29 = .ok (.iadd, 1) := by decide +kernel
theorem dX9_findCuts_30 : decode prog_11_method_35_code 30 = .ok (.iaload, 1) := by decide +kernel
theorem dX9_findCuts_31 : decode prog_11_method_35_code 31 = .ok (.iadd, 1) := by decide +kernel
theorem dX9_findCuts_32 : decode prog_11_method_35_code 32 = .ok (.istore 4, 2) := by decide +kernel
theorem dX9_findCuts_34 : decode prog_11_method_35_code 34 = .ok (.iconst 2, 1) := by decide +kernel
theorem dX9_findCuts_35 : decode prog_11_method_35_code 35 = .ok (.istore 5, 2) := by decide +kernel
theorem dX9_findCuts_37 : decode prog_11_method_35_code 37 = .ok (.iload 5, 2) := by decide +kernel
theorem dX9_findCuts_39 : decode prog_11_method_35_code 39 = .ok (.bipush 10, 2) := by decide +kernel
theorem dX9_findCuts_41 : decode prog_11_method_35_code 41 = .ok (.if_icmp .ge 102, 3) := by decide +kernel
theorem dX9_findCuts_44 : decode prog_11_method_35_code 44 = .ok (.iload_n 3, 1) := by decide +kernel
theorem dX9_findCuts_45 : decode prog_11_method_35_code 45 = .ok (.iload 5, 2) := by decide +kernel
theorem dX9_findCuts_47 : decode prog_11_method_35_code 47 = .ok (.iadd, 1) := by decide +kernel
theorem dX9_findCuts_48 : decode prog_11_method_35_code 48 = .ok (.iload_n 2, 1) := by decide +kernel
theorem dX9_findCuts_49 : decode prog_11_method_35_code 49 = .ok (.if_icmp .gt 94, 3) := by decide +kernel
theorem dX9_findCuts_52 : decode prog_11_method_35_code 52 = .ok (.iconst 0, 1) := by decide +kernel
theorem dX9_findCuts_53 : decode prog_11_method_35_code 53 = .ok (.istore 6, 2) := by decide +kernel
theorem dX9_findCuts_55 : decode prog_11_method_35_code 55 = .ok (.iconst 1, 1) := by decide +kernel
theorem dX9_findCuts_56 : decode prog_11_method_35_code 56 = .ok (.istore 7, 2) := by decide +kernel
theorem dX9_findCuts_58 : decode prog_11_method_35_code 58 = .ok (.iload 7, 2) := by decide +kernel
theorem dX9_findCuts_60 : decode prog_11_method_35_code 60 = .ok (.bipush 16, 2) := by decide +kernel
theorem dX9_findCuts_62 : decode prog_11_method_35_code 62 = .ok (.if_icmp .ge 34, 3) := by decide +kernel
theorem dX9_findCuts_65 : decode prog_11_method_35_code 65 = .ok (.iload 6, 2) := by decide +kernel
theorem dX9_findCuts_67 : decode prog_11_method_35_code 67 = .ok (.ifCond .ne 16, 3) := by decide +kernel
theorem dX9_findCuts_70 : decode prog_11_method_35_code 70 = .ok (.aload_n 0, 1) := by decide +kernel
theorem dX9_findCuts_71 : decode prog_11_method_35_code 71 = .ok (.iload_n 1, 1) := by decide +kernel
theorem dX9_findCuts_72 : decode prog_11_method_35_code 72 = .ok (.iload_n 3, 1) := by decide +kernel
theorem dX9_findCuts_73 : decode prog_11_method_35_code 73 = .ok (.iload 5, 2) := by decide +kernel
theorem dX9_findCuts_75 : decode prog_11_method_35_code 75 = .ok (.iload 7, 2) := by decide +kernel
theorem dX9_findCuts_77 : decode prog_11_method_35_code 77 = .ok (.invokevirtual 194, 3) := by decide +kernel
theorem dX9_findCuts_80 : decode prog_11_method_35_code 80 = .ok (.ifCond .eq 7, 3) := by decide +kernel
theorem dX9_findCuts_83 : decode prog_11_method_35_code 83 = .ok (.iconst 1, 1) := by decide +kernel
theorem dX9_findCuts_84 : decode prog_11_method_35_code 84 = .ok (.goto 4, 3) := by decide +kernel
theorem dX9_findCuts_87 : decode prog_11_method_35_code 87 = .ok (.iconst 0, 1) := by decide +kernel
theorem dX9_findCuts_88 : decode prog_11_method_35_code 88 = .ok (.istore 6, 2) := by decide +kernel
theorem dX9_findCuts_90 : decode prog_11_method_35_code 90 = .ok (.iinc 7 1, 3) := by decide +kernel
theorem dX9_findCuts_93 : decode prog_11_method_35_code 93 = .ok (.goto (-35), 3) := by decide +kernel
theorem dX9_findCuts_96 : decode prog_11_method_35_code 96 = .ok (.iload 6, 2) := by decide +kernel
theorem dX9_findCuts_98 : decode prog_11_method_35_code 98 = .ok (.ifCond .eq 35, 3) := by decide +kernel
theorem dX9_findCuts_101 : decode prog_11_method_35_code 101 = .ok (.bipush 11, 2) := by decide +kernel
theorem dX9_findCuts_103 : decode prog_11_method_35_code 103 = .ok (.aload_n 0, 1) := by decide +kernel
theorem dX9_findCuts_104 : decode prog_11_method_35_code 104 = .ok (.getfield 47, 3) := by decide +kernel
theorem dX9_findCuts_107 : decode prog_11_method_35_code 107 = .ok (.iload_n 3, 1) := by decide +kernel
theorem dX9_findCuts_108 : decode prog_11_method_35_code 108 = .ok (.iload 5, 2) := by decide +kernel
theorem dX9_findCuts_110 : decode prog_11_method_35_code 110 = .ok (.iadd, 1) := by decide +kernel
theorem dX9_findCuts_111 : decode prog_11_method_35_code 111 = .ok (.iaload, 1) := by decide +kernel
theorem dX9_findCuts_112 : decode prog_11_method_35_code 112 = .ok (.iadd, 1) := by decide +kernel
theorem dX9_findCuts_113 : decode prog_11_method_35_code 113 = .ok (.iload 4, 2) := by decide +kernel
theorem dX9_findCuts_115 : decode prog_11_method_35_code 115 = .ok (.if_icmp .ge 18, 3) := by decide +kernel
theorem dX9_findCuts_118 : decode prog_11_method_35_code 118 = .ok (.bipush 11, 2) := by decide +kernel
theorem dX9_findCuts_120 : decode prog_11_method_35_code 120 = .ok (.aload_n 0, 1) := by decide +kernel
theorem dX9_findCuts_121 : decode prog_11_method_35_code 121 = .ok (.getfield 47, 3) := by decide +kernel
theorem dX9_findCuts_124 : decode prog_11_method_35_code 124 = .ok (.iload_n 3, 1) := by decide +kernel
theorem dX9_findCuts_125 : decode prog_11_method_35_code 125 = .ok (.iload 5, 2) := by decide +kernel
theorem dX9_findCuts_127 : decode prog_11_method_35_code 127 = .ok (.iadd, 1) := by decide +kernel
theorem dX9_findCuts_128 : decode prog_11_method_35_code 128 = .ok (.iaload, 1) := by decide +kernel
theorem dX9_findCuts_129 : decode prog_11_method_35_code 129 = .ok (.iadd, 1) := by decide +kernel
theorem dX9_findCuts_130 : decode prog_11_method_35_code 130 = .ok (.goto 5, 3) := by decide +kernel
theorem dX9_findCuts_133 : decode prog_11_method_35_code 133 = .ok (.iload 4, 2) := by decide +kernel
theorem dX9_findCuts_135 : decode prog_11_method_35_code 135 = .ok (.istore 4, 2) := by decide +kernel
theorem dX9_findCuts_137 : decode prog_11_method_35_code 137 = .ok (.iinc 5 1, 3) := by decide +kernel
theorem dX9_findCuts_140 : decode prog_11_method_35_code 140 = .ok (.goto (-103), 3) := by decide +kernel
theorem dX9_findCuts_143 : decode prog_11_method_35_code 143 = .ok (.aload_n 0, 1) := by decide +kernel
theorem dX9_findCuts_144 : decode prog_11_method_35_code 144 = .ok (.getfield 47, 3) := by decide +kernel
theorem dX9_findCuts_147 : decode prog_11_method_35_code 147 = .ok (.iload_n 3, 1) := by decide +kernel
theorem dX9_findCuts_148 : decode prog_11_method_35_code 148 = .ok (.iload 4, 2) := by decide +kernel
theorem dX9_findCuts_150 : decode prog_11_method_35_code 150 = .ok (.iastore, 1) := by decide +kernel
theorem dX9_findCuts_151 : decode prog_11_method_35_code 151 = .ok (.iinc 3 (-1), 3) := by decide +kernel
theorem dX9_findCuts_154 : decode prog_11_method_35_code 154 = .ok (.goto (-136), 3) := by decide +kernel
theorem dX9_findCuts_157 : decode prog_11_method_35_code 157 = .ok (.aload_n 0, 1) := by decide +kernel
theorem dX9_findCuts_158 : decode prog_11_method_35_code 158 = .ok (.iconst 0, 1) := by decide +kernel
theorem dX9_findCuts_159 : decode prog_11_method_35_code 159 = .ok (.putfield 198, 3) := by decide +kernel
theorem dX9_findCuts_162 : decode prog_11_method_35_code 162 = .ok (.iconst 0, 1) := by decide +kernel
theorem dX9_findCuts_163 : decode prog_11_method_35_code 163 = .ok (.istore_n 3, 1) := by decide +kernel
theorem dX9_findCuts_164 : decode prog_11_method_35_code 164 = .ok (.iload_n 3, 1) := by decide +kernel
theorem dX9_findCuts_165 : decode prog_11_method_35_code 165 = .ok (.iload_n 2, 1) := by decide +kernel
theorem dX9_findCuts_166 : decode prog_11_method_35_code 166 = .ok (.if_icmp .ge 52, 3) := by decide +kernel
theorem dX9_findCuts_169 : decode prog_11_method_35_code 169 = .ok (.aload_n 0, 1) := by decide +kernel
theorem dX9_findCuts_170 : decode prog_11_method_35_code 170 = .ok (.iload_n 1, 1) := by decide +kernel
theorem dX9_findCuts_171 : decode prog_11_method_35_code 171 = .ok (.iload_n 3, 1) := by decide +kernel
theorem dX9_findCuts_172 : decode prog_11_method_35_code 172 = .ok (.invokevirtual 201, 3) := by decide +kernel
theorem dX9_findCuts_175 : decode prog_11_method_35_code 175 = .ok (.istore 4, 2) := by decide +kernel
theorem dX9_findCuts_177 : decode prog_11_method_35_code 177 = .ok (.aload_n 0, 1) := by decide +kernel
theorem dX9_findCuts_178 : decode prog_11_method_35_code 178 = .ok (.getfield 50, 3) := by decide +kernel
theorem dX9_findCuts_181 : decode prog_11_method_35_code 181 = .ok (.aload_n 0, 1) := by decide +kernel
theorem dX9_findCuts_182 : decode prog_11_method_35_code 182 = .ok (.getfield 198, 3) := by decide +kernel
theorem dX9_findCuts_185 : decode prog_11_method_35_code 185 = .ok (.iload 4, 2) := by decide +kernel
theorem dX9_findCuts_187 : decode prog_11_method_35_code 187 = .ok (.iastore, 1) := by decide +kernel
theorem dX9_findCuts_188 : decode prog_11_method_35_code 188 = .ok (.aload_n 0, 1) := by decide +kernel
theorem dX9_findCuts_189 : decode prog_11_method_35_code 189 = .ok (.dup, 1) := by decide +kernel
theorem dX9_findCuts_190 : decode prog_11_method_35_code 190 = .ok (.getfield 198, 3) := by decide +kernel
theorem dX9_findCuts_193 : decode prog_11_method_35_code 193 = .ok (.iconst 1, 1) := by decide +kernel
theorem dX9_findCuts_194 : decode prog_11_method_35_code 194 = .ok (.iadd, 1) := by decide +kernel
theorem dX9_findCuts_195 : decode prog_11_method_35_code 195 = .ok (.putfield 198, 3) := by decide +kernel
theorem dX9_findCuts_198 : decode prog_11_method_35_code 198 = .ok (.iload_n 3, 1) := by decide +kernel
theorem dX9_findCuts_199 : decode prog_11_method_35_code 199 = .ok (.iload 4, 2) := by decide +kernel
theorem dX9_findCuts_201 : decode prog_11_method_35_code 201 = .ok (.ifCond .ne 7, 3) := by decide +kernel
theorem dX9_findCuts_204 : decode prog_11_method_35_code 204 = .ok (.iconst 1, 1) := by decide +kernel
theorem dX9_findCuts_205 : decode prog_11_method_35_code 205 = .ok (.goto 8, 3) := by decide +kernel
theorem dX9_findCuts_208 : decode prog_11_method_35_code 208 = .ok (.iload 4, 2) := by decide +kernel
theorem dX9_findCuts_210 : decode prog_11_method_35_code 210 = .ok (.bipush 16, 2) := by decide +kernel
theorem dX9_findCuts_212 : decode prog_11_method_35_code 212 = .ok (.idiv, 1) := by decide +kernel
theorem dX9_findCuts_213 : decode prog_11_method_35_code 213 = .ok (.iadd, 1) := by decide +kernel
theorem dX9_findCuts_214 : decode prog_11_method_35_code 214 = .ok (.istore_n 3, 1) := by decide +kernel
theorem dX9_findCuts_215 : decode prog_11_method_35_code 215 = .ok (.goto (-51), 3) := by decide +kernel
theorem dX9_findCuts_218 : decode prog_11_method_35_code 218 = .ok (.return_, 1) := by decide +kernel
theorem cw_X5_68 : am_cw "SignCellar$Rules" 68 M_X5_left 0 := ⟨wd_1_5, wd_3_135, ⟨by decide, by decide, by decide⟩, Or.inl wd_3_132⟩
def F_X5_price_17 : Nat → Nat → Int32 → Int32 → am_H → Option Int32
  | 0, _, _, _, _ => none
  | n + 1, v0, v1, v2, h =>
  (am_gi 5 3 v0 h).bind fun x1 =>
  if x1 ≤ v2 then
    some v1
  else
    (F_X5_lengthOf v0 v2 h).bind fun x3 =>
    F_X5_price_17 n v0 (v1 + ((5 : Int32) * x3)) (v2 + (1 : Int32)) h
theorem w_X5_price_17 {g : am_G} {l : Launch} {h0 : am_H} {x : Int32}  : ∀ (n : Nat) (v0 : Nat) (v1 : Int32) (v2 : Int32) (h : am_H), F_X5_price_17 n v0 v1 v2 h = some x → am_W g l M_X5_price h0 (some (.int x)) h 17 [some (.ref v0), some (.int v1), some (.int v2)] [] h
  | 0, _, _, _, _, hF => by cases hF
  | n + 1, v0, v1, v2, h, hF => by
    rw [F_X5_price_17] at hF
    refine am_iload_n (pc' := 18) dX5_price_17 rfl rfl ?_
    refine am_aload_n (pc' := 19) dX5_price_18 rfl rfl ?_
    obtain ⟨x1, ex1, hF⟩ := am_bind hF
    refine am_geti (pc' := 22) dX5_price_19 fw_X5_27 ex1 rfl ?_
    rcases am_ite hF with ⟨z2, hF⟩ | ⟨z2, hF⟩
    · refine am_icmp_ge_t (pc' := 41) dX5_price_22 rfl z2 ?_
      refine am_iload_n (pc' := 42) dX5_price_41 rfl rfl ?_
      cases hF
      exact am_iret dX5_price_42 rfl rfl
    · refine am_icmp_ge_f (pc' := 25) (tgt := 41) dX5_price_22 rfl z2 rfl ?_
      refine am_iload_n (pc' := 26) dX5_price_25 rfl rfl ?_
      refine am_iconst (v := (5 : Int32)) (pc' := 27) dX5_price_26 rfl rfl ?_
      refine am_aload_n (pc' := 28) dX5_price_27 rfl rfl ?_
      refine am_iload_n (pc' := 29) dX5_price_28 rfl rfl ?_
      obtain ⟨x3, ex3, hF⟩ := am_bind hF
      obtain ⟨ox3, px3⟩ := t_X5_lengthOf ex3
      refine am_callV1 (Mc := M_X5_lengthOf) (As := [.int v2]) (st := [.int (5 : Int32), .int v1]) (pc' := 32) dX5_price_29 cw_X5_61 wd_3_137 wd_3_138 ⟨_, rfl, rfl⟩ (by decide) (by decide) rfl rfl (Nat.le_of_ble_eq_true rfl) px3 (c_X5_lengthOf ex3) rfl ?_
      refine am_imul (pc' := 33) dX5_price_32 rfl ?_
      refine am_iadd (pc' := 34) dX5_price_33 rfl ?_
      refine am_istore_n (ls' := [some (.ref v0), some (.int (v1 + ((5 : Int32) * x3))), some (.int v2)]) (pc' := 35) dX5_price_34 (Nat.le_of_ble_eq_true rfl) rfl rfl ?_
      refine am_iinc (ls' := [some (.ref v0), some (.int (v1 + ((5 : Int32) * x3))), some (.int (v2 + (1 : Int32)))]) (pc' := 38) (v := (v2 + (1 : Int32))) dX5_price_35 rfl rfl (Nat.le_of_ble_eq_true rfl) rfl rfl ?_
      refine am_goto (pc' := 17) dX5_price_38 rfl ?_
      exact w_X5_price_17 n v0 (v1 + ((5 : Int32) * x3)) (v2 + (1 : Int32)) h hF
def F_X5_price_b (v0 : Nat) (h : am_H) : Option Int32 :=
  (am_gr 5 0 v0 h).bind fun x1 =>
  (F_X4_length x1 h).bind fun x2 =>
  (F_X5_left v0 h).bind fun x3 =>
  F_X5_price_17 am_F v0 (((5 : Int32) * x2) + x3) (0 : Int32) h
theorem w_X5_price {g : am_G} {l : Launch} {h0 : am_H} {x : Int32}  (v0 : Nat) (h : am_H) (hF : F_X5_price_b v0 h = some x) : am_W g l M_X5_price h0 (some (.int x)) h 0 [some (.ref v0), none, none] [] h := by
  unfold F_X5_price_b at hF
  refine am_iconst (v := (5 : Int32)) (pc' := 1) dX5_price_0 rfl rfl ?_
  refine am_aload_n (pc' := 2) dX5_price_1 rfl rfl ?_
  obtain ⟨x1, ex1, hF⟩ := am_bind hF
  refine am_getr (pc' := 5) dX5_price_2 fw_X5_14 ex1 rfl ?_
  obtain ⟨x2, ex2, hF⟩ := am_bind hF
  obtain ⟨ox2, px2⟩ := t_X4_length ex2
  refine am_callV1 (Mc := M_X4_length) (As := []) (st := [.int (5 : Int32)]) (pc' := 8) dX5_price_5 cw_X5_64 wd_1_235 wd_1_236 ⟨_, rfl, rfl⟩ (by decide) (by decide) rfl rfl (Nat.le_of_ble_eq_true rfl) px2 (c_X4_length ex2) rfl ?_
  refine am_imul (pc' := 9) dX5_price_8 rfl ?_
  refine am_aload_n (pc' := 10) dX5_price_9 rfl rfl ?_
  obtain ⟨x3, ex3, hF⟩ := am_bind hF
  obtain ⟨ox3, px3⟩ := t_X5_left ex3
  refine am_callV1 (Mc := M_X5_left) (As := []) (st := [.int ((5 : Int32) * x2)]) (pc' := 13) dX5_price_10 cw_X5_68 wd_3_133 wd_3_134 ⟨_, rfl, rfl⟩ (by decide) (by decide) rfl rfl (Nat.le_of_ble_eq_true rfl) px3 (c_X5_left ex3) rfl ?_
  refine am_iadd (pc' := 14) dX5_price_13 rfl ?_
  refine am_istore_n (ls' := [some (.ref v0), some (.int (((5 : Int32) * x2) + x3)), none]) (pc' := 15) dX5_price_14 (Nat.le_of_ble_eq_true rfl) rfl rfl ?_
  refine am_iconst (v := (0 : Int32)) (pc' := 16) dX5_price_15 rfl rfl ?_
  refine am_istore_n (ls' := [some (.ref v0), some (.int (((5 : Int32) * x2) + x3)), some (.int (0 : Int32))]) (pc' := 17) dX5_price_16 (Nat.le_of_ble_eq_true rfl) rfl rfl ?_
  exact w_X5_price_17 am_F v0 (((5 : Int32) * x2) + x3) (0 : Int32) h hF
def F_X5_price (v0 : Nat) (h : am_H) : Option Int32 := (am_obj v0 5 h).bind fun _ => F_X5_price_b v0 h
theorem t_X5_price {x : Int32}  {v0 : Nat} {h : am_H} (hF : F_X5_price v0 h = some x) : ∃ fs, am_obj v0 5 h = some fs := by
  obtain ⟨fs, e, _⟩ := am_bind hF
  exact ⟨fs, e⟩
theorem c_X5_price {g : am_G} {l : Launch} {x : Int32}  {v0 : Nat} {h : am_H} (hF : F_X5_price v0 h = some x) : am_Met g l M_X5_price [.ref v0] h (some (.int x)) h := by
  obtain ⟨fs, e0, e⟩ := am_bind hF
  exact am_met (n := 2) (by decide +kernel) rfl (Nat.le_of_ble_eq_true rfl) (w_X5_price v0 h e)
def F_X6_placePrice_6 : Nat → Int32 → Int32 → am_H → Option Int32
  | 0, _, _, _ => none
  | n + 1, v1, v2, h =>
  if v2 ≤ (1 : Int32) then
    some v1
  else
    F_X6_placePrice_6 n (v1 + (2 : Int32)) (v2 / (2 : Int32)) h
theorem w_X6_placePrice_6 {g : am_G} {l : Launch} {h0 : am_H} {x : Int32}  : ∀ (n : Nat) (v1 : Int32) (v2 : Int32) (h : am_H), F_X6_placePrice_6 n v1 v2 h = some x → am_W g l M_X6_placePrice h0 (some (.int x)) h 6 [none, some (.int v1), some (.int v2)] [] h
  | 0, _, _, _, hF => by cases hF
  | n + 1, v1, v2, h, hF => by
    rw [F_X6_placePrice_6] at hF
    refine am_iload_n (pc' := 7) dX6_placePrice_6 rfl rfl ?_
    refine am_iconst (v := (1 : Int32)) (pc' := 8) dX6_placePrice_7 rfl rfl ?_
    rcases am_ite hF with ⟨z1, hF⟩ | ⟨z1, hF⟩
    · refine am_icmp_le_t (pc' := 21) dX6_placePrice_8 rfl z1 ?_
      refine am_iload_n (pc' := 22) dX6_placePrice_21 rfl rfl ?_
      cases hF
      exact am_iret dX6_placePrice_22 rfl rfl
    · refine am_icmp_le_f (pc' := 11) (tgt := 21) dX6_placePrice_8 rfl z1 rfl ?_
      refine am_iinc (ls' := [none, some (.int (v1 + (2 : Int32))), some (.int v2)]) (pc' := 14) (v := (v1 + (2 : Int32))) dX6_placePrice_11 rfl rfl (Nat.le_of_ble_eq_true rfl) rfl rfl ?_
      refine am_iload_n (pc' := 15) dX6_placePrice_14 rfl rfl ?_
      refine am_iconst (v := (2 : Int32)) (pc' := 16) dX6_placePrice_15 rfl rfl ?_
      refine am_idiv (pc' := 17) dX6_placePrice_16 (by decide) rfl ?_
      refine am_istore_n (ls' := [none, some (.int (v1 + (2 : Int32))), some (.int (v2 / (2 : Int32)))]) (pc' := 18) dX6_placePrice_17 (Nat.le_of_ble_eq_true rfl) rfl rfl ?_
      refine am_goto (pc' := 6) dX6_placePrice_18 rfl ?_
      exact w_X6_placePrice_6 n (v1 + (2 : Int32)) (v2 / (2 : Int32)) h hF
def F_X6_placePrice_b (v0 : Int32) (h : am_H) : Option Int32 :=
  F_X6_placePrice_6 am_F (1 : Int32) (v0 + (1 : Int32)) h
theorem w_X6_placePrice {g : am_G} {l : Launch} {h0 : am_H} {x : Int32}  (v0 : Int32) (h : am_H) (hF : F_X6_placePrice_b v0 h = some x) : am_W g l M_X6_placePrice h0 (some (.int x)) h 0 [some (.int v0), none, none] [] h := by
  unfold F_X6_placePrice_b at hF
  refine am_iconst (v := (1 : Int32)) (pc' := 1) dX6_placePrice_0 rfl rfl ?_
  refine am_istore_n (ls' := [some (.int v0), some (.int (1 : Int32)), none]) (pc' := 2) dX6_placePrice_1 (Nat.le_of_ble_eq_true rfl) rfl rfl ?_
  refine am_iload_n (pc' := 3) dX6_placePrice_2 rfl rfl ?_
  refine am_iconst (v := (1 : Int32)) (pc' := 4) dX6_placePrice_3 rfl rfl ?_
  refine am_iadd (pc' := 5) dX6_placePrice_4 rfl ?_
  refine am_istore_n (ls' := [some (.int v0), some (.int (1 : Int32)), some (.int (v0 + (1 : Int32)))]) (pc' := 6) dX6_placePrice_5 (Nat.le_of_ble_eq_true rfl) rfl rfl ?_
  exact am_weak [false, true, true] (w_X6_placePrice_6 am_F (1 : Int32) (v0 + (1 : Int32)) h hF)
def F_X6_placePrice (v0 : Int32) (h : am_H) : Option Int32 := F_X6_placePrice_b v0 h
theorem c_X6_placePrice {g : am_G} {l : Launch} {x : Int32}  {v0 : Int32} {h : am_H} (hF : F_X6_placePrice v0 h = some x) : am_Met g l M_X6_placePrice [.int v0] h (some (.int x)) h := by
  exact am_met (n := 2) (by decide +kernel) rfl (Nat.le_of_ble_eq_true rfl) (w_X6_placePrice v0 h hF)
theorem cw_X6_61 : am_cw "SignCellar$Turns" 61 M_X6_placePrice 1 := ⟨wd_1_7, wd_3_147, ⟨by decide, by decide, by decide⟩, Or.inl wd_3_145⟩
def F_X6_price_4 : Nat → Nat → Int32 → Int32 → am_H → Option Int32
  | 0, _, _, _, _ => none
  | n + 1, v0, v1, v2, h =>
  (am_gr 6 3 v0 h).bind fun x1 =>
  (F_X4_length x1 h).bind fun x2 =>
  if x2 ≤ v2 then
    some v1
  else
    (am_gr 6 3 v0 h).bind fun x4 =>
    (F_X4_at x4 v2 h).bind fun x5 =>
    (F_X6_placePrice x5 h).bind fun x6 =>
    F_X6_price_4 n v0 (v1 + x6) (v2 + (1 : Int32)) h
theorem w_X6_price_4 {g : am_G} {l : Launch} {h0 : am_H} {x : Int32}  : ∀ (n : Nat) (v0 : Nat) (v1 : Int32) (v2 : Int32) (h : am_H), F_X6_price_4 n v0 v1 v2 h = some x → am_W g l M_X6_price h0 (some (.int x)) h 4 [some (.ref v0), some (.int v1), some (.int v2)] [] h
  | 0, _, _, _, _, hF => by cases hF
  | n + 1, v0, v1, v2, h, hF => by
    rw [F_X6_price_4] at hF
    refine am_iload_n (pc' := 5) dX6_price_4 rfl rfl ?_
    refine am_aload_n (pc' := 6) dX6_price_5 rfl rfl ?_
    obtain ⟨x1, ex1, hF⟩ := am_bind hF
    refine am_getr (pc' := 9) dX6_price_6 fw_X6_27 ex1 rfl ?_
    obtain ⟨x2, ex2, hF⟩ := am_bind hF
    obtain ⟨ox2, px2⟩ := t_X4_length ex2
    refine am_callV1 (Mc := M_X4_length) (As := []) (st := [.int v2]) (pc' := 12) dX6_price_9 cw_X6_34 wd_1_235 wd_1_236 ⟨_, rfl, rfl⟩ (by decide) (by decide) rfl rfl (Nat.le_of_ble_eq_true rfl) px2 (c_X4_length ex2) rfl ?_
    rcases am_ite hF with ⟨z3, hF⟩ | ⟨z3, hF⟩
    · refine am_icmp_ge_t (pc' := 35) dX6_price_12 rfl z3 ?_
      refine am_iload_n (pc' := 36) dX6_price_35 rfl rfl ?_
      cases hF
      exact am_iret dX6_price_36 rfl rfl
    · refine am_icmp_ge_f (pc' := 15) (tgt := 35) dX6_price_12 rfl z3 rfl ?_
      refine am_iload_n (pc' := 16) dX6_price_15 rfl rfl ?_
      refine am_aload_n (pc' := 17) dX6_price_16 rfl rfl ?_
      obtain ⟨x4, ex4, hF⟩ := am_bind hF
      refine am_getr (pc' := 20) dX6_price_17 fw_X6_27 ex4 rfl ?_
      refine am_iload_n (pc' := 21) dX6_price_20 rfl rfl ?_
      obtain ⟨x5, ex5, hF⟩ := am_bind hF
      obtain ⟨ox5, px5⟩ := t_X4_at ex5
      refine am_callV1 (Mc := M_X4_at) (As := [.int v2]) (st := [.int v1]) (pc' := 24) dX6_price_21 cw_X6_51 wd_2_40 wd_2_41 ⟨_, rfl, rfl⟩ (by decide) (by decide) rfl rfl (Nat.le_of_ble_eq_true rfl) px5 (c_X4_at ex5) rfl ?_
      obtain ⟨x6, ex6, hF⟩ := am_bind hF
      refine am_callS1 (Mc := M_X6_placePrice) (As := [.int x5]) (st := [.int v1]) (pc' := 27) dX6_price_24 cw_X6_61 wd_3_146 (by decide) (by decide) rfl rfl (Nat.le_of_ble_eq_true rfl) (c_X6_placePrice ex6) rfl ?_
      refine am_iadd (pc' := 28) dX6_price_27 rfl ?_
      refine am_istore_n (ls' := [some (.ref v0), some (.int (v1 + x6)), some (.int v2)]) (pc' := 29) dX6_price_28 (Nat.le_of_ble_eq_true rfl) rfl rfl ?_
      refine am_iinc (ls' := [some (.ref v0), some (.int (v1 + x6)), some (.int (v2 + (1 : Int32)))]) (pc' := 32) (v := (v2 + (1 : Int32))) dX6_price_29 rfl rfl (Nat.le_of_ble_eq_true rfl) rfl rfl ?_
      refine am_goto (pc' := 4) dX6_price_32 rfl ?_
      exact w_X6_price_4 n v0 (v1 + x6) (v2 + (1 : Int32)) h hF
def F_X6_price_b (v0 : Nat) (h : am_H) : Option Int32 :=
  F_X6_price_4 am_F v0 (5 : Int32) (0 : Int32) h
theorem w_X6_price {g : am_G} {l : Launch} {h0 : am_H} {x : Int32}  (v0 : Nat) (h : am_H) (hF : F_X6_price_b v0 h = some x) : am_W g l M_X6_price h0 (some (.int x)) h 0 [some (.ref v0), none, none] [] h := by
  unfold F_X6_price_b at hF
  refine am_iconst (v := (5 : Int32)) (pc' := 1) dX6_price_0 rfl rfl ?_
  refine am_istore_n (ls' := [some (.ref v0), some (.int (5 : Int32)), none]) (pc' := 2) dX6_price_1 (Nat.le_of_ble_eq_true rfl) rfl rfl ?_
  refine am_iconst (v := (0 : Int32)) (pc' := 3) dX6_price_2 rfl rfl ?_
  refine am_istore_n (ls' := [some (.ref v0), some (.int (5 : Int32)), some (.int (0 : Int32))]) (pc' := 4) dX6_price_3 (Nat.le_of_ble_eq_true rfl) rfl rfl ?_
  exact w_X6_price_4 am_F v0 (5 : Int32) (0 : Int32) h hF
def F_X6_price (v0 : Nat) (h : am_H) : Option Int32 := (am_obj v0 6 h).bind fun _ => F_X6_price_b v0 h
theorem t_X6_price {x : Int32}  {v0 : Nat} {h : am_H} (hF : F_X6_price v0 h = some x) : ∃ fs, am_obj v0 6 h = some fs := by
  obtain ⟨fs, e, _⟩ := am_bind hF
  exact ⟨fs, e⟩
theorem c_X6_price {g : am_G} {l : Launch} {x : Int32}  {v0 : Nat} {h : am_H} (hF : F_X6_price v0 h = some x) : am_Met g l M_X6_price [.ref v0] h (some (.int x)) h := by
  obtain ⟨fs, e0, e⟩ := am_bind hF
  exact am_met (n := 2) (by decide +kernel) rfl (Nat.le_of_ble_eq_true rfl) (w_X6_price v0 h e)
theorem cw_X8_218 : am_cw "SignCellar" 218 M_X2_squeeze 1 := ⟨wd_1_4, wd_3_3, ⟨by decide, by decide, by decide⟩, Or.inl wd_3_0⟩
theorem cw_X8_225 : am_cw "SignCellar" 225 M_X5_squeeze 1 := ⟨wd_1_5, wd_3_24, ⟨by decide, by decide, by decide⟩, Or.inl wd_3_21⟩
theorem cw_X8_227 : am_cw "SignCellar" 227 M_X5_left 0 := ⟨wd_1_5, wd_3_135, ⟨by decide, by decide, by decide⟩, Or.inl wd_3_140⟩
theorem cw_X8_239 : am_cw "SignCellar" 239 M_X3_squeeze 1 := ⟨wd_1_6, wd_3_71, ⟨by decide, by decide, by decide⟩, Or.inl wd_3_68⟩
theorem cw_X8_243 : am_cw "SignCellar" 243 M_X6_squeeze 1 := ⟨wd_1_7, wd_3_98, ⟨by decide, by decide, by decide⟩, Or.inl wd_3_95⟩
theorem cw_X8_375 : am_cw "SignCellar" 375 M_X0_addWeight 2 := ⟨wd_1_10, wd_3_122, ⟨by decide, by decide, by decide⟩, Or.inl wd_3_119⟩
theorem cw_X8_378 : am_cw "SignCellar" 378 M_X2_price 0 := ⟨wd_1_4, wd_3_127, ⟨by decide, by decide, by decide⟩, Or.inl wd_3_124⟩
theorem cw_X8_381 : am_cw "SignCellar" 381 M_X5_price 0 := ⟨wd_1_5, wd_3_131, ⟨by decide, by decide, by decide⟩, Or.inl wd_3_128⟩
theorem cw_X8_382 : am_cw "SignCellar" 382 M_X6_price 0 := ⟨wd_1_7, wd_3_144, ⟨by decide, by decide, by decide⟩, Or.inl wd_3_141⟩
theorem fw_X8_212 : am_fw "SignCellar" 212 0 1 := ⟨(RX0, TX0, 4), rfl, by decide, inX0, Or.inr ⟨_, wd_2_59⟩⟩
theorem fw_X8_222 : am_fw "SignCellar" 222 2 3 := ⟨(RX2, TX2, 4), rfl, by decide, inX2, Or.inr ⟨_, wd_1_56⟩⟩
theorem fw_X8_240 : am_fw "SignCellar" 240 3 1 := ⟨(RX3, TX3, 5), rfl, by decide, inX3, Or.inr ⟨_, wd_1_107⟩⟩
theorem fw_X8_60 : am_fw "SignCellar" 60 8 11 := ⟨(RX8, TX8, 16), rfl, by decide, inX8, Or.inl wd_1_191⟩
theorem fw_X8_67 : am_fw "SignCellar" 67 8 12 := ⟨(RX8, TX8, 16), rfl, by decide, inX8, Or.inl wd_1_192⟩
theorem fw_X8_74 : am_fw "SignCellar" 74 8 13 := ⟨(RX8, TX8, 16), rfl, by decide, inX8, Or.inl wd_1_193⟩
theorem fw_X8_81 : am_fw "SignCellar" 81 8 14 := ⟨(RX8, TX8, 16), rfl, by decide, inX8, Or.inl wd_1_194⟩
def F_X8_weigh_b (v0 : Nat) (v1 : Nat) (h : am_H) : Option am_H :=
  (am_gr 0 1 v1 h).bind fun x1 =>
  (F_X4_length x1 h).bind fun x2 =>
  if x2 ≤ 0 then
    (am_gr 0 0 v1 h).bind fun x4 =>
    (F_X4_length x4 h).bind fun x5 =>
    (am_gr 8 11 v0 h).bind fun x6 =>
    (am_gr 0 0 v1 h).bind fun x7 =>
    (F_X2_squeeze x6 x7 h).bind fun h8 =>
    (am_gr 8 12 v0 h8).bind fun x9 =>
    (am_gr 0 0 v1 h8).bind fun x10 =>
    (F_X5_squeeze x9 x10 h8).bind fun h11 =>
    (am_gr 8 13 v0 h11).bind fun x12 =>
    (am_gr 0 0 v1 h11).bind fun x13 =>
    (F_X3_squeeze x12 x13 h11).bind fun h14 =>
    (am_gr 8 14 v0 h14).bind fun x15 =>
    (am_gr 0 0 v1 h14).bind fun x16 =>
    (F_X6_squeeze x15 x16 h14).bind fun h17 =>
    (F_X0_addWeight v1 ((4 : Int32) * x5) x5 h17).bind fun h18 =>
    (am_gr 8 11 v0 h18).bind fun x19 =>
    (F_X2_price x19 h18).bind fun x20 =>
    (am_gr 8 11 v0 h18).bind fun x21 =>
    (am_gr 2 3 x21 h18).bind fun x22 =>
    (F_X4_length x22 h18).bind fun x23 =>
    (F_X0_addWeight v1 x20 (x23 + x5) h18).bind fun h24 =>
    (am_gr 8 12 v0 h24).bind fun x25 =>
    (F_X5_price x25 h24).bind fun x26 =>
    (am_gr 8 12 v0 h24).bind fun x27 =>
    (F_X5_left x27 h24).bind fun x28 =>
    (F_X0_addWeight v1 x26 (((2 : Int32) * x5) + x28) h24).bind fun h29 =>
    (am_gr 8 13 v0 h29).bind fun x30 =>
    (am_gr 3 1 x30 h29).bind fun x31 =>
    (F_X4_length x31 h29).bind fun x32 =>
    (F_X0_addWeight v1 x32 ((6 : Int32) * x5) h29).bind fun h33 =>
    (am_gr 8 14 v0 h33).bind fun x34 =>
    (F_X6_price x34 h33).bind fun x35 =>
    (F_X0_addWeight v1 x35 ((3 : Int32) * x5) h33).bind fun h36 =>
    some h36
  else
    some h
theorem w_X8_weigh {g : am_G} {l : Launch} {h0 : am_H} {hf : am_H}  (v0 : Nat) (v1 : Nat) (h : am_H) (hF : F_X8_weigh_b v0 v1 h = some hf) : am_W g l M_X8_weigh h0 none hf 0 [some (.ref v0), some (.ref v1), none] [] h := by
  unfold F_X8_weigh_b at hF
  refine am_aload_n (pc' := 1) dX8_weigh_0 rfl rfl ?_
  obtain ⟨x1, ex1, hF⟩ := am_bind hF
  refine am_getr (pc' := 4) dX8_weigh_1 fw_X8_212 ex1 rfl ?_
  obtain ⟨x2, ex2, hF⟩ := am_bind hF
  obtain ⟨ox2, px2⟩ := t_X4_length ex2
  refine am_callV1 (Mc := M_X4_length) (As := []) (st := []) (pc' := 7) dX8_weigh_4 cw_X8_93 wd_1_235 wd_1_236 ⟨_, rfl, rfl⟩ (by decide) (by decide) rfl rfl (Nat.le_of_ble_eq_true rfl) px2 (c_X4_length ex2) rfl ?_
  rcases am_ite hF with ⟨z3, hF⟩ | ⟨z3, hF⟩
  · refine am_if_le_t (pc' := 11) dX8_weigh_7 rfl z3 ?_
    refine am_aload_n (pc' := 12) dX8_weigh_11 rfl rfl ?_
    obtain ⟨x4, ex4, hF⟩ := am_bind hF
    refine am_getr (pc' := 15) dX8_weigh_12 fw_X8_180 ex4 rfl ?_
    obtain ⟨x5, ex5, hF⟩ := am_bind hF
    obtain ⟨ox5, px5⟩ := t_X4_length ex5
    refine am_callV1 (Mc := M_X4_length) (As := []) (st := []) (pc' := 18) dX8_weigh_15 cw_X8_93 wd_1_235 wd_1_236 ⟨_, rfl, rfl⟩ (by decide) (by decide) rfl rfl (Nat.le_of_ble_eq_true rfl) px5 (c_X4_length ex5) rfl ?_
    refine am_istore_n (ls' := [some (.ref v0), some (.ref v1), some (.int x5)]) (pc' := 19) dX8_weigh_18 (Nat.le_of_ble_eq_true rfl) rfl rfl ?_
    refine am_aload_n (pc' := 20) dX8_weigh_19 rfl rfl ?_
    obtain ⟨x6, ex6, hF⟩ := am_bind hF
    refine am_getr (pc' := 23) dX8_weigh_20 fw_X8_60 ex6 rfl ?_
    refine am_aload_n (pc' := 24) dX8_weigh_23 rfl rfl ?_
    obtain ⟨x7, ex7, hF⟩ := am_bind hF
    refine am_getr (pc' := 27) dX8_weigh_24 fw_X8_180 ex7 rfl ?_
    obtain ⟨h8, eh8, hF⟩ := am_bind hF
    obtain ⟨oh8, ph8⟩ := t_X2_squeeze eh8
    refine am_callV0 (Mc := M_X2_squeeze) (As := [.ref x7]) (st := []) (pc' := 30) dX8_weigh_27 cw_X8_218 wd_3_1 wd_3_2 ⟨_, rfl, rfl⟩ (by decide) (by decide) rfl rfl (Nat.le_of_ble_eq_true rfl) ph8 (c_X2_squeeze eh8) rfl ?_
    refine am_aload_n (pc' := 31) dX8_weigh_30 rfl rfl ?_
    obtain ⟨x9, ex9, hF⟩ := am_bind hF
    refine am_getr (pc' := 34) dX8_weigh_31 fw_X8_67 ex9 rfl ?_
    refine am_aload_n (pc' := 35) dX8_weigh_34 rfl rfl ?_
    obtain ⟨x10, ex10, hF⟩ := am_bind hF
    refine am_getr (pc' := 38) dX8_weigh_35 fw_X8_180 ex10 rfl ?_
    obtain ⟨h11, eh11, hF⟩ := am_bind hF
    obtain ⟨oh11, ph11⟩ := t_X5_squeeze eh11
    refine am_callV0 (Mc := M_X5_squeeze) (As := [.ref x10]) (st := []) (pc' := 41) dX8_weigh_38 cw_X8_225 wd_3_22 wd_3_23 ⟨_, rfl, rfl⟩ (by decide) (by decide) rfl rfl (Nat.le_of_ble_eq_true rfl) ph11 (c_X5_squeeze eh11) rfl ?_
    refine am_aload_n (pc' := 42) dX8_weigh_41 rfl rfl ?_
    obtain ⟨x12, ex12, hF⟩ := am_bind hF
    refine am_getr (pc' := 45) dX8_weigh_42 fw_X8_74 ex12 rfl ?_
    refine am_aload_n (pc' := 46) dX8_weigh_45 rfl rfl ?_
    obtain ⟨x13, ex13, hF⟩ := am_bind hF
    refine am_getr (pc' := 49) dX8_weigh_46 fw_X8_180 ex13 rfl ?_
    obtain ⟨h14, eh14, hF⟩ := am_bind hF
    obtain ⟨oh14, ph14⟩ := t_X3_squeeze eh14
    refine am_callV0 (Mc := M_X3_squeeze) (As := [.ref x13]) (st := []) (pc' := 52) dX8_weigh_49 cw_X8_239 wd_3_69 wd_3_70 ⟨_, rfl, rfl⟩ (by decide) (by decide) rfl rfl (Nat.le_of_ble_eq_true rfl) ph14 (c_X3_squeeze eh14) rfl ?_
    refine am_aload_n (pc' := 53) dX8_weigh_52 rfl rfl ?_
    obtain ⟨x15, ex15, hF⟩ := am_bind hF
    refine am_getr (pc' := 56) dX8_weigh_53 fw_X8_81 ex15 rfl ?_
    refine am_aload_n (pc' := 57) dX8_weigh_56 rfl rfl ?_
    obtain ⟨x16, ex16, hF⟩ := am_bind hF
    refine am_getr (pc' := 60) dX8_weigh_57 fw_X8_180 ex16 rfl ?_
    obtain ⟨h17, eh17, hF⟩ := am_bind hF
    obtain ⟨oh17, ph17⟩ := t_X6_squeeze eh17
    refine am_callV0 (Mc := M_X6_squeeze) (As := [.ref x16]) (st := []) (pc' := 63) dX8_weigh_60 cw_X8_243 wd_3_96 wd_3_97 ⟨_, rfl, rfl⟩ (by decide) (by decide) rfl rfl (Nat.le_of_ble_eq_true rfl) ph17 (c_X6_squeeze eh17) rfl ?_
    refine am_aload_n (pc' := 64) dX8_weigh_63 rfl rfl ?_
    refine am_iconst (v := (4 : Int32)) (pc' := 65) dX8_weigh_64 rfl rfl ?_
    refine am_iload_n (pc' := 66) dX8_weigh_65 rfl rfl ?_
    refine am_imul (pc' := 67) dX8_weigh_66 rfl ?_
    refine am_iload_n (pc' := 68) dX8_weigh_67 rfl rfl ?_
    obtain ⟨h18, eh18, hF⟩ := am_bind hF
    obtain ⟨oh18, ph18⟩ := t_X0_addWeight eh18
    refine am_callV0 (Mc := M_X0_addWeight) (As := [.int ((4 : Int32) * x5), .int x5]) (st := []) (pc' := 71) dX8_weigh_68 cw_X8_375 wd_3_120 wd_3_121 ⟨_, rfl, rfl⟩ (by decide) (by decide) rfl rfl (Nat.le_of_ble_eq_true rfl) ph18 (c_X0_addWeight eh18) rfl ?_
    refine am_aload_n (pc' := 72) dX8_weigh_71 rfl rfl ?_
    refine am_aload_n (pc' := 73) dX8_weigh_72 rfl rfl ?_
    obtain ⟨x19, ex19, hF⟩ := am_bind hF
    refine am_getr (pc' := 76) dX8_weigh_73 fw_X8_60 ex19 rfl ?_
    obtain ⟨x20, ex20, hF⟩ := am_bind hF
    obtain ⟨ox20, px20⟩ := t_X2_price ex20
    refine am_callV1 (Mc := M_X2_price) (As := []) (st := [.ref v1]) (pc' := 79) dX8_weigh_76 cw_X8_378 wd_3_125 wd_3_126 ⟨_, rfl, rfl⟩ (by decide) (by decide) rfl rfl (Nat.le_of_ble_eq_true rfl) px20 (c_X2_price ex20) rfl ?_
    refine am_aload_n (pc' := 80) dX8_weigh_79 rfl rfl ?_
    obtain ⟨x21, ex21, hF⟩ := am_bind hF
    refine am_getr (pc' := 83) dX8_weigh_80 fw_X8_60 ex21 rfl ?_
    obtain ⟨x22, ex22, hF⟩ := am_bind hF
    refine am_getr (pc' := 86) dX8_weigh_83 fw_X8_222 ex22 rfl ?_
    obtain ⟨x23, ex23, hF⟩ := am_bind hF
    obtain ⟨ox23, px23⟩ := t_X4_length ex23
    refine am_callV1 (Mc := M_X4_length) (As := []) (st := [.int x20, .ref v1]) (pc' := 89) dX8_weigh_86 cw_X8_93 wd_1_235 wd_1_236 ⟨_, rfl, rfl⟩ (by decide) (by decide) rfl rfl (Nat.le_of_ble_eq_true rfl) px23 (c_X4_length ex23) rfl ?_
    refine am_iload_n (pc' := 90) dX8_weigh_89 rfl rfl ?_
    refine am_iadd (pc' := 91) dX8_weigh_90 rfl ?_
    obtain ⟨h24, eh24, hF⟩ := am_bind hF
    obtain ⟨oh24, ph24⟩ := t_X0_addWeight eh24
    refine am_callV0 (Mc := M_X0_addWeight) (As := [.int x20, .int (x23 + x5)]) (st := []) (pc' := 94) dX8_weigh_91 cw_X8_375 wd_3_120 wd_3_121 ⟨_, rfl, rfl⟩ (by decide) (by decide) rfl rfl (Nat.le_of_ble_eq_true rfl) ph24 (c_X0_addWeight eh24) rfl ?_
    refine am_aload_n (pc' := 95) dX8_weigh_94 rfl rfl ?_
    refine am_aload_n (pc' := 96) dX8_weigh_95 rfl rfl ?_
    obtain ⟨x25, ex25, hF⟩ := am_bind hF
    refine am_getr (pc' := 99) dX8_weigh_96 fw_X8_67 ex25 rfl ?_
    obtain ⟨x26, ex26, hF⟩ := am_bind hF
    obtain ⟨ox26, px26⟩ := t_X5_price ex26
    refine am_callV1 (Mc := M_X5_price) (As := []) (st := [.ref v1]) (pc' := 102) dX8_weigh_99 cw_X8_381 wd_3_129 wd_3_130 ⟨_, rfl, rfl⟩ (by decide) (by decide) rfl rfl (Nat.le_of_ble_eq_true rfl) px26 (c_X5_price ex26) rfl ?_
    refine am_iconst (v := (2 : Int32)) (pc' := 103) dX8_weigh_102 rfl rfl ?_
    refine am_iload_n (pc' := 104) dX8_weigh_103 rfl rfl ?_
    refine am_imul (pc' := 105) dX8_weigh_104 rfl ?_
    refine am_aload_n (pc' := 106) dX8_weigh_105 rfl rfl ?_
    obtain ⟨x27, ex27, hF⟩ := am_bind hF
    refine am_getr (pc' := 109) dX8_weigh_106 fw_X8_67 ex27 rfl ?_
    obtain ⟨x28, ex28, hF⟩ := am_bind hF
    obtain ⟨ox28, px28⟩ := t_X5_left ex28
    refine am_callV1 (Mc := M_X5_left) (As := []) (st := [.int ((2 : Int32) * x5), .int x26, .ref v1]) (pc' := 112) dX8_weigh_109 cw_X8_227 wd_3_133 wd_3_134 ⟨_, rfl, rfl⟩ (by decide) (by decide) rfl rfl (Nat.le_of_ble_eq_true rfl) px28 (c_X5_left ex28) rfl ?_
    refine am_iadd (pc' := 113) dX8_weigh_112 rfl ?_
    obtain ⟨h29, eh29, hF⟩ := am_bind hF
    obtain ⟨oh29, ph29⟩ := t_X0_addWeight eh29
    refine am_callV0 (Mc := M_X0_addWeight) (As := [.int x26, .int (((2 : Int32) * x5) + x28)]) (st := []) (pc' := 116) dX8_weigh_113 cw_X8_375 wd_3_120 wd_3_121 ⟨_, rfl, rfl⟩ (by decide) (by decide) rfl rfl (Nat.le_of_ble_eq_true rfl) ph29 (c_X0_addWeight eh29) rfl ?_
    refine am_aload_n (pc' := 117) dX8_weigh_116 rfl rfl ?_
    refine am_aload_n (pc' := 118) dX8_weigh_117 rfl rfl ?_
    obtain ⟨x30, ex30, hF⟩ := am_bind hF
    refine am_getr (pc' := 121) dX8_weigh_118 fw_X8_74 ex30 rfl ?_
    obtain ⟨x31, ex31, hF⟩ := am_bind hF
    refine am_getr (pc' := 124) dX8_weigh_121 fw_X8_240 ex31 rfl ?_
    obtain ⟨x32, ex32, hF⟩ := am_bind hF
    obtain ⟨ox32, px32⟩ := t_X4_length ex32
    refine am_callV1 (Mc := M_X4_length) (As := []) (st := [.ref v1]) (pc' := 127) dX8_weigh_124 cw_X8_93 wd_1_235 wd_1_236 ⟨_, rfl, rfl⟩ (by decide) (by decide) rfl rfl (Nat.le_of_ble_eq_true rfl) px32 (c_X4_length ex32) rfl ?_
    refine am_bipush (v := (6 : Int32)) (pc' := 129) dX8_weigh_127 rfl rfl ?_
    refine am_iload_n (pc' := 130) dX8_weigh_129 rfl rfl ?_
    refine am_imul (pc' := 131) dX8_weigh_130 rfl ?_
    obtain ⟨h33, eh33, hF⟩ := am_bind hF
    obtain ⟨oh33, ph33⟩ := t_X0_addWeight eh33
    refine am_callV0 (Mc := M_X0_addWeight) (As := [.int x32, .int ((6 : Int32) * x5)]) (st := []) (pc' := 134) dX8_weigh_131 cw_X8_375 wd_3_120 wd_3_121 ⟨_, rfl, rfl⟩ (by decide) (by decide) rfl rfl (Nat.le_of_ble_eq_true rfl) ph33 (c_X0_addWeight eh33) rfl ?_
    refine am_aload_n (pc' := 135) dX8_weigh_134 rfl rfl ?_
    refine am_aload_n (pc' := 136) dX8_weigh_135 rfl rfl ?_
    obtain ⟨x34, ex34, hF⟩ := am_bind hF
    refine am_getr (pc' := 139) dX8_weigh_136 fw_X8_81 ex34 rfl ?_
    obtain ⟨x35, ex35, hF⟩ := am_bind hF
    obtain ⟨ox35, px35⟩ := t_X6_price ex35
    refine am_callV1 (Mc := M_X6_price) (As := []) (st := [.ref v1]) (pc' := 142) dX8_weigh_139 cw_X8_382 wd_3_142 wd_3_143 ⟨_, rfl, rfl⟩ (by decide) (by decide) rfl rfl (Nat.le_of_ble_eq_true rfl) px35 (c_X6_price ex35) rfl ?_
    refine am_iconst (v := (3 : Int32)) (pc' := 143) dX8_weigh_142 rfl rfl ?_
    refine am_iload_n (pc' := 144) dX8_weigh_143 rfl rfl ?_
    refine am_imul (pc' := 145) dX8_weigh_144 rfl ?_
    obtain ⟨h36, eh36, hF⟩ := am_bind hF
    obtain ⟨oh36, ph36⟩ := t_X0_addWeight eh36
    refine am_callV0 (Mc := M_X0_addWeight) (As := [.int x35, .int ((3 : Int32) * x5)]) (st := []) (pc' := 148) dX8_weigh_145 cw_X8_375 wd_3_120 wd_3_121 ⟨_, rfl, rfl⟩ (by decide) (by decide) rfl rfl (Nat.le_of_ble_eq_true rfl) ph36 (c_X0_addWeight eh36) rfl ?_
    cases hF
    exact am_vret dX8_weigh_148 rfl
  · refine am_if_le_f (pc' := 10) (tgt := 11) dX8_weigh_7 rfl z3 rfl ?_
    cases hF
    exact am_vret dX8_weigh_10 rfl
def F_X8_weigh (v0 : Nat) (v1 : Nat) (h : am_H) : Option am_H := (am_obj v0 8 h).bind fun _ => F_X8_weigh_b v0 v1 h
theorem t_X8_weigh {hf : am_H}  {v0 : Nat} {v1 : Nat} {h : am_H} (hF : F_X8_weigh v0 v1 h = some hf) : ∃ fs, am_obj v0 8 h = some fs := by
  obtain ⟨fs, e, _⟩ := am_bind hF
  exact ⟨fs, e⟩
theorem c_X8_weigh {g : am_G} {l : Launch} {hf : am_H}  {v0 : Nat} {v1 : Nat} {h : am_H} (hF : F_X8_weigh v0 v1 h = some hf) : am_Met g l M_X8_weigh [.ref v0, .ref v1] h none hf := by
  obtain ⟨fs, e0, e⟩ := am_bind hF
  exact am_met (n := 1) (by decide +kernel) rfl (Nat.le_of_ble_eq_true rfl) (w_X8_weigh v0 v1 h e)
theorem cw_X8_204 : am_cw "SignCellar" 204 M_X8_refusalOfKind 2 := ⟨wd_1_1, wd_2_235, ⟨by decide, by decide, by decide⟩, Or.inl wd_2_233⟩
theorem cw_X8_208 : am_cw "SignCellar" 208 M_X8_weigh 1 := ⟨wd_1_1, wd_2_239, ⟨by decide, by decide, by decide⟩, Or.inl wd_2_236⟩
theorem sl_X8_weigh : Cond.selects (⟨"SignCellar", "weigh", "(LSignCellar$Block;)V"⟩ : MethodName).cls ⟨"SignCellar", "weigh", "(LSignCellar$Block;)V"⟩ ⟨"SignCellar", "weigh", "(LSignCellar$Block;)V"⟩ ∈ am_ts := am_in_p (q := (⟨"SignCellar", "weigh", "(LSignCellar$Block;)V"⟩, 16)) (by decide +kernel)
def F_X8_size_22 (v4 : Int32) (h : am_H) : Option (Int32 × am_H) :=
  some (v4, h)
theorem w_X8_size_22 {g : am_G} {l : Launch} {h0 : am_H} {x : Int32} {hf : am_H}  (v4 : Int32) (h : am_H) (hF : F_X8_size_22 v4 h = some (x, hf)) : am_W g l M_X8_size h0 (some (.int x)) hf 22 [none, none, none, none, some (.int v4)] [] h := by
  unfold F_X8_size_22 at hF
  refine am_iload (pc' := 24) dX8_size_22 rfl rfl ?_
  cases hF
  exact am_iret dX8_size_24 rfl rfl
def F_X8_size_b (v0 : Nat) (v1 : Int32) (v2 : Int32) (h : am_H) : Option (Int32 × am_H) :=
  (F_X8_blockOf v0 v1 h).bind fun x1 =>
  (F_X8_refusalOfKind x1 v2 h).bind fun x2 =>
  if x1 = 0 then
    F_X8_size_22 x2 h
  else
    if x2 = 0 then
      (F_X8_weigh v0 x1 h).bind fun h5 =>
      (am_gr 0 1 x1 h5).bind fun x6 =>
      (F_X4_at x6 v2 h5).bind fun x7 =>
      some (x7, h5)
    else
      F_X8_size_22 x2 h
theorem w_X8_size {g : am_G} {l : Launch} {h0 : am_H} {x : Int32} {hf : am_H}  (v0 : Nat) (v1 : Int32) (v2 : Int32) (h : am_H) (hF : F_X8_size_b v0 v1 v2 h = some (x, hf)) : am_W g l M_X8_size h0 (some (.int x)) hf 0 [some (.ref v0), some (.int v1), some (.int v2), none, none] [] h := by
  unfold F_X8_size_b at hF
  refine am_aload_n (pc' := 1) dX8_size_0 rfl rfl ?_
  refine am_iload_n (pc' := 2) dX8_size_1 rfl rfl ?_
  obtain ⟨x1, ex1, hF⟩ := am_bind hF
  obtain ⟨ox1, px1⟩ := t_X8_blockOf ex1
  refine am_callV1 (Mc := M_X8_blockOf) (As := [.int v1]) (st := []) (pc' := 5) dX8_size_2 cw_X8_176 wd_2_33 sl_X8_blockOf ⟨_, rfl, rfl⟩ (by decide) (by decide) rfl rfl (Nat.le_of_ble_eq_true rfl) px1 (c_X8_blockOf ex1) rfl ?_
  refine am_astore_n (ls' := [some (.ref v0), some (.int v1), some (.int v2), some (.ref x1), none]) (pc' := 6) dX8_size_5 (Nat.le_of_ble_eq_true rfl) rfl rfl ?_
  refine am_aload_n (pc' := 7) dX8_size_6 rfl rfl ?_
  refine am_iload_n (pc' := 8) dX8_size_7 rfl rfl ?_
  obtain ⟨x2, ex2, hF⟩ := am_bind hF
  refine am_callS1 (Mc := M_X8_refusalOfKind) (As := [.ref x1, .int v2]) (st := []) (pc' := 11) dX8_size_8 cw_X8_204 wd_2_234 (by decide) (by decide) rfl rfl (Nat.le_of_ble_eq_true rfl) (c_X8_refusalOfKind ex2) rfl ?_
  refine am_istore (ls' := [some (.ref v0), some (.int v1), some (.int v2), some (.ref x1), some (.int x2)]) (pc' := 13) dX8_size_11 (Nat.le_of_ble_eq_true rfl) rfl rfl ?_
  refine am_aload_n (pc' := 14) dX8_size_13 rfl rfl ?_
  rcases am_ite hF with ⟨z3, hF⟩ | ⟨z3, hF⟩
  · refine am_ifnull_t (pc' := 22) dX8_size_14 rfl z3 ?_
    exact am_weak [false, false, false, false, true] (w_X8_size_22 x2 h hF)
  · refine am_ifnull_f (pc' := 17) dX8_size_14 z3 rfl ?_
    refine am_iload (pc' := 19) dX8_size_17 rfl rfl ?_
    rcases am_ite hF with ⟨z4, hF⟩ | ⟨z4, hF⟩
    · refine am_if_eq_t (pc' := 25) dX8_size_19 rfl z4 ?_
      refine am_aload_n (pc' := 26) dX8_size_25 rfl rfl ?_
      refine am_aload_n (pc' := 27) dX8_size_26 rfl rfl ?_
      obtain ⟨h5, eh5, hF⟩ := am_bind hF
      obtain ⟨oh5, ph5⟩ := t_X8_weigh eh5
      refine am_callV0 (Mc := M_X8_weigh) (As := [.ref x1]) (st := []) (pc' := 30) dX8_size_27 cw_X8_208 wd_2_238 sl_X8_weigh ⟨_, rfl, rfl⟩ (by decide) (by decide) rfl rfl (Nat.le_of_ble_eq_true rfl) ph5 (c_X8_weigh eh5) rfl ?_
      refine am_aload_n (pc' := 31) dX8_size_30 rfl rfl ?_
      obtain ⟨x6, ex6, hF⟩ := am_bind hF
      refine am_getr (pc' := 34) dX8_size_31 fw_X8_212 ex6 rfl ?_
      refine am_iload_n (pc' := 35) dX8_size_34 rfl rfl ?_
      obtain ⟨x7, ex7, hF⟩ := am_bind hF
      obtain ⟨ox7, px7⟩ := t_X4_at ex7
      refine am_callV1 (Mc := M_X4_at) (As := [.int v2]) (st := []) (pc' := 38) dX8_size_35 cw_X8_161 wd_2_40 wd_2_41 ⟨_, rfl, rfl⟩ (by decide) (by decide) rfl rfl (Nat.le_of_ble_eq_true rfl) px7 (c_X4_at ex7) rfl ?_
      cases hF
      exact am_iret dX8_size_38 rfl rfl
    · refine am_if_eq_f (pc' := 22) (tgt := 25) dX8_size_19 rfl z4 rfl ?_
      exact am_weak [false, false, false, false, true] (w_X8_size_22 x2 h hF)
def F_X8_size (v0 : Nat) (v1 : Int32) (v2 : Int32) (h : am_H) : Option (Int32 × am_H) := (am_obj v0 8 h).bind fun _ => F_X8_size_b v0 v1 v2 h
theorem t_X8_size {x : Int32} {hf : am_H}  {v0 : Nat} {v1 : Int32} {v2 : Int32} {h : am_H} (hF : F_X8_size v0 v1 v2 h = some (x, hf)) : ∃ fs, am_obj v0 8 h = some fs := by
  obtain ⟨fs, e, _⟩ := am_bind hF
  exact ⟨fs, e⟩
theorem c_X8_size {g : am_G} {l : Launch} {x : Int32} {hf : am_H}  {v0 : Nat} {v1 : Int32} {v2 : Int32} {h : am_H} (hF : F_X8_size v0 v1 v2 h = some (x, hf)) : am_Met g l M_X8_size [.ref v0, .int v1, .int v2] h (some (.int x)) hf := by
  obtain ⟨fs, e0, e⟩ := am_bind hF
  exact am_met (n := 2) (by decide +kernel) rfl (Nat.le_of_ble_eq_true rfl) (w_X8_size v0 v1 v2 h e)
def F_X9_why_45 (s0 : Int32) (h : am_H) : Option Int32 :=
  some s0
theorem w_X9_why_45 {g : am_G} {l : Launch} {h0 : am_H} {x : Int32}  (s0 : Int32) (h : am_H) (hF : F_X9_why_45 s0 h = some x) : am_W g l M_X9_why h0 (some (.int x)) h 45 [none, none, none] [.int s0] h := by
  unfold F_X9_why_45 at hF
  cases hF
  exact am_iret dX9_why_45 rfl rfl
def F_X9_why_b (v0 : Nat) (v1 : Int32) (v2 : Int32) (h : am_H) : Option Int32 :=
  (F_X9_noBlock v0 v1 h).bind fun x1 =>
  if x1 = 0 then
    (F_X9_in (Int32.toInt64 v2) (0 : Int64) (4 : Int64) h).bind fun x3 =>
    if x3 = 0 then
      F_X9_why_45 (-100002 : Int32) h
    else
      (am_gr 9 5 v0 h).bind fun x5 =>
      (am_il 1 x5 v1 h).bind fun x6 =>
      if x6 = 0 then
        F_X9_why_45 (0 : Int32) h
      else
        F_X9_why_45 (-100005 : Int32) h
  else
    F_X9_why_45 (-100001 : Int32) h
theorem w_X9_why {g : am_G} {l : Launch} {h0 : am_H} {x : Int32}  (v0 : Nat) (v1 : Int32) (v2 : Int32) (h : am_H) (hF : F_X9_why_b v0 v1 v2 h = some x) : am_W g l M_X9_why h0 (some (.int x)) h 0 [some (.ref v0), some (.int v1), some (.int v2)] [] h := by
  unfold F_X9_why_b at hF
  refine am_aload_n (pc' := 1) dX9_why_0 rfl rfl ?_
  refine am_iload_n (pc' := 2) dX9_why_1 rfl rfl ?_
  obtain ⟨x1, ex1, hF⟩ := am_bind hF
  obtain ⟨ox1, px1⟩ := t_X9_noBlock ex1
  refine am_callV1 (Mc := M_X9_noBlock) (As := [.int v1]) (st := []) (pc' := 5) dX9_why_2 cw_X9_184 wd_5_98 sl_X9_noBlock ⟨_, rfl, rfl⟩ (by decide) (by decide) rfl rfl (Nat.le_of_ble_eq_true rfl) px1 (c_X9_noBlock ex1) rfl ?_
  rcases am_ite hF with ⟨z2, hF⟩ | ⟨z2, hF⟩
  · refine am_if_eq_t (pc' := 13) dX9_why_5 rfl z2 ?_
    refine am_iload_n (pc' := 14) dX9_why_13 rfl rfl ?_
    refine am_i2l (pc' := 15) dX9_why_14 rfl ?_
    refine am_lconst (v := (0 : Int64)) (pc' := 16) dX9_why_15 rfl rfl ?_
    refine am_ldc2 (v := (4 : Int64)) (pc' := 19) dX9_why_16 wd_5_202 rfl ?_
    obtain ⟨x3, ex3, hF⟩ := am_bind hF
    refine am_callS1 (Mc := M_X9_in) (As := [.long (Int32.toInt64 v2), .long (0 : Int64), .long (4 : Int64)]) (st := []) (pc' := 22) dX9_why_19 cw_X9_96 wd_4_234 (by decide) (by decide) rfl rfl (Nat.le_of_ble_eq_true rfl) (c_X9_in ex3) rfl ?_
    rcases am_ite hF with ⟨z4, hF⟩ | ⟨z4, hF⟩
    · refine am_if_ne_f (pc' := 25) (tgt := 30) dX9_why_22 rfl z4 rfl ?_
      refine am_ldc (v := (-100002 : Int32)) (pc' := 27) dX9_why_25 wd_4_236 rfl ?_
      refine am_goto (pc' := 45) dX9_why_27 rfl ?_
      exact am_weak [false, false, false] (w_X9_why_45 (-100002 : Int32) h hF)
    · refine am_if_ne_t (pc' := 30) dX9_why_22 rfl z4 ?_
      refine am_aload_n (pc' := 31) dX9_why_30 rfl rfl ?_
      obtain ⟨x5, ex5, hF⟩ := am_bind hF
      refine am_getr (pc' := 34) dX9_why_31 fw_X9_19 ex5 rfl ?_
      refine am_iload_n (pc' := 35) dX9_why_34 rfl rfl ?_
      obtain ⟨x6, ex6, hF⟩ := am_bind hF
      refine am_bald (pc' := 36) dX9_why_35 ex6 rfl ?_
      rcases am_ite hF with ⟨z7, hF⟩ | ⟨z7, hF⟩
      · refine am_if_eq_t (pc' := 44) dX9_why_36 rfl z7 ?_
        refine am_iconst (v := (0 : Int32)) (pc' := 45) dX9_why_44 rfl rfl ?_
        exact am_weak [false, false, false] (w_X9_why_45 (0 : Int32) h hF)
      · refine am_if_eq_f (pc' := 39) (tgt := 44) dX9_why_36 rfl z7 rfl ?_
        refine am_ldc (v := (-100005 : Int32)) (pc' := 41) dX9_why_39 wd_5_55 rfl ?_
        refine am_goto (pc' := 45) dX9_why_41 rfl ?_
        exact am_weak [false, false, false] (w_X9_why_45 (-100005 : Int32) h hF)
  · refine am_if_eq_f (pc' := 8) (tgt := 13) dX9_why_5 rfl z2 rfl ?_
    refine am_ldc (v := (-100001 : Int32)) (pc' := 10) dX9_why_8 wd_5_47 rfl ?_
    refine am_goto (pc' := 45) dX9_why_10 rfl ?_
    exact am_weak [false, false, false] (w_X9_why_45 (-100001 : Int32) h hF)
def F_X9_why (v0 : Nat) (v1 : Int32) (v2 : Int32) (h : am_H) : Option Int32 := (am_obj v0 9 h).bind fun _ => F_X9_why_b v0 v1 v2 h
theorem t_X9_why {x : Int32}  {v0 : Nat} {v1 : Int32} {v2 : Int32} {h : am_H} (hF : F_X9_why v0 v1 v2 h = some x) : ∃ fs, am_obj v0 9 h = some fs := by
  obtain ⟨fs, e, _⟩ := am_bind hF
  exact ⟨fs, e⟩
theorem c_X9_why {g : am_G} {l : Launch} {x : Int32}  {v0 : Nat} {v1 : Int32} {v2 : Int32} {h : am_H} (hF : F_X9_why v0 v1 v2 h = some x) : am_Met g l M_X9_why [.ref v0, .int v1, .int v2] h (some (.int x)) h := by
  obtain ⟨fs, e0, e⟩ := am_bind hF
  exact am_met (n := 0) (by decide +kernel) rfl (Nat.le_of_ble_eq_true rfl) (w_X9_why v0 v1 v2 h e)
def F_X9_isMate_76 (v5 : Int32) (h : am_H) : Option Int32 :=
  am_z v5
theorem w_X9_isMate_76 {g : am_G} {l : Launch} {h0 : am_H} {x : Int32}  (v5 : Int32) (h : am_H) (hF : F_X9_isMate_76 v5 h = some x) : am_W g l M_X9_isMate h0 (some (.int x)) h 76 [none, none, none, none, none, some (.int v5), none] [] h := by
  unfold F_X9_isMate_76 at hF
  refine am_iload (pc' := 78) dX9_isMate_76 rfl rfl ?_
  exact am_zret dX9_isMate_78 rfl hF
def F_X9_isMate_68 (k28 : Nat → Int32 → Int32 → Int32 → Int32 → Int32 → Int32 → am_H → Option Int32) (v0 : Nat) (v1 : Int32) (v2 : Int32) (v3 : Int32) (v4 : Int32) (v6 : Int32) (s0 : Int32) (h : am_H) : Option Int32 :=
  k28 v0 v1 v2 v3 v4 s0 (v6 + (1 : Int32)) h
theorem w_X9_isMate_68 {g : am_G} {l : Launch} {h0 : am_H} {x : Int32}  {k28 : Nat → Int32 → Int32 → Int32 → Int32 → Int32 → Int32 → am_H → Option Int32} (j28 : ∀ (v0 : Nat) (v1 : Int32) (v2 : Int32) (v3 : Int32) (v4 : Int32) (v5 : Int32) (v6 : Int32) (h : am_H), k28 v0 v1 v2 v3 v4 v5 v6 h = some x → am_W g l M_X9_isMate h0 (some (.int x)) h 28 [some (.ref v0), some (.int v1), some (.int v2), some (.int v3), some (.int v4), some (.int v5), some (.int v6)] [] h) (v0 : Nat) (v1 : Int32) (v2 : Int32) (v3 : Int32) (v4 : Int32) (v6 : Int32) (s0 : Int32) (h : am_H) (hF : F_X9_isMate_68 k28 v0 v1 v2 v3 v4 v6 s0 h = some x) : am_W g l M_X9_isMate h0 (some (.int x)) h 68 [some (.ref v0), some (.int v1), some (.int v2), some (.int v3), some (.int v4), none, some (.int v6)] [.int s0] h := by
  unfold F_X9_isMate_68 at hF
  refine am_istore (ls' := [some (.ref v0), some (.int v1), some (.int v2), some (.int v3), some (.int v4), some (.int s0), some (.int v6)]) (pc' := 70) dX9_isMate_68 (Nat.le_of_ble_eq_true rfl) rfl rfl ?_
  refine am_iinc (ls' := [some (.ref v0), some (.int v1), some (.int v2), some (.int v3), some (.int v4), some (.int s0), some (.int (v6 + (1 : Int32)))]) (pc' := 73) (v := (v6 + (1 : Int32))) dX9_isMate_70 rfl rfl (Nat.le_of_ble_eq_true rfl) rfl rfl ?_
  refine am_goto (pc' := 28) dX9_isMate_73 rfl ?_
  exact j28 v0 v1 v2 v3 v4 s0 (v6 + (1 : Int32)) h hF
def F_X9_isMate_28 : Nat → Nat → Int32 → Int32 → Int32 → Int32 → Int32 → Int32 → am_H → Option Int32
  | 0, _, _, _, _, _, _, _, _ => none
  | n + 1, v0, v1, v2, v3, v4, v5, v6, h =>
  if v3 ≤ v6 then
    F_X9_isMate_76 v5 h
  else
    if v5 = 0 then
      F_X9_isMate_76 v5 h
    else
      (F_X9_sign v0 v1 (v2 + v6) h).bind fun x3 =>
      (F_X9_sign v0 v1 ((v2 + v6) - v4) h).bind fun x4 =>
      if x3 = x4 then
        F_X9_isMate_68 (F_X9_isMate_28 n) v0 v1 v2 v3 v4 v6 (1 : Int32) h
      else
        F_X9_isMate_68 (F_X9_isMate_28 n) v0 v1 v2 v3 v4 v6 (0 : Int32) h
theorem w_X9_isMate_28 {g : am_G} {l : Launch} {h0 : am_H} {x : Int32}  : ∀ (n : Nat) (v0 : Nat) (v1 : Int32) (v2 : Int32) (v3 : Int32) (v4 : Int32) (v5 : Int32) (v6 : Int32) (h : am_H), F_X9_isMate_28 n v0 v1 v2 v3 v4 v5 v6 h = some x → am_W g l M_X9_isMate h0 (some (.int x)) h 28 [some (.ref v0), some (.int v1), some (.int v2), some (.int v3), some (.int v4), some (.int v5), some (.int v6)] [] h
  | 0, _, _, _, _, _, _, _, _, hF => by cases hF
  | n + 1, v0, v1, v2, v3, v4, v5, v6, h, hF => by
    rw [F_X9_isMate_28] at hF
    refine am_iload (pc' := 30) dX9_isMate_28 rfl rfl ?_
    refine am_iload_n (pc' := 31) dX9_isMate_30 rfl rfl ?_
    rcases am_ite hF with ⟨z1, hF⟩ | ⟨z1, hF⟩
    · refine am_icmp_ge_t (pc' := 76) dX9_isMate_31 rfl z1 ?_
      exact am_weak [false, false, false, false, false, true, false] (w_X9_isMate_76 v5 h hF)
    · refine am_icmp_ge_f (pc' := 34) (tgt := 76) dX9_isMate_31 rfl z1 rfl ?_
      refine am_iload (pc' := 36) dX9_isMate_34 rfl rfl ?_
      rcases am_ite hF with ⟨z2, hF⟩ | ⟨z2, hF⟩
      · refine am_if_eq_t (pc' := 76) dX9_isMate_36 rfl z2 ?_
        exact am_weak [false, false, false, false, false, true, false] (w_X9_isMate_76 v5 h hF)
      · refine am_if_eq_f (pc' := 39) (tgt := 76) dX9_isMate_36 rfl z2 rfl ?_
        refine am_aload_n (pc' := 40) dX9_isMate_39 rfl rfl ?_
        refine am_iload_n (pc' := 41) dX9_isMate_40 rfl rfl ?_
        refine am_iload_n (pc' := 42) dX9_isMate_41 rfl rfl ?_
        refine am_iload (pc' := 44) dX9_isMate_42 rfl rfl ?_
        refine am_iadd (pc' := 45) dX9_isMate_44 rfl ?_
        obtain ⟨x3, ex3, hF⟩ := am_bind hF
        obtain ⟨ox3, px3⟩ := t_X9_sign ex3
        refine am_callV1 (Mc := M_X9_sign) (As := [.int v1, .int (v2 + v6)]) (st := []) (pc' := 48) dX9_isMate_45 cw_X9_113 wd_5_21 sl_X9_sign ⟨_, rfl, rfl⟩ (by decide) (by decide) rfl rfl (Nat.le_of_ble_eq_true rfl) px3 (c_X9_sign ex3) rfl ?_
        refine am_aload_n (pc' := 49) dX9_isMate_48 rfl rfl ?_
        refine am_iload_n (pc' := 50) dX9_isMate_49 rfl rfl ?_
        refine am_iload_n (pc' := 51) dX9_isMate_50 rfl rfl ?_
        refine am_iload (pc' := 53) dX9_isMate_51 rfl rfl ?_
        refine am_iadd (pc' := 54) dX9_isMate_53 rfl ?_
        refine am_iload (pc' := 56) dX9_isMate_54 rfl rfl ?_
        refine am_isub (pc' := 57) dX9_isMate_56 rfl ?_
        obtain ⟨x4, ex4, hF⟩ := am_bind hF
        obtain ⟨ox4, px4⟩ := t_X9_sign ex4
        refine am_callV1 (Mc := M_X9_sign) (As := [.int v1, .int ((v2 + v6) - v4)]) (st := [.int x3]) (pc' := 60) dX9_isMate_57 cw_X9_113 wd_5_21 sl_X9_sign ⟨_, rfl, rfl⟩ (by decide) (by decide) rfl rfl (Nat.le_of_ble_eq_true rfl) px4 (c_X9_sign ex4) rfl ?_
        rcases am_ite hF with ⟨z5, hF⟩ | ⟨z5, hF⟩
        · refine am_icmp_ne_f (pc' := 63) (tgt := 67) dX9_isMate_60 rfl z5 rfl ?_
          refine am_iconst (v := (1 : Int32)) (pc' := 64) dX9_isMate_63 rfl rfl ?_
          refine am_goto (pc' := 68) dX9_isMate_64 rfl ?_
          exact am_weak [true, true, true, true, true, false, true] (w_X9_isMate_68 (w_X9_isMate_28 n) v0 v1 v2 v3 v4 v6 (1 : Int32) h hF)
        · refine am_icmp_ne_t (pc' := 67) dX9_isMate_60 rfl z5 ?_
          refine am_iconst (v := (0 : Int32)) (pc' := 68) dX9_isMate_67 rfl rfl ?_
          exact am_weak [true, true, true, true, true, false, true] (w_X9_isMate_68 (w_X9_isMate_28 n) v0 v1 v2 v3 v4 v6 (0 : Int32) h hF)
def F_X9_isMate_23 (v0 : Nat) (v1 : Int32) (v2 : Int32) (v3 : Int32) (v4 : Int32) (s0 : Int32) (h : am_H) : Option Int32 :=
  F_X9_isMate_28 am_F v0 v1 v2 v3 v4 s0 (0 : Int32) h
theorem w_X9_isMate_23 {g : am_G} {l : Launch} {h0 : am_H} {x : Int32}  (v0 : Nat) (v1 : Int32) (v2 : Int32) (v3 : Int32) (v4 : Int32) (s0 : Int32) (h : am_H) (hF : F_X9_isMate_23 v0 v1 v2 v3 v4 s0 h = some x) : am_W g l M_X9_isMate h0 (some (.int x)) h 23 [some (.ref v0), some (.int v1), some (.int v2), some (.int v3), some (.int v4), none, none] [.int s0] h := by
  unfold F_X9_isMate_23 at hF
  refine am_istore (ls' := [some (.ref v0), some (.int v1), some (.int v2), some (.int v3), some (.int v4), some (.int s0), none]) (pc' := 25) dX9_isMate_23 (Nat.le_of_ble_eq_true rfl) rfl rfl ?_
  refine am_iconst (v := (0 : Int32)) (pc' := 26) dX9_isMate_25 rfl rfl ?_
  refine am_istore (ls' := [some (.ref v0), some (.int v1), some (.int v2), some (.int v3), some (.int v4), some (.int s0), some (.int (0 : Int32))]) (pc' := 28) dX9_isMate_26 (Nat.le_of_ble_eq_true rfl) rfl rfl ?_
  exact w_X9_isMate_28 am_F v0 v1 v2 v3 v4 s0 (0 : Int32) h hF
def F_X9_isMate_22 (v0 : Nat) (v1 : Int32) (v2 : Int32) (v3 : Int32) (v4 : Int32) (h : am_H) : Option Int32 :=
  F_X9_isMate_23 v0 v1 v2 v3 v4 (0 : Int32) h
theorem w_X9_isMate_22 {g : am_G} {l : Launch} {h0 : am_H} {x : Int32}  (v0 : Nat) (v1 : Int32) (v2 : Int32) (v3 : Int32) (v4 : Int32) (h : am_H) (hF : F_X9_isMate_22 v0 v1 v2 v3 v4 h = some x) : am_W g l M_X9_isMate h0 (some (.int x)) h 22 [some (.ref v0), some (.int v1), some (.int v2), some (.int v3), some (.int v4), none, none] [] h := by
  unfold F_X9_isMate_22 at hF
  refine am_iconst (v := (0 : Int32)) (pc' := 23) dX9_isMate_22 rfl rfl ?_
  exact w_X9_isMate_23 v0 v1 v2 v3 v4 (0 : Int32) h hF
def F_X9_isMate_b (v0 : Nat) (v1 : Int32) (v2 : Int32) (v3 : Int32) (v4 : Int32) (h : am_H) : Option Int32 :=
  if v2 < v4 then
    F_X9_isMate_22 v0 v1 v2 v3 v4 h
  else
    (am_gr 9 3 v0 h).bind fun x2 =>
    (am_il 0 x2 v1 h).bind fun x3 =>
    if x3 < (v2 + v3) then
      F_X9_isMate_22 v0 v1 v2 v3 v4 h
    else
      F_X9_isMate_23 v0 v1 v2 v3 v4 (1 : Int32) h
theorem w_X9_isMate {g : am_G} {l : Launch} {h0 : am_H} {x : Int32}  (v0 : Nat) (v1 : Int32) (v2 : Int32) (v3 : Int32) (v4 : Int32) (h : am_H) (hF : F_X9_isMate_b v0 v1 v2 v3 v4 h = some x) : am_W g l M_X9_isMate h0 (some (.int x)) h 0 [some (.ref v0), some (.int v1), some (.int v2), some (.int v3), some (.int v4), none, none] [] h := by
  unfold F_X9_isMate_b at hF
  refine am_iload (pc' := 2) dX9_isMate_0 rfl rfl ?_
  refine am_iload_n (pc' := 3) dX9_isMate_2 rfl rfl ?_
  rcases am_ite hF with ⟨z1, hF⟩ | ⟨z1, hF⟩
  · refine am_icmp_gt_t (pc' := 22) dX9_isMate_3 rfl z1 ?_
    exact w_X9_isMate_22 v0 v1 v2 v3 v4 h hF
  · refine am_icmp_gt_f (pc' := 6) (tgt := 22) dX9_isMate_3 rfl z1 rfl ?_
    refine am_iload_n (pc' := 7) dX9_isMate_6 rfl rfl ?_
    refine am_iload_n (pc' := 8) dX9_isMate_7 rfl rfl ?_
    refine am_iadd (pc' := 9) dX9_isMate_8 rfl ?_
    refine am_aload_n (pc' := 10) dX9_isMate_9 rfl rfl ?_
    obtain ⟨x2, ex2, hF⟩ := am_bind hF
    refine am_getr (pc' := 13) dX9_isMate_10 fw_X9_13 ex2 rfl ?_
    refine am_iload_n (pc' := 14) dX9_isMate_13 rfl rfl ?_
    obtain ⟨x3, ex3, hF⟩ := am_bind hF
    refine am_iald (pc' := 15) dX9_isMate_14 ex3 rfl ?_
    rcases am_ite hF with ⟨z4, hF⟩ | ⟨z4, hF⟩
    · refine am_icmp_gt_t (pc' := 22) dX9_isMate_15 rfl z4 ?_
      exact w_X9_isMate_22 v0 v1 v2 v3 v4 h hF
    · refine am_icmp_gt_f (pc' := 18) (tgt := 22) dX9_isMate_15 rfl z4 rfl ?_
      refine am_iconst (v := (1 : Int32)) (pc' := 19) dX9_isMate_18 rfl rfl ?_
      refine am_goto (pc' := 23) dX9_isMate_19 rfl ?_
      exact w_X9_isMate_23 v0 v1 v2 v3 v4 (1 : Int32) h hF
def F_X9_isMate (v0 : Nat) (v1 : Int32) (v2 : Int32) (v3 : Int32) (v4 : Int32) (h : am_H) : Option Int32 := (am_obj v0 9 h).bind fun _ => F_X9_isMate_b v0 v1 v2 v3 v4 h
theorem t_X9_isMate {x : Int32}  {v0 : Nat} {v1 : Int32} {v2 : Int32} {v3 : Int32} {v4 : Int32} {h : am_H} (hF : F_X9_isMate v0 v1 v2 v3 v4 h = some x) : ∃ fs, am_obj v0 9 h = some fs := by
  obtain ⟨fs, e, _⟩ := am_bind hF
  exact ⟨fs, e⟩
theorem c_X9_isMate {g : am_G} {l : Launch} {x : Int32}  {v0 : Nat} {v1 : Int32} {v2 : Int32} {v3 : Int32} {v4 : Int32} {h : am_H} (hF : F_X9_isMate v0 v1 v2 v3 v4 h = some x) : am_Met g l M_X9_isMate [.ref v0, .int v1, .int v2, .int v3, .int v4] h (some (.int x)) h := by
  obtain ⟨fs, e0, e⟩ := am_bind hF
  exact am_met (n := 2) (by decide +kernel) rfl (Nat.le_of_ble_eq_true rfl) (w_X9_isMate v0 v1 v2 v3 v4 h e)
theorem cw_X9_194 : am_cw "SignCellarModel" 194 M_X9_isMate 4 := ⟨wd_1_9, wd_5_123, ⟨by decide, by decide, by decide⟩, Or.inl wd_5_120⟩
theorem fw_X9_47 : am_fw "SignCellarModel" 47 9 20 := ⟨(RX9, TX9, 42), rfl, by decide, inX9, Or.inl wd_4_120⟩
theorem sl_X9_isMate : Cond.selects (⟨"SignCellarModel", "isMate", "(IIII)Z"⟩ : MethodName).cls ⟨"SignCellarModel", "isMate", "(IIII)Z"⟩ ⟨"SignCellarModel", "isMate", "(IIII)Z"⟩ ∈ am_ts := am_in_p (q := (⟨"SignCellarModel", "isMate", "(IIII)Z"⟩, 42)) (by decide +kernel)
def F_X9_pieceAt_79 (k23 : Nat → Int32 → Int32 → Int32 → am_H → Option Int32) (k32 : Nat → Int32 → Int32 → Int32 → Int32 → am_H → Option Int32) (v0 : Nat) (v1 : Int32) (v2 : Int32) (v3 : Int32) (v4 : Int32) (h : am_H) : Option Int32 :=
  k32 v0 v1 v2 v3 (v4 + (1 : Int32)) h
theorem w_X9_pieceAt_79 {g : am_G} {l : Launch} {h0 : am_H} {x : Int32}  {k23 : Nat → Int32 → Int32 → Int32 → am_H → Option Int32} {k32 : Nat → Int32 → Int32 → Int32 → Int32 → am_H → Option Int32} (j23 : ∀ (v0 : Nat) (v1 : Int32) (v2 : Int32) (v3 : Int32) (h : am_H), k23 v0 v1 v2 v3 h = some x → am_W g l M_X9_pieceAt h0 (some (.int x)) h 23 [some (.ref v0), some (.int v1), some (.int v2), some (.int v3), none] [] h) (j32 : ∀ (v0 : Nat) (v1 : Int32) (v2 : Int32) (v3 : Int32) (v4 : Int32) (h : am_H), k32 v0 v1 v2 v3 v4 h = some x → am_W g l M_X9_pieceAt h0 (some (.int x)) h 32 [some (.ref v0), some (.int v1), some (.int v2), some (.int v3), some (.int v4)] [] h) (v0 : Nat) (v1 : Int32) (v2 : Int32) (v3 : Int32) (v4 : Int32) (h : am_H) (hF : F_X9_pieceAt_79 k23 k32 v0 v1 v2 v3 v4 h = some x) : am_W g l M_X9_pieceAt h0 (some (.int x)) h 79 [some (.ref v0), some (.int v1), some (.int v2), some (.int v3), some (.int v4)] [] h := by
  unfold F_X9_pieceAt_79 at hF
  refine am_iinc (ls' := [some (.ref v0), some (.int v1), some (.int v2), some (.int v3), some (.int (v4 + (1 : Int32)))]) (pc' := 82) (v := (v4 + (1 : Int32))) dX9_pieceAt_79 rfl rfl (Nat.le_of_ble_eq_true rfl) rfl rfl ?_
  refine am_goto (pc' := 32) dX9_pieceAt_82 rfl ?_
  exact j32 v0 v1 v2 v3 (v4 + (1 : Int32)) h hF
def F_X9_pieceAt_32 (k23 : Nat → Int32 → Int32 → Int32 → am_H → Option Int32) : Nat → Nat → Int32 → Int32 → Int32 → Int32 → am_H → Option Int32
  | 0, _, _, _, _, _, _ => none
  | n + 1, v0, v1, v2, v3, v4, h =>
  if (16 : Int32) ≤ v4 then
    k23 v0 v1 v2 (v3 + (1 : Int32)) h
  else
    (F_X9_isMate v0 v1 v2 v3 v4 h).bind fun x2 =>
    if x2 = 0 then
      F_X9_pieceAt_79 k23 (F_X9_pieceAt_32 k23 n) v0 v1 v2 v3 v4 h
    else
      (am_gr 9 20 v0 h).bind fun x4 =>
      (am_il 0 x4 (v2 + v3) h).bind fun x5 =>
      (am_gr 9 20 v0 h).bind fun x6 =>
      (am_il 0 x6 v2 h).bind fun x7 =>
      if ((11 : Int32) + x5) = x7 then
        some (((16 : Int32) * v3) + v4)
      else
        F_X9_pieceAt_79 k23 (F_X9_pieceAt_32 k23 n) v0 v1 v2 v3 v4 h
theorem w_X9_pieceAt_32 {g : am_G} {l : Launch} {h0 : am_H} {x : Int32}  {k23 : Nat → Int32 → Int32 → Int32 → am_H → Option Int32} (j23 : ∀ (v0 : Nat) (v1 : Int32) (v2 : Int32) (v3 : Int32) (h : am_H), k23 v0 v1 v2 v3 h = some x → am_W g l M_X9_pieceAt h0 (some (.int x)) h 23 [some (.ref v0), some (.int v1), some (.int v2), some (.int v3), none] [] h) : ∀ (n : Nat) (v0 : Nat) (v1 : Int32) (v2 : Int32) (v3 : Int32) (v4 : Int32) (h : am_H), F_X9_pieceAt_32 k23 n v0 v1 v2 v3 v4 h = some x → am_W g l M_X9_pieceAt h0 (some (.int x)) h 32 [some (.ref v0), some (.int v1), some (.int v2), some (.int v3), some (.int v4)] [] h
  | 0, _, _, _, _, _, _, hF => by cases hF
  | n + 1, v0, v1, v2, v3, v4, h, hF => by
    rw [F_X9_pieceAt_32] at hF
    refine am_iload (pc' := 34) dX9_pieceAt_32 rfl rfl ?_
    refine am_bipush (v := (16 : Int32)) (pc' := 36) dX9_pieceAt_34 rfl rfl ?_
    rcases am_ite hF with ⟨z1, hF⟩ | ⟨z1, hF⟩
    · refine am_icmp_ge_t (pc' := 85) dX9_pieceAt_36 rfl z1 ?_
      refine am_iinc (ls' := [some (.ref v0), some (.int v1), some (.int v2), some (.int (v3 + (1 : Int32))), some (.int v4)]) (pc' := 88) (v := (v3 + (1 : Int32))) dX9_pieceAt_85 rfl rfl (Nat.le_of_ble_eq_true rfl) rfl rfl ?_
      refine am_goto (pc' := 23) dX9_pieceAt_88 rfl ?_
      exact am_weak [true, true, true, true, false] (j23 v0 v1 v2 (v3 + (1 : Int32)) h hF)
    · refine am_icmp_ge_f (pc' := 39) (tgt := 85) dX9_pieceAt_36 rfl z1 rfl ?_
      refine am_aload_n (pc' := 40) dX9_pieceAt_39 rfl rfl ?_
      refine am_iload_n (pc' := 41) dX9_pieceAt_40 rfl rfl ?_
      refine am_iload_n (pc' := 42) dX9_pieceAt_41 rfl rfl ?_
      refine am_iload_n (pc' := 43) dX9_pieceAt_42 rfl rfl ?_
      refine am_iload (pc' := 45) dX9_pieceAt_43 rfl rfl ?_
      obtain ⟨x2, ex2, hF⟩ := am_bind hF
      obtain ⟨ox2, px2⟩ := t_X9_isMate ex2
      refine am_callV1 (Mc := M_X9_isMate) (As := [.int v1, .int v2, .int v3, .int v4]) (st := []) (pc' := 48) dX9_pieceAt_45 cw_X9_194 wd_5_122 sl_X9_isMate ⟨_, rfl, rfl⟩ (by decide) (by decide) rfl rfl (Nat.le_of_ble_eq_true rfl) px2 (c_X9_isMate ex2) rfl ?_
      rcases am_ite hF with ⟨z3, hF⟩ | ⟨z3, hF⟩
      · refine am_if_eq_t (pc' := 79) dX9_pieceAt_48 rfl z3 ?_
        exact w_X9_pieceAt_79 j23 (w_X9_pieceAt_32 j23 n) v0 v1 v2 v3 v4 h hF
      · refine am_if_eq_f (pc' := 51) (tgt := 79) dX9_pieceAt_48 rfl z3 rfl ?_
        refine am_bipush (v := (11 : Int32)) (pc' := 53) dX9_pieceAt_51 rfl rfl ?_
        refine am_aload_n (pc' := 54) dX9_pieceAt_53 rfl rfl ?_
        obtain ⟨x4, ex4, hF⟩ := am_bind hF
        refine am_getr (pc' := 57) dX9_pieceAt_54 fw_X9_47 ex4 rfl ?_
        refine am_iload_n (pc' := 58) dX9_pieceAt_57 rfl rfl ?_
        refine am_iload_n (pc' := 59) dX9_pieceAt_58 rfl rfl ?_
        refine am_iadd (pc' := 60) dX9_pieceAt_59 rfl ?_
        obtain ⟨x5, ex5, hF⟩ := am_bind hF
        refine am_iald (pc' := 61) dX9_pieceAt_60 ex5 rfl ?_
        refine am_iadd (pc' := 62) dX9_pieceAt_61 rfl ?_
        refine am_aload_n (pc' := 63) dX9_pieceAt_62 rfl rfl ?_
        obtain ⟨x6, ex6, hF⟩ := am_bind hF
        refine am_getr (pc' := 66) dX9_pieceAt_63 fw_X9_47 ex6 rfl ?_
        refine am_iload_n (pc' := 67) dX9_pieceAt_66 rfl rfl ?_
        obtain ⟨x7, ex7, hF⟩ := am_bind hF
        refine am_iald (pc' := 68) dX9_pieceAt_67 ex7 rfl ?_
        rcases am_ite hF with ⟨z8, hF⟩ | ⟨z8, hF⟩
        · refine am_icmp_ne_f (pc' := 71) (tgt := 79) dX9_pieceAt_68 rfl z8 rfl ?_
          refine am_bipush (v := (16 : Int32)) (pc' := 73) dX9_pieceAt_71 rfl rfl ?_
          refine am_iload_n (pc' := 74) dX9_pieceAt_73 rfl rfl ?_
          refine am_imul (pc' := 75) dX9_pieceAt_74 rfl ?_
          refine am_iload (pc' := 77) dX9_pieceAt_75 rfl rfl ?_
          refine am_iadd (pc' := 78) dX9_pieceAt_77 rfl ?_
          cases hF
          exact am_iret dX9_pieceAt_78 rfl rfl
        · refine am_icmp_ne_t (pc' := 79) dX9_pieceAt_68 rfl z8 ?_
          exact w_X9_pieceAt_79 j23 (w_X9_pieceAt_32 j23 n) v0 v1 v2 v3 v4 h hF
def F_X9_pieceAt_23 : Nat → Nat → Int32 → Int32 → Int32 → am_H → Option Int32
  | 0, _, _, _, _, _ => none
  | n + 1, v0, v1, v2, v3, h =>
  if (10 : Int32) ≤ v3 then
    some (-1 : Int32)
  else
    F_X9_pieceAt_32 (F_X9_pieceAt_23 n) am_F v0 v1 v2 v3 (1 : Int32) h
theorem w_X9_pieceAt_23 {g : am_G} {l : Launch} {h0 : am_H} {x : Int32}  : ∀ (n : Nat) (v0 : Nat) (v1 : Int32) (v2 : Int32) (v3 : Int32) (h : am_H), F_X9_pieceAt_23 n v0 v1 v2 v3 h = some x → am_W g l M_X9_pieceAt h0 (some (.int x)) h 23 [some (.ref v0), some (.int v1), some (.int v2), some (.int v3), none] [] h
  | 0, _, _, _, _, _, hF => by cases hF
  | n + 1, v0, v1, v2, v3, h, hF => by
    rw [F_X9_pieceAt_23] at hF
    refine am_iload_n (pc' := 24) dX9_pieceAt_23 rfl rfl ?_
    refine am_bipush (v := (10 : Int32)) (pc' := 26) dX9_pieceAt_24 rfl rfl ?_
    rcases am_ite hF with ⟨z1, hF⟩ | ⟨z1, hF⟩
    · refine am_icmp_ge_t (pc' := 91) dX9_pieceAt_26 rfl z1 ?_
      refine am_iconst (v := (-1 : Int32)) (pc' := 92) dX9_pieceAt_91 rfl rfl ?_
      cases hF
      exact am_iret dX9_pieceAt_92 rfl rfl
    · refine am_icmp_ge_f (pc' := 29) (tgt := 91) dX9_pieceAt_26 rfl z1 rfl ?_
      refine am_iconst (v := (1 : Int32)) (pc' := 30) dX9_pieceAt_29 rfl rfl ?_
      refine am_istore (ls' := [some (.ref v0), some (.int v1), some (.int v2), some (.int v3), some (.int (1 : Int32))]) (pc' := 32) dX9_pieceAt_30 (Nat.le_of_ble_eq_true rfl) rfl rfl ?_
      exact w_X9_pieceAt_32 (w_X9_pieceAt_23 n) am_F v0 v1 v2 v3 (1 : Int32) h hF
def F_X9_pieceAt_b (v0 : Nat) (v1 : Int32) (v2 : Int32) (h : am_H) : Option Int32 :=
  (am_gr 9 20 v0 h).bind fun x1 =>
  (am_il 0 x1 (v2 + (1 : Int32)) h).bind fun x2 =>
  (am_gr 9 20 v0 h).bind fun x3 =>
  (am_il 0 x3 v2 h).bind fun x4 =>
  if ((5 : Int32) + x2) = x4 then
    some (0 : Int32)
  else
    F_X9_pieceAt_23 am_F v0 v1 v2 (2 : Int32) h
theorem w_X9_pieceAt {g : am_G} {l : Launch} {h0 : am_H} {x : Int32}  (v0 : Nat) (v1 : Int32) (v2 : Int32) (h : am_H) (hF : F_X9_pieceAt_b v0 v1 v2 h = some x) : am_W g l M_X9_pieceAt h0 (some (.int x)) h 0 [some (.ref v0), some (.int v1), some (.int v2), none, none] [] h := by
  unfold F_X9_pieceAt_b at hF
  refine am_iconst (v := (5 : Int32)) (pc' := 1) dX9_pieceAt_0 rfl rfl ?_
  refine am_aload_n (pc' := 2) dX9_pieceAt_1 rfl rfl ?_
  obtain ⟨x1, ex1, hF⟩ := am_bind hF
  refine am_getr (pc' := 5) dX9_pieceAt_2 fw_X9_47 ex1 rfl ?_
  refine am_iload_n (pc' := 6) dX9_pieceAt_5 rfl rfl ?_
  refine am_iconst (v := (1 : Int32)) (pc' := 7) dX9_pieceAt_6 rfl rfl ?_
  refine am_iadd (pc' := 8) dX9_pieceAt_7 rfl ?_
  obtain ⟨x2, ex2, hF⟩ := am_bind hF
  refine am_iald (pc' := 9) dX9_pieceAt_8 ex2 rfl ?_
  refine am_iadd (pc' := 10) dX9_pieceAt_9 rfl ?_
  refine am_aload_n (pc' := 11) dX9_pieceAt_10 rfl rfl ?_
  obtain ⟨x3, ex3, hF⟩ := am_bind hF
  refine am_getr (pc' := 14) dX9_pieceAt_11 fw_X9_47 ex3 rfl ?_
  refine am_iload_n (pc' := 15) dX9_pieceAt_14 rfl rfl ?_
  obtain ⟨x4, ex4, hF⟩ := am_bind hF
  refine am_iald (pc' := 16) dX9_pieceAt_15 ex4 rfl ?_
  rcases am_ite hF with ⟨z5, hF⟩ | ⟨z5, hF⟩
  · refine am_icmp_ne_f (pc' := 19) (tgt := 21) dX9_pieceAt_16 rfl z5 rfl ?_
    refine am_iconst (v := (0 : Int32)) (pc' := 20) dX9_pieceAt_19 rfl rfl ?_
    cases hF
    exact am_iret dX9_pieceAt_20 rfl rfl
  · refine am_icmp_ne_t (pc' := 21) dX9_pieceAt_16 rfl z5 ?_
    refine am_iconst (v := (2 : Int32)) (pc' := 22) dX9_pieceAt_21 rfl rfl ?_
    refine am_istore_n (ls' := [some (.ref v0), some (.int v1), some (.int v2), some (.int (2 : Int32)), none]) (pc' := 23) dX9_pieceAt_22 (Nat.le_of_ble_eq_true rfl) rfl rfl ?_
    exact w_X9_pieceAt_23 am_F v0 v1 v2 (2 : Int32) h hF
def F_X9_pieceAt (v0 : Nat) (v1 : Int32) (v2 : Int32) (h : am_H) : Option Int32 := (am_obj v0 9 h).bind fun _ => F_X9_pieceAt_b v0 v1 v2 h
theorem t_X9_pieceAt {x : Int32}  {v0 : Nat} {v1 : Int32} {v2 : Int32} {h : am_H} (hF : F_X9_pieceAt v0 v1 v2 h = some x) : ∃ fs, am_obj v0 9 h = some fs := by
  obtain ⟨fs, e, _⟩ := am_bind hF
  exact ⟨fs, e⟩
theorem c_X9_pieceAt {g : am_G} {l : Launch} {x : Int32}  {v0 : Nat} {v1 : Int32} {v2 : Int32} {h : am_H} (hF : F_X9_pieceAt v0 v1 v2 h = some x) : am_Met g l M_X9_pieceAt [.ref v0, .int v1, .int v2] h (some (.int x)) h := by
  obtain ⟨fs, e0, e⟩ := am_bind hF
  exact am_met (n := 2) (by decide +kernel) rfl (Nat.le_of_ble_eq_true rfl) (w_X9_pieceAt v0 v1 v2 h e)
theorem cw_X9_201 : am_cw "SignCellarModel" 201 M_X9_pieceAt 2 := ⟨wd_1_9, wd_5_127, ⟨by decide, by decide, by decide⟩, Or.inl wd_5_124⟩
theorem fw_X9_198 : am_fw "SignCellarModel" 198 9 22 := ⟨(RX9, TX9, 42), rfl, by decide, inX9, Or.inl wd_4_122⟩
theorem fw_X9_50 : am_fw "SignCellarModel" 50 9 21 := ⟨(RX9, TX9, 42), rfl, by decide, inX9, Or.inl wd_4_121⟩
theorem fx_X9_198 {nm : String} : am_fx "SignCellarModel" 198 9 22 .int nm := ⟨(RX9, TX9, 42), tyX9, rfl, by decide, inX9, tyX9_ok, nmX9, rfl, Or.inl ⟨wd_4_122, Or.inl rfl⟩⟩
theorem sl_X9_pieceAt : Cond.selects (⟨"SignCellarModel", "pieceAt", "(II)I"⟩ : MethodName).cls ⟨"SignCellarModel", "pieceAt", "(II)I"⟩ ⟨"SignCellarModel", "pieceAt", "(II)I"⟩ ∈ am_ts := am_in_p (q := (⟨"SignCellarModel", "pieceAt", "(II)I"⟩, 42)) (by decide +kernel)
def F_X9_findCuts_143 (k18 : Nat → Int32 → Int32 → Int32 → am_H → Option am_H) (v0 : Nat) (v1 : Int32) (v2 : Int32) (v3 : Int32) (v4 : Int32) (h : am_H) : Option am_H :=
  (am_gr 9 20 v0 h).bind fun x1 =>
  (am_is 0 x1 v3 v4 h).bind fun h2 =>
  k18 v0 v1 v2 (v3 + (-1 : Int32)) h2
theorem w_X9_findCuts_143 {g : am_G} {l : Launch} {h0 : am_H} {hf : am_H}  {k18 : Nat → Int32 → Int32 → Int32 → am_H → Option am_H} (j18 : ∀ (v0 : Nat) (v1 : Int32) (v2 : Int32) (v3 : Int32) (h : am_H), k18 v0 v1 v2 v3 h = some hf → am_W g l M_X9_findCuts h0 none hf 18 [some (.ref v0), some (.int v1), some (.int v2), some (.int v3), none, none, none, none] [] h) (v0 : Nat) (v1 : Int32) (v2 : Int32) (v3 : Int32) (v4 : Int32) (h : am_H) (hF : F_X9_findCuts_143 k18 v0 v1 v2 v3 v4 h = some hf) : am_W g l M_X9_findCuts h0 none hf 143 [some (.ref v0), some (.int v1), some (.int v2), some (.int v3), some (.int v4), none, none, none] [] h := by
  unfold F_X9_findCuts_143 at hF
  refine am_aload_n (pc' := 144) dX9_findCuts_143 rfl rfl ?_
  obtain ⟨x1, ex1, hF⟩ := am_bind hF
  refine am_getr (pc' := 147) dX9_findCuts_144 fw_X9_47 ex1 rfl ?_
  refine am_iload_n (pc' := 148) dX9_findCuts_147 rfl rfl ?_
  refine am_iload (pc' := 150) dX9_findCuts_148 rfl rfl ?_
  obtain ⟨h2, eh2, hF⟩ := am_bind hF
  refine am_iast (pc' := 151) dX9_findCuts_150 eh2 rfl ?_
  refine am_iinc (ls' := [some (.ref v0), some (.int v1), some (.int v2), some (.int (v3 + (-1 : Int32))), some (.int v4), none, none, none]) (pc' := 154) (v := (v3 + (-1 : Int32))) dX9_findCuts_151 rfl rfl (Nat.le_of_ble_eq_true rfl) rfl rfl ?_
  refine am_goto (pc' := 18) dX9_findCuts_154 rfl ?_
  exact am_weak [true, true, true, true, false, false, false, false] (j18 v0 v1 v2 (v3 + (-1 : Int32)) h2 hF)
def F_X9_findCuts_88 (k18 : Nat → Int32 → Int32 → Int32 → am_H → Option am_H) (k37 : Nat → Int32 → Int32 → Int32 → Int32 → Int32 → am_H → Option am_H) (k58 : Nat → Int32 → Int32 → Int32 → Int32 → Int32 → Int32 → Int32 → am_H → Option am_H) (v0 : Nat) (v1 : Int32) (v2 : Int32) (v3 : Int32) (v4 : Int32) (v5 : Int32) (v7 : Int32) (s0 : Int32) (h : am_H) : Option am_H :=
  k58 v0 v1 v2 v3 v4 v5 s0 (v7 + (1 : Int32)) h
theorem w_X9_findCuts_88 {g : am_G} {l : Launch} {h0 : am_H} {hf : am_H}  {k18 : Nat → Int32 → Int32 → Int32 → am_H → Option am_H} {k37 : Nat → Int32 → Int32 → Int32 → Int32 → Int32 → am_H → Option am_H} {k58 : Nat → Int32 → Int32 → Int32 → Int32 → Int32 → Int32 → Int32 → am_H → Option am_H} (j18 : ∀ (v0 : Nat) (v1 : Int32) (v2 : Int32) (v3 : Int32) (h : am_H), k18 v0 v1 v2 v3 h = some hf → am_W g l M_X9_findCuts h0 none hf 18 [some (.ref v0), some (.int v1), some (.int v2), some (.int v3), none, none, none, none] [] h) (j37 : ∀ (v0 : Nat) (v1 : Int32) (v2 : Int32) (v3 : Int32) (v4 : Int32) (v5 : Int32) (h : am_H), k37 v0 v1 v2 v3 v4 v5 h = some hf → am_W g l M_X9_findCuts h0 none hf 37 [some (.ref v0), some (.int v1), some (.int v2), some (.int v3), some (.int v4), some (.int v5), none, none] [] h) (j58 : ∀ (v0 : Nat) (v1 : Int32) (v2 : Int32) (v3 : Int32) (v4 : Int32) (v5 : Int32) (v6 : Int32) (v7 : Int32) (h : am_H), k58 v0 v1 v2 v3 v4 v5 v6 v7 h = some hf → am_W g l M_X9_findCuts h0 none hf 58 [some (.ref v0), some (.int v1), some (.int v2), some (.int v3), some (.int v4), some (.int v5), some (.int v6), some (.int v7)] [] h) (v0 : Nat) (v1 : Int32) (v2 : Int32) (v3 : Int32) (v4 : Int32) (v5 : Int32) (v7 : Int32) (s0 : Int32) (h : am_H) (hF : F_X9_findCuts_88 k18 k37 k58 v0 v1 v2 v3 v4 v5 v7 s0 h = some hf) : am_W g l M_X9_findCuts h0 none hf 88 [some (.ref v0), some (.int v1), some (.int v2), some (.int v3), some (.int v4), some (.int v5), none, some (.int v7)] [.int s0] h := by
  unfold F_X9_findCuts_88 at hF
  refine am_istore (ls' := [some (.ref v0), some (.int v1), some (.int v2), some (.int v3), some (.int v4), some (.int v5), some (.int s0), some (.int v7)]) (pc' := 90) dX9_findCuts_88 (Nat.le_of_ble_eq_true rfl) rfl rfl ?_
  refine am_iinc (ls' := [some (.ref v0), some (.int v1), some (.int v2), some (.int v3), some (.int v4), some (.int v5), some (.int s0), some (.int (v7 + (1 : Int32)))]) (pc' := 93) (v := (v7 + (1 : Int32))) dX9_findCuts_90 rfl rfl (Nat.le_of_ble_eq_true rfl) rfl rfl ?_
  refine am_goto (pc' := 58) dX9_findCuts_93 rfl ?_
  exact j58 v0 v1 v2 v3 v4 v5 s0 (v7 + (1 : Int32)) h hF
def F_X9_findCuts_83 (k18 : Nat → Int32 → Int32 → Int32 → am_H → Option am_H) (k37 : Nat → Int32 → Int32 → Int32 → Int32 → Int32 → am_H → Option am_H) (k58 : Nat → Int32 → Int32 → Int32 → Int32 → Int32 → Int32 → Int32 → am_H → Option am_H) (v0 : Nat) (v1 : Int32) (v2 : Int32) (v3 : Int32) (v4 : Int32) (v5 : Int32) (v7 : Int32) (h : am_H) : Option am_H :=
  F_X9_findCuts_88 k18 k37 k58 v0 v1 v2 v3 v4 v5 v7 (1 : Int32) h
theorem w_X9_findCuts_83 {g : am_G} {l : Launch} {h0 : am_H} {hf : am_H}  {k18 : Nat → Int32 → Int32 → Int32 → am_H → Option am_H} {k37 : Nat → Int32 → Int32 → Int32 → Int32 → Int32 → am_H → Option am_H} {k58 : Nat → Int32 → Int32 → Int32 → Int32 → Int32 → Int32 → Int32 → am_H → Option am_H} (j18 : ∀ (v0 : Nat) (v1 : Int32) (v2 : Int32) (v3 : Int32) (h : am_H), k18 v0 v1 v2 v3 h = some hf → am_W g l M_X9_findCuts h0 none hf 18 [some (.ref v0), some (.int v1), some (.int v2), some (.int v3), none, none, none, none] [] h) (j37 : ∀ (v0 : Nat) (v1 : Int32) (v2 : Int32) (v3 : Int32) (v4 : Int32) (v5 : Int32) (h : am_H), k37 v0 v1 v2 v3 v4 v5 h = some hf → am_W g l M_X9_findCuts h0 none hf 37 [some (.ref v0), some (.int v1), some (.int v2), some (.int v3), some (.int v4), some (.int v5), none, none] [] h) (j58 : ∀ (v0 : Nat) (v1 : Int32) (v2 : Int32) (v3 : Int32) (v4 : Int32) (v5 : Int32) (v6 : Int32) (v7 : Int32) (h : am_H), k58 v0 v1 v2 v3 v4 v5 v6 v7 h = some hf → am_W g l M_X9_findCuts h0 none hf 58 [some (.ref v0), some (.int v1), some (.int v2), some (.int v3), some (.int v4), some (.int v5), some (.int v6), some (.int v7)] [] h) (v0 : Nat) (v1 : Int32) (v2 : Int32) (v3 : Int32) (v4 : Int32) (v5 : Int32) (v7 : Int32) (h : am_H) (hF : F_X9_findCuts_83 k18 k37 k58 v0 v1 v2 v3 v4 v5 v7 h = some hf) : am_W g l M_X9_findCuts h0 none hf 83 [some (.ref v0), some (.int v1), some (.int v2), some (.int v3), some (.int v4), some (.int v5), none, some (.int v7)] [] h := by
  unfold F_X9_findCuts_83 at hF
  refine am_iconst (v := (1 : Int32)) (pc' := 84) dX9_findCuts_83 rfl rfl ?_
  refine am_goto (pc' := 88) dX9_findCuts_84 rfl ?_
  exact w_X9_findCuts_88 j18 j37 j58 v0 v1 v2 v3 v4 v5 v7 (1 : Int32) h hF
def F_X9_findCuts_135 (k18 : Nat → Int32 → Int32 → Int32 → am_H → Option am_H) (k37 : Nat → Int32 → Int32 → Int32 → Int32 → Int32 → am_H → Option am_H) (v0 : Nat) (v1 : Int32) (v2 : Int32) (v3 : Int32) (v5 : Int32) (s0 : Int32) (h : am_H) : Option am_H :=
  k37 v0 v1 v2 v3 s0 (v5 + (1 : Int32)) h
theorem w_X9_findCuts_135 {g : am_G} {l : Launch} {h0 : am_H} {hf : am_H}  {k18 : Nat → Int32 → Int32 → Int32 → am_H → Option am_H} {k37 : Nat → Int32 → Int32 → Int32 → Int32 → Int32 → am_H → Option am_H} (j18 : ∀ (v0 : Nat) (v1 : Int32) (v2 : Int32) (v3 : Int32) (h : am_H), k18 v0 v1 v2 v3 h = some hf → am_W g l M_X9_findCuts h0 none hf 18 [some (.ref v0), some (.int v1), some (.int v2), some (.int v3), none, none, none, none] [] h) (j37 : ∀ (v0 : Nat) (v1 : Int32) (v2 : Int32) (v3 : Int32) (v4 : Int32) (v5 : Int32) (h : am_H), k37 v0 v1 v2 v3 v4 v5 h = some hf → am_W g l M_X9_findCuts h0 none hf 37 [some (.ref v0), some (.int v1), some (.int v2), some (.int v3), some (.int v4), some (.int v5), none, none] [] h) (v0 : Nat) (v1 : Int32) (v2 : Int32) (v3 : Int32) (v5 : Int32) (s0 : Int32) (h : am_H) (hF : F_X9_findCuts_135 k18 k37 v0 v1 v2 v3 v5 s0 h = some hf) : am_W g l M_X9_findCuts h0 none hf 135 [some (.ref v0), some (.int v1), some (.int v2), some (.int v3), none, some (.int v5), none, none] [.int s0] h := by
  unfold F_X9_findCuts_135 at hF
  refine am_istore (ls' := [some (.ref v0), some (.int v1), some (.int v2), some (.int v3), some (.int s0), some (.int v5), none, none]) (pc' := 137) dX9_findCuts_135 (Nat.le_of_ble_eq_true rfl) rfl rfl ?_
  refine am_iinc (ls' := [some (.ref v0), some (.int v1), some (.int v2), some (.int v3), some (.int s0), some (.int (v5 + (1 : Int32))), none, none]) (pc' := 140) (v := (v5 + (1 : Int32))) dX9_findCuts_137 rfl rfl (Nat.le_of_ble_eq_true rfl) rfl rfl ?_
  refine am_goto (pc' := 37) dX9_findCuts_140 rfl ?_
  exact j37 v0 v1 v2 v3 s0 (v5 + (1 : Int32)) h hF
def F_X9_findCuts_133 (k18 : Nat → Int32 → Int32 → Int32 → am_H → Option am_H) (k37 : Nat → Int32 → Int32 → Int32 → Int32 → Int32 → am_H → Option am_H) (v0 : Nat) (v1 : Int32) (v2 : Int32) (v3 : Int32) (v4 : Int32) (v5 : Int32) (h : am_H) : Option am_H :=
  F_X9_findCuts_135 k18 k37 v0 v1 v2 v3 v5 v4 h
theorem w_X9_findCuts_133 {g : am_G} {l : Launch} {h0 : am_H} {hf : am_H}  {k18 : Nat → Int32 → Int32 → Int32 → am_H → Option am_H} {k37 : Nat → Int32 → Int32 → Int32 → Int32 → Int32 → am_H → Option am_H} (j18 : ∀ (v0 : Nat) (v1 : Int32) (v2 : Int32) (v3 : Int32) (h : am_H), k18 v0 v1 v2 v3 h = some hf → am_W g l M_X9_findCuts h0 none hf 18 [some (.ref v0), some (.int v1), some (.int v2), some (.int v3), none, none, none, none] [] h) (j37 : ∀ (v0 : Nat) (v1 : Int32) (v2 : Int32) (v3 : Int32) (v4 : Int32) (v5 : Int32) (h : am_H), k37 v0 v1 v2 v3 v4 v5 h = some hf → am_W g l M_X9_findCuts h0 none hf 37 [some (.ref v0), some (.int v1), some (.int v2), some (.int v3), some (.int v4), some (.int v5), none, none] [] h) (v0 : Nat) (v1 : Int32) (v2 : Int32) (v3 : Int32) (v4 : Int32) (v5 : Int32) (h : am_H) (hF : F_X9_findCuts_133 k18 k37 v0 v1 v2 v3 v4 v5 h = some hf) : am_W g l M_X9_findCuts h0 none hf 133 [some (.ref v0), some (.int v1), some (.int v2), some (.int v3), some (.int v4), some (.int v5), none, none] [] h := by
  unfold F_X9_findCuts_133 at hF
  refine am_iload (pc' := 135) dX9_findCuts_133 rfl rfl ?_
  exact am_weak [true, true, true, true, false, true, false, false] (w_X9_findCuts_135 j18 j37 v0 v1 v2 v3 v5 v4 h hF)
def F_X9_findCuts_58 (k18 : Nat → Int32 → Int32 → Int32 → am_H → Option am_H) (k37 : Nat → Int32 → Int32 → Int32 → Int32 → Int32 → am_H → Option am_H) : Nat → Nat → Int32 → Int32 → Int32 → Int32 → Int32 → Int32 → Int32 → am_H → Option am_H
  | 0, _, _, _, _, _, _, _, _, _ => none
  | n + 1, v0, v1, v2, v3, v4, v5, v6, v7, h =>
  if (16 : Int32) ≤ v7 then
    if v6 = 0 then
      F_X9_findCuts_133 k18 k37 v0 v1 v2 v3 v4 v5 h
    else
      (am_gr 9 20 v0 h).bind fun x3 =>
      (am_il 0 x3 (v3 + v5) h).bind fun x4 =>
      if v4 ≤ ((11 : Int32) + x4) then
        F_X9_findCuts_133 k18 k37 v0 v1 v2 v3 v4 v5 h
      else
        (am_gr 9 20 v0 h).bind fun x6 =>
        (am_il 0 x6 (v3 + v5) h).bind fun x7 =>
        F_X9_findCuts_135 k18 k37 v0 v1 v2 v3 v5 ((11 : Int32) + x7) h
  else
    if v6 = 0 then
      (F_X9_isMate v0 v1 v3 v5 v7 h).bind fun x9 =>
      if x9 = 0 then
        F_X9_findCuts_88 k18 k37 (F_X9_findCuts_58 k18 k37 n) v0 v1 v2 v3 v4 v5 v7 (0 : Int32) h
      else
        F_X9_findCuts_83 k18 k37 (F_X9_findCuts_58 k18 k37 n) v0 v1 v2 v3 v4 v5 v7 h
    else
      F_X9_findCuts_83 k18 k37 (F_X9_findCuts_58 k18 k37 n) v0 v1 v2 v3 v4 v5 v7 h
theorem w_X9_findCuts_58 {g : am_G} {l : Launch} {h0 : am_H} {hf : am_H}  {k18 : Nat → Int32 → Int32 → Int32 → am_H → Option am_H} {k37 : Nat → Int32 → Int32 → Int32 → Int32 → Int32 → am_H → Option am_H} (j18 : ∀ (v0 : Nat) (v1 : Int32) (v2 : Int32) (v3 : Int32) (h : am_H), k18 v0 v1 v2 v3 h = some hf → am_W g l M_X9_findCuts h0 none hf 18 [some (.ref v0), some (.int v1), some (.int v2), some (.int v3), none, none, none, none] [] h) (j37 : ∀ (v0 : Nat) (v1 : Int32) (v2 : Int32) (v3 : Int32) (v4 : Int32) (v5 : Int32) (h : am_H), k37 v0 v1 v2 v3 v4 v5 h = some hf → am_W g l M_X9_findCuts h0 none hf 37 [some (.ref v0), some (.int v1), some (.int v2), some (.int v3), some (.int v4), some (.int v5), none, none] [] h) : ∀ (n : Nat) (v0 : Nat) (v1 : Int32) (v2 : Int32) (v3 : Int32) (v4 : Int32) (v5 : Int32) (v6 : Int32) (v7 : Int32) (h : am_H), F_X9_findCuts_58 k18 k37 n v0 v1 v2 v3 v4 v5 v6 v7 h = some hf → am_W g l M_X9_findCuts h0 none hf 58 [some (.ref v0), some (.int v1), some (.int v2), some (.int v3), some (.int v4), some (.int v5), some (.int v6), some (.int v7)] [] h
  | 0, _, _, _, _, _, _, _, _, _, hF => by cases hF
  | n + 1, v0, v1, v2, v3, v4, v5, v6, v7, h, hF => by
    rw [F_X9_findCuts_58] at hF
    refine am_iload (pc' := 60) dX9_findCuts_58 rfl rfl ?_
    refine am_bipush (v := (16 : Int32)) (pc' := 62) dX9_findCuts_60 rfl rfl ?_
    rcases am_ite hF with ⟨z1, hF⟩ | ⟨z1, hF⟩
    · refine am_icmp_ge_t (pc' := 96) dX9_findCuts_62 rfl z1 ?_
      refine am_iload (pc' := 98) dX9_findCuts_96 rfl rfl ?_
      rcases am_ite hF with ⟨z2, hF⟩ | ⟨z2, hF⟩
      · refine am_if_eq_t (pc' := 133) dX9_findCuts_98 rfl z2 ?_
        exact am_weak [true, true, true, true, true, true, false, false] (w_X9_findCuts_133 j18 j37 v0 v1 v2 v3 v4 v5 h hF)
      · refine am_if_eq_f (pc' := 101) (tgt := 133) dX9_findCuts_98 rfl z2 rfl ?_
        refine am_bipush (v := (11 : Int32)) (pc' := 103) dX9_findCuts_101 rfl rfl ?_
        refine am_aload_n (pc' := 104) dX9_findCuts_103 rfl rfl ?_
        obtain ⟨x3, ex3, hF⟩ := am_bind hF
        refine am_getr (pc' := 107) dX9_findCuts_104 fw_X9_47 ex3 rfl ?_
        refine am_iload_n (pc' := 108) dX9_findCuts_107 rfl rfl ?_
        refine am_iload (pc' := 110) dX9_findCuts_108 rfl rfl ?_
        refine am_iadd (pc' := 111) dX9_findCuts_110 rfl ?_
        obtain ⟨x4, ex4, hF⟩ := am_bind hF
        refine am_iald (pc' := 112) dX9_findCuts_111 ex4 rfl ?_
        refine am_iadd (pc' := 113) dX9_findCuts_112 rfl ?_
        refine am_iload (pc' := 115) dX9_findCuts_113 rfl rfl ?_
        rcases am_ite hF with ⟨z5, hF⟩ | ⟨z5, hF⟩
        · refine am_icmp_ge_t (pc' := 133) dX9_findCuts_115 rfl z5 ?_
          exact am_weak [true, true, true, true, true, true, false, false] (w_X9_findCuts_133 j18 j37 v0 v1 v2 v3 v4 v5 h hF)
        · refine am_icmp_ge_f (pc' := 118) (tgt := 133) dX9_findCuts_115 rfl z5 rfl ?_
          refine am_bipush (v := (11 : Int32)) (pc' := 120) dX9_findCuts_118 rfl rfl ?_
          refine am_aload_n (pc' := 121) dX9_findCuts_120 rfl rfl ?_
          obtain ⟨x6, ex6, hF⟩ := am_bind hF
          refine am_getr (pc' := 124) dX9_findCuts_121 fw_X9_47 ex6 rfl ?_
          refine am_iload_n (pc' := 125) dX9_findCuts_124 rfl rfl ?_
          refine am_iload (pc' := 127) dX9_findCuts_125 rfl rfl ?_
          refine am_iadd (pc' := 128) dX9_findCuts_127 rfl ?_
          obtain ⟨x7, ex7, hF⟩ := am_bind hF
          refine am_iald (pc' := 129) dX9_findCuts_128 ex7 rfl ?_
          refine am_iadd (pc' := 130) dX9_findCuts_129 rfl ?_
          refine am_goto (pc' := 135) dX9_findCuts_130 rfl ?_
          exact am_weak [true, true, true, true, false, true, false, false] (w_X9_findCuts_135 j18 j37 v0 v1 v2 v3 v5 ((11 : Int32) + x7) h hF)
    · refine am_icmp_ge_f (pc' := 65) (tgt := 96) dX9_findCuts_62 rfl z1 rfl ?_
      refine am_iload (pc' := 67) dX9_findCuts_65 rfl rfl ?_
      rcases am_ite hF with ⟨z8, hF⟩ | ⟨z8, hF⟩
      · refine am_if_ne_f (pc' := 70) (tgt := 83) dX9_findCuts_67 rfl z8 rfl ?_
        refine am_aload_n (pc' := 71) dX9_findCuts_70 rfl rfl ?_
        refine am_iload_n (pc' := 72) dX9_findCuts_71 rfl rfl ?_
        refine am_iload_n (pc' := 73) dX9_findCuts_72 rfl rfl ?_
        refine am_iload (pc' := 75) dX9_findCuts_73 rfl rfl ?_
        refine am_iload (pc' := 77) dX9_findCuts_75 rfl rfl ?_
        obtain ⟨x9, ex9, hF⟩ := am_bind hF
        obtain ⟨ox9, px9⟩ := t_X9_isMate ex9
        refine am_callV1 (Mc := M_X9_isMate) (As := [.int v1, .int v3, .int v5, .int v7]) (st := []) (pc' := 80) dX9_findCuts_77 cw_X9_194 wd_5_122 sl_X9_isMate ⟨_, rfl, rfl⟩ (by decide) (by decide) rfl rfl (Nat.le_of_ble_eq_true rfl) px9 (c_X9_isMate ex9) rfl ?_
        rcases am_ite hF with ⟨z10, hF⟩ | ⟨z10, hF⟩
        · refine am_if_eq_t (pc' := 87) dX9_findCuts_80 rfl z10 ?_
          refine am_iconst (v := (0 : Int32)) (pc' := 88) dX9_findCuts_87 rfl rfl ?_
          exact am_weak [true, true, true, true, true, true, false, true] (w_X9_findCuts_88 j18 j37 (w_X9_findCuts_58 j18 j37 n) v0 v1 v2 v3 v4 v5 v7 (0 : Int32) h hF)
        · refine am_if_eq_f (pc' := 83) (tgt := 87) dX9_findCuts_80 rfl z10 rfl ?_
          exact am_weak [true, true, true, true, true, true, false, true] (w_X9_findCuts_83 j18 j37 (w_X9_findCuts_58 j18 j37 n) v0 v1 v2 v3 v4 v5 v7 h hF)
      · refine am_if_ne_t (pc' := 83) dX9_findCuts_67 rfl z8 ?_
        exact am_weak [true, true, true, true, true, true, false, true] (w_X9_findCuts_83 j18 j37 (w_X9_findCuts_58 j18 j37 n) v0 v1 v2 v3 v4 v5 v7 h hF)
def F_X9_findCuts_37 (k18 : Nat → Int32 → Int32 → Int32 → am_H → Option am_H) : Nat → Nat → Int32 → Int32 → Int32 → Int32 → Int32 → am_H → Option am_H
  | 0, _, _, _, _, _, _, _ => none
  | n + 1, v0, v1, v2, v3, v4, v5, h =>
  if (10 : Int32) ≤ v5 then
    F_X9_findCuts_143 k18 v0 v1 v2 v3 v4 h
  else
    if v2 < (v3 + v5) then
      F_X9_findCuts_143 k18 v0 v1 v2 v3 v4 h
    else
      F_X9_findCuts_58 k18 (F_X9_findCuts_37 k18 n) am_F v0 v1 v2 v3 v4 v5 (0 : Int32) (1 : Int32) h
theorem w_X9_findCuts_37 {g : am_G} {l : Launch} {h0 : am_H} {hf : am_H}  {k18 : Nat → Int32 → Int32 → Int32 → am_H → Option am_H} (j18 : ∀ (v0 : Nat) (v1 : Int32) (v2 : Int32) (v3 : Int32) (h : am_H), k18 v0 v1 v2 v3 h = some hf → am_W g l M_X9_findCuts h0 none hf 18 [some (.ref v0), some (.int v1), some (.int v2), some (.int v3), none, none, none, none] [] h) : ∀ (n : Nat) (v0 : Nat) (v1 : Int32) (v2 : Int32) (v3 : Int32) (v4 : Int32) (v5 : Int32) (h : am_H), F_X9_findCuts_37 k18 n v0 v1 v2 v3 v4 v5 h = some hf → am_W g l M_X9_findCuts h0 none hf 37 [some (.ref v0), some (.int v1), some (.int v2), some (.int v3), some (.int v4), some (.int v5), none, none] [] h
  | 0, _, _, _, _, _, _, _, hF => by cases hF
  | n + 1, v0, v1, v2, v3, v4, v5, h, hF => by
    rw [F_X9_findCuts_37] at hF
    refine am_iload (pc' := 39) dX9_findCuts_37 rfl rfl ?_
    refine am_bipush (v := (10 : Int32)) (pc' := 41) dX9_findCuts_39 rfl rfl ?_
    rcases am_ite hF with ⟨z1, hF⟩ | ⟨z1, hF⟩
    · refine am_icmp_ge_t (pc' := 143) dX9_findCuts_41 rfl z1 ?_
      exact am_weak [true, true, true, true, true, false, false, false] (w_X9_findCuts_143 j18 v0 v1 v2 v3 v4 h hF)
    · refine am_icmp_ge_f (pc' := 44) (tgt := 143) dX9_findCuts_41 rfl z1 rfl ?_
      refine am_iload_n (pc' := 45) dX9_findCuts_44 rfl rfl ?_
      refine am_iload (pc' := 47) dX9_findCuts_45 rfl rfl ?_
      refine am_iadd (pc' := 48) dX9_findCuts_47 rfl ?_
      refine am_iload_n (pc' := 49) dX9_findCuts_48 rfl rfl ?_
      rcases am_ite hF with ⟨z2, hF⟩ | ⟨z2, hF⟩
      · refine am_icmp_gt_t (pc' := 143) dX9_findCuts_49 rfl z2 ?_
        exact am_weak [true, true, true, true, true, false, false, false] (w_X9_findCuts_143 j18 v0 v1 v2 v3 v4 h hF)
      · refine am_icmp_gt_f (pc' := 52) (tgt := 143) dX9_findCuts_49 rfl z2 rfl ?_
        refine am_iconst (v := (0 : Int32)) (pc' := 53) dX9_findCuts_52 rfl rfl ?_
        refine am_istore (ls' := [some (.ref v0), some (.int v1), some (.int v2), some (.int v3), some (.int v4), some (.int v5), some (.int (0 : Int32)), none]) (pc' := 55) dX9_findCuts_53 (Nat.le_of_ble_eq_true rfl) rfl rfl ?_
        refine am_iconst (v := (1 : Int32)) (pc' := 56) dX9_findCuts_55 rfl rfl ?_
        refine am_istore (ls' := [some (.ref v0), some (.int v1), some (.int v2), some (.int v3), some (.int v4), some (.int v5), some (.int (0 : Int32)), some (.int (1 : Int32))]) (pc' := 58) dX9_findCuts_56 (Nat.le_of_ble_eq_true rfl) rfl rfl ?_
        exact w_X9_findCuts_58 j18 (w_X9_findCuts_37 j18 n) am_F v0 v1 v2 v3 v4 v5 (0 : Int32) (1 : Int32) h hF
def F_X9_findCuts_213 (k164 : Nat → Int32 → Int32 → Int32 → am_H → Option am_H) (v0 : Nat) (v1 : Int32) (v2 : Int32) (s0 : Int32) (s1 : Int32) (h : am_H) : Option am_H :=
  k164 v0 v1 v2 (s0 + s1) h
theorem w_X9_findCuts_213 {g : am_G} {l : Launch} {h0 : am_H} {hf : am_H}  {k164 : Nat → Int32 → Int32 → Int32 → am_H → Option am_H} (j164 : ∀ (v0 : Nat) (v1 : Int32) (v2 : Int32) (v3 : Int32) (h : am_H), k164 v0 v1 v2 v3 h = some hf → am_W g l M_X9_findCuts h0 none hf 164 [some (.ref v0), some (.int v1), some (.int v2), some (.int v3), none, none, none, none] [] h) (v0 : Nat) (v1 : Int32) (v2 : Int32) (s0 : Int32) (s1 : Int32) (h : am_H) (hF : F_X9_findCuts_213 k164 v0 v1 v2 s0 s1 h = some hf) : am_W g l M_X9_findCuts h0 none hf 213 [some (.ref v0), some (.int v1), some (.int v2), none, none, none, none, none] [.int s1, .int s0] h := by
  unfold F_X9_findCuts_213 at hF
  refine am_iadd (pc' := 214) dX9_findCuts_213 rfl ?_
  refine am_istore_n (ls' := [some (.ref v0), some (.int v1), some (.int v2), some (.int (s0 + s1)), none, none, none, none]) (pc' := 215) dX9_findCuts_214 (Nat.le_of_ble_eq_true rfl) rfl rfl ?_
  refine am_goto (pc' := 164) dX9_findCuts_215 rfl ?_
  exact j164 v0 v1 v2 (s0 + s1) h hF
def F_X9_findCuts_164 : Nat → Nat → Int32 → Int32 → Int32 → am_H → Option am_H
  | 0, _, _, _, _, _ => none
  | n + 1, v0, v1, v2, v3, h =>
  if v2 ≤ v3 then
    some h
  else
    (F_X9_pieceAt v0 v1 v3 h).bind fun x2 =>
    (am_gr 9 21 v0 h).bind fun x3 =>
    (am_gi 9 22 v0 h).bind fun x4 =>
    (am_is 0 x3 x4 x2 h).bind fun h5 =>
    (am_gi 9 22 v0 h5).bind fun x6 =>
    (am_pi 9 22 v0 (x6 + (1 : Int32)) h5).bind fun h7 =>
    if x2 = 0 then
      F_X9_findCuts_213 (F_X9_findCuts_164 n) v0 v1 v2 v3 (1 : Int32) h7
    else
      F_X9_findCuts_213 (F_X9_findCuts_164 n) v0 v1 v2 v3 (x2 / (16 : Int32)) h7
theorem w_X9_findCuts_164 {g : am_G} {l : Launch} {h0 : am_H} {hf : am_H}  : ∀ (n : Nat) (v0 : Nat) (v1 : Int32) (v2 : Int32) (v3 : Int32) (h : am_H), F_X9_findCuts_164 n v0 v1 v2 v3 h = some hf → am_W g l M_X9_findCuts h0 none hf 164 [some (.ref v0), some (.int v1), some (.int v2), some (.int v3), none, none, none, none] [] h
  | 0, _, _, _, _, _, hF => by cases hF
  | n + 1, v0, v1, v2, v3, h, hF => by
    rw [F_X9_findCuts_164] at hF
    refine am_iload_n (pc' := 165) dX9_findCuts_164 rfl rfl ?_
    refine am_iload_n (pc' := 166) dX9_findCuts_165 rfl rfl ?_
    rcases am_ite hF with ⟨z1, hF⟩ | ⟨z1, hF⟩
    · refine am_icmp_ge_t (pc' := 218) dX9_findCuts_166 rfl z1 ?_
      cases hF
      exact am_vret dX9_findCuts_218 rfl
    · refine am_icmp_ge_f (pc' := 169) (tgt := 218) dX9_findCuts_166 rfl z1 rfl ?_
      refine am_aload_n (pc' := 170) dX9_findCuts_169 rfl rfl ?_
      refine am_iload_n (pc' := 171) dX9_findCuts_170 rfl rfl ?_
      refine am_iload_n (pc' := 172) dX9_findCuts_171 rfl rfl ?_
      obtain ⟨x2, ex2, hF⟩ := am_bind hF
      obtain ⟨ox2, px2⟩ := t_X9_pieceAt ex2
      refine am_callV1 (Mc := M_X9_pieceAt) (As := [.int v1, .int v3]) (st := []) (pc' := 175) dX9_findCuts_172 cw_X9_201 wd_5_126 sl_X9_pieceAt ⟨_, rfl, rfl⟩ (by decide) (by decide) rfl rfl (Nat.le_of_ble_eq_true rfl) px2 (c_X9_pieceAt ex2) rfl ?_
      refine am_istore (ls' := [some (.ref v0), some (.int v1), some (.int v2), some (.int v3), some (.int x2), none, none, none]) (pc' := 177) dX9_findCuts_175 (Nat.le_of_ble_eq_true rfl) rfl rfl ?_
      refine am_aload_n (pc' := 178) dX9_findCuts_177 rfl rfl ?_
      obtain ⟨x3, ex3, hF⟩ := am_bind hF
      refine am_getr (pc' := 181) dX9_findCuts_178 fw_X9_50 ex3 rfl ?_
      refine am_aload_n (pc' := 182) dX9_findCuts_181 rfl rfl ?_
      obtain ⟨x4, ex4, hF⟩ := am_bind hF
      refine am_geti (pc' := 185) dX9_findCuts_182 fw_X9_198 ex4 rfl ?_
      refine am_iload (pc' := 187) dX9_findCuts_185 rfl rfl ?_
      obtain ⟨h5, eh5, hF⟩ := am_bind hF
      refine am_iast (pc' := 188) dX9_findCuts_187 eh5 rfl ?_
      refine am_aload_n (pc' := 189) dX9_findCuts_188 rfl rfl ?_
      refine am_dup (pc' := 190) dX9_findCuts_189 rfl rfl ?_
      obtain ⟨x6, ex6, hF⟩ := am_bind hF
      refine am_geti (pc' := 193) dX9_findCuts_190 fw_X9_198 ex6 rfl ?_
      refine am_iconst (v := (1 : Int32)) (pc' := 194) dX9_findCuts_193 rfl rfl ?_
      refine am_iadd (pc' := 195) dX9_findCuts_194 rfl ?_
      obtain ⟨h7, eh7, hF⟩ := am_bind hF
      refine am_puti (pc' := 198) dX9_findCuts_195 fx_X9_198 eh7 rfl ?_
      refine am_iload_n (pc' := 199) dX9_findCuts_198 rfl rfl ?_
      refine am_iload (pc' := 201) dX9_findCuts_199 rfl rfl ?_
      rcases am_ite hF with ⟨z8, hF⟩ | ⟨z8, hF⟩
      · refine am_if_ne_f (pc' := 204) (tgt := 208) dX9_findCuts_201 rfl z8 rfl ?_
        refine am_iconst (v := (1 : Int32)) (pc' := 205) dX9_findCuts_204 rfl rfl ?_
        refine am_goto (pc' := 213) dX9_findCuts_205 rfl ?_
        exact am_weak [true, true, true, false, false, false, false, false] (w_X9_findCuts_213 (w_X9_findCuts_164 n) v0 v1 v2 v3 (1 : Int32) h7 hF)
      · refine am_if_ne_t (pc' := 208) dX9_findCuts_201 rfl z8 ?_
        refine am_iload (pc' := 210) dX9_findCuts_208 rfl rfl ?_
        refine am_bipush (v := (16 : Int32)) (pc' := 212) dX9_findCuts_210 rfl rfl ?_
        refine am_idiv (pc' := 213) dX9_findCuts_212 (by decide) rfl ?_
        exact am_weak [true, true, true, false, false, false, false, false] (w_X9_findCuts_213 (w_X9_findCuts_164 n) v0 v1 v2 v3 (x2 / (16 : Int32)) h7 hF)
def F_X9_findCuts_18 : Nat → Nat → Int32 → Int32 → Int32 → am_H → Option am_H
  | 0, _, _, _, _, _ => none
  | n + 1, v0, v1, v2, v3, h =>
  if v3 < 0 then
    (am_pi 9 22 v0 (0 : Int32) h).bind fun h2 =>
    F_X9_findCuts_164 am_F v0 v1 v2 (0 : Int32) h2
  else
    (am_gr 9 20 v0 h).bind fun x3 =>
    (am_il 0 x3 (v3 + (1 : Int32)) h).bind fun x4 =>
    F_X9_findCuts_37 (F_X9_findCuts_18 n) am_F v0 v1 v2 v3 ((5 : Int32) + x4) (2 : Int32) h
theorem w_X9_findCuts_18 {g : am_G} {l : Launch} {h0 : am_H} {hf : am_H}  : ∀ (n : Nat) (v0 : Nat) (v1 : Int32) (v2 : Int32) (v3 : Int32) (h : am_H), F_X9_findCuts_18 n v0 v1 v2 v3 h = some hf → am_W g l M_X9_findCuts h0 none hf 18 [some (.ref v0), some (.int v1), some (.int v2), some (.int v3), none, none, none, none] [] h
  | 0, _, _, _, _, _, hF => by cases hF
  | n + 1, v0, v1, v2, v3, h, hF => by
    rw [F_X9_findCuts_18] at hF
    refine am_iload_n (pc' := 19) dX9_findCuts_18 rfl rfl ?_
    rcases am_ite hF with ⟨z1, hF⟩ | ⟨z1, hF⟩
    · refine am_if_lt_t (pc' := 157) dX9_findCuts_19 rfl z1 ?_
      refine am_aload_n (pc' := 158) dX9_findCuts_157 rfl rfl ?_
      refine am_iconst (v := (0 : Int32)) (pc' := 159) dX9_findCuts_158 rfl rfl ?_
      obtain ⟨h2, eh2, hF⟩ := am_bind hF
      refine am_puti (pc' := 162) dX9_findCuts_159 fx_X9_198 eh2 rfl ?_
      refine am_iconst (v := (0 : Int32)) (pc' := 163) dX9_findCuts_162 rfl rfl ?_
      refine am_istore_n (ls' := [some (.ref v0), some (.int v1), some (.int v2), some (.int (0 : Int32)), none, none, none, none]) (pc' := 164) dX9_findCuts_163 (Nat.le_of_ble_eq_true rfl) rfl rfl ?_
      exact w_X9_findCuts_164 am_F v0 v1 v2 (0 : Int32) h2 hF
    · refine am_if_lt_f (pc' := 22) (tgt := 157) dX9_findCuts_19 rfl z1 rfl ?_
      refine am_iconst (v := (5 : Int32)) (pc' := 23) dX9_findCuts_22 rfl rfl ?_
      refine am_aload_n (pc' := 24) dX9_findCuts_23 rfl rfl ?_
      obtain ⟨x3, ex3, hF⟩ := am_bind hF
      refine am_getr (pc' := 27) dX9_findCuts_24 fw_X9_47 ex3 rfl ?_
      refine am_iload_n (pc' := 28) dX9_findCuts_27 rfl rfl ?_
      refine am_iconst (v := (1 : Int32)) (pc' := 29) dX9_findCuts_28 rfl rfl ?_
      refine am_iadd (pc' := 30) dX9_findCuts_29 rfl ?_
      obtain ⟨x4, ex4, hF⟩ := am_bind hF
      refine am_iald (pc' := 31) dX9_findCuts_30 ex4 rfl ?_
      refine am_iadd (pc' := 32) dX9_findCuts_31 rfl ?_
      refine am_istore (ls' := [some (.ref v0), some (.int v1), some (.int v2), some (.int v3), some (.int ((5 : Int32) + x4)), none, none, none]) (pc' := 34) dX9_findCuts_32 (Nat.le_of_ble_eq_true rfl) rfl rfl ?_
      refine am_iconst (v := (2 : Int32)) (pc' := 35) dX9_findCuts_34 rfl rfl ?_
      refine am_istore (ls' := [some (.ref v0), some (.int v1), some (.int v2), some (.int v3), some (.int ((5 : Int32) + x4)), some (.int (2 : Int32)), none, none]) (pc' := 37) dX9_findCuts_35 (Nat.le_of_ble_eq_true rfl) rfl rfl ?_
      exact w_X9_findCuts_37 (w_X9_findCuts_18 n) am_F v0 v1 v2 v3 ((5 : Int32) + x4) (2 : Int32) h hF
def F_X9_findCuts_b (v0 : Nat) (v1 : Int32) (h : am_H) : Option am_H :=
  (am_gr 9 3 v0 h).bind fun x1 =>
  (am_il 0 x1 v1 h).bind fun x2 =>
  (am_gr 9 20 v0 h).bind fun x3 =>
  (am_is 0 x3 x2 (0 : Int32) h).bind fun h4 =>
  F_X9_findCuts_18 am_F v0 v1 x2 (x2 - (1 : Int32)) h4
theorem w_X9_findCuts {g : am_G} {l : Launch} {h0 : am_H} {hf : am_H}  (v0 : Nat) (v1 : Int32) (h : am_H) (hF : F_X9_findCuts_b v0 v1 h = some hf) : am_W g l M_X9_findCuts h0 none hf 0 [some (.ref v0), some (.int v1), none, none, none, none, none, none] [] h := by
  unfold F_X9_findCuts_b at hF
  refine am_aload_n (pc' := 1) dX9_findCuts_0 rfl rfl ?_
  obtain ⟨x1, ex1, hF⟩ := am_bind hF
  refine am_getr (pc' := 4) dX9_findCuts_1 fw_X9_13 ex1 rfl ?_
  refine am_iload_n (pc' := 5) dX9_findCuts_4 rfl rfl ?_
  obtain ⟨x2, ex2, hF⟩ := am_bind hF
  refine am_iald (pc' := 6) dX9_findCuts_5 ex2 rfl ?_
  refine am_istore_n (ls' := [some (.ref v0), some (.int v1), some (.int x2), none, none, none, none, none]) (pc' := 7) dX9_findCuts_6 (Nat.le_of_ble_eq_true rfl) rfl rfl ?_
  refine am_aload_n (pc' := 8) dX9_findCuts_7 rfl rfl ?_
  obtain ⟨x3, ex3, hF⟩ := am_bind hF
  refine am_getr (pc' := 11) dX9_findCuts_8 fw_X9_47 ex3 rfl ?_
  refine am_iload_n (pc' := 12) dX9_findCuts_11 rfl rfl ?_
  refine am_iconst (v := (0 : Int32)) (pc' := 13) dX9_findCuts_12 rfl rfl ?_
  obtain ⟨h4, eh4, hF⟩ := am_bind hF
  refine am_iast (pc' := 14) dX9_findCuts_13 eh4 rfl ?_
  refine am_iload_n (pc' := 15) dX9_findCuts_14 rfl rfl ?_
  refine am_iconst (v := (1 : Int32)) (pc' := 16) dX9_findCuts_15 rfl rfl ?_
  refine am_isub (pc' := 17) dX9_findCuts_16 rfl ?_
  refine am_istore_n (ls' := [some (.ref v0), some (.int v1), some (.int x2), some (.int (x2 - (1 : Int32))), none, none, none, none]) (pc' := 18) dX9_findCuts_17 (Nat.le_of_ble_eq_true rfl) rfl rfl ?_
  exact w_X9_findCuts_18 am_F v0 v1 x2 (x2 - (1 : Int32)) h4 hF
def F_X9_findCuts (v0 : Nat) (v1 : Int32) (h : am_H) : Option am_H := (am_obj v0 9 h).bind fun _ => F_X9_findCuts_b v0 v1 h
theorem t_X9_findCuts {hf : am_H}  {v0 : Nat} {v1 : Int32} {h : am_H} (hF : F_X9_findCuts v0 v1 h = some hf) : ∃ fs, am_obj v0 9 h = some fs := by
  obtain ⟨fs, e, _⟩ := am_bind hF
  exact ⟨fs, e⟩
theorem c_X9_findCuts {g : am_G} {l : Launch} {hf : am_H}  {v0 : Nat} {v1 : Int32} {h : am_H} (hF : F_X9_findCuts v0 v1 h = some hf) : am_Met g l M_X9_findCuts [.ref v0, .int v1] h none hf := by
  obtain ⟨fs, e0, e⟩ := am_bind hF
  exact am_met (n := 6) (by decide +kernel) rfl (Nat.le_of_ble_eq_true rfl) (w_X9_findCuts v0 v1 h e)
