def am_F : Nat := 100000
abbrev M_J9_max_7cf53 : am_M := ((⟨"java/lang/Math", "max", "(II)I"⟩ : MethodName), prog_12_method_65_code, 2, (some .int), 0, 0)
theorem dJ9_max_7cf53_0 : decode prog_12_method_65_code 0 = .ok (.iload_n 0, 1) := by decide +kernel
theorem dJ9_max_7cf53_1 : decode prog_12_method_65_code 1 = .ok (.iload_n 1, 1) := by decide +kernel
theorem dJ9_max_7cf53_2 : decode prog_12_method_65_code 2 = .ok (.if_icmp .lt 7, 3) := by decide +kernel
theorem dJ9_max_7cf53_5 : decode prog_12_method_65_code 5 = .ok (.iload_n 0, 1) := by decide +kernel
theorem dJ9_max_7cf53_6 : decode prog_12_method_65_code 6 = .ok (.goto 4, 3) := by decide +kernel
theorem dJ9_max_7cf53_9 : decode prog_12_method_65_code 9 = .ok (.iload_n 1, 1) := by decide +kernel
theorem dJ9_max_7cf53_10 : decode prog_12_method_65_code 10 = .ok (.ireturn, 1) := by decide +kernel
abbrev M_X4_init : am_M := ((⟨"SignCellar$Row", "<init>", "(I)V"⟩ : MethodName), prog_6_method_1_code, 2, none, 1, 21)
theorem dX4_init_0 : decode prog_6_method_1_code 0 = .ok (.aload_n 0, 1) := by decide +kernel
theorem dX4_init_1 : decode prog_6_method_1_code 1 = .ok (.invokespecial 3, 3) := by decide +kernel
theorem dX4_init_4 : decode prog_6_method_1_code 4 = .ok (.aload_n 0, 1) := by decide +kernel
theorem dX4_init_5 : decode prog_6_method_1_code 5 = .ok (.iconst 0, 1) := by decide +kernel
theorem dX4_init_6 : decode prog_6_method_1_code 6 = .ok (.putfield 9, 3) := by decide +kernel
theorem dX4_init_9 : decode prog_6_method_1_code 9 = .ok (.aload_n 0, 1) := by decide +kernel
theorem dX4_init_10 : decode prog_6_method_1_code 10 = .ok (.iconst 0, 1) := by decide +kernel
theorem dX4_init_11 : decode prog_6_method_1_code 11 = .ok (.iload_n 1, 1) := by decide +kernel
theorem dX4_init_12 : decode prog_6_method_1_code 12 = .ok (.invokestatic 15, 3) := by decide +kernel
theorem dX4_init_15 : decode prog_6_method_1_code 15 = .ok (.newarray .int, 2) := by decide +kernel
theorem dX4_init_17 : decode prog_6_method_1_code 17 = .ok (.putfield 21, 3) := by decide +kernel
theorem dX4_init_20 : decode prog_6_method_1_code 20 = .ok (.return_, 1) := by decide +kernel
abbrev M_X2_init : am_M := ((⟨"SignCellar$Mates", "<init>", "()V"⟩ : MethodName), prog_4_method_1_code, 1, none, 2, 42)
theorem dX2_init_0 : decode prog_4_method_1_code 0 = .ok (.aload_n 0, 1) := by decide +kernel
theorem dX2_init_1 : decode prog_4_method_1_code 1 = .ok (.invokespecial 3, 3) := by decide +kernel
theorem dX2_init_4 : decode prog_4_method_1_code 4 = .ok (.aload_n 0, 1) := by decide +kernel
theorem dX2_init_5 : decode prog_4_method_1_code 5 = .ok (.bipush 25, 2) := by decide +kernel
theorem dX2_init_7 : decode prog_4_method_1_code 7 = .ok (.newarray .int, 2) := by decide +kernel
theorem dX2_init_9 : decode prog_4_method_1_code 9 = .ok (.putfield 9, 3) := by decide +kernel
theorem dX2_init_12 : decode prog_4_method_1_code 12 = .ok (.aload_n 0, 1) := by decide +kernel
theorem dX2_init_13 : decode prog_4_method_1_code 13 = .ok (.bipush 25, 2) := by decide +kernel
theorem dX2_init_15 : decode prog_4_method_1_code 15 = .ok (.newarray .int, 2) := by decide +kernel
theorem dX2_init_17 : decode prog_4_method_1_code 17 = .ok (.putfield 15, 3) := by decide +kernel
theorem dX2_init_20 : decode prog_4_method_1_code 20 = .ok (.aload_n 0, 1) := by decide +kernel
theorem dX2_init_21 : decode prog_4_method_1_code 21 = .ok (.bipush 10, 2) := by decide +kernel
theorem dX2_init_23 : decode prog_4_method_1_code 23 = .ok (.newarray .int, 2) := by decide +kernel
theorem dX2_init_25 : decode prog_4_method_1_code 25 = .ok (.putfield 18, 3) := by decide +kernel
theorem dX2_init_28 : decode prog_4_method_1_code 28 = .ok (.aload_n 0, 1) := by decide +kernel
theorem dX2_init_29 : decode prog_4_method_1_code 29 = .ok (.new 21, 3) := by decide +kernel
theorem dX2_init_32 : decode prog_4_method_1_code 32 = .ok (.dup, 1) := by decide +kernel
theorem dX2_init_33 : decode prog_4_method_1_code 33 = .ok (.bipush 24, 2) := by decide +kernel
theorem dX2_init_35 : decode prog_4_method_1_code 35 = .ok (.invokespecial 23, 3) := by decide +kernel
theorem dX2_init_38 : decode prog_4_method_1_code 38 = .ok (.putfield 26, 3) := by decide +kernel
theorem dX2_init_41 : decode prog_4_method_1_code 41 = .ok (.return_, 1) := by decide +kernel
abbrev M_X5_init : am_M := ((⟨"SignCellar$Rules", "<init>", "()V"⟩ : MethodName), prog_7_method_1_code, 2, none, 2, 42)
theorem dX5_init_0 : decode prog_7_method_1_code 0 = .ok (.aload_n 0, 1) := by decide +kernel
theorem dX5_init_1 : decode prog_7_method_1_code 1 = .ok (.invokespecial 3, 3) := by decide +kernel
theorem dX5_init_4 : decode prog_7_method_1_code 4 = .ok (.aload_n 0, 1) := by decide +kernel
theorem dX5_init_5 : decode prog_7_method_1_code 5 = .ok (.new 9, 3) := by decide +kernel
theorem dX5_init_8 : decode prog_7_method_1_code 8 = .ok (.dup, 1) := by decide +kernel
theorem dX5_init_9 : decode prog_7_method_1_code 9 = .ok (.bipush 24, 2) := by decide +kernel
theorem dX5_init_11 : decode prog_7_method_1_code 11 = .ok (.invokespecial 11, 3) := by decide +kernel
theorem dX5_init_14 : decode prog_7_method_1_code 14 = .ok (.putfield 14, 3) := by decide +kernel
theorem dX5_init_17 : decode prog_7_method_1_code 17 = .ok (.aload_n 0, 1) := by decide +kernel
theorem dX5_init_18 : decode prog_7_method_1_code 18 = .ok (.bipush 12, 2) := by decide +kernel
theorem dX5_init_20 : decode prog_7_method_1_code 20 = .ok (.anewarray 9, 3) := by decide +kernel
theorem dX5_init_23 : decode prog_7_method_1_code 23 = .ok (.putfield 20, 3) := by decide +kernel
theorem dX5_init_26 : decode prog_7_method_1_code 26 = .ok (.aload_n 0, 1) := by decide +kernel
theorem dX5_init_27 : decode prog_7_method_1_code 27 = .ok (.new 9, 3) := by decide +kernel
theorem dX5_init_30 : decode prog_7_method_1_code 30 = .ok (.dup, 1) := by decide +kernel
theorem dX5_init_31 : decode prog_7_method_1_code 31 = .ok (.bipush 24, 2) := by decide +kernel
theorem dX5_init_33 : decode prog_7_method_1_code 33 = .ok (.invokespecial 11, 3) := by decide +kernel
theorem dX5_init_36 : decode prog_7_method_1_code 36 = .ok (.putfield 24, 3) := by decide +kernel
theorem dX5_init_39 : decode prog_7_method_1_code 39 = .ok (.aload_n 0, 1) := by decide +kernel
theorem dX5_init_40 : decode prog_7_method_1_code 40 = .ok (.iconst 0, 1) := by decide +kernel
theorem dX5_init_41 : decode prog_7_method_1_code 41 = .ok (.putfield 27, 3) := by decide +kernel
theorem dX5_init_44 : decode prog_7_method_1_code 44 = .ok (.aload_n 0, 1) := by decide +kernel
theorem dX5_init_45 : decode prog_7_method_1_code 45 = .ok (.iconst (-1), 1) := by decide +kernel
theorem dX5_init_46 : decode prog_7_method_1_code 46 = .ok (.putfield 31, 3) := by decide +kernel
theorem dX5_init_49 : decode prog_7_method_1_code 49 = .ok (.aload_n 0, 1) := by decide +kernel
theorem dX5_init_50 : decode prog_7_method_1_code 50 = .ok (.iconst (-1), 1) := by decide +kernel
theorem dX5_init_51 : decode prog_7_method_1_code 51 = .ok (.putfield 34, 3) := by decide +kernel
theorem dX5_init_54 : decode prog_7_method_1_code 54 = .ok (.iconst 0, 1) := by decide +kernel
theorem dX5_init_55 : decode prog_7_method_1_code 55 = .ok (.istore_n 1, 1) := by decide +kernel
theorem dX5_init_56 : decode prog_7_method_1_code 56 = .ok (.iload_n 1, 1) := by decide +kernel
theorem dX5_init_57 : decode prog_7_method_1_code 57 = .ok (.aload_n 0, 1) := by decide +kernel
theorem dX5_init_58 : decode prog_7_method_1_code 58 = .ok (.getfield 20, 3) := by decide +kernel
theorem dX5_init_61 : decode prog_7_method_1_code 61 = .ok (.arraylength, 1) := by decide +kernel
theorem dX5_init_62 : decode prog_7_method_1_code 62 = .ok (.if_icmp .ge 24, 3) := by decide +kernel
theorem dX5_init_65 : decode prog_7_method_1_code 65 = .ok (.aload_n 0, 1) := by decide +kernel
theorem dX5_init_66 : decode prog_7_method_1_code 66 = .ok (.getfield 20, 3) := by decide +kernel
theorem dX5_init_69 : decode prog_7_method_1_code 69 = .ok (.iload_n 1, 1) := by decide +kernel
theorem dX5_init_70 : decode prog_7_method_1_code 70 = .ok (.new 9, 3) := by decide +kernel
theorem dX5_init_73 : decode prog_7_method_1_code 73 = .ok (.dup, 1) := by decide +kernel
theorem dX5_init_74 : decode prog_7_method_1_code 74 = .ok (.bipush 24, 2) := by decide +kernel
theorem dX5_init_76 : decode prog_7_method_1_code 76 = .ok (.invokespecial 11, 3) := by decide +kernel
theorem dX5_init_79 : decode prog_7_method_1_code 79 = .ok (.aastore, 1) := by decide +kernel
theorem dX5_init_80 : decode prog_7_method_1_code 80 = .ok (.iinc 1 1, 3) := by decide +kernel
theorem dX5_init_83 : decode prog_7_method_1_code 83 = .ok (.goto (-27), 3) := by decide +kernel
theorem dX5_init_86 : decode prog_7_method_1_code 86 = .ok (.return_, 1) := by decide +kernel
abbrev M_X3_init : am_M := ((⟨"SignCellar$Odds", "<init>", "()V"⟩ : MethodName), prog_5_method_1_code, 1, none, 2, 42)
theorem dX3_init_0 : decode prog_5_method_1_code 0 = .ok (.aload_n 0, 1) := by decide +kernel
theorem dX3_init_1 : decode prog_5_method_1_code 1 = .ok (.invokespecial 3, 3) := by decide +kernel
theorem dX3_init_4 : decode prog_5_method_1_code 4 = .ok (.aload_n 0, 1) := by decide +kernel
theorem dX3_init_5 : decode prog_5_method_1_code 5 = .ok (.bipush 16, 2) := by decide +kernel
theorem dX3_init_7 : decode prog_5_method_1_code 7 = .ok (.newarray .int, 2) := by decide +kernel
theorem dX3_init_9 : decode prog_5_method_1_code 9 = .ok (.putfield 9, 3) := by decide +kernel
theorem dX3_init_12 : decode prog_5_method_1_code 12 = .ok (.aload_n 0, 1) := by decide +kernel
theorem dX3_init_13 : decode prog_5_method_1_code 13 = .ok (.new 15, 3) := by decide +kernel
theorem dX3_init_16 : decode prog_5_method_1_code 16 = .ok (.dup, 1) := by decide +kernel
theorem dX3_init_17 : decode prog_5_method_1_code 17 = .ok (.sipush 256, 3) := by decide +kernel
theorem dX3_init_20 : decode prog_5_method_1_code 20 = .ok (.invokespecial 17, 3) := by decide +kernel
theorem dX3_init_23 : decode prog_5_method_1_code 23 = .ok (.putfield 20, 3) := by decide +kernel
theorem dX3_init_26 : decode prog_5_method_1_code 26 = .ok (.aload_n 0, 1) := by decide +kernel
theorem dX3_init_27 : decode prog_5_method_1_code 27 = .ok (.iconst 0, 1) := by decide +kernel
theorem dX3_init_28 : decode prog_5_method_1_code 28 = .ok (.putfield 24, 3) := by decide +kernel
theorem dX3_init_31 : decode prog_5_method_1_code 31 = .ok (.aload_n 0, 1) := by decide +kernel
theorem dX3_init_32 : decode prog_5_method_1_code 32 = .ok (.ldc 28, 2) := by decide +kernel
theorem dX3_init_34 : decode prog_5_method_1_code 34 = .ok (.putfield 29, 3) := by decide +kernel
theorem dX3_init_37 : decode prog_5_method_1_code 37 = .ok (.aload_n 0, 1) := by decide +kernel
theorem dX3_init_38 : decode prog_5_method_1_code 38 = .ok (.iconst 0, 1) := by decide +kernel
theorem dX3_init_39 : decode prog_5_method_1_code 39 = .ok (.putfield 32, 3) := by decide +kernel
theorem dX3_init_42 : decode prog_5_method_1_code 42 = .ok (.return_, 1) := by decide +kernel
abbrev M_X6_init : am_M := ((⟨"SignCellar$Turns", "<init>", "()V"⟩ : MethodName), prog_8_method_1_code, 1, none, 2, 42)
theorem dX6_init_0 : decode prog_8_method_1_code 0 = .ok (.aload_n 0, 1) := by decide +kernel
theorem dX6_init_1 : decode prog_8_method_1_code 1 = .ok (.invokespecial 3, 3) := by decide +kernel
theorem dX6_init_4 : decode prog_8_method_1_code 4 = .ok (.aload_n 0, 1) := by decide +kernel
theorem dX6_init_5 : decode prog_8_method_1_code 5 = .ok (.bipush 25, 2) := by decide +kernel
theorem dX6_init_7 : decode prog_8_method_1_code 7 = .ok (.newarray .int, 2) := by decide +kernel
theorem dX6_init_9 : decode prog_8_method_1_code 9 = .ok (.putfield 9, 3) := by decide +kernel
theorem dX6_init_12 : decode prog_8_method_1_code 12 = .ok (.aload_n 0, 1) := by decide +kernel
theorem dX6_init_13 : decode prog_8_method_1_code 13 = .ok (.bipush 16, 2) := by decide +kernel
theorem dX6_init_15 : decode prog_8_method_1_code 15 = .ok (.newarray .int, 2) := by decide +kernel
theorem dX6_init_17 : decode prog_8_method_1_code 17 = .ok (.putfield 15, 3) := by decide +kernel
theorem dX6_init_20 : decode prog_8_method_1_code 20 = .ok (.aload_n 0, 1) := by decide +kernel
theorem dX6_init_21 : decode prog_8_method_1_code 21 = .ok (.new 18, 3) := by decide +kernel
theorem dX6_init_24 : decode prog_8_method_1_code 24 = .ok (.dup, 1) := by decide +kernel
theorem dX6_init_25 : decode prog_8_method_1_code 25 = .ok (.bipush 24, 2) := by decide +kernel
theorem dX6_init_27 : decode prog_8_method_1_code 27 = .ok (.invokespecial 20, 3) := by decide +kernel
theorem dX6_init_30 : decode prog_8_method_1_code 30 = .ok (.putfield 23, 3) := by decide +kernel
theorem dX6_init_33 : decode prog_8_method_1_code 33 = .ok (.aload_n 0, 1) := by decide +kernel
theorem dX6_init_34 : decode prog_8_method_1_code 34 = .ok (.new 18, 3) := by decide +kernel
theorem dX6_init_37 : decode prog_8_method_1_code 37 = .ok (.dup, 1) := by decide +kernel
theorem dX6_init_38 : decode prog_8_method_1_code 38 = .ok (.bipush 24, 2) := by decide +kernel
theorem dX6_init_40 : decode prog_8_method_1_code 40 = .ok (.invokespecial 20, 3) := by decide +kernel
theorem dX6_init_43 : decode prog_8_method_1_code 43 = .ok (.putfield 27, 3) := by decide +kernel
theorem dX6_init_46 : decode prog_8_method_1_code 46 = .ok (.aload_n 0, 1) := by decide +kernel
theorem dX6_init_47 : decode prog_8_method_1_code 47 = .ok (.iconst (-1), 1) := by decide +kernel
theorem dX6_init_48 : decode prog_8_method_1_code 48 = .ok (.putfield 30, 3) := by decide +kernel
theorem dX6_init_51 : decode prog_8_method_1_code 51 = .ok (.return_, 1) := by decide +kernel
abbrev M_X1_init : am_M := ((⟨"SignCellar$Choice", "<init>", "()V"⟩ : MethodName), prog_3_method_1_code, 1, none, 2, 42)
theorem dX1_init_0 : decode prog_3_method_1_code 0 = .ok (.aload_n 0, 1) := by decide +kernel
theorem dX1_init_1 : decode prog_3_method_1_code 1 = .ok (.invokespecial 3, 3) := by decide +kernel
theorem dX1_init_4 : decode prog_3_method_1_code 4 = .ok (.aload_n 0, 1) := by decide +kernel
theorem dX1_init_5 : decode prog_3_method_1_code 5 = .ok (.new 9, 3) := by decide +kernel
theorem dX1_init_8 : decode prog_3_method_1_code 8 = .ok (.dup, 1) := by decide +kernel
theorem dX1_init_9 : decode prog_3_method_1_code 9 = .ok (.bipush 40, 2) := by decide +kernel
theorem dX1_init_11 : decode prog_3_method_1_code 11 = .ok (.invokespecial 11, 3) := by decide +kernel
theorem dX1_init_14 : decode prog_3_method_1_code 14 = .ok (.putfield 14, 3) := by decide +kernel
theorem dX1_init_17 : decode prog_3_method_1_code 17 = .ok (.aload_n 0, 1) := by decide +kernel
theorem dX1_init_18 : decode prog_3_method_1_code 18 = .ok (.new 9, 3) := by decide +kernel
theorem dX1_init_21 : decode prog_3_method_1_code 21 = .ok (.dup, 1) := by decide +kernel
theorem dX1_init_22 : decode prog_3_method_1_code 22 = .ok (.bipush 40, 2) := by decide +kernel
theorem dX1_init_24 : decode prog_3_method_1_code 24 = .ok (.invokespecial 11, 3) := by decide +kernel
theorem dX1_init_27 : decode prog_3_method_1_code 27 = .ok (.putfield 20, 3) := by decide +kernel
theorem dX1_init_30 : decode prog_3_method_1_code 30 = .ok (.aload_n 0, 1) := by decide +kernel
theorem dX1_init_31 : decode prog_3_method_1_code 31 = .ok (.bipush 9, 2) := by decide +kernel
theorem dX1_init_33 : decode prog_3_method_1_code 33 = .ok (.sipush 1153, 3) := by decide +kernel
theorem dX1_init_36 : decode prog_3_method_1_code 36 = .ok (.multianewarray 23 2, 4) := by decide +kernel
theorem dX1_init_40 : decode prog_3_method_1_code 40 = .ok (.putfield 25, 3) := by decide +kernel
theorem dX1_init_43 : decode prog_3_method_1_code 43 = .ok (.aload_n 0, 1) := by decide +kernel
theorem dX1_init_44 : decode prog_3_method_1_code 44 = .ok (.new 9, 3) := by decide +kernel
theorem dX1_init_47 : decode prog_3_method_1_code 47 = .ok (.dup, 1) := by decide +kernel
theorem dX1_init_48 : decode prog_3_method_1_code 48 = .ok (.bipush 8, 2) := by decide +kernel
theorem dX1_init_50 : decode prog_3_method_1_code 50 = .ok (.invokespecial 11, 3) := by decide +kernel
theorem dX1_init_53 : decode prog_3_method_1_code 53 = .ok (.putfield 28, 3) := by decide +kernel
theorem dX1_init_56 : decode prog_3_method_1_code 56 = .ok (.aload_n 0, 1) := by decide +kernel
theorem dX1_init_57 : decode prog_3_method_1_code 57 = .ok (.iconst 0, 1) := by decide +kernel
theorem dX1_init_58 : decode prog_3_method_1_code 58 = .ok (.putfield 31, 3) := by decide +kernel
theorem dX1_init_61 : decode prog_3_method_1_code 61 = .ok (.aload_n 0, 1) := by decide +kernel
theorem dX1_init_62 : decode prog_3_method_1_code 62 = .ok (.iconst 0, 1) := by decide +kernel
theorem dX1_init_63 : decode prog_3_method_1_code 63 = .ok (.putfield 35, 3) := by decide +kernel
theorem dX1_init_66 : decode prog_3_method_1_code 66 = .ok (.return_, 1) := by decide +kernel
abbrev M_X8_init : am_M := ((⟨"SignCellar", "<init>", "()V"⟩ : MethodName), prog_1_method_1_code, 1, none, 3, 63)
theorem dX8_init_0 : decode prog_1_method_1_code 0 = .ok (.aload_n 0, 1) := by decide +kernel
theorem dX8_init_1 : decode prog_1_method_1_code 1 = .ok (.invokespecial 1, 3) := by decide +kernel
theorem dX8_init_4 : decode prog_1_method_1_code 4 = .ok (.aload_n 0, 1) := by decide +kernel
theorem dX8_init_5 : decode prog_1_method_1_code 5 = .ok (.new 7, 3) := by decide +kernel
theorem dX8_init_8 : decode prog_1_method_1_code 8 = .ok (.dup, 1) := by decide +kernel
theorem dX8_init_9 : decode prog_1_method_1_code 9 = .ok (.bipush 96, 2) := by decide +kernel
theorem dX8_init_11 : decode prog_1_method_1_code 11 = .ok (.invokespecial 11, 3) := by decide +kernel
theorem dX8_init_14 : decode prog_1_method_1_code 14 = .ok (.putfield 14, 3) := by decide +kernel
theorem dX8_init_17 : decode prog_1_method_1_code 17 = .ok (.aload_n 0, 1) := by decide +kernel
theorem dX8_init_18 : decode prog_1_method_1_code 18 = .ok (.new 7, 3) := by decide +kernel
theorem dX8_init_21 : decode prog_1_method_1_code 21 = .ok (.dup, 1) := by decide +kernel
theorem dX8_init_22 : decode prog_1_method_1_code 22 = .ok (.bipush 12, 2) := by decide +kernel
theorem dX8_init_24 : decode prog_1_method_1_code 24 = .ok (.invokespecial 11, 3) := by decide +kernel
theorem dX8_init_27 : decode prog_1_method_1_code 27 = .ok (.putfield 18, 3) := by decide +kernel
theorem dX8_init_30 : decode prog_1_method_1_code 30 = .ok (.aload_n 0, 1) := by decide +kernel
theorem dX8_init_31 : decode prog_1_method_1_code 31 = .ok (.sipush 200, 3) := by decide +kernel
theorem dX8_init_34 : decode prog_1_method_1_code 34 = .ok (.anewarray 21, 3) := by decide +kernel
theorem dX8_init_37 : decode prog_1_method_1_code 37 = .ok (.putfield 23, 3) := by decide +kernel
theorem dX8_init_40 : decode prog_1_method_1_code 40 = .ok (.aload_n 0, 1) := by decide +kernel
theorem dX8_init_41 : decode prog_1_method_1_code 41 = .ok (.iconst 0, 1) := by decide +kernel
theorem dX8_init_42 : decode prog_1_method_1_code 42 = .ok (.putfield 27, 3) := by decide +kernel
theorem dX8_init_45 : decode prog_1_method_1_code 45 = .ok (.aload_n 0, 1) := by decide +kernel
theorem dX8_init_46 : decode prog_1_method_1_code 46 = .ok (.bipush 30, 2) := by decide +kernel
theorem dX8_init_48 : decode prog_1_method_1_code 48 = .ok (.anewarray 31, 3) := by decide +kernel
theorem dX8_init_51 : decode prog_1_method_1_code 51 = .ok (.putfield 33, 3) := by decide +kernel
theorem dX8_init_54 : decode prog_1_method_1_code 54 = .ok (.aload_n 0, 1) := by decide +kernel
theorem dX8_init_55 : decode prog_1_method_1_code 55 = .ok (.iconst 0, 1) := by decide +kernel
theorem dX8_init_56 : decode prog_1_method_1_code 56 = .ok (.putfield 37, 3) := by decide +kernel
theorem dX8_init_59 : decode prog_1_method_1_code 59 = .ok (.aload_n 0, 1) := by decide +kernel
theorem dX8_init_60 : decode prog_1_method_1_code 60 = .ok (.new 7, 3) := by decide +kernel
theorem dX8_init_63 : decode prog_1_method_1_code 63 = .ok (.dup, 1) := by decide +kernel
theorem dX8_init_64 : decode prog_1_method_1_code 64 = .ok (.bipush 8, 2) := by decide +kernel
theorem dX8_init_66 : decode prog_1_method_1_code 66 = .ok (.invokespecial 11, 3) := by decide +kernel
theorem dX8_init_69 : decode prog_1_method_1_code 69 = .ok (.putfield 40, 3) := by decide +kernel
theorem dX8_init_72 : decode prog_1_method_1_code 72 = .ok (.aload_n 0, 1) := by decide +kernel
theorem dX8_init_73 : decode prog_1_method_1_code 73 = .ok (.iconst 0, 1) := by decide +kernel
theorem dX8_init_74 : decode prog_1_method_1_code 74 = .ok (.putfield 43, 3) := by decide +kernel
theorem dX8_init_77 : decode prog_1_method_1_code 77 = .ok (.aload_n 0, 1) := by decide +kernel
theorem dX8_init_78 : decode prog_1_method_1_code 78 = .ok (.new 7, 3) := by decide +kernel
theorem dX8_init_81 : decode prog_1_method_1_code 81 = .ok (.dup, 1) := by decide +kernel
theorem dX8_init_82 : decode prog_1_method_1_code 82 = .ok (.bipush 25, 2) := by decide +kernel
theorem dX8_init_84 : decode prog_1_method_1_code 84 = .ok (.invokespecial 11, 3) := by decide +kernel
theorem dX8_init_87 : decode prog_1_method_1_code 87 = .ok (.putfield 46, 3) := by decide +kernel
theorem dX8_init_90 : decode prog_1_method_1_code 90 = .ok (.aload_n 0, 1) := by decide +kernel
theorem dX8_init_91 : decode prog_1_method_1_code 91 = .ok (.new 7, 3) := by decide +kernel
theorem dX8_init_94 : decode prog_1_method_1_code 94 = .ok (.dup, 1) := by decide +kernel
theorem dX8_init_95 : decode prog_1_method_1_code 95 = .ok (.sipush 192, 3) := by decide +kernel
theorem dX8_init_98 : decode prog_1_method_1_code 98 = .ok (.invokespecial 11, 3) := by decide +kernel
theorem dX8_init_101 : decode prog_1_method_1_code 101 = .ok (.putfield 49, 3) := by decide +kernel
theorem dX8_init_104 : decode prog_1_method_1_code 104 = .ok (.aload_n 0, 1) := by decide +kernel
theorem dX8_init_105 : decode prog_1_method_1_code 105 = .ok (.bipush 9, 2) := by decide +kernel
theorem dX8_init_107 : decode prog_1_method_1_code 107 = .ok (.bipush 9, 2) := by decide +kernel
theorem dX8_init_109 : decode prog_1_method_1_code 109 = .ok (.multianewarray 52 2, 4) := by decide +kernel
theorem dX8_init_113 : decode prog_1_method_1_code 113 = .ok (.putfield 54, 3) := by decide +kernel
theorem dX8_init_116 : decode prog_1_method_1_code 116 = .ok (.aload_n 0, 1) := by decide +kernel
theorem dX8_init_117 : decode prog_1_method_1_code 117 = .ok (.new 57, 3) := by decide +kernel
theorem dX8_init_120 : decode prog_1_method_1_code 120 = .ok (.dup, 1) := by decide +kernel
theorem dX8_init_121 : decode prog_1_method_1_code 121 = .ok (.invokespecial 59, 3) := by decide +kernel
theorem dX8_init_124 : decode prog_1_method_1_code 124 = .ok (.putfield 60, 3) := by decide +kernel
theorem dX8_init_127 : decode prog_1_method_1_code 127 = .ok (.aload_n 0, 1) := by decide +kernel
theorem dX8_init_128 : decode prog_1_method_1_code 128 = .ok (.new 64, 3) := by decide +kernel
theorem dX8_init_131 : decode prog_1_method_1_code 131 = .ok (.dup, 1) := by decide +kernel
theorem dX8_init_132 : decode prog_1_method_1_code 132 = .ok (.invokespecial 66, 3) := by decide +kernel
theorem dX8_init_135 : decode prog_1_method_1_code 135 = .ok (.putfield 67, 3) := by decide +kernel
theorem dX8_init_138 : decode prog_1_method_1_code 138 = .ok (.aload_n 0, 1) := by decide +kernel
theorem dX8_init_139 : decode prog_1_method_1_code 139 = .ok (.new 71, 3) := by decide +kernel
theorem dX8_init_142 : decode prog_1_method_1_code 142 = .ok (.dup, 1) := by decide +kernel
theorem dX8_init_143 : decode prog_1_method_1_code 143 = .ok (.invokespecial 73, 3) := by decide +kernel
theorem dX8_init_146 : decode prog_1_method_1_code 146 = .ok (.putfield 74, 3) := by decide +kernel
theorem dX8_init_149 : decode prog_1_method_1_code 149 = .ok (.aload_n 0, 1) := by decide +kernel
theorem dX8_init_150 : decode prog_1_method_1_code 150 = .ok (.new 78, 3) := by decide +kernel
theorem dX8_init_153 : decode prog_1_method_1_code 153 = .ok (.dup, 1) := by decide +kernel
theorem dX8_init_154 : decode prog_1_method_1_code 154 = .ok (.invokespecial 80, 3) := by decide +kernel
theorem dX8_init_157 : decode prog_1_method_1_code 157 = .ok (.putfield 81, 3) := by decide +kernel
theorem dX8_init_160 : decode prog_1_method_1_code 160 = .ok (.aload_n 0, 1) := by decide +kernel
theorem dX8_init_161 : decode prog_1_method_1_code 161 = .ok (.new 85, 3) := by decide +kernel
theorem dX8_init_164 : decode prog_1_method_1_code 164 = .ok (.dup, 1) := by decide +kernel
theorem dX8_init_165 : decode prog_1_method_1_code 165 = .ok (.invokespecial 87, 3) := by decide +kernel
theorem dX8_init_168 : decode prog_1_method_1_code 168 = .ok (.putfield 88, 3) := by decide +kernel
theorem dX8_init_171 : decode prog_1_method_1_code 171 = .ok (.return_, 1) := by decide +kernel
abbrev M_X9_init : am_M := ((⟨"SignCellarModel", "<init>", "()V"⟩ : MethodName), prog_11_method_1_code, 1, none, 1, 20)
theorem dX9_init_0 : decode prog_11_method_1_code 0 = .ok (.aload_n 0, 1) := by decide +kernel
theorem dX9_init_1 : decode prog_11_method_1_code 1 = .ok (.invokespecial 1, 3) := by decide +kernel
theorem dX9_init_4 : decode prog_11_method_1_code 4 = .ok (.aload_n 0, 1) := by decide +kernel
theorem dX9_init_5 : decode prog_11_method_1_code 5 = .ok (.bipush 96, 2) := by decide +kernel
theorem dX9_init_7 : decode prog_11_method_1_code 7 = .ok (.newarray .int, 2) := by decide +kernel
theorem dX9_init_9 : decode prog_11_method_1_code 9 = .ok (.putfield 7, 3) := by decide +kernel
theorem dX9_init_12 : decode prog_11_method_1_code 12 = .ok (.aload_n 0, 1) := by decide +kernel
theorem dX9_init_13 : decode prog_11_method_1_code 13 = .ok (.sipush 200, 3) := by decide +kernel
theorem dX9_init_16 : decode prog_11_method_1_code 16 = .ok (.newarray .int, 2) := by decide +kernel
theorem dX9_init_18 : decode prog_11_method_1_code 18 = .ok (.putfield 13, 3) := by decide +kernel
theorem dX9_init_21 : decode prog_11_method_1_code 21 = .ok (.aload_n 0, 1) := by decide +kernel
theorem dX9_init_22 : decode prog_11_method_1_code 22 = .ok (.sipush 4800, 3) := by decide +kernel
theorem dX9_init_25 : decode prog_11_method_1_code 25 = .ok (.newarray .int, 2) := by decide +kernel
theorem dX9_init_27 : decode prog_11_method_1_code 27 = .ok (.putfield 16, 3) := by decide +kernel
theorem dX9_init_30 : decode prog_11_method_1_code 30 = .ok (.aload_n 0, 1) := by decide +kernel
theorem dX9_init_31 : decode prog_11_method_1_code 31 = .ok (.sipush 200, 3) := by decide +kernel
theorem dX9_init_34 : decode prog_11_method_1_code 34 = .ok (.newarray .boolean, 2) := by decide +kernel
theorem dX9_init_36 : decode prog_11_method_1_code 36 = .ok (.putfield 19, 3) := by decide +kernel
theorem dX9_init_39 : decode prog_11_method_1_code 39 = .ok (.aload_n 0, 1) := by decide +kernel
theorem dX9_init_40 : decode prog_11_method_1_code 40 = .ok (.bipush 30, 2) := by decide +kernel
theorem dX9_init_42 : decode prog_11_method_1_code 42 = .ok (.newarray .int, 2) := by decide +kernel
theorem dX9_init_44 : decode prog_11_method_1_code 44 = .ok (.putfield 23, 3) := by decide +kernel
theorem dX9_init_47 : decode prog_11_method_1_code 47 = .ok (.aload_n 0, 1) := by decide +kernel
theorem dX9_init_48 : decode prog_11_method_1_code 48 = .ok (.sipush 240, 3) := by decide +kernel
theorem dX9_init_51 : decode prog_11_method_1_code 51 = .ok (.newarray .int, 2) := by decide +kernel
theorem dX9_init_53 : decode prog_11_method_1_code 53 = .ok (.putfield 26, 3) := by decide +kernel
theorem dX9_init_56 : decode prog_11_method_1_code 56 = .ok (.aload_n 0, 1) := by decide +kernel
theorem dX9_init_57 : decode prog_11_method_1_code 57 = .ok (.bipush 30, 2) := by decide +kernel
theorem dX9_init_59 : decode prog_11_method_1_code 59 = .ok (.newarray .int, 2) := by decide +kernel
theorem dX9_init_61 : decode prog_11_method_1_code 61 = .ok (.putfield 29, 3) := by decide +kernel
theorem dX9_init_64 : decode prog_11_method_1_code 64 = .ok (.aload_n 0, 1) := by decide +kernel
theorem dX9_init_65 : decode prog_11_method_1_code 65 = .ok (.bipush 30, 2) := by decide +kernel
theorem dX9_init_67 : decode prog_11_method_1_code 67 = .ok (.newarray .int, 2) := by decide +kernel
theorem dX9_init_69 : decode prog_11_method_1_code 69 = .ok (.putfield 32, 3) := by decide +kernel
theorem dX9_init_72 : decode prog_11_method_1_code 72 = .ok (.aload_n 0, 1) := by decide +kernel
theorem dX9_init_73 : decode prog_11_method_1_code 73 = .ok (.sipush 720, 3) := by decide +kernel
theorem dX9_init_76 : decode prog_11_method_1_code 76 = .ok (.newarray .int, 2) := by decide +kernel
theorem dX9_init_78 : decode prog_11_method_1_code 78 = .ok (.putfield 35, 3) := by decide +kernel
theorem dX9_init_81 : decode prog_11_method_1_code 81 = .ok (.aload_n 0, 1) := by decide +kernel
theorem dX9_init_82 : decode prog_11_method_1_code 82 = .ok (.sipush 720, 3) := by decide +kernel
theorem dX9_init_85 : decode prog_11_method_1_code 85 = .ok (.newarray .int, 2) := by decide +kernel
theorem dX9_init_87 : decode prog_11_method_1_code 87 = .ok (.putfield 38, 3) := by decide +kernel
theorem dX9_init_90 : decode prog_11_method_1_code 90 = .ok (.aload_n 0, 1) := by decide +kernel
theorem dX9_init_91 : decode prog_11_method_1_code 91 = .ok (.bipush 25, 2) := by decide +kernel
theorem dX9_init_93 : decode prog_11_method_1_code 93 = .ok (.newarray .int, 2) := by decide +kernel
theorem dX9_init_95 : decode prog_11_method_1_code 95 = .ok (.putfield 41, 3) := by decide +kernel
theorem dX9_init_98 : decode prog_11_method_1_code 98 = .ok (.aload_n 0, 1) := by decide +kernel
theorem dX9_init_99 : decode prog_11_method_1_code 99 = .ok (.bipush 9, 2) := by decide +kernel
theorem dX9_init_101 : decode prog_11_method_1_code 101 = .ok (.newarray .int, 2) := by decide +kernel
theorem dX9_init_103 : decode prog_11_method_1_code 103 = .ok (.putfield 44, 3) := by decide +kernel
theorem dX9_init_106 : decode prog_11_method_1_code 106 = .ok (.aload_n 0, 1) := by decide +kernel
theorem dX9_init_107 : decode prog_11_method_1_code 107 = .ok (.bipush 25, 2) := by decide +kernel
theorem dX9_init_109 : decode prog_11_method_1_code 109 = .ok (.newarray .int, 2) := by decide +kernel
theorem dX9_init_111 : decode prog_11_method_1_code 111 = .ok (.putfield 47, 3) := by decide +kernel
theorem dX9_init_114 : decode prog_11_method_1_code 114 = .ok (.aload_n 0, 1) := by decide +kernel
theorem dX9_init_115 : decode prog_11_method_1_code 115 = .ok (.bipush 24, 2) := by decide +kernel
theorem dX9_init_117 : decode prog_11_method_1_code 117 = .ok (.newarray .int, 2) := by decide +kernel
theorem dX9_init_119 : decode prog_11_method_1_code 119 = .ok (.putfield 50, 3) := by decide +kernel
theorem dX9_init_122 : decode prog_11_method_1_code 122 = .ok (.aload_n 0, 1) := by decide +kernel
theorem dX9_init_123 : decode prog_11_method_1_code 123 = .ok (.bipush 24, 2) := by decide +kernel
theorem dX9_init_125 : decode prog_11_method_1_code 125 = .ok (.newarray .int, 2) := by decide +kernel
theorem dX9_init_127 : decode prog_11_method_1_code 127 = .ok (.putfield 53, 3) := by decide +kernel
theorem dX9_init_130 : decode prog_11_method_1_code 130 = .ok (.aload_n 0, 1) := by decide +kernel
theorem dX9_init_131 : decode prog_11_method_1_code 131 = .ok (.bipush 24, 2) := by decide +kernel
theorem dX9_init_133 : decode prog_11_method_1_code 133 = .ok (.newarray .int, 2) := by decide +kernel
theorem dX9_init_135 : decode prog_11_method_1_code 135 = .ok (.putfield 56, 3) := by decide +kernel
theorem dX9_init_138 : decode prog_11_method_1_code 138 = .ok (.aload_n 0, 1) := by decide +kernel
theorem dX9_init_139 : decode prog_11_method_1_code 139 = .ok (.sipush 576, 3) := by decide +kernel
theorem dX9_init_142 : decode prog_11_method_1_code 142 = .ok (.newarray .int, 2) := by decide +kernel
theorem dX9_init_144 : decode prog_11_method_1_code 144 = .ok (.putfield 59, 3) := by decide +kernel
theorem dX9_init_147 : decode prog_11_method_1_code 147 = .ok (.aload_n 0, 1) := by decide +kernel
theorem dX9_init_148 : decode prog_11_method_1_code 148 = .ok (.sipush 400, 3) := by decide +kernel
theorem dX9_init_151 : decode prog_11_method_1_code 151 = .ok (.newarray .int, 2) := by decide +kernel
theorem dX9_init_153 : decode prog_11_method_1_code 153 = .ok (.putfield 62, 3) := by decide +kernel
theorem dX9_init_156 : decode prog_11_method_1_code 156 = .ok (.aload_n 0, 1) := by decide +kernel
theorem dX9_init_157 : decode prog_11_method_1_code 157 = .ok (.bipush 25, 2) := by decide +kernel
theorem dX9_init_159 : decode prog_11_method_1_code 159 = .ok (.newarray .int, 2) := by decide +kernel
theorem dX9_init_161 : decode prog_11_method_1_code 161 = .ok (.putfield 65, 3) := by decide +kernel
theorem dX9_init_164 : decode prog_11_method_1_code 164 = .ok (.aload_n 0, 1) := by decide +kernel
theorem dX9_init_165 : decode prog_11_method_1_code 165 = .ok (.bipush 24, 2) := by decide +kernel
theorem dX9_init_167 : decode prog_11_method_1_code 167 = .ok (.newarray .int, 2) := by decide +kernel
theorem dX9_init_169 : decode prog_11_method_1_code 169 = .ok (.putfield 68, 3) := by decide +kernel
theorem dX9_init_172 : decode prog_11_method_1_code 172 = .ok (.aload_n 0, 1) := by decide +kernel
theorem dX9_init_173 : decode prog_11_method_1_code 173 = .ok (.bipush 24, 2) := by decide +kernel
theorem dX9_init_175 : decode prog_11_method_1_code 175 = .ok (.newarray .int, 2) := by decide +kernel
theorem dX9_init_177 : decode prog_11_method_1_code 177 = .ok (.putfield 71, 3) := by decide +kernel
theorem dX9_init_180 : decode prog_11_method_1_code 180 = .ok (.aload_n 0, 1) := by decide +kernel
theorem dX9_init_181 : decode prog_11_method_1_code 181 = .ok (.bipush 16, 2) := by decide +kernel
theorem dX9_init_183 : decode prog_11_method_1_code 183 = .ok (.newarray .int, 2) := by decide +kernel
theorem dX9_init_185 : decode prog_11_method_1_code 185 = .ok (.putfield 74, 3) := by decide +kernel
theorem dX9_init_188 : decode prog_11_method_1_code 188 = .ok (.aload_n 0, 1) := by decide +kernel
theorem dX9_init_189 : decode prog_11_method_1_code 189 = .ok (.sipush 10809, 3) := by decide +kernel
theorem dX9_init_192 : decode prog_11_method_1_code 192 = .ok (.newarray .int, 2) := by decide +kernel
theorem dX9_init_194 : decode prog_11_method_1_code 194 = .ok (.putfield 77, 3) := by decide +kernel
theorem dX9_init_197 : decode prog_11_method_1_code 197 = .ok (.aload_n 0, 1) := by decide +kernel
theorem dX9_init_198 : decode prog_11_method_1_code 198 = .ok (.bipush 40, 2) := by decide +kernel
theorem dX9_init_200 : decode prog_11_method_1_code 200 = .ok (.newarray .int, 2) := by decide +kernel
theorem dX9_init_202 : decode prog_11_method_1_code 202 = .ok (.putfield 80, 3) := by decide +kernel
theorem dX9_init_205 : decode prog_11_method_1_code 205 = .ok (.aload_n 0, 1) := by decide +kernel
theorem dX9_init_206 : decode prog_11_method_1_code 206 = .ok (.bipush 40, 2) := by decide +kernel
theorem dX9_init_208 : decode prog_11_method_1_code 208 = .ok (.newarray .int, 2) := by decide +kernel
theorem dX9_init_210 : decode prog_11_method_1_code 210 = .ok (.putfield 83, 3) := by decide +kernel
theorem dX9_init_213 : decode prog_11_method_1_code 213 = .ok (.aload_n 0, 1) := by decide +kernel
theorem dX9_init_214 : decode prog_11_method_1_code 214 = .ok (.bipush 12, 2) := by decide +kernel
theorem dX9_init_216 : decode prog_11_method_1_code 216 = .ok (.newarray .int, 2) := by decide +kernel
theorem dX9_init_218 : decode prog_11_method_1_code 218 = .ok (.putfield 86, 3) := by decide +kernel
theorem dX9_init_221 : decode prog_11_method_1_code 221 = .ok (.aload_n 0, 1) := by decide +kernel
theorem dX9_init_222 : decode prog_11_method_1_code 222 = .ok (.bipush 81, 2) := by decide +kernel
theorem dX9_init_224 : decode prog_11_method_1_code 224 = .ok (.newarray .int, 2) := by decide +kernel
theorem dX9_init_226 : decode prog_11_method_1_code 226 = .ok (.putfield 89, 3) := by decide +kernel
theorem dX9_init_229 : decode prog_11_method_1_code 229 = .ok (.return_, 1) := by decide +kernel
abbrev M_X4_length : am_M := ((⟨"SignCellar$Row", "length", "()I"⟩ : MethodName), prog_6_method_2_code, 1, (some .int), 0, 0)
theorem dX4_length_0 : decode prog_6_method_2_code 0 = .ok (.aload_n 0, 1) := by decide +kernel
theorem dX4_length_1 : decode prog_6_method_2_code 1 = .ok (.getfield 9, 3) := by decide +kernel
theorem dX4_length_4 : decode prog_6_method_2_code 4 = .ok (.ireturn, 1) := by decide +kernel
abbrev M_X4_add : am_M := ((⟨"SignCellar$Row", "add", "(I)V"⟩ : MethodName), prog_6_method_5_code, 2, none, 0, 0)
theorem dX4_add_0 : decode prog_6_method_5_code 0 = .ok (.aload_n 0, 1) := by decide +kernel
theorem dX4_add_1 : decode prog_6_method_5_code 1 = .ok (.getfield 9, 3) := by decide +kernel
theorem dX4_add_4 : decode prog_6_method_5_code 4 = .ok (.ifCond .lt 35, 3) := by decide +kernel
theorem dX4_add_7 : decode prog_6_method_5_code 7 = .ok (.aload_n 0, 1) := by decide +kernel
theorem dX4_add_8 : decode prog_6_method_5_code 8 = .ok (.getfield 9, 3) := by decide +kernel
theorem dX4_add_11 : decode prog_6_method_5_code 11 = .ok (.aload_n 0, 1) := by decide +kernel
theorem dX4_add_12 : decode prog_6_method_5_code 12 = .ok (.getfield 21, 3) := by decide +kernel
theorem dX4_add_15 : decode prog_6_method_5_code 15 = .ok (.arraylength, 1) := by decide +kernel
theorem dX4_add_16 : decode prog_6_method_5_code 16 = .ok (.if_icmp .ge 23, 3) := by decide +kernel
theorem dX4_add_19 : decode prog_6_method_5_code 19 = .ok (.aload_n 0, 1) := by decide +kernel
theorem dX4_add_20 : decode prog_6_method_5_code 20 = .ok (.getfield 21, 3) := by decide +kernel
theorem dX4_add_23 : decode prog_6_method_5_code 23 = .ok (.aload_n 0, 1) := by decide +kernel
theorem dX4_add_24 : decode prog_6_method_5_code 24 = .ok (.getfield 9, 3) := by decide +kernel
theorem dX4_add_27 : decode prog_6_method_5_code 27 = .ok (.iload_n 1, 1) := by decide +kernel
theorem dX4_add_28 : decode prog_6_method_5_code 28 = .ok (.iastore, 1) := by decide +kernel
theorem dX4_add_29 : decode prog_6_method_5_code 29 = .ok (.aload_n 0, 1) := by decide +kernel
theorem dX4_add_30 : decode prog_6_method_5_code 30 = .ok (.dup, 1) := by decide +kernel
theorem dX4_add_31 : decode prog_6_method_5_code 31 = .ok (.getfield 9, 3) := by decide +kernel
theorem dX4_add_34 : decode prog_6_method_5_code 34 = .ok (.iconst 1, 1) := by decide +kernel
theorem dX4_add_35 : decode prog_6_method_5_code 35 = .ok (.iadd, 1) := by decide +kernel
theorem dX4_add_36 : decode prog_6_method_5_code 36 = .ok (.putfield 9, 3) := by decide +kernel
theorem dX4_add_39 : decode prog_6_method_5_code 39 = .ok (.return_, 1) := by decide +kernel
abbrev M_X8_feed : am_M := ((⟨"SignCellar", "feed", "(IJ)I"⟩ : MethodName), prog_1_method_2_code, 5, (some .int), 1, 21)
theorem dX8_feed_0 : decode prog_1_method_2_code 0 = .ok (.iload_n 1, 1) := by decide +kernel
theorem dX8_feed_1 : decode prog_1_method_2_code 1 = .ok (.iconst 1, 1) := by decide +kernel
theorem dX8_feed_2 : decode prog_1_method_2_code 2 = .ok (.if_icmp .lt 9, 3) := by decide +kernel
theorem dX8_feed_5 : decode prog_1_method_2_code 5 = .ok (.iload_n 1, 1) := by decide +kernel
theorem dX8_feed_6 : decode prog_1_method_2_code 6 = .ok (.bipush 15, 2) := by decide +kernel
theorem dX8_feed_8 : decode prog_1_method_2_code 8 = .ok (.if_icmp .le 6, 3) := by decide +kernel
theorem dX8_feed_11 : decode prog_1_method_2_code 11 = .ok (.ldc 92, 2) := by decide +kernel
theorem dX8_feed_13 : decode prog_1_method_2_code 13 = .ok (.ireturn, 1) := by decide +kernel
theorem dX8_feed_14 : decode prog_1_method_2_code 14 = .ok (.aload_n 0, 1) := by decide +kernel
theorem dX8_feed_15 : decode prog_1_method_2_code 15 = .ok (.getfield 14, 3) := by decide +kernel
theorem dX8_feed_18 : decode prog_1_method_2_code 18 = .ok (.invokevirtual 93, 3) := by decide +kernel
theorem dX8_feed_21 : decode prog_1_method_2_code 21 = .ok (.iload_n 1, 1) := by decide +kernel
theorem dX8_feed_22 : decode prog_1_method_2_code 22 = .ok (.iadd, 1) := by decide +kernel
theorem dX8_feed_23 : decode prog_1_method_2_code 23 = .ok (.bipush 96, 2) := by decide +kernel
theorem dX8_feed_25 : decode prog_1_method_2_code 25 = .ok (.if_icmp .le 6, 3) := by decide +kernel
theorem dX8_feed_28 : decode prog_1_method_2_code 28 = .ok (.ldc 97, 2) := by decide +kernel
theorem dX8_feed_30 : decode prog_1_method_2_code 30 = .ok (.ireturn, 1) := by decide +kernel
theorem dX8_feed_31 : decode prog_1_method_2_code 31 = .ok (.iload_n 1, 1) := by decide +kernel
theorem dX8_feed_32 : decode prog_1_method_2_code 32 = .ok (.iconst 1, 1) := by decide +kernel
theorem dX8_feed_33 : decode prog_1_method_2_code 33 = .ok (.isub, 1) := by decide +kernel
theorem dX8_feed_34 : decode prog_1_method_2_code 34 = .ok (.istore 4, 2) := by decide +kernel
theorem dX8_feed_36 : decode prog_1_method_2_code 36 = .ok (.iload 4, 2) := by decide +kernel
theorem dX8_feed_38 : decode prog_1_method_2_code 38 = .ok (.ifCond .lt 26, 3) := by decide +kernel
theorem dX8_feed_41 : decode prog_1_method_2_code 41 = .ok (.aload_n 0, 1) := by decide +kernel
theorem dX8_feed_42 : decode prog_1_method_2_code 42 = .ok (.getfield 14, 3) := by decide +kernel
theorem dX8_feed_45 : decode prog_1_method_2_code 45 = .ok (.lload_n 2, 1) := by decide +kernel
theorem dX8_feed_46 : decode prog_1_method_2_code 46 = .ok (.iconst 4, 1) := by decide +kernel
theorem dX8_feed_47 : decode prog_1_method_2_code 47 = .ok (.iload 4, 2) := by decide +kernel
theorem dX8_feed_49 : decode prog_1_method_2_code 49 = .ok (.imul, 1) := by decide +kernel
theorem dX8_feed_50 : decode prog_1_method_2_code 50 = .ok (.lshr, 1) := by decide +kernel
theorem dX8_feed_51 : decode prog_1_method_2_code 51 = .ok (.l2i, 1) := by decide +kernel
theorem dX8_feed_52 : decode prog_1_method_2_code 52 = .ok (.bipush 15, 2) := by decide +kernel
theorem dX8_feed_54 : decode prog_1_method_2_code 54 = .ok (.iand, 1) := by decide +kernel
theorem dX8_feed_55 : decode prog_1_method_2_code 55 = .ok (.invokevirtual 98, 3) := by decide +kernel
theorem dX8_feed_58 : decode prog_1_method_2_code 58 = .ok (.iinc 4 (-1), 3) := by decide +kernel
theorem dX8_feed_61 : decode prog_1_method_2_code 61 = .ok (.goto (-25), 3) := by decide +kernel
theorem dX8_feed_64 : decode prog_1_method_2_code 64 = .ok (.aload_n 0, 1) := by decide +kernel
theorem dX8_feed_65 : decode prog_1_method_2_code 65 = .ok (.getfield 14, 3) := by decide +kernel
theorem dX8_feed_68 : decode prog_1_method_2_code 68 = .ok (.invokevirtual 93, 3) := by decide +kernel
theorem dX8_feed_71 : decode prog_1_method_2_code 71 = .ok (.ireturn, 1) := by decide +kernel
abbrev M_X9_in : am_M := ((⟨"SignCellarModel", "in", "(JJJ)Z"⟩ : MethodName), prog_11_method_3_code, 6, (some .boolean), 0, 0)
theorem dX9_in_0 : decode prog_11_method_3_code 0 = .ok (.lload_n 0, 1) := by decide +kernel
theorem dX9_in_1 : decode prog_11_method_3_code 1 = .ok (.lload_n 2, 1) := by decide +kernel
theorem dX9_in_2 : decode prog_11_method_3_code 2 = .ok (.lcmp, 1) := by decide +kernel
theorem dX9_in_3 : decode prog_11_method_3_code 3 = .ok (.ifCond .lt 14, 3) := by decide +kernel
theorem dX9_in_6 : decode prog_11_method_3_code 6 = .ok (.lload_n 0, 1) := by decide +kernel
theorem dX9_in_7 : decode prog_11_method_3_code 7 = .ok (.lload 4, 2) := by decide +kernel
theorem dX9_in_9 : decode prog_11_method_3_code 9 = .ok (.lcmp, 1) := by decide +kernel
theorem dX9_in_10 : decode prog_11_method_3_code 10 = .ok (.ifCond .gt 7, 3) := by decide +kernel
theorem dX9_in_13 : decode prog_11_method_3_code 13 = .ok (.iconst 1, 1) := by decide +kernel
theorem dX9_in_14 : decode prog_11_method_3_code 14 = .ok (.goto 4, 3) := by decide +kernel
theorem dX9_in_17 : decode prog_11_method_3_code 17 = .ok (.iconst 0, 1) := by decide +kernel
theorem dX9_in_18 : decode prog_11_method_3_code 18 = .ok (.ireturn, 1) := by decide +kernel
def F_J9_max_7cf53_10 (s0 : Int32) (h : am_H) : Option Int32 :=
  some s0
theorem w_J9_max_7cf53_10 {g : am_G} {l : Launch} {h0 : am_H} {x : Int32}  (s0 : Int32) (h : am_H) (hF : F_J9_max_7cf53_10 s0 h = some x) : am_W g l M_J9_max_7cf53 h0 (some (.int x)) h 10 [none, none] [.int s0] h := by
  unfold F_J9_max_7cf53_10 at hF
  cases hF
  exact am_iret dJ9_max_7cf53_10 rfl rfl
def F_J9_max_7cf53_b (v0 : Int32) (v1 : Int32) (h : am_H) : Option Int32 :=
  if v0 < v1 then
    F_J9_max_7cf53_10 v1 h
  else
    F_J9_max_7cf53_10 v0 h
theorem w_J9_max_7cf53 {g : am_G} {l : Launch} {h0 : am_H} {x : Int32}  (v0 : Int32) (v1 : Int32) (h : am_H) (hF : F_J9_max_7cf53_b v0 v1 h = some x) : am_W g l M_J9_max_7cf53 h0 (some (.int x)) h 0 [some (.int v0), some (.int v1)] [] h := by
  unfold F_J9_max_7cf53_b at hF
  refine am_iload_n (pc' := 1) dJ9_max_7cf53_0 rfl rfl ?_
  refine am_iload_n (pc' := 2) dJ9_max_7cf53_1 rfl rfl ?_
  rcases am_ite hF with ⟨z1, hF⟩ | ⟨z1, hF⟩
  · refine am_icmp_lt_t (pc' := 9) dJ9_max_7cf53_2 rfl z1 ?_
    refine am_iload_n (pc' := 10) dJ9_max_7cf53_9 rfl rfl ?_
    exact am_weak [false, false] (w_J9_max_7cf53_10 v1 h hF)
  · refine am_icmp_lt_f (pc' := 5) (tgt := 9) dJ9_max_7cf53_2 rfl z1 rfl ?_
    refine am_iload_n (pc' := 6) dJ9_max_7cf53_5 rfl rfl ?_
    refine am_goto (pc' := 10) dJ9_max_7cf53_6 rfl ?_
    exact am_weak [false, false] (w_J9_max_7cf53_10 v0 h hF)
def F_J9_max_7cf53 (v0 : Int32) (v1 : Int32) (h : am_H) : Option Int32 := F_J9_max_7cf53_b v0 v1 h
theorem c_J9_max_7cf53 {g : am_G} {l : Launch} {x : Int32}  {v0 : Int32} {v1 : Int32} {h : am_H} (hF : F_J9_max_7cf53 v0 v1 h = some x) : am_Met g l M_J9_max_7cf53 [.int v0, .int v1] h (some (.int x)) h := by
  exact am_met (n := 0) (by decide +kernel) rfl (Nat.le_of_ble_eq_true rfl) (w_J9_max_7cf53 v0 v1 h hF)
theorem cw_X4_15 : am_cw "SignCellar$Row" 15 M_J9_max_7cf53 2 := ⟨wd_1_3, wd_1_29, ⟨by decide, by decide, by decide⟩, Or.inl wd_1_27⟩
theorem fx_X4_21i : am_fx "SignCellar$Row" 21 4 0 (.array .int) "<init>" := ⟨(RX4, TX4, 2), tyX4, rfl, by decide, inX4, tyX4_ok, nmX4, rfl, Or.inl ⟨wd_1_30, Or.inr ⟨rfl, rfl, rfl⟩⟩⟩
theorem fx_X4_9i : am_fx "SignCellar$Row" 9 4 1 .int "<init>" := ⟨(RX4, TX4, 2), tyX4, rfl, by decide, inX4, tyX4_ok, nmX4, rfl, Or.inl ⟨wd_1_31, Or.inl rfl⟩⟩
def F_X4_init_b (v0 : Nat) (v1 : Int32) (h : am_H) : Option am_H :=
  (am_obj v0 4 h).bind fun x1 =>
  (am_pi 4 1 v0 (0 : Int32) h).bind fun h2 =>
  (F_J9_max_7cf53 (0 : Int32) v1 h2).bind fun x3 =>
  (am_ni 0 x3 h2).bind fun p4 =>
  (am_pr 4 0 v0 p4.1 p4.2).bind fun h5 =>
  some h5
theorem w_X4_init {g : am_G} {l : Launch} {h0 : am_H} {hf : am_H}  (v0 : Nat) (v1 : Int32) (h : am_H) (hF : F_X4_init_b v0 v1 h = some hf) : am_W g l M_X4_init h0 none hf 0 [some (.ref v0), some (.int v1)] [] h := by
  unfold F_X4_init_b at hF
  refine am_aload_n (pc' := 1) dX4_init_0 rfl rfl ?_
  obtain ⟨x1, ex1, hF⟩ := am_bind hF
  refine am_oinit (pc' := 4) dX4_init_1 wd_1_26 wd_1_19 wd_1_20 ex1 (by decide) (by decide) rfl ?_
  refine am_aload_n (pc' := 5) dX4_init_4 rfl rfl ?_
  refine am_iconst (v := (0 : Int32)) (pc' := 6) dX4_init_5 rfl rfl ?_
  obtain ⟨h2, eh2, hF⟩ := am_bind hF
  refine am_puti (pc' := 9) dX4_init_6 fx_X4_9i eh2 rfl ?_
  refine am_aload_n (pc' := 10) dX4_init_9 rfl rfl ?_
  refine am_iconst (v := (0 : Int32)) (pc' := 11) dX4_init_10 rfl rfl ?_
  refine am_iload_n (pc' := 12) dX4_init_11 rfl rfl ?_
  obtain ⟨x3, ex3, hF⟩ := am_bind hF
  refine am_callS1 (Mc := M_J9_max_7cf53) (As := [.int (0 : Int32), .int v1]) (st := [.ref v0]) (pc' := 15) dX4_init_12 cw_X4_15 wd_1_28 (by decide) (by decide) rfl rfl (Nat.le_of_ble_eq_true rfl) (c_J9_max_7cf53 ex3) rfl ?_
  obtain ⟨p4, ep4, hF⟩ := am_bind hF
  refine am_newa (pc' := 17) dX4_init_15 rfl (fun _ => rfl) rfl (by decide) wd_1_37 ep4 rfl ?_
  obtain ⟨h5, eh5, hF⟩ := am_bind hF
  refine am_puta (pc' := 20) dX4_init_17 fx_X4_21i eh5 rfl ?_
  cases hF
  exact am_vret dX4_init_20 rfl
def F_X4_init (v0 : Nat) (v1 : Int32) (h : am_H) : Option am_H := (am_obj v0 4 h).bind fun _ => F_X4_init_b v0 v1 h
theorem t_X4_init {hf : am_H}  {v0 : Nat} {v1 : Int32} {h : am_H} (hF : F_X4_init v0 v1 h = some hf) : ∃ fs, am_obj v0 4 h = some fs := by
  obtain ⟨fs, e, _⟩ := am_bind hF
  exact ⟨fs, e⟩
theorem c_X4_init {g : am_G} {l : Launch} {hf : am_H}  {v0 : Nat} {v1 : Int32} {h : am_H} (hF : F_X4_init v0 v1 h = some hf) : am_Met g l M_X4_init [.ref v0, .int v1] h none hf := by
  obtain ⟨fs, e0, e⟩ := am_bind hF
  exact am_met (n := 0) (by decide +kernel) rfl (Nat.le_of_ble_eq_true rfl) (w_X4_init v0 v1 h e)
theorem cw_X2_23 : am_cw "SignCellar$Mates" 23 M_X4_init 1 := ⟨wd_1_2, wd_1_25, ⟨by decide, by decide, by decide⟩, Or.inl wd_1_51⟩
theorem fx_X2_15i : am_fx "SignCellar$Mates" 15 2 1 (.array .int) "<init>" := ⟨(RX2, TX2, 4), tyX2, rfl, by decide, inX2, tyX2_ok, nmX2, rfl, Or.inl ⟨wd_1_53, Or.inr ⟨rfl, rfl, rfl⟩⟩⟩
theorem fx_X2_18i : am_fx "SignCellar$Mates" 18 2 2 (.array .int) "<init>" := ⟨(RX2, TX2, 4), tyX2, rfl, by decide, inX2, tyX2_ok, nmX2, rfl, Or.inl ⟨wd_1_54, Or.inr ⟨rfl, rfl, rfl⟩⟩⟩
theorem fx_X2_26i : am_fx "SignCellar$Mates" 26 2 3 (.object "SignCellar$Row") "<init>" := ⟨(RX2, TX2, 4), tyX2, rfl, by decide, inX2, tyX2_ok, nmX2, rfl, Or.inl ⟨wd_1_55, Or.inr ⟨rfl, rfl, rfl⟩⟩⟩
theorem fx_X2_9i : am_fx "SignCellar$Mates" 9 2 0 (.array .int) "<init>" := ⟨(RX2, TX2, 4), tyX2, rfl, by decide, inX2, tyX2_ok, nmX2, rfl, Or.inl ⟨wd_1_52, Or.inr ⟨rfl, rfl, rfl⟩⟩⟩
theorem nx_X2_21 : am_nx "SignCellar$Mates" 21 4 := ⟨(RX4, TX4, 2), rfl, inX4, tyX4_ok, by decide, wd_1_50, wd_1_22, wd_1_2⟩
def F_X2_init_b (v0 : Nat) (h : am_H) : Option am_H :=
  (am_obj v0 2 h).bind fun x1 =>
  (am_ni 0 (25 : Int32) h).bind fun p2 =>
  (am_pr 2 0 v0 p2.1 p2.2).bind fun h3 =>
  (am_ni 0 (25 : Int32) h3).bind fun p4 =>
  (am_pr 2 1 v0 p4.1 p4.2).bind fun h5 =>
  (am_ni 0 (10 : Int32) h5).bind fun p6 =>
  (am_pr 2 2 v0 p6.1 p6.2).bind fun h7 =>
  (am_nw 4 h7).bind fun p8 =>
  (F_X4_init p8.1 (24 : Int32) p8.2).bind fun h9 =>
  (am_pr 2 3 v0 p8.1 h9).bind fun h10 =>
  some h10
theorem w_X2_init {g : am_G} {l : Launch} {h0 : am_H} {hf : am_H}  (v0 : Nat) (h : am_H) (hF : F_X2_init_b v0 h = some hf) : am_W g l M_X2_init h0 none hf 0 [some (.ref v0)] [] h := by
  unfold F_X2_init_b at hF
  refine am_aload_n (pc' := 1) dX2_init_0 rfl rfl ?_
  obtain ⟨x1, ex1, hF⟩ := am_bind hF
  refine am_oinit (pc' := 4) dX2_init_1 wd_1_49 wd_1_19 wd_1_20 ex1 (by decide) (by decide) rfl ?_
  refine am_aload_n (pc' := 5) dX2_init_4 rfl rfl ?_
  refine am_bipush (v := (25 : Int32)) (pc' := 7) dX2_init_5 rfl rfl ?_
  obtain ⟨p2, ep2, hF⟩ := am_bind hF
  refine am_newa (pc' := 9) dX2_init_7 rfl (fun _ => rfl) rfl (by decide) wd_1_37 ep2 rfl ?_
  obtain ⟨h3, eh3, hF⟩ := am_bind hF
  refine am_puta (pc' := 12) dX2_init_9 fx_X2_9i eh3 rfl ?_
  refine am_aload_n (pc' := 13) dX2_init_12 rfl rfl ?_
  refine am_bipush (v := (25 : Int32)) (pc' := 15) dX2_init_13 rfl rfl ?_
  obtain ⟨p4, ep4, hF⟩ := am_bind hF
  refine am_newa (pc' := 17) dX2_init_15 rfl (fun _ => rfl) rfl (by decide) wd_1_37 ep4 rfl ?_
  obtain ⟨h5, eh5, hF⟩ := am_bind hF
  refine am_puta (pc' := 20) dX2_init_17 fx_X2_15i eh5 rfl ?_
  refine am_aload_n (pc' := 21) dX2_init_20 rfl rfl ?_
  refine am_bipush (v := (10 : Int32)) (pc' := 23) dX2_init_21 rfl rfl ?_
  obtain ⟨p6, ep6, hF⟩ := am_bind hF
  refine am_newa (pc' := 25) dX2_init_23 rfl (fun _ => rfl) rfl (by decide) wd_1_37 ep6 rfl ?_
  obtain ⟨h7, eh7, hF⟩ := am_bind hF
  refine am_puta (pc' := 28) dX2_init_25 fx_X2_18i eh7 rfl ?_
  refine am_aload_n (pc' := 29) dX2_init_28 rfl rfl ?_
  obtain ⟨p8, ep8, hF⟩ := am_bind hF
  refine am_new (pc' := 32) dX2_init_29 nx_X2_21 ep8 rfl ?_
  refine am_dup (pc' := 33) dX2_init_32 rfl rfl ?_
  refine am_bipush (v := (24 : Int32)) (pc' := 35) dX2_init_33 rfl rfl ?_
  obtain ⟨h9, eh9, hF⟩ := am_bind hF
  obtain ⟨oh9, ph9⟩ := t_X4_init eh9
  refine am_callI0 (Mc := M_X4_init) (As := [.int (24 : Int32)]) (st := [.ref p8.1, .ref v0]) (pc' := 38) dX2_init_35 cw_X2_23 wd_1_24 rfl rfl (by decide) (by decide) rfl rfl (Nat.le_of_ble_eq_true rfl) ph9 (c_X4_init eh9) rfl ?_
  obtain ⟨h10, eh10, hF⟩ := am_bind hF
  refine am_putr (pc' := 41) dX2_init_38 fx_X2_26i eh10 rfl ?_
  cases hF
  exact am_vret dX2_init_41 rfl
def F_X2_init (v0 : Nat) (h : am_H) : Option am_H := (am_obj v0 2 h).bind fun _ => F_X2_init_b v0 h
theorem t_X2_init {hf : am_H}  {v0 : Nat} {h : am_H} (hF : F_X2_init v0 h = some hf) : ∃ fs, am_obj v0 2 h = some fs := by
  obtain ⟨fs, e, _⟩ := am_bind hF
  exact ⟨fs, e⟩
theorem c_X2_init {g : am_G} {l : Launch} {hf : am_H}  {v0 : Nat} {h : am_H} (hF : F_X2_init v0 h = some hf) : am_Met g l M_X2_init [.ref v0] h none hf := by
  obtain ⟨fs, e0, e⟩ := am_bind hF
  exact am_met (n := 0) (by decide +kernel) rfl (Nat.le_of_ble_eq_true rfl) (w_X2_init v0 h e)
theorem cw_X5_11 : am_cw "SignCellar$Rules" 11 M_X4_init 1 := ⟨wd_1_2, wd_1_25, ⟨by decide, by decide, by decide⟩, Or.inl wd_1_73⟩
theorem fw_X5_20 : am_fw "SignCellar$Rules" 20 5 1 := ⟨(RX5, TX5, 6), rfl, by decide, inX5, Or.inl wd_1_77⟩
theorem fx_X5_14i : am_fx "SignCellar$Rules" 14 5 0 (.object "SignCellar$Row") "<init>" := ⟨(RX5, TX5, 6), tyX5, rfl, by decide, inX5, tyX5_ok, nmX5, rfl, Or.inl ⟨wd_1_75, Or.inr ⟨rfl, rfl, rfl⟩⟩⟩
theorem fx_X5_20i : am_fx "SignCellar$Rules" 20 5 1 (.array (.object "SignCellar$Row")) "<init>" := ⟨(RX5, TX5, 6), tyX5, rfl, by decide, inX5, tyX5_ok, nmX5, rfl, Or.inl ⟨wd_1_77, Or.inr ⟨rfl, rfl, rfl⟩⟩⟩
theorem fx_X5_24i : am_fx "SignCellar$Rules" 24 5 2 (.object "SignCellar$Row") "<init>" := ⟨(RX5, TX5, 6), tyX5, rfl, by decide, inX5, tyX5_ok, nmX5, rfl, Or.inl ⟨wd_1_78, Or.inr ⟨rfl, rfl, rfl⟩⟩⟩
theorem fx_X5_27i : am_fx "SignCellar$Rules" 27 5 3 .int "<init>" := ⟨(RX5, TX5, 6), tyX5, rfl, by decide, inX5, tyX5_ok, nmX5, rfl, Or.inl ⟨wd_1_79, Or.inl rfl⟩⟩
theorem fx_X5_31i : am_fx "SignCellar$Rules" 31 5 4 .int "<init>" := ⟨(RX5, TX5, 6), tyX5, rfl, by decide, inX5, tyX5_ok, nmX5, rfl, Or.inl ⟨wd_1_81, Or.inl rfl⟩⟩
theorem fx_X5_34i : am_fx "SignCellar$Rules" 34 5 5 .int "<init>" := ⟨(RX5, TX5, 6), tyX5, rfl, by decide, inX5, tyX5_ok, nmX5, rfl, Or.inl ⟨wd_1_82, Or.inl rfl⟩⟩
theorem nx_X5_9 : am_nx "SignCellar$Rules" 9 4 := ⟨(RX4, TX4, 2), rfl, inX4, tyX4_ok, by decide, wd_1_72, wd_1_22, wd_1_2⟩
def F_X5_init_56 : Nat → Nat → Int32 → am_H → Option am_H
  | 0, _, _, _ => none
  | n + 1, v0, v1, h =>
  (am_gr 5 1 v0 h).bind fun x1 =>
  (am_ln x1 h).bind fun x2 =>
  if x2 ≤ v1 then
    some h
  else
    (am_gr 5 1 v0 h).bind fun x4 =>
    (am_nw 4 h).bind fun p5 =>
    (F_X4_init p5.1 (24 : Int32) p5.2).bind fun h6 =>
    (am_as 4 4 x4 v1 p5.1 h6).bind fun h7 =>
    F_X5_init_56 n v0 (v1 + (1 : Int32)) h7
theorem w_X5_init_56 {g : am_G} {l : Launch} {h0 : am_H} {hf : am_H}  : ∀ (n : Nat) (v0 : Nat) (v1 : Int32) (h : am_H), F_X5_init_56 n v0 v1 h = some hf → am_W g l M_X5_init h0 none hf 56 [some (.ref v0), some (.int v1)] [] h
  | 0, _, _, _, hF => by cases hF
  | n + 1, v0, v1, h, hF => by
    rw [F_X5_init_56] at hF
    refine am_iload_n (pc' := 57) dX5_init_56 rfl rfl ?_
    refine am_aload_n (pc' := 58) dX5_init_57 rfl rfl ?_
    obtain ⟨x1, ex1, hF⟩ := am_bind hF
    refine am_getr (pc' := 61) dX5_init_58 fw_X5_20 ex1 rfl ?_
    obtain ⟨x2, ex2, hF⟩ := am_bind hF
    refine am_alen (pc' := 62) dX5_init_61 ex2 rfl ?_
    rcases am_ite hF with ⟨z3, hF⟩ | ⟨z3, hF⟩
    · refine am_icmp_ge_t (pc' := 86) dX5_init_62 rfl z3 ?_
      cases hF
      exact am_vret dX5_init_86 rfl
    · refine am_icmp_ge_f (pc' := 65) (tgt := 86) dX5_init_62 rfl z3 rfl ?_
      refine am_aload_n (pc' := 66) dX5_init_65 rfl rfl ?_
      obtain ⟨x4, ex4, hF⟩ := am_bind hF
      refine am_getr (pc' := 69) dX5_init_66 fw_X5_20 ex4 rfl ?_
      refine am_iload_n (pc' := 70) dX5_init_69 rfl rfl ?_
      obtain ⟨p5, ep5, hF⟩ := am_bind hF
      refine am_new (pc' := 73) dX5_init_70 nx_X5_9 ep5 rfl ?_
      refine am_dup (pc' := 74) dX5_init_73 rfl rfl ?_
      refine am_bipush (v := (24 : Int32)) (pc' := 76) dX5_init_74 rfl rfl ?_
      obtain ⟨h6, eh6, hF⟩ := am_bind hF
      obtain ⟨oh6, ph6⟩ := t_X4_init eh6
      refine am_callI0 (Mc := M_X4_init) (As := [.int (24 : Int32)]) (st := [.ref p5.1, .int v1, .ref x4]) (pc' := 79) dX5_init_76 cw_X5_11 wd_1_24 rfl rfl (by decide) (by decide) rfl rfl (Nat.le_of_ble_eq_true rfl) ph6 (c_X4_init eh6) rfl ?_
      obtain ⟨h7, eh7, hF⟩ := am_bind hF
      refine am_aast (pc' := 80) dX5_init_79 ⟨_, rfl, rfl⟩ eh7 rfl ?_
      refine am_iinc (ls' := [some (.ref v0), some (.int (v1 + (1 : Int32)))]) (pc' := 83) (v := (v1 + (1 : Int32))) dX5_init_80 rfl rfl (Nat.le_of_ble_eq_true rfl) rfl rfl ?_
      refine am_goto (pc' := 56) dX5_init_83 rfl ?_
      exact w_X5_init_56 n v0 (v1 + (1 : Int32)) h7 hF
def F_X5_init_b (v0 : Nat) (h : am_H) : Option am_H :=
  (am_obj v0 5 h).bind fun x1 =>
  (am_nw 4 h).bind fun p2 =>
  (F_X4_init p2.1 (24 : Int32) p2.2).bind fun h3 =>
  (am_pr 5 0 v0 p2.1 h3).bind fun h4 =>
  (am_na 4 (12 : Int32) h4).bind fun p5 =>
  (am_pr 5 1 v0 p5.1 p5.2).bind fun h6 =>
  (am_nw 4 h6).bind fun p7 =>
  (F_X4_init p7.1 (24 : Int32) p7.2).bind fun h8 =>
  (am_pr 5 2 v0 p7.1 h8).bind fun h9 =>
  (am_pi 5 3 v0 (0 : Int32) h9).bind fun h10 =>
  (am_pi 5 4 v0 (-1 : Int32) h10).bind fun h11 =>
  (am_pi 5 5 v0 (-1 : Int32) h11).bind fun h12 =>
  F_X5_init_56 am_F v0 (0 : Int32) h12
theorem w_X5_init {g : am_G} {l : Launch} {h0 : am_H} {hf : am_H}  (v0 : Nat) (h : am_H) (hF : F_X5_init_b v0 h = some hf) : am_W g l M_X5_init h0 none hf 0 [some (.ref v0), none] [] h := by
  unfold F_X5_init_b at hF
  refine am_aload_n (pc' := 1) dX5_init_0 rfl rfl ?_
  obtain ⟨x1, ex1, hF⟩ := am_bind hF
  refine am_oinit (pc' := 4) dX5_init_1 wd_1_71 wd_1_19 wd_1_20 ex1 (by decide) (by decide) rfl ?_
  refine am_aload_n (pc' := 5) dX5_init_4 rfl rfl ?_
  obtain ⟨p2, ep2, hF⟩ := am_bind hF
  refine am_new (pc' := 8) dX5_init_5 nx_X5_9 ep2 rfl ?_
  refine am_dup (pc' := 9) dX5_init_8 rfl rfl ?_
  refine am_bipush (v := (24 : Int32)) (pc' := 11) dX5_init_9 rfl rfl ?_
  obtain ⟨h3, eh3, hF⟩ := am_bind hF
  obtain ⟨oh3, ph3⟩ := t_X4_init eh3
  refine am_callI0 (Mc := M_X4_init) (As := [.int (24 : Int32)]) (st := [.ref p2.1, .ref v0]) (pc' := 14) dX5_init_11 cw_X5_11 wd_1_24 rfl rfl (by decide) (by decide) rfl rfl (Nat.le_of_ble_eq_true rfl) ph3 (c_X4_init eh3) rfl ?_
  obtain ⟨h4, eh4, hF⟩ := am_bind hF
  refine am_putr (pc' := 17) dX5_init_14 fx_X5_14i eh4 rfl ?_
  refine am_aload_n (pc' := 18) dX5_init_17 rfl rfl ?_
  refine am_bipush (v := (12 : Int32)) (pc' := 20) dX5_init_18 rfl rfl ?_
  obtain ⟨p5, ep5, hF⟩ := am_bind hF
  refine am_anew (pc' := 23) dX5_init_20 (fun _ => rfl) wd_1_72 wd_1_74 ep5 rfl ?_
  obtain ⟨h6, eh6, hF⟩ := am_bind hF
  refine am_puta (pc' := 26) dX5_init_23 fx_X5_20i eh6 rfl ?_
  refine am_aload_n (pc' := 27) dX5_init_26 rfl rfl ?_
  obtain ⟨p7, ep7, hF⟩ := am_bind hF
  refine am_new (pc' := 30) dX5_init_27 nx_X5_9 ep7 rfl ?_
  refine am_dup (pc' := 31) dX5_init_30 rfl rfl ?_
  refine am_bipush (v := (24 : Int32)) (pc' := 33) dX5_init_31 rfl rfl ?_
  obtain ⟨h8, eh8, hF⟩ := am_bind hF
  obtain ⟨oh8, ph8⟩ := t_X4_init eh8
  refine am_callI0 (Mc := M_X4_init) (As := [.int (24 : Int32)]) (st := [.ref p7.1, .ref v0]) (pc' := 36) dX5_init_33 cw_X5_11 wd_1_24 rfl rfl (by decide) (by decide) rfl rfl (Nat.le_of_ble_eq_true rfl) ph8 (c_X4_init eh8) rfl ?_
  obtain ⟨h9, eh9, hF⟩ := am_bind hF
  refine am_putr (pc' := 39) dX5_init_36 fx_X5_24i eh9 rfl ?_
  refine am_aload_n (pc' := 40) dX5_init_39 rfl rfl ?_
  refine am_iconst (v := (0 : Int32)) (pc' := 41) dX5_init_40 rfl rfl ?_
  obtain ⟨h10, eh10, hF⟩ := am_bind hF
  refine am_puti (pc' := 44) dX5_init_41 fx_X5_27i eh10 rfl ?_
  refine am_aload_n (pc' := 45) dX5_init_44 rfl rfl ?_
  refine am_iconst (v := (-1 : Int32)) (pc' := 46) dX5_init_45 rfl rfl ?_
  obtain ⟨h11, eh11, hF⟩ := am_bind hF
  refine am_puti (pc' := 49) dX5_init_46 fx_X5_31i eh11 rfl ?_
  refine am_aload_n (pc' := 50) dX5_init_49 rfl rfl ?_
  refine am_iconst (v := (-1 : Int32)) (pc' := 51) dX5_init_50 rfl rfl ?_
  obtain ⟨h12, eh12, hF⟩ := am_bind hF
  refine am_puti (pc' := 54) dX5_init_51 fx_X5_34i eh12 rfl ?_
  refine am_iconst (v := (0 : Int32)) (pc' := 55) dX5_init_54 rfl rfl ?_
  refine am_istore_n (ls' := [some (.ref v0), some (.int (0 : Int32))]) (pc' := 56) dX5_init_55 (Nat.le_of_ble_eq_true rfl) rfl rfl ?_
  exact w_X5_init_56 am_F v0 (0 : Int32) h12 hF
def F_X5_init (v0 : Nat) (h : am_H) : Option am_H := (am_obj v0 5 h).bind fun _ => F_X5_init_b v0 h
theorem t_X5_init {hf : am_H}  {v0 : Nat} {h : am_H} (hF : F_X5_init v0 h = some hf) : ∃ fs, am_obj v0 5 h = some fs := by
  obtain ⟨fs, e, _⟩ := am_bind hF
  exact ⟨fs, e⟩
theorem c_X5_init {g : am_G} {l : Launch} {hf : am_H}  {v0 : Nat} {h : am_H} (hF : F_X5_init v0 h = some hf) : am_Met g l M_X5_init [.ref v0] h none hf := by
  obtain ⟨fs, e0, e⟩ := am_bind hF
  exact am_met (n := 1) (by decide +kernel) rfl (Nat.le_of_ble_eq_true rfl) (w_X5_init v0 h e)
theorem cw_X3_17 : am_cw "SignCellar$Odds" 17 M_X4_init 1 := ⟨wd_1_2, wd_1_25, ⟨by decide, by decide, by decide⟩, Or.inl wd_1_103⟩
theorem fx_X3_20i : am_fx "SignCellar$Odds" 20 3 1 (.object "SignCellar$Row") "<init>" := ⟨(RX3, TX3, 5), tyX3, rfl, by decide, inX3, tyX3_ok, nmX3, rfl, Or.inl ⟨wd_1_106, Or.inr ⟨rfl, rfl, rfl⟩⟩⟩
theorem fx_X3_24i : am_fx "SignCellar$Odds" 24 3 2 .int "<init>" := ⟨(RX3, TX3, 5), tyX3, rfl, by decide, inX3, tyX3_ok, nmX3, rfl, Or.inl ⟨wd_1_108, Or.inl rfl⟩⟩
theorem fx_X3_29i : am_fx "SignCellar$Odds" 29 3 3 .int "<init>" := ⟨(RX3, TX3, 5), tyX3, rfl, by decide, inX3, tyX3_ok, nmX3, rfl, Or.inl ⟨wd_1_109, Or.inl rfl⟩⟩
theorem fx_X3_32i : am_fx "SignCellar$Odds" 32 3 4 .int "<init>" := ⟨(RX3, TX3, 5), tyX3, rfl, by decide, inX3, tyX3_ok, nmX3, rfl, Or.inl ⟨wd_1_110, Or.inl rfl⟩⟩
theorem fx_X3_9i : am_fx "SignCellar$Odds" 9 3 0 (.array .int) "<init>" := ⟨(RX3, TX3, 5), tyX3, rfl, by decide, inX3, tyX3_ok, nmX3, rfl, Or.inl ⟨wd_1_105, Or.inr ⟨rfl, rfl, rfl⟩⟩⟩
theorem nx_X3_15 : am_nx "SignCellar$Odds" 15 4 := ⟨(RX4, TX4, 2), rfl, inX4, tyX4_ok, by decide, wd_1_102, wd_1_22, wd_1_2⟩
def F_X3_init_b (v0 : Nat) (h : am_H) : Option am_H :=
  (am_obj v0 3 h).bind fun x1 =>
  (am_ni 0 (16 : Int32) h).bind fun p2 =>
  (am_pr 3 0 v0 p2.1 p2.2).bind fun h3 =>
  (am_nw 4 h3).bind fun p4 =>
  (F_X4_init p4.1 (256 : Int32) p4.2).bind fun h5 =>
  (am_pr 3 1 v0 p4.1 h5).bind fun h6 =>
  (am_pi 3 2 v0 (0 : Int32) h6).bind fun h7 =>
  (am_pi 3 3 v0 (65535 : Int32) h7).bind fun h8 =>
  (am_pi 3 4 v0 (0 : Int32) h8).bind fun h9 =>
  some h9
theorem w_X3_init {g : am_G} {l : Launch} {h0 : am_H} {hf : am_H}  (v0 : Nat) (h : am_H) (hF : F_X3_init_b v0 h = some hf) : am_W g l M_X3_init h0 none hf 0 [some (.ref v0)] [] h := by
  unfold F_X3_init_b at hF
  refine am_aload_n (pc' := 1) dX3_init_0 rfl rfl ?_
  obtain ⟨x1, ex1, hF⟩ := am_bind hF
  refine am_oinit (pc' := 4) dX3_init_1 wd_1_101 wd_1_19 wd_1_20 ex1 (by decide) (by decide) rfl ?_
  refine am_aload_n (pc' := 5) dX3_init_4 rfl rfl ?_
  refine am_bipush (v := (16 : Int32)) (pc' := 7) dX3_init_5 rfl rfl ?_
  obtain ⟨p2, ep2, hF⟩ := am_bind hF
  refine am_newa (pc' := 9) dX3_init_7 rfl (fun _ => rfl) rfl (by decide) wd_1_37 ep2 rfl ?_
  obtain ⟨h3, eh3, hF⟩ := am_bind hF
  refine am_puta (pc' := 12) dX3_init_9 fx_X3_9i eh3 rfl ?_
  refine am_aload_n (pc' := 13) dX3_init_12 rfl rfl ?_
  obtain ⟨p4, ep4, hF⟩ := am_bind hF
  refine am_new (pc' := 16) dX3_init_13 nx_X3_15 ep4 rfl ?_
  refine am_dup (pc' := 17) dX3_init_16 rfl rfl ?_
  refine am_sipush (v := (256 : Int32)) (pc' := 20) dX3_init_17 rfl rfl ?_
  obtain ⟨h5, eh5, hF⟩ := am_bind hF
  obtain ⟨oh5, ph5⟩ := t_X4_init eh5
  refine am_callI0 (Mc := M_X4_init) (As := [.int (256 : Int32)]) (st := [.ref p4.1, .ref v0]) (pc' := 23) dX3_init_20 cw_X3_17 wd_1_24 rfl rfl (by decide) (by decide) rfl rfl (Nat.le_of_ble_eq_true rfl) ph5 (c_X4_init eh5) rfl ?_
  obtain ⟨h6, eh6, hF⟩ := am_bind hF
  refine am_putr (pc' := 26) dX3_init_23 fx_X3_20i eh6 rfl ?_
  refine am_aload_n (pc' := 27) dX3_init_26 rfl rfl ?_
  refine am_iconst (v := (0 : Int32)) (pc' := 28) dX3_init_27 rfl rfl ?_
  obtain ⟨h7, eh7, hF⟩ := am_bind hF
  refine am_puti (pc' := 31) dX3_init_28 fx_X3_24i eh7 rfl ?_
  refine am_aload_n (pc' := 32) dX3_init_31 rfl rfl ?_
  refine am_ldc (v := (65535 : Int32)) (pc' := 34) dX3_init_32 wd_1_104 rfl ?_
  obtain ⟨h8, eh8, hF⟩ := am_bind hF
  refine am_puti (pc' := 37) dX3_init_34 fx_X3_29i eh8 rfl ?_
  refine am_aload_n (pc' := 38) dX3_init_37 rfl rfl ?_
  refine am_iconst (v := (0 : Int32)) (pc' := 39) dX3_init_38 rfl rfl ?_
  obtain ⟨h9, eh9, hF⟩ := am_bind hF
  refine am_puti (pc' := 42) dX3_init_39 fx_X3_32i eh9 rfl ?_
  cases hF
  exact am_vret dX3_init_42 rfl
def F_X3_init (v0 : Nat) (h : am_H) : Option am_H := (am_obj v0 3 h).bind fun _ => F_X3_init_b v0 h
theorem t_X3_init {hf : am_H}  {v0 : Nat} {h : am_H} (hF : F_X3_init v0 h = some hf) : ∃ fs, am_obj v0 3 h = some fs := by
  obtain ⟨fs, e, _⟩ := am_bind hF
  exact ⟨fs, e⟩
theorem c_X3_init {g : am_G} {l : Launch} {hf : am_H}  {v0 : Nat} {h : am_H} (hF : F_X3_init v0 h = some hf) : am_Met g l M_X3_init [.ref v0] h none hf := by
  obtain ⟨fs, e0, e⟩ := am_bind hF
  exact am_met (n := 0) (by decide +kernel) rfl (Nat.le_of_ble_eq_true rfl) (w_X3_init v0 h e)
theorem cw_X6_20 : am_cw "SignCellar$Turns" 20 M_X4_init 1 := ⟨wd_1_2, wd_1_25, ⟨by decide, by decide, by decide⟩, Or.inl wd_1_129⟩
theorem fx_X6_15i : am_fx "SignCellar$Turns" 15 6 1 (.array .int) "<init>" := ⟨(RX6, TX6, 5), tyX6, rfl, by decide, inX6, tyX6_ok, nmX6, rfl, Or.inl ⟨wd_1_131, Or.inr ⟨rfl, rfl, rfl⟩⟩⟩
theorem fx_X6_23i : am_fx "SignCellar$Turns" 23 6 2 (.object "SignCellar$Row") "<init>" := ⟨(RX6, TX6, 5), tyX6, rfl, by decide, inX6, tyX6_ok, nmX6, rfl, Or.inl ⟨wd_1_132, Or.inr ⟨rfl, rfl, rfl⟩⟩⟩
theorem fx_X6_27i : am_fx "SignCellar$Turns" 27 6 3 (.object "SignCellar$Row") "<init>" := ⟨(RX6, TX6, 5), tyX6, rfl, by decide, inX6, tyX6_ok, nmX6, rfl, Or.inl ⟨wd_1_134, Or.inr ⟨rfl, rfl, rfl⟩⟩⟩
theorem fx_X6_30i : am_fx "SignCellar$Turns" 30 6 4 .int "<init>" := ⟨(RX6, TX6, 5), tyX6, rfl, by decide, inX6, tyX6_ok, nmX6, rfl, Or.inl ⟨wd_1_136, Or.inl rfl⟩⟩
theorem fx_X6_9i : am_fx "SignCellar$Turns" 9 6 0 (.array .int) "<init>" := ⟨(RX6, TX6, 5), tyX6, rfl, by decide, inX6, tyX6_ok, nmX6, rfl, Or.inl ⟨wd_1_130, Or.inr ⟨rfl, rfl, rfl⟩⟩⟩
theorem nx_X6_18 : am_nx "SignCellar$Turns" 18 4 := ⟨(RX4, TX4, 2), rfl, inX4, tyX4_ok, by decide, wd_1_128, wd_1_22, wd_1_2⟩
def F_X6_init_b (v0 : Nat) (h : am_H) : Option am_H :=
  (am_obj v0 6 h).bind fun x1 =>
  (am_ni 0 (25 : Int32) h).bind fun p2 =>
  (am_pr 6 0 v0 p2.1 p2.2).bind fun h3 =>
  (am_ni 0 (16 : Int32) h3).bind fun p4 =>
  (am_pr 6 1 v0 p4.1 p4.2).bind fun h5 =>
  (am_nw 4 h5).bind fun p6 =>
  (F_X4_init p6.1 (24 : Int32) p6.2).bind fun h7 =>
  (am_pr 6 2 v0 p6.1 h7).bind fun h8 =>
  (am_nw 4 h8).bind fun p9 =>
  (F_X4_init p9.1 (24 : Int32) p9.2).bind fun h10 =>
  (am_pr 6 3 v0 p9.1 h10).bind fun h11 =>
  (am_pi 6 4 v0 (-1 : Int32) h11).bind fun h12 =>
  some h12
theorem w_X6_init {g : am_G} {l : Launch} {h0 : am_H} {hf : am_H}  (v0 : Nat) (h : am_H) (hF : F_X6_init_b v0 h = some hf) : am_W g l M_X6_init h0 none hf 0 [some (.ref v0)] [] h := by
  unfold F_X6_init_b at hF
  refine am_aload_n (pc' := 1) dX6_init_0 rfl rfl ?_
  obtain ⟨x1, ex1, hF⟩ := am_bind hF
  refine am_oinit (pc' := 4) dX6_init_1 wd_1_127 wd_1_19 wd_1_20 ex1 (by decide) (by decide) rfl ?_
  refine am_aload_n (pc' := 5) dX6_init_4 rfl rfl ?_
  refine am_bipush (v := (25 : Int32)) (pc' := 7) dX6_init_5 rfl rfl ?_
  obtain ⟨p2, ep2, hF⟩ := am_bind hF
  refine am_newa (pc' := 9) dX6_init_7 rfl (fun _ => rfl) rfl (by decide) wd_1_37 ep2 rfl ?_
  obtain ⟨h3, eh3, hF⟩ := am_bind hF
  refine am_puta (pc' := 12) dX6_init_9 fx_X6_9i eh3 rfl ?_
  refine am_aload_n (pc' := 13) dX6_init_12 rfl rfl ?_
  refine am_bipush (v := (16 : Int32)) (pc' := 15) dX6_init_13 rfl rfl ?_
  obtain ⟨p4, ep4, hF⟩ := am_bind hF
  refine am_newa (pc' := 17) dX6_init_15 rfl (fun _ => rfl) rfl (by decide) wd_1_37 ep4 rfl ?_
  obtain ⟨h5, eh5, hF⟩ := am_bind hF
  refine am_puta (pc' := 20) dX6_init_17 fx_X6_15i eh5 rfl ?_
  refine am_aload_n (pc' := 21) dX6_init_20 rfl rfl ?_
  obtain ⟨p6, ep6, hF⟩ := am_bind hF
  refine am_new (pc' := 24) dX6_init_21 nx_X6_18 ep6 rfl ?_
  refine am_dup (pc' := 25) dX6_init_24 rfl rfl ?_
  refine am_bipush (v := (24 : Int32)) (pc' := 27) dX6_init_25 rfl rfl ?_
  obtain ⟨h7, eh7, hF⟩ := am_bind hF
  obtain ⟨oh7, ph7⟩ := t_X4_init eh7
  refine am_callI0 (Mc := M_X4_init) (As := [.int (24 : Int32)]) (st := [.ref p6.1, .ref v0]) (pc' := 30) dX6_init_27 cw_X6_20 wd_1_24 rfl rfl (by decide) (by decide) rfl rfl (Nat.le_of_ble_eq_true rfl) ph7 (c_X4_init eh7) rfl ?_
  obtain ⟨h8, eh8, hF⟩ := am_bind hF
  refine am_putr (pc' := 33) dX6_init_30 fx_X6_23i eh8 rfl ?_
  refine am_aload_n (pc' := 34) dX6_init_33 rfl rfl ?_
  obtain ⟨p9, ep9, hF⟩ := am_bind hF
  refine am_new (pc' := 37) dX6_init_34 nx_X6_18 ep9 rfl ?_
  refine am_dup (pc' := 38) dX6_init_37 rfl rfl ?_
  refine am_bipush (v := (24 : Int32)) (pc' := 40) dX6_init_38 rfl rfl ?_
  obtain ⟨h10, eh10, hF⟩ := am_bind hF
  obtain ⟨oh10, ph10⟩ := t_X4_init eh10
  refine am_callI0 (Mc := M_X4_init) (As := [.int (24 : Int32)]) (st := [.ref p9.1, .ref v0]) (pc' := 43) dX6_init_40 cw_X6_20 wd_1_24 rfl rfl (by decide) (by decide) rfl rfl (Nat.le_of_ble_eq_true rfl) ph10 (c_X4_init eh10) rfl ?_
  obtain ⟨h11, eh11, hF⟩ := am_bind hF
  refine am_putr (pc' := 46) dX6_init_43 fx_X6_27i eh11 rfl ?_
  refine am_aload_n (pc' := 47) dX6_init_46 rfl rfl ?_
  refine am_iconst (v := (-1 : Int32)) (pc' := 48) dX6_init_47 rfl rfl ?_
  obtain ⟨h12, eh12, hF⟩ := am_bind hF
  refine am_puti (pc' := 51) dX6_init_48 fx_X6_30i eh12 rfl ?_
  cases hF
  exact am_vret dX6_init_51 rfl
def F_X6_init (v0 : Nat) (h : am_H) : Option am_H := (am_obj v0 6 h).bind fun _ => F_X6_init_b v0 h
theorem t_X6_init {hf : am_H}  {v0 : Nat} {h : am_H} (hF : F_X6_init v0 h = some hf) : ∃ fs, am_obj v0 6 h = some fs := by
  obtain ⟨fs, e, _⟩ := am_bind hF
  exact ⟨fs, e⟩
theorem c_X6_init {g : am_G} {l : Launch} {hf : am_H}  {v0 : Nat} {h : am_H} (hF : F_X6_init v0 h = some hf) : am_Met g l M_X6_init [.ref v0] h none hf := by
  obtain ⟨fs, e0, e⟩ := am_bind hF
  exact am_met (n := 0) (by decide +kernel) rfl (Nat.le_of_ble_eq_true rfl) (w_X6_init v0 h e)
theorem cw_X1_11 : am_cw "SignCellar$Choice" 11 M_X4_init 1 := ⟨wd_1_2, wd_1_25, ⟨by decide, by decide, by decide⟩, Or.inl wd_1_156⟩
theorem fx_X1_14i : am_fx "SignCellar$Choice" 14 1 0 (.object "SignCellar$Row") "<init>" := ⟨(RX1, TX1, 6), tyX1, rfl, by decide, inX1, tyX1_ok, nmX1, rfl, Or.inl ⟨wd_1_158, Or.inr ⟨rfl, rfl, rfl⟩⟩⟩
theorem fx_X1_20i : am_fx "SignCellar$Choice" 20 1 1 (.object "SignCellar$Row") "<init>" := ⟨(RX1, TX1, 6), tyX1, rfl, by decide, inX1, tyX1_ok, nmX1, rfl, Or.inl ⟨wd_1_159, Or.inr ⟨rfl, rfl, rfl⟩⟩⟩
theorem fx_X1_25i : am_fx "SignCellar$Choice" 25 1 2 (.array (.array .int)) "<init>" := ⟨(RX1, TX1, 6), tyX1, rfl, by decide, inX1, tyX1_ok, nmX1, rfl, Or.inl ⟨wd_1_160, Or.inr ⟨rfl, rfl, rfl⟩⟩⟩
theorem fx_X1_28i : am_fx "SignCellar$Choice" 28 1 3 (.object "SignCellar$Row") "<init>" := ⟨(RX1, TX1, 6), tyX1, rfl, by decide, inX1, tyX1_ok, nmX1, rfl, Or.inl ⟨wd_1_161, Or.inr ⟨rfl, rfl, rfl⟩⟩⟩
theorem fx_X1_31i : am_fx "SignCellar$Choice" 31 1 4 .int "<init>" := ⟨(RX1, TX1, 6), tyX1, rfl, by decide, inX1, tyX1_ok, nmX1, rfl, Or.inl ⟨wd_1_163, Or.inl rfl⟩⟩
theorem fx_X1_35i : am_fx "SignCellar$Choice" 35 1 5 .int "<init>" := ⟨(RX1, TX1, 6), tyX1, rfl, by decide, inX1, tyX1_ok, nmX1, rfl, Or.inl ⟨wd_1_165, Or.inl rfl⟩⟩
theorem nx_X1_9 : am_nx "SignCellar$Choice" 9 4 := ⟨(RX4, TX4, 2), rfl, inX4, tyX4_ok, by decide, wd_1_155, wd_1_22, wd_1_2⟩
def F_X1_init_b (v0 : Nat) (h : am_H) : Option am_H :=
  (am_obj v0 1 h).bind fun x1 =>
  (am_nw 4 h).bind fun p2 =>
  (F_X4_init p2.1 (40 : Int32) p2.2).bind fun h3 =>
  (am_pr 1 0 v0 p2.1 h3).bind fun h4 =>
  (am_nw 4 h4).bind fun p5 =>
  (F_X4_init p5.1 (40 : Int32) p5.2).bind fun h6 =>
  (am_pr 1 1 v0 p5.1 h6).bind fun h7 =>
  (am_nm (9 : Int32) (1153 : Int32) h7).bind fun p8 =>
  (am_pr 1 2 v0 p8.1 p8.2).bind fun h9 =>
  (am_nw 4 h9).bind fun p10 =>
  (F_X4_init p10.1 (8 : Int32) p10.2).bind fun h11 =>
  (am_pr 1 3 v0 p10.1 h11).bind fun h12 =>
  (am_pi 1 4 v0 (0 : Int32) h12).bind fun h13 =>
  (am_pi 1 5 v0 (0 : Int32) h13).bind fun h14 =>
  some h14
theorem w_X1_init {g : am_G} {l : Launch} {h0 : am_H} {hf : am_H}  (v0 : Nat) (h : am_H) (hF : F_X1_init_b v0 h = some hf) : am_W g l M_X1_init h0 none hf 0 [some (.ref v0)] [] h := by
  unfold F_X1_init_b at hF
  refine am_aload_n (pc' := 1) dX1_init_0 rfl rfl ?_
  obtain ⟨x1, ex1, hF⟩ := am_bind hF
  refine am_oinit (pc' := 4) dX1_init_1 wd_1_154 wd_1_19 wd_1_20 ex1 (by decide) (by decide) rfl ?_
  refine am_aload_n (pc' := 5) dX1_init_4 rfl rfl ?_
  obtain ⟨p2, ep2, hF⟩ := am_bind hF
  refine am_new (pc' := 8) dX1_init_5 nx_X1_9 ep2 rfl ?_
  refine am_dup (pc' := 9) dX1_init_8 rfl rfl ?_
  refine am_bipush (v := (40 : Int32)) (pc' := 11) dX1_init_9 rfl rfl ?_
  obtain ⟨h3, eh3, hF⟩ := am_bind hF
  obtain ⟨oh3, ph3⟩ := t_X4_init eh3
  refine am_callI0 (Mc := M_X4_init) (As := [.int (40 : Int32)]) (st := [.ref p2.1, .ref v0]) (pc' := 14) dX1_init_11 cw_X1_11 wd_1_24 rfl rfl (by decide) (by decide) rfl rfl (Nat.le_of_ble_eq_true rfl) ph3 (c_X4_init eh3) rfl ?_
  obtain ⟨h4, eh4, hF⟩ := am_bind hF
  refine am_putr (pc' := 17) dX1_init_14 fx_X1_14i eh4 rfl ?_
  refine am_aload_n (pc' := 18) dX1_init_17 rfl rfl ?_
  obtain ⟨p5, ep5, hF⟩ := am_bind hF
  refine am_new (pc' := 21) dX1_init_18 nx_X1_9 ep5 rfl ?_
  refine am_dup (pc' := 22) dX1_init_21 rfl rfl ?_
  refine am_bipush (v := (40 : Int32)) (pc' := 24) dX1_init_22 rfl rfl ?_
  obtain ⟨h6, eh6, hF⟩ := am_bind hF
  obtain ⟨oh6, ph6⟩ := t_X4_init eh6
  refine am_callI0 (Mc := M_X4_init) (As := [.int (40 : Int32)]) (st := [.ref p5.1, .ref v0]) (pc' := 27) dX1_init_24 cw_X1_11 wd_1_24 rfl rfl (by decide) (by decide) rfl rfl (Nat.le_of_ble_eq_true rfl) ph6 (c_X4_init eh6) rfl ?_
  obtain ⟨h7, eh7, hF⟩ := am_bind hF
  refine am_putr (pc' := 30) dX1_init_27 fx_X1_20i eh7 rfl ?_
  refine am_aload_n (pc' := 31) dX1_init_30 rfl rfl ?_
  refine am_bipush (v := (9 : Int32)) (pc' := 33) dX1_init_31 rfl rfl ?_
  refine am_sipush (v := (1153 : Int32)) (pc' := 36) dX1_init_33 rfl rfl ?_
  obtain ⟨p8, ep8, hF⟩ := am_bind hF
  refine am_mna (pc' := 40) dX1_init_36 wd_1_157 wd_1_43 wd_1_37 ep8 rfl ?_
  obtain ⟨h9, eh9, hF⟩ := am_bind hF
  refine am_puta (pc' := 43) dX1_init_40 fx_X1_25i eh9 rfl ?_
  refine am_aload_n (pc' := 44) dX1_init_43 rfl rfl ?_
  obtain ⟨p10, ep10, hF⟩ := am_bind hF
  refine am_new (pc' := 47) dX1_init_44 nx_X1_9 ep10 rfl ?_
  refine am_dup (pc' := 48) dX1_init_47 rfl rfl ?_
  refine am_bipush (v := (8 : Int32)) (pc' := 50) dX1_init_48 rfl rfl ?_
  obtain ⟨h11, eh11, hF⟩ := am_bind hF
  obtain ⟨oh11, ph11⟩ := t_X4_init eh11
  refine am_callI0 (Mc := M_X4_init) (As := [.int (8 : Int32)]) (st := [.ref p10.1, .ref v0]) (pc' := 53) dX1_init_50 cw_X1_11 wd_1_24 rfl rfl (by decide) (by decide) rfl rfl (Nat.le_of_ble_eq_true rfl) ph11 (c_X4_init eh11) rfl ?_
  obtain ⟨h12, eh12, hF⟩ := am_bind hF
  refine am_putr (pc' := 56) dX1_init_53 fx_X1_28i eh12 rfl ?_
  refine am_aload_n (pc' := 57) dX1_init_56 rfl rfl ?_
  refine am_iconst (v := (0 : Int32)) (pc' := 58) dX1_init_57 rfl rfl ?_
  obtain ⟨h13, eh13, hF⟩ := am_bind hF
  refine am_puti (pc' := 61) dX1_init_58 fx_X1_31i eh13 rfl ?_
  refine am_aload_n (pc' := 62) dX1_init_61 rfl rfl ?_
  refine am_iconst (v := (0 : Int32)) (pc' := 63) dX1_init_62 rfl rfl ?_
  obtain ⟨h14, eh14, hF⟩ := am_bind hF
  refine am_puti (pc' := 66) dX1_init_63 fx_X1_35i eh14 rfl ?_
  cases hF
  exact am_vret dX1_init_66 rfl
def F_X1_init (v0 : Nat) (h : am_H) : Option am_H := (am_obj v0 1 h).bind fun _ => F_X1_init_b v0 h
theorem t_X1_init {hf : am_H}  {v0 : Nat} {h : am_H} (hF : F_X1_init v0 h = some hf) : ∃ fs, am_obj v0 1 h = some fs := by
  obtain ⟨fs, e, _⟩ := am_bind hF
  exact ⟨fs, e⟩
theorem c_X1_init {g : am_G} {l : Launch} {hf : am_H}  {v0 : Nat} {h : am_H} (hF : F_X1_init v0 h = some hf) : am_Met g l M_X1_init [.ref v0] h none hf := by
  obtain ⟨fs, e0, e⟩ := am_bind hF
  exact am_met (n := 0) (by decide +kernel) rfl (Nat.le_of_ble_eq_true rfl) (w_X1_init v0 h e)
theorem cw_X8_11 : am_cw "SignCellar" 11 M_X4_init 1 := ⟨wd_1_2, wd_1_25, ⟨by decide, by decide, by decide⟩, Or.inl wd_1_23⟩
theorem cw_X8_59 : am_cw "SignCellar" 59 M_X2_init 0 := ⟨wd_1_4, wd_1_48, ⟨by decide, by decide, by decide⟩, Or.inr ⟨_, wd_1_46⟩⟩
theorem cw_X8_66 : am_cw "SignCellar" 66 M_X5_init 0 := ⟨wd_1_5, wd_1_70, ⟨by decide, by decide, by decide⟩, Or.inl wd_1_68⟩
theorem cw_X8_73 : am_cw "SignCellar" 73 M_X3_init 0 := ⟨wd_1_6, wd_1_100, ⟨by decide, by decide, by decide⟩, Or.inr ⟨_, wd_1_98⟩⟩
theorem cw_X8_80 : am_cw "SignCellar" 80 M_X6_init 0 := ⟨wd_1_7, wd_1_126, ⟨by decide, by decide, by decide⟩, Or.inr ⟨_, wd_1_124⟩⟩
theorem cw_X8_87 : am_cw "SignCellar" 87 M_X1_init 0 := ⟨wd_1_8, wd_1_153, ⟨by decide, by decide, by decide⟩, Or.inr ⟨_, wd_1_151⟩⟩
theorem fx_X8_14i : am_fx "SignCellar" 14 8 0 (.object "SignCellar$Row") "<init>" := ⟨(RX8, TX8, 16), tyX8, rfl, by decide, inX8, tyX8_ok, nmX8, rfl, Or.inl ⟨wd_1_180, Or.inr ⟨rfl, rfl, rfl⟩⟩⟩
theorem fx_X8_18i : am_fx "SignCellar" 18 8 1 (.object "SignCellar$Row") "<init>" := ⟨(RX8, TX8, 16), tyX8, rfl, by decide, inX8, tyX8_ok, nmX8, rfl, Or.inl ⟨wd_1_181, Or.inr ⟨rfl, rfl, rfl⟩⟩⟩
theorem fx_X8_23i : am_fx "SignCellar" 23 8 2 (.array (.object "SignCellar$Block")) "<init>" := ⟨(RX8, TX8, 16), tyX8, rfl, by decide, inX8, tyX8_ok, nmX8, rfl, Or.inl ⟨wd_1_182, Or.inr ⟨rfl, rfl, rfl⟩⟩⟩
theorem fx_X8_27i : am_fx "SignCellar" 27 8 3 .int "<init>" := ⟨(RX8, TX8, 16), tyX8, rfl, by decide, inX8, tyX8_ok, nmX8, rfl, Or.inl ⟨wd_1_183, Or.inl rfl⟩⟩
theorem fx_X8_33i : am_fx "SignCellar" 33 8 4 (.array (.object "SignCellar$Version")) "<init>" := ⟨(RX8, TX8, 16), tyX8, rfl, by decide, inX8, tyX8_ok, nmX8, rfl, Or.inl ⟨wd_1_184, Or.inr ⟨rfl, rfl, rfl⟩⟩⟩
theorem fx_X8_37i : am_fx "SignCellar" 37 8 5 .int "<init>" := ⟨(RX8, TX8, 16), tyX8, rfl, by decide, inX8, tyX8_ok, nmX8, rfl, Or.inl ⟨wd_1_185, Or.inl rfl⟩⟩
theorem fx_X8_40i : am_fx "SignCellar" 40 8 6 (.object "SignCellar$Row") "<init>" := ⟨(RX8, TX8, 16), tyX8, rfl, by decide, inX8, tyX8_ok, nmX8, rfl, Or.inl ⟨wd_1_186, Or.inr ⟨rfl, rfl, rfl⟩⟩⟩
theorem fx_X8_43i : am_fx "SignCellar" 43 8 7 .int "<init>" := ⟨(RX8, TX8, 16), tyX8, rfl, by decide, inX8, tyX8_ok, nmX8, rfl, Or.inl ⟨wd_1_187, Or.inl rfl⟩⟩
theorem fx_X8_46i : am_fx "SignCellar" 46 8 8 (.object "SignCellar$Row") "<init>" := ⟨(RX8, TX8, 16), tyX8, rfl, by decide, inX8, tyX8_ok, nmX8, rfl, Or.inl ⟨wd_1_188, Or.inr ⟨rfl, rfl, rfl⟩⟩⟩
theorem fx_X8_49i : am_fx "SignCellar" 49 8 9 (.object "SignCellar$Row") "<init>" := ⟨(RX8, TX8, 16), tyX8, rfl, by decide, inX8, tyX8_ok, nmX8, rfl, Or.inl ⟨wd_1_189, Or.inr ⟨rfl, rfl, rfl⟩⟩⟩
theorem fx_X8_54i : am_fx "SignCellar" 54 8 10 (.array (.array .int)) "<init>" := ⟨(RX8, TX8, 16), tyX8, rfl, by decide, inX8, tyX8_ok, nmX8, rfl, Or.inl ⟨wd_1_190, Or.inr ⟨rfl, rfl, rfl⟩⟩⟩
theorem fx_X8_60i : am_fx "SignCellar" 60 8 11 (.object "SignCellar$Mates") "<init>" := ⟨(RX8, TX8, 16), tyX8, rfl, by decide, inX8, tyX8_ok, nmX8, rfl, Or.inl ⟨wd_1_191, Or.inr ⟨rfl, rfl, rfl⟩⟩⟩
theorem fx_X8_67i : am_fx "SignCellar" 67 8 12 (.object "SignCellar$Rules") "<init>" := ⟨(RX8, TX8, 16), tyX8, rfl, by decide, inX8, tyX8_ok, nmX8, rfl, Or.inl ⟨wd_1_192, Or.inr ⟨rfl, rfl, rfl⟩⟩⟩
theorem fx_X8_74i : am_fx "SignCellar" 74 8 13 (.object "SignCellar$Odds") "<init>" := ⟨(RX8, TX8, 16), tyX8, rfl, by decide, inX8, tyX8_ok, nmX8, rfl, Or.inl ⟨wd_1_193, Or.inr ⟨rfl, rfl, rfl⟩⟩⟩
theorem fx_X8_81i : am_fx "SignCellar" 81 8 14 (.object "SignCellar$Turns") "<init>" := ⟨(RX8, TX8, 16), tyX8, rfl, by decide, inX8, tyX8_ok, nmX8, rfl, Or.inl ⟨wd_1_194, Or.inr ⟨rfl, rfl, rfl⟩⟩⟩
theorem fx_X8_88i : am_fx "SignCellar" 88 8 15 (.object "SignCellar$Choice") "<init>" := ⟨(RX8, TX8, 16), tyX8, rfl, by decide, inX8, tyX8_ok, nmX8, rfl, Or.inl ⟨wd_1_195, Or.inr ⟨rfl, rfl, rfl⟩⟩⟩
theorem nx_X8_57 : am_nx "SignCellar" 57 2 := ⟨(RX2, TX2, 4), rfl, inX2, tyX2_ok, by decide, wd_1_44, wd_1_45, wd_1_4⟩
theorem nx_X8_64 : am_nx "SignCellar" 64 5 := ⟨(RX5, TX5, 6), rfl, inX5, tyX5_ok, by decide, wd_1_66, wd_1_67, wd_1_5⟩
theorem nx_X8_7 : am_nx "SignCellar" 7 4 := ⟨(RX4, TX4, 2), rfl, inX4, tyX4_ok, by decide, wd_1_21, wd_1_22, wd_1_2⟩
theorem nx_X8_71 : am_nx "SignCellar" 71 3 := ⟨(RX3, TX3, 5), rfl, inX3, tyX3_ok, by decide, wd_1_96, wd_1_97, wd_1_6⟩
theorem nx_X8_78 : am_nx "SignCellar" 78 6 := ⟨(RX6, TX6, 5), rfl, inX6, tyX6_ok, by decide, wd_1_122, wd_1_123, wd_1_7⟩
theorem nx_X8_85 : am_nx "SignCellar" 85 1 := ⟨(RX1, TX1, 6), rfl, inX1, tyX1_ok, by decide, wd_1_149, wd_1_150, wd_1_8⟩
def F_X8_init_b (v0 : Nat) (h : am_H) : Option am_H :=
  (am_obj v0 8 h).bind fun x1 =>
  (am_nw 4 h).bind fun p2 =>
  (F_X4_init p2.1 (96 : Int32) p2.2).bind fun h3 =>
  (am_pr 8 0 v0 p2.1 h3).bind fun h4 =>
  (am_nw 4 h4).bind fun p5 =>
  (F_X4_init p5.1 (12 : Int32) p5.2).bind fun h6 =>
  (am_pr 8 1 v0 p5.1 h6).bind fun h7 =>
  (am_na 2 (200 : Int32) h7).bind fun p8 =>
  (am_pr 8 2 v0 p8.1 p8.2).bind fun h9 =>
  (am_pi 8 3 v0 (0 : Int32) h9).bind fun h10 =>
  (am_na 3 (30 : Int32) h10).bind fun p11 =>
  (am_pr 8 4 v0 p11.1 p11.2).bind fun h12 =>
  (am_pi 8 5 v0 (0 : Int32) h12).bind fun h13 =>
  (am_nw 4 h13).bind fun p14 =>
  (F_X4_init p14.1 (8 : Int32) p14.2).bind fun h15 =>
  (am_pr 8 6 v0 p14.1 h15).bind fun h16 =>
  (am_pi 8 7 v0 (0 : Int32) h16).bind fun h17 =>
  (am_nw 4 h17).bind fun p18 =>
  (F_X4_init p18.1 (25 : Int32) p18.2).bind fun h19 =>
  (am_pr 8 8 v0 p18.1 h19).bind fun h20 =>
  (am_nw 4 h20).bind fun p21 =>
  (F_X4_init p21.1 (192 : Int32) p21.2).bind fun h22 =>
  (am_pr 8 9 v0 p21.1 h22).bind fun h23 =>
  (am_nm (9 : Int32) (9 : Int32) h23).bind fun p24 =>
  (am_pr 8 10 v0 p24.1 p24.2).bind fun h25 =>
  (am_nw 2 h25).bind fun p26 =>
  (F_X2_init p26.1 p26.2).bind fun h27 =>
  (am_pr 8 11 v0 p26.1 h27).bind fun h28 =>
  (am_nw 5 h28).bind fun p29 =>
  (F_X5_init p29.1 p29.2).bind fun h30 =>
  (am_pr 8 12 v0 p29.1 h30).bind fun h31 =>
  (am_nw 3 h31).bind fun p32 =>
  (F_X3_init p32.1 p32.2).bind fun h33 =>
  (am_pr 8 13 v0 p32.1 h33).bind fun h34 =>
  (am_nw 6 h34).bind fun p35 =>
  (F_X6_init p35.1 p35.2).bind fun h36 =>
  (am_pr 8 14 v0 p35.1 h36).bind fun h37 =>
  (am_nw 1 h37).bind fun p38 =>
  (F_X1_init p38.1 p38.2).bind fun h39 =>
  (am_pr 8 15 v0 p38.1 h39).bind fun h40 =>
  some h40
theorem w_X8_init {g : am_G} {l : Launch} {h0 : am_H} {hf : am_H}  (v0 : Nat) (h : am_H) (hF : F_X8_init_b v0 h = some hf) : am_W g l M_X8_init h0 none hf 0 [some (.ref v0)] [] h := by
  unfold F_X8_init_b at hF
  refine am_aload_n (pc' := 1) dX8_init_0 rfl rfl ?_
  obtain ⟨x1, ex1, hF⟩ := am_bind hF
  refine am_oinit (pc' := 4) dX8_init_1 wd_1_18 wd_1_19 wd_1_20 ex1 (by decide) (by decide) rfl ?_
  refine am_aload_n (pc' := 5) dX8_init_4 rfl rfl ?_
  obtain ⟨p2, ep2, hF⟩ := am_bind hF
  refine am_new (pc' := 8) dX8_init_5 nx_X8_7 ep2 rfl ?_
  refine am_dup (pc' := 9) dX8_init_8 rfl rfl ?_
  refine am_bipush (v := (96 : Int32)) (pc' := 11) dX8_init_9 rfl rfl ?_
  obtain ⟨h3, eh3, hF⟩ := am_bind hF
  obtain ⟨oh3, ph3⟩ := t_X4_init eh3
  refine am_callI0 (Mc := M_X4_init) (As := [.int (96 : Int32)]) (st := [.ref p2.1, .ref v0]) (pc' := 14) dX8_init_11 cw_X8_11 wd_1_24 rfl rfl (by decide) (by decide) rfl rfl (Nat.le_of_ble_eq_true rfl) ph3 (c_X4_init eh3) rfl ?_
  obtain ⟨h4, eh4, hF⟩ := am_bind hF
  refine am_putr (pc' := 17) dX8_init_14 fx_X8_14i eh4 rfl ?_
  refine am_aload_n (pc' := 18) dX8_init_17 rfl rfl ?_
  obtain ⟨p5, ep5, hF⟩ := am_bind hF
  refine am_new (pc' := 21) dX8_init_18 nx_X8_7 ep5 rfl ?_
  refine am_dup (pc' := 22) dX8_init_21 rfl rfl ?_
  refine am_bipush (v := (12 : Int32)) (pc' := 24) dX8_init_22 rfl rfl ?_
  obtain ⟨h6, eh6, hF⟩ := am_bind hF
  obtain ⟨oh6, ph6⟩ := t_X4_init eh6
  refine am_callI0 (Mc := M_X4_init) (As := [.int (12 : Int32)]) (st := [.ref p5.1, .ref v0]) (pc' := 27) dX8_init_24 cw_X8_11 wd_1_24 rfl rfl (by decide) (by decide) rfl rfl (Nat.le_of_ble_eq_true rfl) ph6 (c_X4_init eh6) rfl ?_
  obtain ⟨h7, eh7, hF⟩ := am_bind hF
  refine am_putr (pc' := 30) dX8_init_27 fx_X8_18i eh7 rfl ?_
  refine am_aload_n (pc' := 31) dX8_init_30 rfl rfl ?_
  refine am_sipush (v := (200 : Int32)) (pc' := 34) dX8_init_31 rfl rfl ?_
  obtain ⟨p8, ep8, hF⟩ := am_bind hF
  refine am_anew (pc' := 37) dX8_init_34 (fun _ => rfl) wd_1_38 wd_1_39 ep8 rfl ?_
  obtain ⟨h9, eh9, hF⟩ := am_bind hF
  refine am_puta (pc' := 40) dX8_init_37 fx_X8_23i eh9 rfl ?_
  refine am_aload_n (pc' := 41) dX8_init_40 rfl rfl ?_
  refine am_iconst (v := (0 : Int32)) (pc' := 42) dX8_init_41 rfl rfl ?_
  obtain ⟨h10, eh10, hF⟩ := am_bind hF
  refine am_puti (pc' := 45) dX8_init_42 fx_X8_27i eh10 rfl ?_
  refine am_aload_n (pc' := 46) dX8_init_45 rfl rfl ?_
  refine am_bipush (v := (30 : Int32)) (pc' := 48) dX8_init_46 rfl rfl ?_
  obtain ⟨p11, ep11, hF⟩ := am_bind hF
  refine am_anew (pc' := 51) dX8_init_48 (fun _ => rfl) wd_1_40 wd_1_41 ep11 rfl ?_
  obtain ⟨h12, eh12, hF⟩ := am_bind hF
  refine am_puta (pc' := 54) dX8_init_51 fx_X8_33i eh12 rfl ?_
  refine am_aload_n (pc' := 55) dX8_init_54 rfl rfl ?_
  refine am_iconst (v := (0 : Int32)) (pc' := 56) dX8_init_55 rfl rfl ?_
  obtain ⟨h13, eh13, hF⟩ := am_bind hF
  refine am_puti (pc' := 59) dX8_init_56 fx_X8_37i eh13 rfl ?_
  refine am_aload_n (pc' := 60) dX8_init_59 rfl rfl ?_
  obtain ⟨p14, ep14, hF⟩ := am_bind hF
  refine am_new (pc' := 63) dX8_init_60 nx_X8_7 ep14 rfl ?_
  refine am_dup (pc' := 64) dX8_init_63 rfl rfl ?_
  refine am_bipush (v := (8 : Int32)) (pc' := 66) dX8_init_64 rfl rfl ?_
  obtain ⟨h15, eh15, hF⟩ := am_bind hF
  obtain ⟨oh15, ph15⟩ := t_X4_init eh15
  refine am_callI0 (Mc := M_X4_init) (As := [.int (8 : Int32)]) (st := [.ref p14.1, .ref v0]) (pc' := 69) dX8_init_66 cw_X8_11 wd_1_24 rfl rfl (by decide) (by decide) rfl rfl (Nat.le_of_ble_eq_true rfl) ph15 (c_X4_init eh15) rfl ?_
  obtain ⟨h16, eh16, hF⟩ := am_bind hF
  refine am_putr (pc' := 72) dX8_init_69 fx_X8_40i eh16 rfl ?_
  refine am_aload_n (pc' := 73) dX8_init_72 rfl rfl ?_
  refine am_iconst (v := (0 : Int32)) (pc' := 74) dX8_init_73 rfl rfl ?_
  obtain ⟨h17, eh17, hF⟩ := am_bind hF
  refine am_puti (pc' := 77) dX8_init_74 fx_X8_43i eh17 rfl ?_
  refine am_aload_n (pc' := 78) dX8_init_77 rfl rfl ?_
  obtain ⟨p18, ep18, hF⟩ := am_bind hF
  refine am_new (pc' := 81) dX8_init_78 nx_X8_7 ep18 rfl ?_
  refine am_dup (pc' := 82) dX8_init_81 rfl rfl ?_
  refine am_bipush (v := (25 : Int32)) (pc' := 84) dX8_init_82 rfl rfl ?_
  obtain ⟨h19, eh19, hF⟩ := am_bind hF
  obtain ⟨oh19, ph19⟩ := t_X4_init eh19
  refine am_callI0 (Mc := M_X4_init) (As := [.int (25 : Int32)]) (st := [.ref p18.1, .ref v0]) (pc' := 87) dX8_init_84 cw_X8_11 wd_1_24 rfl rfl (by decide) (by decide) rfl rfl (Nat.le_of_ble_eq_true rfl) ph19 (c_X4_init eh19) rfl ?_
  obtain ⟨h20, eh20, hF⟩ := am_bind hF
  refine am_putr (pc' := 90) dX8_init_87 fx_X8_46i eh20 rfl ?_
  refine am_aload_n (pc' := 91) dX8_init_90 rfl rfl ?_
  obtain ⟨p21, ep21, hF⟩ := am_bind hF
  refine am_new (pc' := 94) dX8_init_91 nx_X8_7 ep21 rfl ?_
  refine am_dup (pc' := 95) dX8_init_94 rfl rfl ?_
  refine am_sipush (v := (192 : Int32)) (pc' := 98) dX8_init_95 rfl rfl ?_
  obtain ⟨h22, eh22, hF⟩ := am_bind hF
  obtain ⟨oh22, ph22⟩ := t_X4_init eh22
  refine am_callI0 (Mc := M_X4_init) (As := [.int (192 : Int32)]) (st := [.ref p21.1, .ref v0]) (pc' := 101) dX8_init_98 cw_X8_11 wd_1_24 rfl rfl (by decide) (by decide) rfl rfl (Nat.le_of_ble_eq_true rfl) ph22 (c_X4_init eh22) rfl ?_
  obtain ⟨h23, eh23, hF⟩ := am_bind hF
  refine am_putr (pc' := 104) dX8_init_101 fx_X8_49i eh23 rfl ?_
  refine am_aload_n (pc' := 105) dX8_init_104 rfl rfl ?_
  refine am_bipush (v := (9 : Int32)) (pc' := 107) dX8_init_105 rfl rfl ?_
  refine am_bipush (v := (9 : Int32)) (pc' := 109) dX8_init_107 rfl rfl ?_
  obtain ⟨p24, ep24, hF⟩ := am_bind hF
  refine am_mna (pc' := 113) dX8_init_109 wd_1_42 wd_1_43 wd_1_37 ep24 rfl ?_
  obtain ⟨h25, eh25, hF⟩ := am_bind hF
  refine am_puta (pc' := 116) dX8_init_113 fx_X8_54i eh25 rfl ?_
  refine am_aload_n (pc' := 117) dX8_init_116 rfl rfl ?_
  obtain ⟨p26, ep26, hF⟩ := am_bind hF
  refine am_new (pc' := 120) dX8_init_117 nx_X8_57 ep26 rfl ?_
  refine am_dup (pc' := 121) dX8_init_120 rfl rfl ?_
  obtain ⟨h27, eh27, hF⟩ := am_bind hF
  obtain ⟨oh27, ph27⟩ := t_X2_init eh27
  refine am_callI0 (Mc := M_X2_init) (As := []) (st := [.ref p26.1, .ref v0]) (pc' := 124) dX8_init_121 cw_X8_59 wd_1_47 rfl rfl (by decide) (by decide) rfl rfl (Nat.le_of_ble_eq_true rfl) ph27 (c_X2_init eh27) rfl ?_
  obtain ⟨h28, eh28, hF⟩ := am_bind hF
  refine am_putr (pc' := 127) dX8_init_124 fx_X8_60i eh28 rfl ?_
  refine am_aload_n (pc' := 128) dX8_init_127 rfl rfl ?_
  obtain ⟨p29, ep29, hF⟩ := am_bind hF
  refine am_new (pc' := 131) dX8_init_128 nx_X8_64 ep29 rfl ?_
  refine am_dup (pc' := 132) dX8_init_131 rfl rfl ?_
  obtain ⟨h30, eh30, hF⟩ := am_bind hF
  obtain ⟨oh30, ph30⟩ := t_X5_init eh30
  refine am_callI0 (Mc := M_X5_init) (As := []) (st := [.ref p29.1, .ref v0]) (pc' := 135) dX8_init_132 cw_X8_66 wd_1_69 rfl rfl (by decide) (by decide) rfl rfl (Nat.le_of_ble_eq_true rfl) ph30 (c_X5_init eh30) rfl ?_
  obtain ⟨h31, eh31, hF⟩ := am_bind hF
  refine am_putr (pc' := 138) dX8_init_135 fx_X8_67i eh31 rfl ?_
  refine am_aload_n (pc' := 139) dX8_init_138 rfl rfl ?_
  obtain ⟨p32, ep32, hF⟩ := am_bind hF
  refine am_new (pc' := 142) dX8_init_139 nx_X8_71 ep32 rfl ?_
  refine am_dup (pc' := 143) dX8_init_142 rfl rfl ?_
  obtain ⟨h33, eh33, hF⟩ := am_bind hF
  obtain ⟨oh33, ph33⟩ := t_X3_init eh33
  refine am_callI0 (Mc := M_X3_init) (As := []) (st := [.ref p32.1, .ref v0]) (pc' := 146) dX8_init_143 cw_X8_73 wd_1_99 rfl rfl (by decide) (by decide) rfl rfl (Nat.le_of_ble_eq_true rfl) ph33 (c_X3_init eh33) rfl ?_
  obtain ⟨h34, eh34, hF⟩ := am_bind hF
  refine am_putr (pc' := 149) dX8_init_146 fx_X8_74i eh34 rfl ?_
  refine am_aload_n (pc' := 150) dX8_init_149 rfl rfl ?_
  obtain ⟨p35, ep35, hF⟩ := am_bind hF
  refine am_new (pc' := 153) dX8_init_150 nx_X8_78 ep35 rfl ?_
  refine am_dup (pc' := 154) dX8_init_153 rfl rfl ?_
  obtain ⟨h36, eh36, hF⟩ := am_bind hF
  obtain ⟨oh36, ph36⟩ := t_X6_init eh36
  refine am_callI0 (Mc := M_X6_init) (As := []) (st := [.ref p35.1, .ref v0]) (pc' := 157) dX8_init_154 cw_X8_80 wd_1_125 rfl rfl (by decide) (by decide) rfl rfl (Nat.le_of_ble_eq_true rfl) ph36 (c_X6_init eh36) rfl ?_
  obtain ⟨h37, eh37, hF⟩ := am_bind hF
  refine am_putr (pc' := 160) dX8_init_157 fx_X8_81i eh37 rfl ?_
  refine am_aload_n (pc' := 161) dX8_init_160 rfl rfl ?_
  obtain ⟨p38, ep38, hF⟩ := am_bind hF
  refine am_new (pc' := 164) dX8_init_161 nx_X8_85 ep38 rfl ?_
  refine am_dup (pc' := 165) dX8_init_164 rfl rfl ?_
  obtain ⟨h39, eh39, hF⟩ := am_bind hF
  obtain ⟨oh39, ph39⟩ := t_X1_init eh39
  refine am_callI0 (Mc := M_X1_init) (As := []) (st := [.ref p38.1, .ref v0]) (pc' := 168) dX8_init_165 cw_X8_87 wd_1_152 rfl rfl (by decide) (by decide) rfl rfl (Nat.le_of_ble_eq_true rfl) ph39 (c_X1_init eh39) rfl ?_
  obtain ⟨h40, eh40, hF⟩ := am_bind hF
  refine am_putr (pc' := 171) dX8_init_168 fx_X8_88i eh40 rfl ?_
  cases hF
  exact am_vret dX8_init_171 rfl
def F_X8_init (v0 : Nat) (h : am_H) : Option am_H := (am_obj v0 8 h).bind fun _ => F_X8_init_b v0 h
theorem t_X8_init {hf : am_H}  {v0 : Nat} {h : am_H} (hF : F_X8_init v0 h = some hf) : ∃ fs, am_obj v0 8 h = some fs := by
  obtain ⟨fs, e, _⟩ := am_bind hF
  exact ⟨fs, e⟩
theorem c_X8_init {g : am_G} {l : Launch} {hf : am_H}  {v0 : Nat} {h : am_H} (hF : F_X8_init v0 h = some hf) : am_Met g l M_X8_init [.ref v0] h none hf := by
  obtain ⟨fs, e0, e⟩ := am_bind hF
  exact am_met (n := 0) (by decide +kernel) rfl (Nat.le_of_ble_eq_true rfl) (w_X8_init v0 h e)
theorem fx_X9_13i : am_fx "SignCellarModel" 13 9 3 (.array .int) "<init>" := ⟨(RX9, TX9, 42), tyX9, rfl, by decide, inX9, tyX9_ok, nmX9, rfl, Or.inl ⟨wd_4_103, Or.inr ⟨rfl, rfl, rfl⟩⟩⟩
theorem fx_X9_16i : am_fx "SignCellarModel" 16 9 4 (.array .int) "<init>" := ⟨(RX9, TX9, 42), tyX9, rfl, by decide, inX9, tyX9_ok, nmX9, rfl, Or.inl ⟨wd_4_104, Or.inr ⟨rfl, rfl, rfl⟩⟩⟩
theorem fx_X9_19i : am_fx "SignCellarModel" 19 9 5 (.array .boolean) "<init>" := ⟨(RX9, TX9, 42), tyX9, rfl, by decide, inX9, tyX9_ok, nmX9, rfl, Or.inl ⟨wd_4_105, Or.inr ⟨rfl, rfl, rfl⟩⟩⟩
theorem fx_X9_23i : am_fx "SignCellarModel" 23 9 7 (.array .int) "<init>" := ⟨(RX9, TX9, 42), tyX9, rfl, by decide, inX9, tyX9_ok, nmX9, rfl, Or.inl ⟨wd_4_107, Or.inr ⟨rfl, rfl, rfl⟩⟩⟩
theorem fx_X9_26i : am_fx "SignCellarModel" 26 9 8 (.array .int) "<init>" := ⟨(RX9, TX9, 42), tyX9, rfl, by decide, inX9, tyX9_ok, nmX9, rfl, Or.inl ⟨wd_4_108, Or.inr ⟨rfl, rfl, rfl⟩⟩⟩
theorem fx_X9_29i : am_fx "SignCellarModel" 29 9 9 (.array .int) "<init>" := ⟨(RX9, TX9, 42), tyX9, rfl, by decide, inX9, tyX9_ok, nmX9, rfl, Or.inl ⟨wd_4_109, Or.inr ⟨rfl, rfl, rfl⟩⟩⟩
theorem fx_X9_32i : am_fx "SignCellarModel" 32 9 10 (.array .int) "<init>" := ⟨(RX9, TX9, 42), tyX9, rfl, by decide, inX9, tyX9_ok, nmX9, rfl, Or.inl ⟨wd_4_110, Or.inr ⟨rfl, rfl, rfl⟩⟩⟩
theorem fx_X9_35i : am_fx "SignCellarModel" 35 9 11 (.array .int) "<init>" := ⟨(RX9, TX9, 42), tyX9, rfl, by decide, inX9, tyX9_ok, nmX9, rfl, Or.inl ⟨wd_4_111, Or.inr ⟨rfl, rfl, rfl⟩⟩⟩
theorem fx_X9_38i : am_fx "SignCellarModel" 38 9 12 (.array .int) "<init>" := ⟨(RX9, TX9, 42), tyX9, rfl, by decide, inX9, tyX9_ok, nmX9, rfl, Or.inl ⟨wd_4_112, Or.inr ⟨rfl, rfl, rfl⟩⟩⟩
theorem fx_X9_41i : am_fx "SignCellarModel" 41 9 13 (.array .int) "<init>" := ⟨(RX9, TX9, 42), tyX9, rfl, by decide, inX9, tyX9_ok, nmX9, rfl, Or.inl ⟨wd_4_113, Or.inr ⟨rfl, rfl, rfl⟩⟩⟩
theorem fx_X9_44i : am_fx "SignCellarModel" 44 9 15 (.array .int) "<init>" := ⟨(RX9, TX9, 42), tyX9, rfl, by decide, inX9, tyX9_ok, nmX9, rfl, Or.inl ⟨wd_4_115, Or.inr ⟨rfl, rfl, rfl⟩⟩⟩
theorem fx_X9_47i : am_fx "SignCellarModel" 47 9 20 (.array .int) "<init>" := ⟨(RX9, TX9, 42), tyX9, rfl, by decide, inX9, tyX9_ok, nmX9, rfl, Or.inl ⟨wd_4_120, Or.inr ⟨rfl, rfl, rfl⟩⟩⟩
theorem fx_X9_50i : am_fx "SignCellarModel" 50 9 21 (.array .int) "<init>" := ⟨(RX9, TX9, 42), tyX9, rfl, by decide, inX9, tyX9_ok, nmX9, rfl, Or.inl ⟨wd_4_121, Or.inr ⟨rfl, rfl, rfl⟩⟩⟩
theorem fx_X9_53i : am_fx "SignCellarModel" 53 9 23 (.array .int) "<init>" := ⟨(RX9, TX9, 42), tyX9, rfl, by decide, inX9, tyX9_ok, nmX9, rfl, Or.inl ⟨wd_4_123, Or.inr ⟨rfl, rfl, rfl⟩⟩⟩
theorem fx_X9_56i : am_fx "SignCellarModel" 56 9 26 (.array .int) "<init>" := ⟨(RX9, TX9, 42), tyX9, rfl, by decide, inX9, tyX9_ok, nmX9, rfl, Or.inl ⟨wd_4_126, Or.inr ⟨rfl, rfl, rfl⟩⟩⟩
theorem fx_X9_59i : am_fx "SignCellarModel" 59 9 27 (.array .int) "<init>" := ⟨(RX9, TX9, 42), tyX9, rfl, by decide, inX9, tyX9_ok, nmX9, rfl, Or.inl ⟨wd_4_127, Or.inr ⟨rfl, rfl, rfl⟩⟩⟩
theorem fx_X9_62i : am_fx "SignCellarModel" 62 9 28 (.array .int) "<init>" := ⟨(RX9, TX9, 42), tyX9, rfl, by decide, inX9, tyX9_ok, nmX9, rfl, Or.inl ⟨wd_4_128, Or.inr ⟨rfl, rfl, rfl⟩⟩⟩
theorem fx_X9_65i : am_fx "SignCellarModel" 65 9 31 (.array .int) "<init>" := ⟨(RX9, TX9, 42), tyX9, rfl, by decide, inX9, tyX9_ok, nmX9, rfl, Or.inl ⟨wd_4_131, Or.inr ⟨rfl, rfl, rfl⟩⟩⟩
theorem fx_X9_68i : am_fx "SignCellarModel" 68 9 32 (.array .int) "<init>" := ⟨(RX9, TX9, 42), tyX9, rfl, by decide, inX9, tyX9_ok, nmX9, rfl, Or.inl ⟨wd_4_132, Or.inr ⟨rfl, rfl, rfl⟩⟩⟩
theorem fx_X9_7i : am_fx "SignCellarModel" 7 9 1 (.array .int) "<init>" := ⟨(RX9, TX9, 42), tyX9, rfl, by decide, inX9, tyX9_ok, nmX9, rfl, Or.inl ⟨wd_4_101, Or.inr ⟨rfl, rfl, rfl⟩⟩⟩
theorem fx_X9_71i : am_fx "SignCellarModel" 71 9 33 (.array .int) "<init>" := ⟨(RX9, TX9, 42), tyX9, rfl, by decide, inX9, tyX9_ok, nmX9, rfl, Or.inl ⟨wd_4_133, Or.inr ⟨rfl, rfl, rfl⟩⟩⟩
theorem fx_X9_74i : am_fx "SignCellarModel" 74 9 34 (.array .int) "<init>" := ⟨(RX9, TX9, 42), tyX9, rfl, by decide, inX9, tyX9_ok, nmX9, rfl, Or.inl ⟨wd_4_134, Or.inr ⟨rfl, rfl, rfl⟩⟩⟩
theorem fx_X9_77i : am_fx "SignCellarModel" 77 9 36 (.array .int) "<init>" := ⟨(RX9, TX9, 42), tyX9, rfl, by decide, inX9, tyX9_ok, nmX9, rfl, Or.inl ⟨wd_4_136, Or.inr ⟨rfl, rfl, rfl⟩⟩⟩
theorem fx_X9_80i : am_fx "SignCellarModel" 80 9 37 (.array .int) "<init>" := ⟨(RX9, TX9, 42), tyX9, rfl, by decide, inX9, tyX9_ok, nmX9, rfl, Or.inl ⟨wd_4_137, Or.inr ⟨rfl, rfl, rfl⟩⟩⟩
theorem fx_X9_83i : am_fx "SignCellarModel" 83 9 38 (.array .int) "<init>" := ⟨(RX9, TX9, 42), tyX9, rfl, by decide, inX9, tyX9_ok, nmX9, rfl, Or.inl ⟨wd_4_138, Or.inr ⟨rfl, rfl, rfl⟩⟩⟩
theorem fx_X9_86i : am_fx "SignCellarModel" 86 9 40 (.array .int) "<init>" := ⟨(RX9, TX9, 42), tyX9, rfl, by decide, inX9, tyX9_ok, nmX9, rfl, Or.inl ⟨wd_4_140, Or.inr ⟨rfl, rfl, rfl⟩⟩⟩
theorem fx_X9_89i : am_fx "SignCellarModel" 89 9 41 (.array .int) "<init>" := ⟨(RX9, TX9, 42), tyX9, rfl, by decide, inX9, tyX9_ok, nmX9, rfl, Or.inl ⟨wd_4_141, Or.inr ⟨rfl, rfl, rfl⟩⟩⟩
def F_X9_init_b (v0 : Nat) (h : am_H) : Option am_H :=
  (am_obj v0 9 h).bind fun x1 =>
  (am_ni 0 (96 : Int32) h).bind fun p2 =>
  (am_pr 9 1 v0 p2.1 p2.2).bind fun h3 =>
  (am_ni 0 (200 : Int32) h3).bind fun p4 =>
  (am_pr 9 3 v0 p4.1 p4.2).bind fun h5 =>
  (am_ni 0 (4800 : Int32) h5).bind fun p6 =>
  (am_pr 9 4 v0 p6.1 p6.2).bind fun h7 =>
  (am_ni 1 (200 : Int32) h7).bind fun p8 =>
  (am_pr 9 5 v0 p8.1 p8.2).bind fun h9 =>
  (am_ni 0 (30 : Int32) h9).bind fun p10 =>
  (am_pr 9 7 v0 p10.1 p10.2).bind fun h11 =>
  (am_ni 0 (240 : Int32) h11).bind fun p12 =>
  (am_pr 9 8 v0 p12.1 p12.2).bind fun h13 =>
  (am_ni 0 (30 : Int32) h13).bind fun p14 =>
  (am_pr 9 9 v0 p14.1 p14.2).bind fun h15 =>
  (am_ni 0 (30 : Int32) h15).bind fun p16 =>
  (am_pr 9 10 v0 p16.1 p16.2).bind fun h17 =>
  (am_ni 0 (720 : Int32) h17).bind fun p18 =>
  (am_pr 9 11 v0 p18.1 p18.2).bind fun h19 =>
  (am_ni 0 (720 : Int32) h19).bind fun p20 =>
  (am_pr 9 12 v0 p20.1 p20.2).bind fun h21 =>
  (am_ni 0 (25 : Int32) h21).bind fun p22 =>
  (am_pr 9 13 v0 p22.1 p22.2).bind fun h23 =>
  (am_ni 0 (9 : Int32) h23).bind fun p24 =>
  (am_pr 9 15 v0 p24.1 p24.2).bind fun h25 =>
  (am_ni 0 (25 : Int32) h25).bind fun p26 =>
  (am_pr 9 20 v0 p26.1 p26.2).bind fun h27 =>
  (am_ni 0 (24 : Int32) h27).bind fun p28 =>
  (am_pr 9 21 v0 p28.1 p28.2).bind fun h29 =>
  (am_ni 0 (24 : Int32) h29).bind fun p30 =>
  (am_pr 9 23 v0 p30.1 p30.2).bind fun h31 =>
  (am_ni 0 (24 : Int32) h31).bind fun p32 =>
  (am_pr 9 26 v0 p32.1 p32.2).bind fun h33 =>
  (am_ni 0 (576 : Int32) h33).bind fun p34 =>
  (am_pr 9 27 v0 p34.1 p34.2).bind fun h35 =>
  (am_ni 0 (400 : Int32) h35).bind fun p36 =>
  (am_pr 9 28 v0 p36.1 p36.2).bind fun h37 =>
  (am_ni 0 (25 : Int32) h37).bind fun p38 =>
  (am_pr 9 31 v0 p38.1 p38.2).bind fun h39 =>
  (am_ni 0 (24 : Int32) h39).bind fun p40 =>
  (am_pr 9 32 v0 p40.1 p40.2).bind fun h41 =>
  (am_ni 0 (24 : Int32) h41).bind fun p42 =>
  (am_pr 9 33 v0 p42.1 p42.2).bind fun h43 =>
  (am_ni 0 (16 : Int32) h43).bind fun p44 =>
  (am_pr 9 34 v0 p44.1 p44.2).bind fun h45 =>
  (am_ni 0 (10809 : Int32) h45).bind fun p46 =>
  (am_pr 9 36 v0 p46.1 p46.2).bind fun h47 =>
  (am_ni 0 (40 : Int32) h47).bind fun p48 =>
  (am_pr 9 37 v0 p48.1 p48.2).bind fun h49 =>
  (am_ni 0 (40 : Int32) h49).bind fun p50 =>
  (am_pr 9 38 v0 p50.1 p50.2).bind fun h51 =>
  (am_ni 0 (12 : Int32) h51).bind fun p52 =>
  (am_pr 9 40 v0 p52.1 p52.2).bind fun h53 =>
  (am_ni 0 (81 : Int32) h53).bind fun p54 =>
  (am_pr 9 41 v0 p54.1 p54.2).bind fun h55 =>
  some h55
theorem w_X9_init {g : am_G} {l : Launch} {h0 : am_H} {hf : am_H}  (v0 : Nat) (h : am_H) (hF : F_X9_init_b v0 h = some hf) : am_W g l M_X9_init h0 none hf 0 [some (.ref v0)] [] h := by
  unfold F_X9_init_b at hF
  refine am_aload_n (pc' := 1) dX9_init_0 rfl rfl ?_
  obtain ⟨x1, ex1, hF⟩ := am_bind hF
  refine am_oinit (pc' := 4) dX9_init_1 wd_4_99 wd_1_19 wd_1_20 ex1 (by decide) (by decide) rfl ?_
  refine am_aload_n (pc' := 5) dX9_init_4 rfl rfl ?_
  refine am_bipush (v := (96 : Int32)) (pc' := 7) dX9_init_5 rfl rfl ?_
  obtain ⟨p2, ep2, hF⟩ := am_bind hF
  refine am_newa (pc' := 9) dX9_init_7 rfl (fun _ => rfl) rfl (by decide) wd_1_37 ep2 rfl ?_
  obtain ⟨h3, eh3, hF⟩ := am_bind hF
  refine am_puta (pc' := 12) dX9_init_9 fx_X9_7i eh3 rfl ?_
  refine am_aload_n (pc' := 13) dX9_init_12 rfl rfl ?_
  refine am_sipush (v := (200 : Int32)) (pc' := 16) dX9_init_13 rfl rfl ?_
  obtain ⟨p4, ep4, hF⟩ := am_bind hF
  refine am_newa (pc' := 18) dX9_init_16 rfl (fun _ => rfl) rfl (by decide) wd_1_37 ep4 rfl ?_
  obtain ⟨h5, eh5, hF⟩ := am_bind hF
  refine am_puta (pc' := 21) dX9_init_18 fx_X9_13i eh5 rfl ?_
  refine am_aload_n (pc' := 22) dX9_init_21 rfl rfl ?_
  refine am_sipush (v := (4800 : Int32)) (pc' := 25) dX9_init_22 rfl rfl ?_
  obtain ⟨p6, ep6, hF⟩ := am_bind hF
  refine am_newa (pc' := 27) dX9_init_25 rfl (fun _ => rfl) rfl (by decide) wd_1_37 ep6 rfl ?_
  obtain ⟨h7, eh7, hF⟩ := am_bind hF
  refine am_puta (pc' := 30) dX9_init_27 fx_X9_16i eh7 rfl ?_
  refine am_aload_n (pc' := 31) dX9_init_30 rfl rfl ?_
  refine am_sipush (v := (200 : Int32)) (pc' := 34) dX9_init_31 rfl rfl ?_
  obtain ⟨p8, ep8, hF⟩ := am_bind hF
  refine am_newa (pc' := 36) dX9_init_34 rfl (fun _ => rfl) rfl (by decide) wd_4_227 ep8 rfl ?_
  obtain ⟨h9, eh9, hF⟩ := am_bind hF
  refine am_puta (pc' := 39) dX9_init_36 fx_X9_19i eh9 rfl ?_
  refine am_aload_n (pc' := 40) dX9_init_39 rfl rfl ?_
  refine am_bipush (v := (30 : Int32)) (pc' := 42) dX9_init_40 rfl rfl ?_
  obtain ⟨p10, ep10, hF⟩ := am_bind hF
  refine am_newa (pc' := 44) dX9_init_42 rfl (fun _ => rfl) rfl (by decide) wd_1_37 ep10 rfl ?_
  obtain ⟨h11, eh11, hF⟩ := am_bind hF
  refine am_puta (pc' := 47) dX9_init_44 fx_X9_23i eh11 rfl ?_
  refine am_aload_n (pc' := 48) dX9_init_47 rfl rfl ?_
  refine am_sipush (v := (240 : Int32)) (pc' := 51) dX9_init_48 rfl rfl ?_
  obtain ⟨p12, ep12, hF⟩ := am_bind hF
  refine am_newa (pc' := 53) dX9_init_51 rfl (fun _ => rfl) rfl (by decide) wd_1_37 ep12 rfl ?_
  obtain ⟨h13, eh13, hF⟩ := am_bind hF
  refine am_puta (pc' := 56) dX9_init_53 fx_X9_26i eh13 rfl ?_
  refine am_aload_n (pc' := 57) dX9_init_56 rfl rfl ?_
  refine am_bipush (v := (30 : Int32)) (pc' := 59) dX9_init_57 rfl rfl ?_
  obtain ⟨p14, ep14, hF⟩ := am_bind hF
  refine am_newa (pc' := 61) dX9_init_59 rfl (fun _ => rfl) rfl (by decide) wd_1_37 ep14 rfl ?_
  obtain ⟨h15, eh15, hF⟩ := am_bind hF
  refine am_puta (pc' := 64) dX9_init_61 fx_X9_29i eh15 rfl ?_
  refine am_aload_n (pc' := 65) dX9_init_64 rfl rfl ?_
  refine am_bipush (v := (30 : Int32)) (pc' := 67) dX9_init_65 rfl rfl ?_
  obtain ⟨p16, ep16, hF⟩ := am_bind hF
  refine am_newa (pc' := 69) dX9_init_67 rfl (fun _ => rfl) rfl (by decide) wd_1_37 ep16 rfl ?_
  obtain ⟨h17, eh17, hF⟩ := am_bind hF
  refine am_puta (pc' := 72) dX9_init_69 fx_X9_32i eh17 rfl ?_
  refine am_aload_n (pc' := 73) dX9_init_72 rfl rfl ?_
  refine am_sipush (v := (720 : Int32)) (pc' := 76) dX9_init_73 rfl rfl ?_
  obtain ⟨p18, ep18, hF⟩ := am_bind hF
  refine am_newa (pc' := 78) dX9_init_76 rfl (fun _ => rfl) rfl (by decide) wd_1_37 ep18 rfl ?_
  obtain ⟨h19, eh19, hF⟩ := am_bind hF
  refine am_puta (pc' := 81) dX9_init_78 fx_X9_35i eh19 rfl ?_
  refine am_aload_n (pc' := 82) dX9_init_81 rfl rfl ?_
  refine am_sipush (v := (720 : Int32)) (pc' := 85) dX9_init_82 rfl rfl ?_
  obtain ⟨p20, ep20, hF⟩ := am_bind hF
  refine am_newa (pc' := 87) dX9_init_85 rfl (fun _ => rfl) rfl (by decide) wd_1_37 ep20 rfl ?_
  obtain ⟨h21, eh21, hF⟩ := am_bind hF
  refine am_puta (pc' := 90) dX9_init_87 fx_X9_38i eh21 rfl ?_
  refine am_aload_n (pc' := 91) dX9_init_90 rfl rfl ?_
  refine am_bipush (v := (25 : Int32)) (pc' := 93) dX9_init_91 rfl rfl ?_
  obtain ⟨p22, ep22, hF⟩ := am_bind hF
  refine am_newa (pc' := 95) dX9_init_93 rfl (fun _ => rfl) rfl (by decide) wd_1_37 ep22 rfl ?_
  obtain ⟨h23, eh23, hF⟩ := am_bind hF
  refine am_puta (pc' := 98) dX9_init_95 fx_X9_41i eh23 rfl ?_
  refine am_aload_n (pc' := 99) dX9_init_98 rfl rfl ?_
  refine am_bipush (v := (9 : Int32)) (pc' := 101) dX9_init_99 rfl rfl ?_
  obtain ⟨p24, ep24, hF⟩ := am_bind hF
  refine am_newa (pc' := 103) dX9_init_101 rfl (fun _ => rfl) rfl (by decide) wd_1_37 ep24 rfl ?_
  obtain ⟨h25, eh25, hF⟩ := am_bind hF
  refine am_puta (pc' := 106) dX9_init_103 fx_X9_44i eh25 rfl ?_
  refine am_aload_n (pc' := 107) dX9_init_106 rfl rfl ?_
  refine am_bipush (v := (25 : Int32)) (pc' := 109) dX9_init_107 rfl rfl ?_
  obtain ⟨p26, ep26, hF⟩ := am_bind hF
  refine am_newa (pc' := 111) dX9_init_109 rfl (fun _ => rfl) rfl (by decide) wd_1_37 ep26 rfl ?_
  obtain ⟨h27, eh27, hF⟩ := am_bind hF
  refine am_puta (pc' := 114) dX9_init_111 fx_X9_47i eh27 rfl ?_
  refine am_aload_n (pc' := 115) dX9_init_114 rfl rfl ?_
  refine am_bipush (v := (24 : Int32)) (pc' := 117) dX9_init_115 rfl rfl ?_
  obtain ⟨p28, ep28, hF⟩ := am_bind hF
  refine am_newa (pc' := 119) dX9_init_117 rfl (fun _ => rfl) rfl (by decide) wd_1_37 ep28 rfl ?_
  obtain ⟨h29, eh29, hF⟩ := am_bind hF
  refine am_puta (pc' := 122) dX9_init_119 fx_X9_50i eh29 rfl ?_
  refine am_aload_n (pc' := 123) dX9_init_122 rfl rfl ?_
  refine am_bipush (v := (24 : Int32)) (pc' := 125) dX9_init_123 rfl rfl ?_
  obtain ⟨p30, ep30, hF⟩ := am_bind hF
  refine am_newa (pc' := 127) dX9_init_125 rfl (fun _ => rfl) rfl (by decide) wd_1_37 ep30 rfl ?_
  obtain ⟨h31, eh31, hF⟩ := am_bind hF
  refine am_puta (pc' := 130) dX9_init_127 fx_X9_53i eh31 rfl ?_
  refine am_aload_n (pc' := 131) dX9_init_130 rfl rfl ?_
  refine am_bipush (v := (24 : Int32)) (pc' := 133) dX9_init_131 rfl rfl ?_
  obtain ⟨p32, ep32, hF⟩ := am_bind hF
  refine am_newa (pc' := 135) dX9_init_133 rfl (fun _ => rfl) rfl (by decide) wd_1_37 ep32 rfl ?_
  obtain ⟨h33, eh33, hF⟩ := am_bind hF
  refine am_puta (pc' := 138) dX9_init_135 fx_X9_56i eh33 rfl ?_
  refine am_aload_n (pc' := 139) dX9_init_138 rfl rfl ?_
  refine am_sipush (v := (576 : Int32)) (pc' := 142) dX9_init_139 rfl rfl ?_
  obtain ⟨p34, ep34, hF⟩ := am_bind hF
  refine am_newa (pc' := 144) dX9_init_142 rfl (fun _ => rfl) rfl (by decide) wd_1_37 ep34 rfl ?_
  obtain ⟨h35, eh35, hF⟩ := am_bind hF
  refine am_puta (pc' := 147) dX9_init_144 fx_X9_59i eh35 rfl ?_
  refine am_aload_n (pc' := 148) dX9_init_147 rfl rfl ?_
  refine am_sipush (v := (400 : Int32)) (pc' := 151) dX9_init_148 rfl rfl ?_
  obtain ⟨p36, ep36, hF⟩ := am_bind hF
  refine am_newa (pc' := 153) dX9_init_151 rfl (fun _ => rfl) rfl (by decide) wd_1_37 ep36 rfl ?_
  obtain ⟨h37, eh37, hF⟩ := am_bind hF
  refine am_puta (pc' := 156) dX9_init_153 fx_X9_62i eh37 rfl ?_
  refine am_aload_n (pc' := 157) dX9_init_156 rfl rfl ?_
  refine am_bipush (v := (25 : Int32)) (pc' := 159) dX9_init_157 rfl rfl ?_
  obtain ⟨p38, ep38, hF⟩ := am_bind hF
  refine am_newa (pc' := 161) dX9_init_159 rfl (fun _ => rfl) rfl (by decide) wd_1_37 ep38 rfl ?_
  obtain ⟨h39, eh39, hF⟩ := am_bind hF
  refine am_puta (pc' := 164) dX9_init_161 fx_X9_65i eh39 rfl ?_
  refine am_aload_n (pc' := 165) dX9_init_164 rfl rfl ?_
  refine am_bipush (v := (24 : Int32)) (pc' := 167) dX9_init_165 rfl rfl ?_
  obtain ⟨p40, ep40, hF⟩ := am_bind hF
  refine am_newa (pc' := 169) dX9_init_167 rfl (fun _ => rfl) rfl (by decide) wd_1_37 ep40 rfl ?_
  obtain ⟨h41, eh41, hF⟩ := am_bind hF
  refine am_puta (pc' := 172) dX9_init_169 fx_X9_68i eh41 rfl ?_
  refine am_aload_n (pc' := 173) dX9_init_172 rfl rfl ?_
  refine am_bipush (v := (24 : Int32)) (pc' := 175) dX9_init_173 rfl rfl ?_
  obtain ⟨p42, ep42, hF⟩ := am_bind hF
  refine am_newa (pc' := 177) dX9_init_175 rfl (fun _ => rfl) rfl (by decide) wd_1_37 ep42 rfl ?_
  obtain ⟨h43, eh43, hF⟩ := am_bind hF
  refine am_puta (pc' := 180) dX9_init_177 fx_X9_71i eh43 rfl ?_
  refine am_aload_n (pc' := 181) dX9_init_180 rfl rfl ?_
  refine am_bipush (v := (16 : Int32)) (pc' := 183) dX9_init_181 rfl rfl ?_
  obtain ⟨p44, ep44, hF⟩ := am_bind hF
  refine am_newa (pc' := 185) dX9_init_183 rfl (fun _ => rfl) rfl (by decide) wd_1_37 ep44 rfl ?_
  obtain ⟨h45, eh45, hF⟩ := am_bind hF
  refine am_puta (pc' := 188) dX9_init_185 fx_X9_74i eh45 rfl ?_
  refine am_aload_n (pc' := 189) dX9_init_188 rfl rfl ?_
  refine am_sipush (v := (10809 : Int32)) (pc' := 192) dX9_init_189 rfl rfl ?_
  obtain ⟨p46, ep46, hF⟩ := am_bind hF
  refine am_newa (pc' := 194) dX9_init_192 rfl (fun _ => rfl) rfl (by decide) wd_1_37 ep46 rfl ?_
  obtain ⟨h47, eh47, hF⟩ := am_bind hF
  refine am_puta (pc' := 197) dX9_init_194 fx_X9_77i eh47 rfl ?_
  refine am_aload_n (pc' := 198) dX9_init_197 rfl rfl ?_
  refine am_bipush (v := (40 : Int32)) (pc' := 200) dX9_init_198 rfl rfl ?_
  obtain ⟨p48, ep48, hF⟩ := am_bind hF
  refine am_newa (pc' := 202) dX9_init_200 rfl (fun _ => rfl) rfl (by decide) wd_1_37 ep48 rfl ?_
  obtain ⟨h49, eh49, hF⟩ := am_bind hF
  refine am_puta (pc' := 205) dX9_init_202 fx_X9_80i eh49 rfl ?_
  refine am_aload_n (pc' := 206) dX9_init_205 rfl rfl ?_
  refine am_bipush (v := (40 : Int32)) (pc' := 208) dX9_init_206 rfl rfl ?_
  obtain ⟨p50, ep50, hF⟩ := am_bind hF
  refine am_newa (pc' := 210) dX9_init_208 rfl (fun _ => rfl) rfl (by decide) wd_1_37 ep50 rfl ?_
  obtain ⟨h51, eh51, hF⟩ := am_bind hF
  refine am_puta (pc' := 213) dX9_init_210 fx_X9_83i eh51 rfl ?_
  refine am_aload_n (pc' := 214) dX9_init_213 rfl rfl ?_
  refine am_bipush (v := (12 : Int32)) (pc' := 216) dX9_init_214 rfl rfl ?_
  obtain ⟨p52, ep52, hF⟩ := am_bind hF
  refine am_newa (pc' := 218) dX9_init_216 rfl (fun _ => rfl) rfl (by decide) wd_1_37 ep52 rfl ?_
  obtain ⟨h53, eh53, hF⟩ := am_bind hF
  refine am_puta (pc' := 221) dX9_init_218 fx_X9_86i eh53 rfl ?_
  refine am_aload_n (pc' := 222) dX9_init_221 rfl rfl ?_
  refine am_bipush (v := (81 : Int32)) (pc' := 224) dX9_init_222 rfl rfl ?_
  obtain ⟨p54, ep54, hF⟩ := am_bind hF
  refine am_newa (pc' := 226) dX9_init_224 rfl (fun _ => rfl) rfl (by decide) wd_1_37 ep54 rfl ?_
  obtain ⟨h55, eh55, hF⟩ := am_bind hF
  refine am_puta (pc' := 229) dX9_init_226 fx_X9_89i eh55 rfl ?_
  cases hF
  exact am_vret dX9_init_229 rfl
def F_X9_init (v0 : Nat) (h : am_H) : Option am_H := (am_obj v0 9 h).bind fun _ => F_X9_init_b v0 h
theorem t_X9_init {hf : am_H}  {v0 : Nat} {h : am_H} (hF : F_X9_init v0 h = some hf) : ∃ fs, am_obj v0 9 h = some fs := by
  obtain ⟨fs, e, _⟩ := am_bind hF
  exact ⟨fs, e⟩
theorem c_X9_init {g : am_G} {l : Launch} {hf : am_H}  {v0 : Nat} {h : am_H} (hF : F_X9_init v0 h = some hf) : am_Met g l M_X9_init [.ref v0] h none hf := by
  obtain ⟨fs, e0, e⟩ := am_bind hF
  exact am_met (n := 0) (by decide +kernel) rfl (Nat.le_of_ble_eq_true rfl) (w_X9_init v0 h e)
theorem fw_X4_9 : am_fw "SignCellar$Row" 9 4 1 := ⟨(RX4, TX4, 2), rfl, by decide, inX4, Or.inl wd_1_31⟩
def F_X4_length_b (v0 : Nat) (h : am_H) : Option Int32 :=
  (am_gi 4 1 v0 h).bind fun x1 =>
  some x1
theorem w_X4_length {g : am_G} {l : Launch} {h0 : am_H} {x : Int32}  (v0 : Nat) (h : am_H) (hF : F_X4_length_b v0 h = some x) : am_W g l M_X4_length h0 (some (.int x)) h 0 [some (.ref v0)] [] h := by
  unfold F_X4_length_b at hF
  refine am_aload_n (pc' := 1) dX4_length_0 rfl rfl ?_
  obtain ⟨x1, ex1, hF⟩ := am_bind hF
  refine am_geti (pc' := 4) dX4_length_1 fw_X4_9 ex1 rfl ?_
  cases hF
  exact am_iret dX4_length_4 rfl rfl
def F_X4_length (v0 : Nat) (h : am_H) : Option Int32 := (am_obj v0 4 h).bind fun _ => F_X4_length_b v0 h
theorem t_X4_length {x : Int32}  {v0 : Nat} {h : am_H} (hF : F_X4_length v0 h = some x) : ∃ fs, am_obj v0 4 h = some fs := by
  obtain ⟨fs, e, _⟩ := am_bind hF
  exact ⟨fs, e⟩
theorem c_X4_length {g : am_G} {l : Launch} {x : Int32}  {v0 : Nat} {h : am_H} (hF : F_X4_length v0 h = some x) : am_Met g l M_X4_length [.ref v0] h (some (.int x)) h := by
  obtain ⟨fs, e0, e⟩ := am_bind hF
  exact am_met (n := 0) (by decide +kernel) rfl (Nat.le_of_ble_eq_true rfl) (w_X4_length v0 h e)
theorem fw_X4_21 : am_fw "SignCellar$Row" 21 4 0 := ⟨(RX4, TX4, 2), rfl, by decide, inX4, Or.inl wd_1_30⟩
theorem fx_X4_9 {nm : String} : am_fx "SignCellar$Row" 9 4 1 .int nm := ⟨(RX4, TX4, 2), tyX4, rfl, by decide, inX4, tyX4_ok, nmX4, rfl, Or.inl ⟨wd_1_31, Or.inl rfl⟩⟩
def F_X4_add_39 (h : am_H) : Option am_H :=
  some h
theorem w_X4_add_39 {g : am_G} {l : Launch} {h0 : am_H} {hf : am_H}  (h : am_H) (hF : F_X4_add_39 h = some hf) : am_W g l M_X4_add h0 none hf 39 [none, none] [] h := by
  unfold F_X4_add_39 at hF
  cases hF
  exact am_vret dX4_add_39 rfl
def F_X4_add_b (v0 : Nat) (v1 : Int32) (h : am_H) : Option am_H :=
  (am_gi 4 1 v0 h).bind fun x1 =>
  if x1 < 0 then
    F_X4_add_39 h
  else
    (am_gi 4 1 v0 h).bind fun x3 =>
    (am_gr 4 0 v0 h).bind fun x4 =>
    (am_ln x4 h).bind fun x5 =>
    if x5 ≤ x3 then
      F_X4_add_39 h
    else
      (am_gr 4 0 v0 h).bind fun x7 =>
      (am_gi 4 1 v0 h).bind fun x8 =>
      (am_is 0 x7 x8 v1 h).bind fun h9 =>
      (am_gi 4 1 v0 h9).bind fun x10 =>
      (am_pi 4 1 v0 (x10 + (1 : Int32)) h9).bind fun h11 =>
      F_X4_add_39 h11
theorem w_X4_add {g : am_G} {l : Launch} {h0 : am_H} {hf : am_H}  (v0 : Nat) (v1 : Int32) (h : am_H) (hF : F_X4_add_b v0 v1 h = some hf) : am_W g l M_X4_add h0 none hf 0 [some (.ref v0), some (.int v1)] [] h := by
  unfold F_X4_add_b at hF
  refine am_aload_n (pc' := 1) dX4_add_0 rfl rfl ?_
  obtain ⟨x1, ex1, hF⟩ := am_bind hF
  refine am_geti (pc' := 4) dX4_add_1 fw_X4_9 ex1 rfl ?_
  rcases am_ite hF with ⟨z2, hF⟩ | ⟨z2, hF⟩
  · refine am_if_lt_t (pc' := 39) dX4_add_4 rfl z2 ?_
    exact am_weak [false, false] (w_X4_add_39 h hF)
  · refine am_if_lt_f (pc' := 7) (tgt := 39) dX4_add_4 rfl z2 rfl ?_
    refine am_aload_n (pc' := 8) dX4_add_7 rfl rfl ?_
    obtain ⟨x3, ex3, hF⟩ := am_bind hF
    refine am_geti (pc' := 11) dX4_add_8 fw_X4_9 ex3 rfl ?_
    refine am_aload_n (pc' := 12) dX4_add_11 rfl rfl ?_
    obtain ⟨x4, ex4, hF⟩ := am_bind hF
    refine am_getr (pc' := 15) dX4_add_12 fw_X4_21 ex4 rfl ?_
    obtain ⟨x5, ex5, hF⟩ := am_bind hF
    refine am_alen (pc' := 16) dX4_add_15 ex5 rfl ?_
    rcases am_ite hF with ⟨z6, hF⟩ | ⟨z6, hF⟩
    · refine am_icmp_ge_t (pc' := 39) dX4_add_16 rfl z6 ?_
      exact am_weak [false, false] (w_X4_add_39 h hF)
    · refine am_icmp_ge_f (pc' := 19) (tgt := 39) dX4_add_16 rfl z6 rfl ?_
      refine am_aload_n (pc' := 20) dX4_add_19 rfl rfl ?_
      obtain ⟨x7, ex7, hF⟩ := am_bind hF
      refine am_getr (pc' := 23) dX4_add_20 fw_X4_21 ex7 rfl ?_
      refine am_aload_n (pc' := 24) dX4_add_23 rfl rfl ?_
      obtain ⟨x8, ex8, hF⟩ := am_bind hF
      refine am_geti (pc' := 27) dX4_add_24 fw_X4_9 ex8 rfl ?_
      refine am_iload_n (pc' := 28) dX4_add_27 rfl rfl ?_
      obtain ⟨h9, eh9, hF⟩ := am_bind hF
      refine am_iast (pc' := 29) dX4_add_28 eh9 rfl ?_
      refine am_aload_n (pc' := 30) dX4_add_29 rfl rfl ?_
      refine am_dup (pc' := 31) dX4_add_30 rfl rfl ?_
      obtain ⟨x10, ex10, hF⟩ := am_bind hF
      refine am_geti (pc' := 34) dX4_add_31 fw_X4_9 ex10 rfl ?_
      refine am_iconst (v := (1 : Int32)) (pc' := 35) dX4_add_34 rfl rfl ?_
      refine am_iadd (pc' := 36) dX4_add_35 rfl ?_
      obtain ⟨h11, eh11, hF⟩ := am_bind hF
      refine am_puti (pc' := 39) dX4_add_36 fx_X4_9 eh11 rfl ?_
      exact am_weak [false, false] (w_X4_add_39 h11 hF)
def F_X4_add (v0 : Nat) (v1 : Int32) (h : am_H) : Option am_H := (am_obj v0 4 h).bind fun _ => F_X4_add_b v0 v1 h
theorem t_X4_add {hf : am_H}  {v0 : Nat} {v1 : Int32} {h : am_H} (hF : F_X4_add v0 v1 h = some hf) : ∃ fs, am_obj v0 4 h = some fs := by
  obtain ⟨fs, e, _⟩ := am_bind hF
  exact ⟨fs, e⟩
theorem c_X4_add {g : am_G} {l : Launch} {hf : am_H}  {v0 : Nat} {v1 : Int32} {h : am_H} (hF : F_X4_add v0 v1 h = some hf) : am_Met g l M_X4_add [.ref v0, .int v1] h none hf := by
  obtain ⟨fs, e0, e⟩ := am_bind hF
  exact am_met (n := 0) (by decide +kernel) rfl (Nat.le_of_ble_eq_true rfl) (w_X4_add v0 v1 h e)
theorem cw_X8_93 : am_cw "SignCellar" 93 M_X4_length 0 := ⟨wd_1_2, wd_1_237, ⟨by decide, by decide, by decide⟩, Or.inl wd_1_234⟩
theorem cw_X8_98 : am_cw "SignCellar" 98 M_X4_add 1 := ⟨wd_1_2, wd_2_2, ⟨by decide, by decide, by decide⟩, Or.inl wd_1_239⟩
theorem fw_X8_14 : am_fw "SignCellar" 14 8 0 := ⟨(RX8, TX8, 16), rfl, by decide, inX8, Or.inl wd_1_180⟩
def F_X8_feed_11 (h : am_H) : Option (Int32 × am_H) :=
  some ((-100002 : Int32), h)
theorem w_X8_feed_11 {g : am_G} {l : Launch} {h0 : am_H} {x : Int32} {hf : am_H}  (h : am_H) (hF : F_X8_feed_11 h = some (x, hf)) : am_W g l M_X8_feed h0 (some (.int x)) hf 11 [none, none, none, none, none] [] h := by
  unfold F_X8_feed_11 at hF
  refine am_ldc (v := (-100002 : Int32)) (pc' := 13) dX8_feed_11 wd_1_233 rfl ?_
  cases hF
  exact am_iret dX8_feed_13 rfl rfl
def F_X8_feed_36 : Nat → Nat → Int64 → Int32 → am_H → Option (Int32 × am_H)
  | 0, _, _, _, _ => none
  | n + 1, v0, v2, v4, h =>
  if v4 < 0 then
    (am_gr 8 0 v0 h).bind fun x2 =>
    (F_X4_length x2 h).bind fun x3 =>
    some (x3, h)
  else
    (am_gr 8 0 v0 h).bind fun x4 =>
    (F_X4_add x4 ((Int64.toInt32 (v2 >>> (Int32.toInt64 ((4 : Int32) * v4) &&& 63))) &&& (15 : Int32)) h).bind fun h5 =>
    F_X8_feed_36 n v0 v2 (v4 + (-1 : Int32)) h5
theorem w_X8_feed_36 {g : am_G} {l : Launch} {h0 : am_H} {x : Int32} {hf : am_H}  : ∀ (n : Nat) (v0 : Nat) (v2 : Int64) (v4 : Int32) (h : am_H), F_X8_feed_36 n v0 v2 v4 h = some (x, hf) → am_W g l M_X8_feed h0 (some (.int x)) hf 36 [some (.ref v0), none, some (.long v2), none, some (.int v4)] [] h
  | 0, _, _, _, _, hF => by cases hF
  | n + 1, v0, v2, v4, h, hF => by
    rw [F_X8_feed_36] at hF
    refine am_iload (pc' := 38) dX8_feed_36 rfl rfl ?_
    rcases am_ite hF with ⟨z1, hF⟩ | ⟨z1, hF⟩
    · refine am_if_lt_t (pc' := 64) dX8_feed_38 rfl z1 ?_
      refine am_aload_n (pc' := 65) dX8_feed_64 rfl rfl ?_
      obtain ⟨x2, ex2, hF⟩ := am_bind hF
      refine am_getr (pc' := 68) dX8_feed_65 fw_X8_14 ex2 rfl ?_
      obtain ⟨x3, ex3, hF⟩ := am_bind hF
      obtain ⟨ox3, px3⟩ := t_X4_length ex3
      refine am_callV1 (Mc := M_X4_length) (As := []) (st := []) (pc' := 71) dX8_feed_68 cw_X8_93 wd_1_235 wd_1_236 ⟨_, rfl, rfl⟩ (by decide) (by decide) rfl rfl (Nat.le_of_ble_eq_true rfl) px3 (c_X4_length ex3) rfl ?_
      cases hF
      exact am_iret dX8_feed_71 rfl rfl
    · refine am_if_lt_f (pc' := 41) (tgt := 64) dX8_feed_38 rfl z1 rfl ?_
      refine am_aload_n (pc' := 42) dX8_feed_41 rfl rfl ?_
      obtain ⟨x4, ex4, hF⟩ := am_bind hF
      refine am_getr (pc' := 45) dX8_feed_42 fw_X8_14 ex4 rfl ?_
      refine am_lload_n (pc' := 46) dX8_feed_45 rfl rfl ?_
      refine am_iconst (v := (4 : Int32)) (pc' := 47) dX8_feed_46 rfl rfl ?_
      refine am_iload (pc' := 49) dX8_feed_47 rfl rfl ?_
      refine am_imul (pc' := 50) dX8_feed_49 rfl ?_
      refine am_lshr (pc' := 51) dX8_feed_50 rfl ?_
      refine am_l2i (pc' := 52) dX8_feed_51 rfl ?_
      refine am_bipush (v := (15 : Int32)) (pc' := 54) dX8_feed_52 rfl rfl ?_
      refine am_iand (pc' := 55) dX8_feed_54 rfl ?_
      obtain ⟨h5, eh5, hF⟩ := am_bind hF
      obtain ⟨oh5, ph5⟩ := t_X4_add eh5
      refine am_callV0 (Mc := M_X4_add) (As := [.int ((Int64.toInt32 (v2 >>> (Int32.toInt64 ((4 : Int32) * v4) &&& 63))) &&& (15 : Int32))]) (st := []) (pc' := 58) dX8_feed_55 cw_X8_98 wd_2_0 wd_2_1 ⟨_, rfl, rfl⟩ (by decide) (by decide) rfl rfl (Nat.le_of_ble_eq_true rfl) ph5 (c_X4_add eh5) rfl ?_
      refine am_iinc (ls' := [some (.ref v0), none, some (.long v2), none, some (.int (v4 + (-1 : Int32)))]) (pc' := 61) (v := (v4 + (-1 : Int32))) dX8_feed_58 rfl rfl (Nat.le_of_ble_eq_true rfl) rfl rfl ?_
      refine am_goto (pc' := 36) dX8_feed_61 rfl ?_
      exact w_X8_feed_36 n v0 v2 (v4 + (-1 : Int32)) h5 hF
def F_X8_feed_b (v0 : Nat) (v1 : Int32) (v2 : Int64) (h : am_H) : Option (Int32 × am_H) :=
  if v1 < (1 : Int32) then
    F_X8_feed_11 h
  else
    if v1 ≤ (15 : Int32) then
      (am_gr 8 0 v0 h).bind fun x3 =>
      (F_X4_length x3 h).bind fun x4 =>
      if (x4 + v1) ≤ (96 : Int32) then
        F_X8_feed_36 am_F v0 v2 (v1 - (1 : Int32)) h
      else
        some ((-100004 : Int32), h)
    else
      F_X8_feed_11 h
theorem w_X8_feed {g : am_G} {l : Launch} {h0 : am_H} {x : Int32} {hf : am_H}  (v0 : Nat) (v1 : Int32) (v2 : Int64) (h : am_H) (hF : F_X8_feed_b v0 v1 v2 h = some (x, hf)) : am_W g l M_X8_feed h0 (some (.int x)) hf 0 [some (.ref v0), some (.int v1), some (.long v2), none, none] [] h := by
  unfold F_X8_feed_b at hF
  refine am_iload_n (pc' := 1) dX8_feed_0 rfl rfl ?_
  refine am_iconst (v := (1 : Int32)) (pc' := 2) dX8_feed_1 rfl rfl ?_
  rcases am_ite hF with ⟨z1, hF⟩ | ⟨z1, hF⟩
  · refine am_icmp_lt_t (pc' := 11) dX8_feed_2 rfl z1 ?_
    exact am_weak [false, false, false, false, false] (w_X8_feed_11 h hF)
  · refine am_icmp_lt_f (pc' := 5) (tgt := 11) dX8_feed_2 rfl z1 rfl ?_
    refine am_iload_n (pc' := 6) dX8_feed_5 rfl rfl ?_
    refine am_bipush (v := (15 : Int32)) (pc' := 8) dX8_feed_6 rfl rfl ?_
    rcases am_ite hF with ⟨z2, hF⟩ | ⟨z2, hF⟩
    · refine am_icmp_le_t (pc' := 14) dX8_feed_8 rfl z2 ?_
      refine am_aload_n (pc' := 15) dX8_feed_14 rfl rfl ?_
      obtain ⟨x3, ex3, hF⟩ := am_bind hF
      refine am_getr (pc' := 18) dX8_feed_15 fw_X8_14 ex3 rfl ?_
      obtain ⟨x4, ex4, hF⟩ := am_bind hF
      obtain ⟨ox4, px4⟩ := t_X4_length ex4
      refine am_callV1 (Mc := M_X4_length) (As := []) (st := []) (pc' := 21) dX8_feed_18 cw_X8_93 wd_1_235 wd_1_236 ⟨_, rfl, rfl⟩ (by decide) (by decide) rfl rfl (Nat.le_of_ble_eq_true rfl) px4 (c_X4_length ex4) rfl ?_
      refine am_iload_n (pc' := 22) dX8_feed_21 rfl rfl ?_
      refine am_iadd (pc' := 23) dX8_feed_22 rfl ?_
      refine am_bipush (v := (96 : Int32)) (pc' := 25) dX8_feed_23 rfl rfl ?_
      rcases am_ite hF with ⟨z5, hF⟩ | ⟨z5, hF⟩
      · refine am_icmp_le_t (pc' := 31) dX8_feed_25 rfl z5 ?_
        refine am_iload_n (pc' := 32) dX8_feed_31 rfl rfl ?_
        refine am_iconst (v := (1 : Int32)) (pc' := 33) dX8_feed_32 rfl rfl ?_
        refine am_isub (pc' := 34) dX8_feed_33 rfl ?_
        refine am_istore (ls' := [some (.ref v0), some (.int v1), some (.long v2), none, some (.int (v1 - (1 : Int32)))]) (pc' := 36) dX8_feed_34 (Nat.le_of_ble_eq_true rfl) rfl rfl ?_
        exact am_weak [true, false, true, false, true] (w_X8_feed_36 am_F v0 v2 (v1 - (1 : Int32)) h hF)
      · refine am_icmp_le_f (pc' := 28) (tgt := 31) dX8_feed_25 rfl z5 rfl ?_
        refine am_ldc (v := (-100004 : Int32)) (pc' := 30) dX8_feed_28 wd_1_238 rfl ?_
        cases hF
        exact am_iret dX8_feed_30 rfl rfl
    · refine am_icmp_le_f (pc' := 11) (tgt := 14) dX8_feed_8 rfl z2 rfl ?_
      exact am_weak [false, false, false, false, false] (w_X8_feed_11 h hF)
def F_X8_feed (v0 : Nat) (v1 : Int32) (v2 : Int64) (h : am_H) : Option (Int32 × am_H) := (am_obj v0 8 h).bind fun _ => F_X8_feed_b v0 v1 v2 h
theorem t_X8_feed {x : Int32} {hf : am_H}  {v0 : Nat} {v1 : Int32} {v2 : Int64} {h : am_H} (hF : F_X8_feed v0 v1 v2 h = some (x, hf)) : ∃ fs, am_obj v0 8 h = some fs := by
  obtain ⟨fs, e, _⟩ := am_bind hF
  exact ⟨fs, e⟩
theorem c_X8_feed {g : am_G} {l : Launch} {x : Int32} {hf : am_H}  {v0 : Nat} {v1 : Int32} {v2 : Int64} {h : am_H} (hF : F_X8_feed v0 v1 v2 h = some (x, hf)) : am_Met g l M_X8_feed [.ref v0, .int v1, .long v2] h (some (.int x)) hf := by
  obtain ⟨fs, e0, e⟩ := am_bind hF
  exact am_met (n := 1) (by decide +kernel) rfl (Nat.le_of_ble_eq_true rfl) (w_X8_feed v0 v1 v2 h e)
def F_X9_in_18 (s0 : Int32) (h : am_H) : Option Int32 :=
  am_z s0
theorem w_X9_in_18 {g : am_G} {l : Launch} {h0 : am_H} {x : Int32}  (s0 : Int32) (h : am_H) (hF : F_X9_in_18 s0 h = some x) : am_W g l M_X9_in h0 (some (.int x)) h 18 [none, none, none, none, none, none] [.int s0] h := by
  unfold F_X9_in_18 at hF
  exact am_zret dX9_in_18 rfl hF
def F_X9_in_17 (h : am_H) : Option Int32 :=
  F_X9_in_18 (0 : Int32) h
theorem w_X9_in_17 {g : am_G} {l : Launch} {h0 : am_H} {x : Int32}  (h : am_H) (hF : F_X9_in_17 h = some x) : am_W g l M_X9_in h0 (some (.int x)) h 17 [none, none, none, none, none, none] [] h := by
  unfold F_X9_in_17 at hF
  refine am_iconst (v := (0 : Int32)) (pc' := 18) dX9_in_17 rfl rfl ?_
  exact w_X9_in_18 (0 : Int32) h hF
def F_X9_in_b (v0 : Int64) (v2 : Int64) (v4 : Int64) (h : am_H) : Option Int32 :=
  if (lg_cmp v0 v2) < 0 then
    F_X9_in_17 h
  else
    if 0 < (lg_cmp v0 v4) then
      F_X9_in_17 h
    else
      F_X9_in_18 (1 : Int32) h
theorem w_X9_in {g : am_G} {l : Launch} {h0 : am_H} {x : Int32}  (v0 : Int64) (v2 : Int64) (v4 : Int64) (h : am_H) (hF : F_X9_in_b v0 v2 v4 h = some x) : am_W g l M_X9_in h0 (some (.int x)) h 0 [some (.long v0), none, some (.long v2), none, some (.long v4), none] [] h := by
  unfold F_X9_in_b at hF
  refine am_lload_n (pc' := 1) dX9_in_0 rfl rfl ?_
  refine am_lload_n (pc' := 2) dX9_in_1 rfl rfl ?_
  refine am_lcmp (pc' := 3) dX9_in_2 rfl ?_
  rcases am_ite hF with ⟨z1, hF⟩ | ⟨z1, hF⟩
  · refine am_if_lt_t (pc' := 17) dX9_in_3 rfl z1 ?_
    exact am_weak [false, false, false, false, false, false] (w_X9_in_17 h hF)
  · refine am_if_lt_f (pc' := 6) (tgt := 17) dX9_in_3 rfl z1 rfl ?_
    refine am_lload_n (pc' := 7) dX9_in_6 rfl rfl ?_
    refine am_lload (pc' := 9) dX9_in_7 rfl rfl ?_
    refine am_lcmp (pc' := 10) dX9_in_9 rfl ?_
    rcases am_ite hF with ⟨z2, hF⟩ | ⟨z2, hF⟩
    · refine am_if_gt_t (pc' := 17) dX9_in_10 rfl z2 ?_
      exact am_weak [false, false, false, false, false, false] (w_X9_in_17 h hF)
    · refine am_if_gt_f (pc' := 13) (tgt := 17) dX9_in_10 rfl z2 rfl ?_
      refine am_iconst (v := (1 : Int32)) (pc' := 14) dX9_in_13 rfl rfl ?_
      refine am_goto (pc' := 18) dX9_in_14 rfl ?_
      exact am_weak [false, false, false, false, false, false] (w_X9_in_18 (1 : Int32) h hF)
def F_X9_in (v0 : Int64) (v2 : Int64) (v4 : Int64) (h : am_H) : Option Int32 := F_X9_in_b v0 v2 v4 h
theorem c_X9_in {g : am_G} {l : Launch} {x : Int32}  {v0 : Int64} {v2 : Int64} {v4 : Int64} {h : am_H} (hF : F_X9_in v0 v2 v4 h = some x) : am_Met g l M_X9_in [.long v0, .long v2, .long v4] h (some (.int x)) h := by
  exact am_met (n := 0) (by decide +kernel) rfl (Nat.le_of_ble_eq_true rfl) (w_X9_in v0 v2 v4 h hF)
