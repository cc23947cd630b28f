abbrev M_X8_keepPlan : am_M := ((⟨"SignCellar", "keepPlan", "(I)I"⟩ : MethodName), prog_1_method_52_code, 5, (some .int), 4, 95)
theorem dX8_keepPlan_0 : decode prog_1_method_52_code 0 = .ok (.aload_n 0, 1) := by decide +kernel
theorem dX8_keepPlan_1 : decode prog_1_method_52_code 1 = .ok (.getfield 37, 3) := by decide +kernel
theorem dX8_keepPlan_4 : decode prog_1_method_52_code 4 = .ok (.aload_n 0, 1) := by decide +kernel
theorem dX8_keepPlan_5 : decode prog_1_method_52_code 5 = .ok (.getfield 33, 3) := by decide +kernel
theorem dX8_keepPlan_8 : decode prog_1_method_52_code 8 = .ok (.arraylength, 1) := by decide +kernel
theorem dX8_keepPlan_9 : decode prog_1_method_52_code 9 = .ok (.if_icmp .lt 6, 3) := by decide +kernel
theorem dX8_keepPlan_12 : decode prog_1_method_52_code 12 = .ok (.ldc 97, 2) := by decide +kernel
theorem dX8_keepPlan_14 : decode prog_1_method_52_code 14 = .ok (.ireturn, 1) := by decide +kernel
theorem dX8_keepPlan_15 : decode prog_1_method_52_code 15 = .ok (.aload_n 0, 1) := by decide +kernel
theorem dX8_keepPlan_16 : decode prog_1_method_52_code 16 = .ok (.getfield 37, 3) := by decide +kernel
theorem dX8_keepPlan_19 : decode prog_1_method_52_code 19 = .ok (.istore_n 2, 1) := by decide +kernel
theorem dX8_keepPlan_20 : decode prog_1_method_52_code 20 = .ok (.new 31, 3) := by decide +kernel
theorem dX8_keepPlan_23 : decode prog_1_method_52_code 23 = .ok (.dup, 1) := by decide +kernel
theorem dX8_keepPlan_24 : decode prog_1_method_52_code 24 = .ok (.aload_n 0, 1) := by decide +kernel
theorem dX8_keepPlan_25 : decode prog_1_method_52_code 25 = .ok (.getfield 40, 3) := by decide +kernel
theorem dX8_keepPlan_28 : decode prog_1_method_52_code 28 = .ok (.iload_n 1, 1) := by decide +kernel
theorem dX8_keepPlan_29 : decode prog_1_method_52_code 29 = .ok (.aload_n 0, 1) := by decide +kernel
theorem dX8_keepPlan_30 : decode prog_1_method_52_code 30 = .ok (.getfield 43, 3) := by decide +kernel
theorem dX8_keepPlan_33 : decode prog_1_method_52_code 33 = .ok (.invokespecial 351, 3) := by decide +kernel
theorem dX8_keepPlan_36 : decode prog_1_method_52_code 36 = .ok (.astore_n 3, 1) := by decide +kernel
theorem dX8_keepPlan_37 : decode prog_1_method_52_code 37 = .ok (.iconst 0, 1) := by decide +kernel
theorem dX8_keepPlan_38 : decode prog_1_method_52_code 38 = .ok (.istore 4, 2) := by decide +kernel
theorem dX8_keepPlan_40 : decode prog_1_method_52_code 40 = .ok (.iload 4, 2) := by decide +kernel
theorem dX8_keepPlan_42 : decode prog_1_method_52_code 42 = .ok (.aload_n 0, 1) := by decide +kernel
theorem dX8_keepPlan_43 : decode prog_1_method_52_code 43 = .ok (.getfield 40, 3) := by decide +kernel
theorem dX8_keepPlan_46 : decode prog_1_method_52_code 46 = .ok (.invokevirtual 93, 3) := by decide +kernel
theorem dX8_keepPlan_49 : decode prog_1_method_52_code 49 = .ok (.if_icmp .ge 25, 3) := by decide +kernel
theorem dX8_keepPlan_52 : decode prog_1_method_52_code 52 = .ok (.aload_n 3, 1) := by decide +kernel
theorem dX8_keepPlan_53 : decode prog_1_method_52_code 53 = .ok (.dup, 1) := by decide +kernel
theorem dX8_keepPlan_54 : decode prog_1_method_52_code 54 = .ok (.getfield 130, 3) := by decide +kernel
theorem dX8_keepPlan_57 : decode prog_1_method_52_code 57 = .ok (.aload_n 0, 1) := by decide +kernel
theorem dX8_keepPlan_58 : decode prog_1_method_52_code 58 = .ok (.aload_n 3, 1) := by decide +kernel
theorem dX8_keepPlan_59 : decode prog_1_method_52_code 59 = .ok (.iload 4, 2) := by decide +kernel
theorem dX8_keepPlan_61 : decode prog_1_method_52_code 61 = .ok (.invokevirtual 145, 3) := by decide +kernel
theorem dX8_keepPlan_64 : decode prog_1_method_52_code 64 = .ok (.iadd, 1) := by decide +kernel
theorem dX8_keepPlan_65 : decode prog_1_method_52_code 65 = .ok (.putfield 130, 3) := by decide +kernel
theorem dX8_keepPlan_68 : decode prog_1_method_52_code 68 = .ok (.iinc 4 1, 3) := by decide +kernel
theorem dX8_keepPlan_71 : decode prog_1_method_52_code 71 = .ok (.goto (-31), 3) := by decide +kernel
theorem dX8_keepPlan_74 : decode prog_1_method_52_code 74 = .ok (.aload_n 0, 1) := by decide +kernel
theorem dX8_keepPlan_75 : decode prog_1_method_52_code 75 = .ok (.aload_n 3, 1) := by decide +kernel
theorem dX8_keepPlan_76 : decode prog_1_method_52_code 76 = .ok (.invokevirtual 352, 3) := by decide +kernel
theorem dX8_keepPlan_79 : decode prog_1_method_52_code 79 = .ok (.aload_n 0, 1) := by decide +kernel
theorem dX8_keepPlan_80 : decode prog_1_method_52_code 80 = .ok (.getfield 33, 3) := by decide +kernel
theorem dX8_keepPlan_83 : decode prog_1_method_52_code 83 = .ok (.iload_n 2, 1) := by decide +kernel
theorem dX8_keepPlan_84 : decode prog_1_method_52_code 84 = .ok (.aload_n 3, 1) := by decide +kernel
theorem dX8_keepPlan_85 : decode prog_1_method_52_code 85 = .ok (.aastore, 1) := by decide +kernel
theorem dX8_keepPlan_86 : decode prog_1_method_52_code 86 = .ok (.aload_n 0, 1) := by decide +kernel
theorem dX8_keepPlan_87 : decode prog_1_method_52_code 87 = .ok (.dup, 1) := by decide +kernel
theorem dX8_keepPlan_88 : decode prog_1_method_52_code 88 = .ok (.getfield 37, 3) := by decide +kernel
theorem dX8_keepPlan_91 : decode prog_1_method_52_code 91 = .ok (.iconst 1, 1) := by decide +kernel
theorem dX8_keepPlan_92 : decode prog_1_method_52_code 92 = .ok (.iadd, 1) := by decide +kernel
theorem dX8_keepPlan_93 : decode prog_1_method_52_code 93 = .ok (.putfield 37, 3) := by decide +kernel
theorem dX8_keepPlan_96 : decode prog_1_method_52_code 96 = .ok (.iload_n 2, 1) := by decide +kernel
theorem dX8_keepPlan_97 : decode prog_1_method_52_code 97 = .ok (.ireturn, 1) := by decide +kernel
abbrev M_X8_make : am_M := ((⟨"SignCellar", "make", "()I"⟩ : MethodName), prog_1_method_3_code, 3, (some .int), 5, 119)
theorem dX8_make_0 : decode prog_1_method_3_code 0 = .ok (.aload_n 0, 1) := by decide +kernel
theorem dX8_make_1 : decode prog_1_method_3_code 1 = .ok (.getfield 14, 3) := by decide +kernel
theorem dX8_make_4 : decode prog_1_method_3_code 4 = .ok (.invokevirtual 93, 3) := by decide +kernel
theorem dX8_make_7 : decode prog_1_method_3_code 7 = .ok (.istore_n 1, 1) := by decide +kernel
theorem dX8_make_8 : decode prog_1_method_3_code 8 = .ok (.iload_n 1, 1) := by decide +kernel
theorem dX8_make_9 : decode prog_1_method_3_code 9 = .ok (.ifCond .ne 6, 3) := by decide +kernel
theorem dX8_make_12 : decode prog_1_method_3_code 12 = .ok (.ldc 101, 2) := by decide +kernel
theorem dX8_make_14 : decode prog_1_method_3_code 14 = .ok (.ireturn, 1) := by decide +kernel
theorem dX8_make_15 : decode prog_1_method_3_code 15 = .ok (.aload_n 0, 1) := by decide +kernel
theorem dX8_make_16 : decode prog_1_method_3_code 16 = .ok (.iload_n 1, 1) := by decide +kernel
theorem dX8_make_17 : decode prog_1_method_3_code 17 = .ok (.bipush 16, 2) := by decide +kernel
theorem dX8_make_19 : decode prog_1_method_3_code 19 = .ok (.iadd, 1) := by decide +kernel
theorem dX8_make_20 : decode prog_1_method_3_code 20 = .ok (.iconst 1, 1) := by decide +kernel
theorem dX8_make_21 : decode prog_1_method_3_code 21 = .ok (.isub, 1) := by decide +kernel
theorem dX8_make_22 : decode prog_1_method_3_code 22 = .ok (.bipush 16, 2) := by decide +kernel
theorem dX8_make_24 : decode prog_1_method_3_code 24 = .ok (.idiv, 1) := by decide +kernel
theorem dX8_make_25 : decode prog_1_method_3_code 25 = .ok (.invokevirtual 102, 3) := by decide +kernel
theorem dX8_make_28 : decode prog_1_method_3_code 28 = .ok (.ifCond .ne 6, 3) := by decide +kernel
theorem dX8_make_31 : decode prog_1_method_3_code 31 = .ok (.ldc 97, 2) := by decide +kernel
theorem dX8_make_33 : decode prog_1_method_3_code 33 = .ok (.ireturn, 1) := by decide +kernel
theorem dX8_make_34 : decode prog_1_method_3_code 34 = .ok (.aload_n 0, 1) := by decide +kernel
theorem dX8_make_35 : decode prog_1_method_3_code 35 = .ok (.invokevirtual 106, 3) := by decide +kernel
theorem dX8_make_38 : decode prog_1_method_3_code 38 = .ok (.iconst 0, 1) := by decide +kernel
theorem dX8_make_39 : decode prog_1_method_3_code 39 = .ok (.istore_n 2, 1) := by decide +kernel
theorem dX8_make_40 : decode prog_1_method_3_code 40 = .ok (.iload_n 2, 1) := by decide +kernel
theorem dX8_make_41 : decode prog_1_method_3_code 41 = .ok (.iload_n 1, 1) := by decide +kernel
theorem dX8_make_42 : decode prog_1_method_3_code 42 = .ok (.if_icmp .ge 26, 3) := by decide +kernel
theorem dX8_make_45 : decode prog_1_method_3_code 45 = .ok (.aload_n 0, 1) := by decide +kernel
theorem dX8_make_46 : decode prog_1_method_3_code 46 = .ok (.aload_n 0, 1) := by decide +kernel
theorem dX8_make_47 : decode prog_1_method_3_code 47 = .ok (.getfield 14, 3) := by decide +kernel
theorem dX8_make_50 : decode prog_1_method_3_code 50 = .ok (.iload_n 2, 1) := by decide +kernel
theorem dX8_make_51 : decode prog_1_method_3_code 51 = .ok (.iload_n 1, 1) := by decide +kernel
theorem dX8_make_52 : decode prog_1_method_3_code 52 = .ok (.iload_n 2, 1) := by decide +kernel
theorem dX8_make_53 : decode prog_1_method_3_code 53 = .ok (.bipush 16, 2) := by decide +kernel
theorem dX8_make_55 : decode prog_1_method_3_code 55 = .ok (.iadd, 1) := by decide +kernel
theorem dX8_make_56 : decode prog_1_method_3_code 56 = .ok (.invokestatic 109, 3) := by decide +kernel
theorem dX8_make_59 : decode prog_1_method_3_code 59 = .ok (.invokevirtual 115, 3) := by decide +kernel
theorem dX8_make_62 : decode prog_1_method_3_code 62 = .ok (.iinc 2 16, 3) := by decide +kernel
theorem dX8_make_65 : decode prog_1_method_3_code 65 = .ok (.goto (-25), 3) := by decide +kernel
theorem dX8_make_68 : decode prog_1_method_3_code 68 = .ok (.aload_n 0, 1) := by decide +kernel
theorem dX8_make_69 : decode prog_1_method_3_code 69 = .ok (.getfield 14, 3) := by decide +kernel
theorem dX8_make_72 : decode prog_1_method_3_code 72 = .ok (.invokevirtual 119, 3) := by decide +kernel
theorem dX8_make_75 : decode prog_1_method_3_code 75 = .ok (.aload_n 0, 1) := by decide +kernel
theorem dX8_make_76 : decode prog_1_method_3_code 76 = .ok (.iconst (-1), 1) := by decide +kernel
theorem dX8_make_77 : decode prog_1_method_3_code 77 = .ok (.invokevirtual 122, 3) := by decide +kernel
theorem dX8_make_80 : decode prog_1_method_3_code 80 = .ok (.ireturn, 1) := by decide +kernel
abbrev M_X9_isFull : am_M := ((⟨"SignCellarModel", "isFull", "(I)Z"⟩ : MethodName), prog_11_method_14_code, 2, (some .boolean), 0, 0)
theorem dX9_isFull_0 : decode prog_11_method_14_code 0 = .ok (.aload_n 0, 1) := by decide +kernel
theorem dX9_isFull_1 : decode prog_11_method_14_code 1 = .ok (.getfield 92, 3) := by decide +kernel
theorem dX9_isFull_4 : decode prog_11_method_14_code 4 = .ok (.bipush 30, 2) := by decide +kernel
theorem dX9_isFull_6 : decode prog_11_method_14_code 6 = .ok (.if_icmp .eq 15, 3) := by decide +kernel
theorem dX9_isFull_9 : decode prog_11_method_14_code 9 = .ok (.aload_n 0, 1) := by decide +kernel
theorem dX9_isFull_10 : decode prog_11_method_14_code 10 = .ok (.getfield 100, 3) := by decide +kernel
theorem dX9_isFull_13 : decode prog_11_method_14_code 13 = .ok (.iload_n 1, 1) := by decide +kernel
theorem dX9_isFull_14 : decode prog_11_method_14_code 14 = .ok (.iadd, 1) := by decide +kernel
theorem dX9_isFull_15 : decode prog_11_method_14_code 15 = .ok (.sipush 200, 3) := by decide +kernel
theorem dX9_isFull_18 : decode prog_11_method_14_code 18 = .ok (.if_icmp .le 7, 3) := by decide +kernel
theorem dX9_isFull_21 : decode prog_11_method_14_code 21 = .ok (.iconst 1, 1) := by decide +kernel
theorem dX9_isFull_22 : decode prog_11_method_14_code 22 = .ok (.goto 4, 3) := by decide +kernel
theorem dX9_isFull_25 : decode prog_11_method_14_code 25 = .ok (.iconst 0, 1) := by decide +kernel
theorem dX9_isFull_26 : decode prog_11_method_14_code 26 = .ok (.ireturn, 1) := by decide +kernel
abbrev M_X9_begin : am_M := ((⟨"SignCellarModel", "begin", "()V"⟩ : MethodName), prog_11_method_13_code, 1, none, 0, 0)
theorem dX9_begin_0 : decode prog_11_method_13_code 0 = .ok (.aload_n 0, 1) := by decide +kernel
theorem dX9_begin_1 : decode prog_11_method_13_code 1 = .ok (.iconst 0, 1) := by decide +kernel
theorem dX9_begin_2 : decode prog_11_method_13_code 2 = .ok (.putfield 124, 3) := by decide +kernel
theorem dX9_begin_5 : decode prog_11_method_13_code 5 = .ok (.aload_n 0, 1) := by decide +kernel
theorem dX9_begin_6 : decode prog_11_method_13_code 6 = .ok (.iconst 0, 1) := by decide +kernel
theorem dX9_begin_7 : decode prog_11_method_13_code 7 = .ok (.putfield 121, 3) := by decide +kernel
theorem dX9_begin_10 : decode prog_11_method_13_code 10 = .ok (.return_, 1) := by decide +kernel
abbrev M_X9_sign : am_M := ((⟨"SignCellarModel", "sign", "(II)I"⟩ : MethodName), prog_11_method_8_code, 3, (some .int), 0, 0)
theorem dX9_sign_0 : decode prog_11_method_8_code 0 = .ok (.aload_n 0, 1) := by decide +kernel
theorem dX9_sign_1 : decode prog_11_method_8_code 1 = .ok (.getfield 16, 3) := by decide +kernel
theorem dX9_sign_4 : decode prog_11_method_8_code 4 = .ok (.bipush 24, 2) := by decide +kernel
theorem dX9_sign_6 : decode prog_11_method_8_code 6 = .ok (.iload_n 1, 1) := by decide +kernel
theorem dX9_sign_7 : decode prog_11_method_8_code 7 = .ok (.imul, 1) := by decide +kernel
theorem dX9_sign_8 : decode prog_11_method_8_code 8 = .ok (.iload_n 2, 1) := by decide +kernel
theorem dX9_sign_9 : decode prog_11_method_8_code 9 = .ok (.iadd, 1) := by decide +kernel
theorem dX9_sign_10 : decode prog_11_method_8_code 10 = .ok (.iaload, 1) := by decide +kernel
theorem dX9_sign_11 : decode prog_11_method_8_code 11 = .ok (.ireturn, 1) := by decide +kernel
abbrev M_X9_isSame : am_M := ((⟨"SignCellarModel", "isSame", "(I)Z"⟩ : MethodName), prog_11_method_10_code, 4, (some .boolean), 1, 22)
theorem dX9_isSame_0 : decode prog_11_method_10_code 0 = .ok (.aload_n 0, 1) := by decide +kernel
theorem dX9_isSame_1 : decode prog_11_method_10_code 1 = .ok (.getfield 19, 3) := by decide +kernel
theorem dX9_isSame_4 : decode prog_11_method_10_code 4 = .ok (.iload_n 1, 1) := by decide +kernel
theorem dX9_isSame_5 : decode prog_11_method_10_code 5 = .ok (.baload, 1) := by decide +kernel
theorem dX9_isSame_6 : decode prog_11_method_10_code 6 = .ok (.ifCond .ne 20, 3) := by decide +kernel
theorem dX9_isSame_9 : decode prog_11_method_10_code 9 = .ok (.aload_n 0, 1) := by decide +kernel
theorem dX9_isSame_10 : decode prog_11_method_10_code 10 = .ok (.getfield 13, 3) := by decide +kernel
theorem dX9_isSame_13 : decode prog_11_method_10_code 13 = .ok (.iload_n 1, 1) := by decide +kernel
theorem dX9_isSame_14 : decode prog_11_method_10_code 14 = .ok (.iaload, 1) := by decide +kernel
theorem dX9_isSame_15 : decode prog_11_method_10_code 15 = .ok (.aload_n 0, 1) := by decide +kernel
theorem dX9_isSame_16 : decode prog_11_method_10_code 16 = .ok (.getfield 110, 3) := by decide +kernel
theorem dX9_isSame_19 : decode prog_11_method_10_code 19 = .ok (.if_icmp .ne 7, 3) := by decide +kernel
theorem dX9_isSame_22 : decode prog_11_method_10_code 22 = .ok (.iconst 1, 1) := by decide +kernel
theorem dX9_isSame_23 : decode prog_11_method_10_code 23 = .ok (.goto 4, 3) := by decide +kernel
theorem dX9_isSame_26 : decode prog_11_method_10_code 26 = .ok (.iconst 0, 1) := by decide +kernel
theorem dX9_isSame_27 : decode prog_11_method_10_code 27 = .ok (.istore_n 2, 1) := by decide +kernel
theorem dX9_isSame_28 : decode prog_11_method_10_code 28 = .ok (.iconst 0, 1) := by decide +kernel
theorem dX9_isSame_29 : decode prog_11_method_10_code 29 = .ok (.istore_n 3, 1) := by decide +kernel
theorem dX9_isSame_30 : decode prog_11_method_10_code 30 = .ok (.iload_n 3, 1) := by decide +kernel
theorem dX9_isSame_31 : decode prog_11_method_10_code 31 = .ok (.aload_n 0, 1) := by decide +kernel
theorem dX9_isSame_32 : decode prog_11_method_10_code 32 = .ok (.getfield 110, 3) := by decide +kernel
theorem dX9_isSame_35 : decode prog_11_method_10_code 35 = .ok (.if_icmp .ge 34, 3) := by decide +kernel
theorem dX9_isSame_38 : decode prog_11_method_10_code 38 = .ok (.iload_n 2, 1) := by decide +kernel
theorem dX9_isSame_39 : decode prog_11_method_10_code 39 = .ok (.ifCond .eq 30, 3) := by decide +kernel
theorem dX9_isSame_42 : decode prog_11_method_10_code 42 = .ok (.aload_n 0, 1) := by decide +kernel
theorem dX9_isSame_43 : decode prog_11_method_10_code 43 = .ok (.iload_n 1, 1) := by decide +kernel
theorem dX9_isSame_44 : decode prog_11_method_10_code 44 = .ok (.iload_n 3, 1) := by decide +kernel
theorem dX9_isSame_45 : decode prog_11_method_10_code 45 = .ok (.invokevirtual 113, 3) := by decide +kernel
theorem dX9_isSame_48 : decode prog_11_method_10_code 48 = .ok (.aload_n 0, 1) := by decide +kernel
theorem dX9_isSame_49 : decode prog_11_method_10_code 49 = .ok (.getfield 41, 3) := by decide +kernel
theorem dX9_isSame_52 : decode prog_11_method_10_code 52 = .ok (.iload_n 3, 1) := by decide +kernel
theorem dX9_isSame_53 : decode prog_11_method_10_code 53 = .ok (.iaload, 1) := by decide +kernel
theorem dX9_isSame_54 : decode prog_11_method_10_code 54 = .ok (.if_icmp .ne 7, 3) := by decide +kernel
theorem dX9_isSame_57 : decode prog_11_method_10_code 57 = .ok (.iconst 1, 1) := by decide +kernel
theorem dX9_isSame_58 : decode prog_11_method_10_code 58 = .ok (.goto 4, 3) := by decide +kernel
theorem dX9_isSame_61 : decode prog_11_method_10_code 61 = .ok (.iconst 0, 1) := by decide +kernel
theorem dX9_isSame_62 : decode prog_11_method_10_code 62 = .ok (.istore_n 2, 1) := by decide +kernel
theorem dX9_isSame_63 : decode prog_11_method_10_code 63 = .ok (.iinc 3 1, 3) := by decide +kernel
theorem dX9_isSame_66 : decode prog_11_method_10_code 66 = .ok (.goto (-36), 3) := by decide +kernel
theorem dX9_isSame_69 : decode prog_11_method_10_code 69 = .ok (.iload_n 2, 1) := by decide +kernel
theorem dX9_isSame_70 : decode prog_11_method_10_code 70 = .ok (.ireturn, 1) := by decide +kernel
abbrev M_X9_lay : am_M := ((⟨"SignCellarModel", "lay", "()V"⟩ : MethodName), prog_11_method_11_code, 3, none, 2, 45)
theorem dX9_lay_0 : decode prog_11_method_11_code 0 = .ok (.iconst 0, 1) := by decide +kernel
theorem dX9_lay_1 : decode prog_11_method_11_code 1 = .ok (.istore_n 1, 1) := by decide +kernel
theorem dX9_lay_2 : decode prog_11_method_11_code 2 = .ok (.iload_n 1, 1) := by decide +kernel
theorem dX9_lay_3 : decode prog_11_method_11_code 3 = .ok (.aload_n 0, 1) := by decide +kernel
theorem dX9_lay_4 : decode prog_11_method_11_code 4 = .ok (.getfield 100, 3) := by decide +kernel
theorem dX9_lay_7 : decode prog_11_method_11_code 7 = .ok (.if_icmp .ge 17, 3) := by decide +kernel
theorem dX9_lay_10 : decode prog_11_method_11_code 10 = .ok (.aload_n 0, 1) := by decide +kernel
theorem dX9_lay_11 : decode prog_11_method_11_code 11 = .ok (.iload_n 1, 1) := by decide +kernel
theorem dX9_lay_12 : decode prog_11_method_11_code 12 = .ok (.invokevirtual 117, 3) := by decide +kernel
theorem dX9_lay_15 : decode prog_11_method_11_code 15 = .ok (.ifCond .ne 9, 3) := by decide +kernel
theorem dX9_lay_18 : decode prog_11_method_11_code 18 = .ok (.iinc 1 1, 3) := by decide +kernel
theorem dX9_lay_21 : decode prog_11_method_11_code 21 = .ok (.goto (-19), 3) := by decide +kernel
theorem dX9_lay_24 : decode prog_11_method_11_code 24 = .ok (.iload_n 1, 1) := by decide +kernel
theorem dX9_lay_25 : decode prog_11_method_11_code 25 = .ok (.aload_n 0, 1) := by decide +kernel
theorem dX9_lay_26 : decode prog_11_method_11_code 26 = .ok (.getfield 100, 3) := by decide +kernel
theorem dX9_lay_29 : decode prog_11_method_11_code 29 = .ok (.if_icmp .ne 73, 3) := by decide +kernel
theorem dX9_lay_32 : decode prog_11_method_11_code 32 = .ok (.aload_n 0, 1) := by decide +kernel
theorem dX9_lay_33 : decode prog_11_method_11_code 33 = .ok (.getfield 13, 3) := by decide +kernel
theorem dX9_lay_36 : decode prog_11_method_11_code 36 = .ok (.iload_n 1, 1) := by decide +kernel
theorem dX9_lay_37 : decode prog_11_method_11_code 37 = .ok (.aload_n 0, 1) := by decide +kernel
theorem dX9_lay_38 : decode prog_11_method_11_code 38 = .ok (.getfield 110, 3) := by decide +kernel
theorem dX9_lay_41 : decode prog_11_method_11_code 41 = .ok (.iastore, 1) := by decide +kernel
theorem dX9_lay_42 : decode prog_11_method_11_code 42 = .ok (.iconst 0, 1) := by decide +kernel
theorem dX9_lay_43 : decode prog_11_method_11_code 43 = .ok (.istore_n 2, 1) := by decide +kernel
theorem dX9_lay_44 : decode prog_11_method_11_code 44 = .ok (.iload_n 2, 1) := by decide +kernel
theorem dX9_lay_45 : decode prog_11_method_11_code 45 = .ok (.aload_n 0, 1) := by decide +kernel
theorem dX9_lay_46 : decode prog_11_method_11_code 46 = .ok (.getfield 110, 3) := by decide +kernel
theorem dX9_lay_49 : decode prog_11_method_11_code 49 = .ok (.if_icmp .ge 26, 3) := by decide +kernel
theorem dX9_lay_52 : decode prog_11_method_11_code 52 = .ok (.aload_n 0, 1) := by decide +kernel
theorem dX9_lay_53 : decode prog_11_method_11_code 53 = .ok (.getfield 16, 3) := by decide +kernel
theorem dX9_lay_56 : decode prog_11_method_11_code 56 = .ok (.bipush 24, 2) := by decide +kernel
theorem dX9_lay_58 : decode prog_11_method_11_code 58 = .ok (.iload_n 1, 1) := by decide +kernel
theorem dX9_lay_59 : decode prog_11_method_11_code 59 = .ok (.imul, 1) := by decide +kernel
theorem dX9_lay_60 : decode prog_11_method_11_code 60 = .ok (.iload_n 2, 1) := by decide +kernel
theorem dX9_lay_61 : decode prog_11_method_11_code 61 = .ok (.iadd, 1) := by decide +kernel
theorem dX9_lay_62 : decode prog_11_method_11_code 62 = .ok (.aload_n 0, 1) := by decide +kernel
theorem dX9_lay_63 : decode prog_11_method_11_code 63 = .ok (.getfield 41, 3) := by decide +kernel
theorem dX9_lay_66 : decode prog_11_method_11_code 66 = .ok (.iload_n 2, 1) := by decide +kernel
theorem dX9_lay_67 : decode prog_11_method_11_code 67 = .ok (.iaload, 1) := by decide +kernel
theorem dX9_lay_68 : decode prog_11_method_11_code 68 = .ok (.iastore, 1) := by decide +kernel
theorem dX9_lay_69 : decode prog_11_method_11_code 69 = .ok (.iinc 2 1, 3) := by decide +kernel
theorem dX9_lay_72 : decode prog_11_method_11_code 72 = .ok (.goto (-28), 3) := by decide +kernel
theorem dX9_lay_75 : decode prog_11_method_11_code 75 = .ok (.aload_n 0, 1) := by decide +kernel
theorem dX9_lay_76 : decode prog_11_method_11_code 76 = .ok (.getfield 19, 3) := by decide +kernel
theorem dX9_lay_79 : decode prog_11_method_11_code 79 = .ok (.iload_n 1, 1) := by decide +kernel
theorem dX9_lay_80 : decode prog_11_method_11_code 80 = .ok (.iconst 0, 1) := by decide +kernel
theorem dX9_lay_81 : decode prog_11_method_11_code 81 = .ok (.bastore, 1) := by decide +kernel
theorem dX9_lay_82 : decode prog_11_method_11_code 82 = .ok (.aload_n 0, 1) := by decide +kernel
theorem dX9_lay_83 : decode prog_11_method_11_code 83 = .ok (.dup, 1) := by decide +kernel
theorem dX9_lay_84 : decode prog_11_method_11_code 84 = .ok (.getfield 100, 3) := by decide +kernel
theorem dX9_lay_87 : decode prog_11_method_11_code 87 = .ok (.iconst 1, 1) := by decide +kernel
theorem dX9_lay_88 : decode prog_11_method_11_code 88 = .ok (.iadd, 1) := by decide +kernel
theorem dX9_lay_89 : decode prog_11_method_11_code 89 = .ok (.putfield 100, 3) := by decide +kernel
theorem dX9_lay_92 : decode prog_11_method_11_code 92 = .ok (.aload_n 0, 1) := by decide +kernel
theorem dX9_lay_93 : decode prog_11_method_11_code 93 = .ok (.dup, 1) := by decide +kernel
theorem dX9_lay_94 : decode prog_11_method_11_code 94 = .ok (.getfield 121, 3) := by decide +kernel
theorem dX9_lay_97 : decode prog_11_method_11_code 97 = .ok (.iconst 1, 1) := by decide +kernel
theorem dX9_lay_98 : decode prog_11_method_11_code 98 = .ok (.iadd, 1) := by decide +kernel
theorem dX9_lay_99 : decode prog_11_method_11_code 99 = .ok (.putfield 121, 3) := by decide +kernel
theorem dX9_lay_102 : decode prog_11_method_11_code 102 = .ok (.aload_n 0, 1) := by decide +kernel
theorem dX9_lay_103 : decode prog_11_method_11_code 103 = .ok (.getfield 44, 3) := by decide +kernel
theorem dX9_lay_106 : decode prog_11_method_11_code 106 = .ok (.aload_n 0, 1) := by decide +kernel
theorem dX9_lay_107 : decode prog_11_method_11_code 107 = .ok (.getfield 124, 3) := by decide +kernel
theorem dX9_lay_110 : decode prog_11_method_11_code 110 = .ok (.iload_n 1, 1) := by decide +kernel
theorem dX9_lay_111 : decode prog_11_method_11_code 111 = .ok (.iastore, 1) := by decide +kernel
theorem dX9_lay_112 : decode prog_11_method_11_code 112 = .ok (.aload_n 0, 1) := by decide +kernel
theorem dX9_lay_113 : decode prog_11_method_11_code 113 = .ok (.dup, 1) := by decide +kernel
theorem dX9_lay_114 : decode prog_11_method_11_code 114 = .ok (.getfield 124, 3) := by decide +kernel
theorem dX9_lay_117 : decode prog_11_method_11_code 117 = .ok (.iconst 1, 1) := by decide +kernel
theorem dX9_lay_118 : decode prog_11_method_11_code 118 = .ok (.iadd, 1) := by decide +kernel
theorem dX9_lay_119 : decode prog_11_method_11_code 119 = .ok (.putfield 124, 3) := by decide +kernel
theorem dX9_lay_122 : decode prog_11_method_11_code 122 = .ok (.return_, 1) := by decide +kernel
abbrev M_X9_note : am_M := ((⟨"SignCellarModel", "note", "(I)I"⟩ : MethodName), prog_11_method_12_code, 7, (some .int), 1, 22)
theorem dX9_note_0 : decode prog_11_method_12_code 0 = .ok (.iconst 0, 1) := by decide +kernel
theorem dX9_note_1 : decode prog_11_method_12_code 1 = .ok (.istore_n 2, 1) := by decide +kernel
theorem dX9_note_2 : decode prog_11_method_12_code 2 = .ok (.iload_n 2, 1) := by decide +kernel
theorem dX9_note_3 : decode prog_11_method_12_code 3 = .ok (.aload_n 0, 1) := by decide +kernel
theorem dX9_note_4 : decode prog_11_method_12_code 4 = .ok (.getfield 124, 3) := by decide +kernel
theorem dX9_note_7 : decode prog_11_method_12_code 7 = .ok (.if_icmp .ge 29, 3) := by decide +kernel
theorem dX9_note_10 : decode prog_11_method_12_code 10 = .ok (.aload_n 0, 1) := by decide +kernel
theorem dX9_note_11 : decode prog_11_method_12_code 11 = .ok (.getfield 26, 3) := by decide +kernel
theorem dX9_note_14 : decode prog_11_method_12_code 14 = .ok (.bipush 8, 2) := by decide +kernel
theorem dX9_note_16 : decode prog_11_method_12_code 16 = .ok (.aload_n 0, 1) := by decide +kernel
theorem dX9_note_17 : decode prog_11_method_12_code 17 = .ok (.getfield 92, 3) := by decide +kernel
theorem dX9_note_20 : decode prog_11_method_12_code 20 = .ok (.imul, 1) := by decide +kernel
theorem dX9_note_21 : decode prog_11_method_12_code 21 = .ok (.iload_n 2, 1) := by decide +kernel
theorem dX9_note_22 : decode prog_11_method_12_code 22 = .ok (.iadd, 1) := by decide +kernel
theorem dX9_note_23 : decode prog_11_method_12_code 23 = .ok (.aload_n 0, 1) := by decide +kernel
theorem dX9_note_24 : decode prog_11_method_12_code 24 = .ok (.getfield 44, 3) := by decide +kernel
theorem dX9_note_27 : decode prog_11_method_12_code 27 = .ok (.iload_n 2, 1) := by decide +kernel
theorem dX9_note_28 : decode prog_11_method_12_code 28 = .ok (.iaload, 1) := by decide +kernel
theorem dX9_note_29 : decode prog_11_method_12_code 29 = .ok (.iastore, 1) := by decide +kernel
theorem dX9_note_30 : decode prog_11_method_12_code 30 = .ok (.iinc 2 1, 3) := by decide +kernel
theorem dX9_note_33 : decode prog_11_method_12_code 33 = .ok (.goto (-31), 3) := by decide +kernel
theorem dX9_note_36 : decode prog_11_method_12_code 36 = .ok (.aload_n 0, 1) := by decide +kernel
theorem dX9_note_37 : decode prog_11_method_12_code 37 = .ok (.getfield 23, 3) := by decide +kernel
theorem dX9_note_40 : decode prog_11_method_12_code 40 = .ok (.aload_n 0, 1) := by decide +kernel
theorem dX9_note_41 : decode prog_11_method_12_code 41 = .ok (.getfield 92, 3) := by decide +kernel
theorem dX9_note_44 : decode prog_11_method_12_code 44 = .ok (.aload_n 0, 1) := by decide +kernel
theorem dX9_note_45 : decode prog_11_method_12_code 45 = .ok (.getfield 124, 3) := by decide +kernel
theorem dX9_note_48 : decode prog_11_method_12_code 48 = .ok (.iastore, 1) := by decide +kernel
theorem dX9_note_49 : decode prog_11_method_12_code 49 = .ok (.aload_n 0, 1) := by decide +kernel
theorem dX9_note_50 : decode prog_11_method_12_code 50 = .ok (.getfield 29, 3) := by decide +kernel
theorem dX9_note_53 : decode prog_11_method_12_code 53 = .ok (.aload_n 0, 1) := by decide +kernel
theorem dX9_note_54 : decode prog_11_method_12_code 54 = .ok (.getfield 92, 3) := by decide +kernel
theorem dX9_note_57 : decode prog_11_method_12_code 57 = .ok (.iload_n 1, 1) := by decide +kernel
theorem dX9_note_58 : decode prog_11_method_12_code 58 = .ok (.iastore, 1) := by decide +kernel
theorem dX9_note_59 : decode prog_11_method_12_code 59 = .ok (.aload_n 0, 1) := by decide +kernel
theorem dX9_note_60 : decode prog_11_method_12_code 60 = .ok (.getfield 32, 3) := by decide +kernel
theorem dX9_note_63 : decode prog_11_method_12_code 63 = .ok (.aload_n 0, 1) := by decide +kernel
theorem dX9_note_64 : decode prog_11_method_12_code 64 = .ok (.getfield 92, 3) := by decide +kernel
theorem dX9_note_67 : decode prog_11_method_12_code 67 = .ok (.aload_n 0, 1) := by decide +kernel
theorem dX9_note_68 : decode prog_11_method_12_code 68 = .ok (.getfield 121, 3) := by decide +kernel
theorem dX9_note_71 : decode prog_11_method_12_code 71 = .ok (.iastore, 1) := by decide +kernel
theorem dX9_note_72 : decode prog_11_method_12_code 72 = .ok (.iconst 0, 1) := by decide +kernel
theorem dX9_note_73 : decode prog_11_method_12_code 73 = .ok (.istore_n 2, 1) := by decide +kernel
theorem dX9_note_74 : decode prog_11_method_12_code 74 = .ok (.iload_n 2, 1) := by decide +kernel
theorem dX9_note_75 : decode prog_11_method_12_code 75 = .ok (.bipush 24, 2) := by decide +kernel
theorem dX9_note_77 : decode prog_11_method_12_code 77 = .ok (.if_icmp .ge 121, 3) := by decide +kernel
theorem dX9_note_80 : decode prog_11_method_12_code 80 = .ok (.iconst 0, 1) := by decide +kernel
theorem dX9_note_81 : decode prog_11_method_12_code 81 = .ok (.istore_n 3, 1) := by decide +kernel
theorem dX9_note_82 : decode prog_11_method_12_code 82 = .ok (.iconst 0, 1) := by decide +kernel
theorem dX9_note_83 : decode prog_11_method_12_code 83 = .ok (.istore 4, 2) := by decide +kernel
theorem dX9_note_85 : decode prog_11_method_12_code 85 = .ok (.iconst 0, 1) := by decide +kernel
theorem dX9_note_86 : decode prog_11_method_12_code 86 = .ok (.istore 5, 2) := by decide +kernel
theorem dX9_note_88 : decode prog_11_method_12_code 88 = .ok (.iload 5, 2) := by decide +kernel
theorem dX9_note_90 : decode prog_11_method_12_code 90 = .ok (.aload_n 0, 1) := by decide +kernel
theorem dX9_note_91 : decode prog_11_method_12_code 91 = .ok (.getfield 124, 3) := by decide +kernel
theorem dX9_note_94 : decode prog_11_method_12_code 94 = .ok (.if_icmp .ge 61, 3) := by decide +kernel
theorem dX9_note_97 : decode prog_11_method_12_code 97 = .ok (.iload_n 2, 1) := by decide +kernel
theorem dX9_note_98 : decode prog_11_method_12_code 98 = .ok (.aload_n 0, 1) := by decide +kernel
theorem dX9_note_99 : decode prog_11_method_12_code 99 = .ok (.getfield 13, 3) := by decide +kernel
theorem dX9_note_102 : decode prog_11_method_12_code 102 = .ok (.aload_n 0, 1) := by decide +kernel
theorem dX9_note_103 : decode prog_11_method_12_code 103 = .ok (.getfield 44, 3) := by decide +kernel
theorem dX9_note_106 : decode prog_11_method_12_code 106 = .ok (.iload 5, 2) := by decide +kernel
theorem dX9_note_108 : decode prog_11_method_12_code 108 = .ok (.iaload, 1) := by decide +kernel
theorem dX9_note_109 : decode prog_11_method_12_code 109 = .ok (.iaload, 1) := by decide +kernel
theorem dX9_note_110 : decode prog_11_method_12_code 110 = .ok (.if_icmp .ge 18, 3) := by decide +kernel
theorem dX9_note_113 : decode prog_11_method_12_code 113 = .ok (.aload_n 0, 1) := by decide +kernel
theorem dX9_note_114 : decode prog_11_method_12_code 114 = .ok (.aload_n 0, 1) := by decide +kernel
theorem dX9_note_115 : decode prog_11_method_12_code 115 = .ok (.getfield 44, 3) := by decide +kernel
theorem dX9_note_118 : decode prog_11_method_12_code 118 = .ok (.iload 5, 2) := by decide +kernel
theorem dX9_note_120 : decode prog_11_method_12_code 120 = .ok (.iaload, 1) := by decide +kernel
theorem dX9_note_121 : decode prog_11_method_12_code 121 = .ok (.iload_n 2, 1) := by decide +kernel
theorem dX9_note_122 : decode prog_11_method_12_code 122 = .ok (.invokevirtual 113, 3) := by decide +kernel
theorem dX9_note_125 : decode prog_11_method_12_code 125 = .ok (.goto 5, 3) := by decide +kernel
theorem dX9_note_128 : decode prog_11_method_12_code 128 = .ok (.bipush 16, 2) := by decide +kernel
theorem dX9_note_130 : decode prog_11_method_12_code 130 = .ok (.istore 6, 2) := by decide +kernel
theorem dX9_note_132 : decode prog_11_method_12_code 132 = .ok (.iload_n 3, 1) := by decide +kernel
theorem dX9_note_133 : decode prog_11_method_12_code 133 = .ok (.iload 6, 2) := by decide +kernel
theorem dX9_note_135 : decode prog_11_method_12_code 135 = .ok (.iadd, 1) := by decide +kernel
theorem dX9_note_136 : decode prog_11_method_12_code 136 = .ok (.istore_n 3, 1) := by decide +kernel
theorem dX9_note_137 : decode prog_11_method_12_code 137 = .ok (.iload 4, 2) := by decide +kernel
theorem dX9_note_139 : decode prog_11_method_12_code 139 = .ok (.iload 6, 2) := by decide +kernel
theorem dX9_note_141 : decode prog_11_method_12_code 141 = .ok (.iload 5, 2) := by decide +kernel
theorem dX9_note_143 : decode prog_11_method_12_code 143 = .ok (.iconst 1, 1) := by decide +kernel
theorem dX9_note_144 : decode prog_11_method_12_code 144 = .ok (.iadd, 1) := by decide +kernel
theorem dX9_note_145 : decode prog_11_method_12_code 145 = .ok (.imul, 1) := by decide +kernel
theorem dX9_note_146 : decode prog_11_method_12_code 146 = .ok (.iadd, 1) := by decide +kernel
theorem dX9_note_147 : decode prog_11_method_12_code 147 = .ok (.istore 4, 2) := by decide +kernel
theorem dX9_note_149 : decode prog_11_method_12_code 149 = .ok (.iinc 5 1, 3) := by decide +kernel
theorem dX9_note_152 : decode prog_11_method_12_code 152 = .ok (.goto (-64), 3) := by decide +kernel
theorem dX9_note_155 : decode prog_11_method_12_code 155 = .ok (.aload_n 0, 1) := by decide +kernel
theorem dX9_note_156 : decode prog_11_method_12_code 156 = .ok (.getfield 35, 3) := by decide +kernel
theorem dX9_note_159 : decode prog_11_method_12_code 159 = .ok (.bipush 24, 2) := by decide +kernel
theorem dX9_note_161 : decode prog_11_method_12_code 161 = .ok (.aload_n 0, 1) := by decide +kernel
theorem dX9_note_162 : decode prog_11_method_12_code 162 = .ok (.getfield 92, 3) := by decide +kernel
theorem dX9_note_165 : decode prog_11_method_12_code 165 = .ok (.imul, 1) := by decide +kernel
theorem dX9_note_166 : decode prog_11_method_12_code 166 = .ok (.iload_n 2, 1) := by decide +kernel
theorem dX9_note_167 : decode prog_11_method_12_code 167 = .ok (.iadd, 1) := by decide +kernel
theorem dX9_note_168 : decode prog_11_method_12_code 168 = .ok (.iload_n 3, 1) := by decide +kernel
theorem dX9_note_169 : decode prog_11_method_12_code 169 = .ok (.bipush 17, 2) := by decide +kernel
theorem dX9_note_171 : decode prog_11_method_12_code 171 = .ok (.irem, 1) := by decide +kernel
theorem dX9_note_172 : decode prog_11_method_12_code 172 = .ok (.iastore, 1) := by decide +kernel
theorem dX9_note_173 : decode prog_11_method_12_code 173 = .ok (.aload_n 0, 1) := by decide +kernel
theorem dX9_note_174 : decode prog_11_method_12_code 174 = .ok (.getfield 38, 3) := by decide +kernel
theorem dX9_note_177 : decode prog_11_method_12_code 177 = .ok (.bipush 24, 2) := by decide +kernel
theorem dX9_note_179 : decode prog_11_method_12_code 179 = .ok (.aload_n 0, 1) := by decide +kernel
theorem dX9_note_180 : decode prog_11_method_12_code 180 = .ok (.getfield 92, 3) := by decide +kernel
theorem dX9_note_183 : decode prog_11_method_12_code 183 = .ok (.imul, 1) := by decide +kernel
theorem dX9_note_184 : decode prog_11_method_12_code 184 = .ok (.iload_n 2, 1) := by decide +kernel
theorem dX9_note_185 : decode prog_11_method_12_code 185 = .ok (.iadd, 1) := by decide +kernel
theorem dX9_note_186 : decode prog_11_method_12_code 186 = .ok (.iload 4, 2) := by decide +kernel
theorem dX9_note_188 : decode prog_11_method_12_code 188 = .ok (.bipush 17, 2) := by decide +kernel
theorem dX9_note_190 : decode prog_11_method_12_code 190 = .ok (.irem, 1) := by decide +kernel
theorem dX9_note_191 : decode prog_11_method_12_code 191 = .ok (.iastore, 1) := by decide +kernel
theorem dX9_note_192 : decode prog_11_method_12_code 192 = .ok (.iinc 2 1, 3) := by decide +kernel
theorem dX9_note_195 : decode prog_11_method_12_code 195 = .ok (.goto (-121), 3) := by decide +kernel
theorem dX9_note_198 : decode prog_11_method_12_code 198 = .ok (.aload_n 0, 1) := by decide +kernel
theorem dX9_note_199 : decode prog_11_method_12_code 199 = .ok (.dup, 1) := by decide +kernel
theorem dX9_note_200 : decode prog_11_method_12_code 200 = .ok (.getfield 92, 3) := by decide +kernel
theorem dX9_note_203 : decode prog_11_method_12_code 203 = .ok (.iconst 1, 1) := by decide +kernel
theorem dX9_note_204 : decode prog_11_method_12_code 204 = .ok (.iadd, 1) := by decide +kernel
theorem dX9_note_205 : decode prog_11_method_12_code 205 = .ok (.putfield 92, 3) := by decide +kernel
theorem dX9_note_208 : decode prog_11_method_12_code 208 = .ok (.aload_n 0, 1) := by decide +kernel
theorem dX9_note_209 : decode prog_11_method_12_code 209 = .ok (.getfield 92, 3) := by decide +kernel
theorem dX9_note_212 : decode prog_11_method_12_code 212 = .ok (.iconst 1, 1) := by decide +kernel
theorem dX9_note_213 : decode prog_11_method_12_code 213 = .ok (.isub, 1) := by decide +kernel
theorem dX9_note_214 : decode prog_11_method_12_code 214 = .ok (.ireturn, 1) := by decide +kernel
abbrev M_X9_make : am_M := ((⟨"SignCellarModel", "make", "()I"⟩ : MethodName), prog_11_method_15_code, 3, (some .int), 3, 67)
theorem dX9_make_0 : decode prog_11_method_15_code 0 = .ok (.aload_n 0, 1) := by decide +kernel
theorem dX9_make_1 : decode prog_11_method_15_code 1 = .ok (.getfield 106, 3) := by decide +kernel
theorem dX9_make_4 : decode prog_11_method_15_code 4 = .ok (.ifCond .ne 6, 3) := by decide +kernel
theorem dX9_make_7 : decode prog_11_method_15_code 7 = .ok (.ldc 127, 2) := by decide +kernel
theorem dX9_make_9 : decode prog_11_method_15_code 9 = .ok (.ireturn, 1) := by decide +kernel
theorem dX9_make_10 : decode prog_11_method_15_code 10 = .ok (.aload_n 0, 1) := by decide +kernel
theorem dX9_make_11 : decode prog_11_method_15_code 11 = .ok (.aload_n 0, 1) := by decide +kernel
theorem dX9_make_12 : decode prog_11_method_15_code 12 = .ok (.getfield 106, 3) := by decide +kernel
theorem dX9_make_15 : decode prog_11_method_15_code 15 = .ok (.bipush 16, 2) := by decide +kernel
theorem dX9_make_17 : decode prog_11_method_15_code 17 = .ok (.iadd, 1) := by decide +kernel
theorem dX9_make_18 : decode prog_11_method_15_code 18 = .ok (.iconst 1, 1) := by decide +kernel
theorem dX9_make_19 : decode prog_11_method_15_code 19 = .ok (.isub, 1) := by decide +kernel
theorem dX9_make_20 : decode prog_11_method_15_code 20 = .ok (.bipush 16, 2) := by decide +kernel
theorem dX9_make_22 : decode prog_11_method_15_code 22 = .ok (.idiv, 1) := by decide +kernel
theorem dX9_make_23 : decode prog_11_method_15_code 23 = .ok (.invokevirtual 128, 3) := by decide +kernel
theorem dX9_make_26 : decode prog_11_method_15_code 26 = .ok (.ifCond .eq 6, 3) := by decide +kernel
theorem dX9_make_29 : decode prog_11_method_15_code 29 = .ok (.ldc 109, 2) := by decide +kernel
theorem dX9_make_31 : decode prog_11_method_15_code 31 = .ok (.ireturn, 1) := by decide +kernel
theorem dX9_make_32 : decode prog_11_method_15_code 32 = .ok (.aload_n 0, 1) := by decide +kernel
theorem dX9_make_33 : decode prog_11_method_15_code 33 = .ok (.invokevirtual 131, 3) := by decide +kernel
theorem dX9_make_36 : decode prog_11_method_15_code 36 = .ok (.iconst 0, 1) := by decide +kernel
theorem dX9_make_37 : decode prog_11_method_15_code 37 = .ok (.istore_n 1, 1) := by decide +kernel
theorem dX9_make_38 : decode prog_11_method_15_code 38 = .ok (.iload_n 1, 1) := by decide +kernel
theorem dX9_make_39 : decode prog_11_method_15_code 39 = .ok (.aload_n 0, 1) := by decide +kernel
theorem dX9_make_40 : decode prog_11_method_15_code 40 = .ok (.getfield 106, 3) := by decide +kernel
theorem dX9_make_43 : decode prog_11_method_15_code 43 = .ok (.if_icmp .ge 69, 3) := by decide +kernel
theorem dX9_make_46 : decode prog_11_method_15_code 46 = .ok (.aload_n 0, 1) := by decide +kernel
theorem dX9_make_47 : decode prog_11_method_15_code 47 = .ok (.aload_n 0, 1) := by decide +kernel
theorem dX9_make_48 : decode prog_11_method_15_code 48 = .ok (.getfield 106, 3) := by decide +kernel
theorem dX9_make_51 : decode prog_11_method_15_code 51 = .ok (.iload_n 1, 1) := by decide +kernel
theorem dX9_make_52 : decode prog_11_method_15_code 52 = .ok (.isub, 1) := by decide +kernel
theorem dX9_make_53 : decode prog_11_method_15_code 53 = .ok (.bipush 16, 2) := by decide +kernel
theorem dX9_make_55 : decode prog_11_method_15_code 55 = .ok (.if_icmp .ge 12, 3) := by decide +kernel
theorem dX9_make_58 : decode prog_11_method_15_code 58 = .ok (.aload_n 0, 1) := by decide +kernel
theorem dX9_make_59 : decode prog_11_method_15_code 59 = .ok (.getfield 106, 3) := by decide +kernel
theorem dX9_make_62 : decode prog_11_method_15_code 62 = .ok (.iload_n 1, 1) := by decide +kernel
theorem dX9_make_63 : decode prog_11_method_15_code 63 = .ok (.isub, 1) := by decide +kernel
theorem dX9_make_64 : decode prog_11_method_15_code 64 = .ok (.goto 5, 3) := by decide +kernel
theorem dX9_make_67 : decode prog_11_method_15_code 67 = .ok (.bipush 16, 2) := by decide +kernel
theorem dX9_make_69 : decode prog_11_method_15_code 69 = .ok (.putfield 110, 3) := by decide +kernel
theorem dX9_make_72 : decode prog_11_method_15_code 72 = .ok (.iconst 0, 1) := by decide +kernel
theorem dX9_make_73 : decode prog_11_method_15_code 73 = .ok (.istore_n 2, 1) := by decide +kernel
theorem dX9_make_74 : decode prog_11_method_15_code 74 = .ok (.iload_n 2, 1) := by decide +kernel
theorem dX9_make_75 : decode prog_11_method_15_code 75 = .ok (.aload_n 0, 1) := by decide +kernel
theorem dX9_make_76 : decode prog_11_method_15_code 76 = .ok (.getfield 110, 3) := by decide +kernel
theorem dX9_make_79 : decode prog_11_method_15_code 79 = .ok (.if_icmp .ge 23, 3) := by decide +kernel
theorem dX9_make_82 : decode prog_11_method_15_code 82 = .ok (.aload_n 0, 1) := by decide +kernel
theorem dX9_make_83 : decode prog_11_method_15_code 83 = .ok (.getfield 41, 3) := by decide +kernel
theorem dX9_make_86 : decode prog_11_method_15_code 86 = .ok (.iload_n 2, 1) := by decide +kernel
theorem dX9_make_87 : decode prog_11_method_15_code 87 = .ok (.aload_n 0, 1) := by decide +kernel
theorem dX9_make_88 : decode prog_11_method_15_code 88 = .ok (.getfield 7, 3) := by decide +kernel
theorem dX9_make_91 : decode prog_11_method_15_code 91 = .ok (.iload_n 1, 1) := by decide +kernel
theorem dX9_make_92 : decode prog_11_method_15_code 92 = .ok (.iload_n 2, 1) := by decide +kernel
theorem dX9_make_93 : decode prog_11_method_15_code 93 = .ok (.iadd, 1) := by decide +kernel
theorem dX9_make_94 : decode prog_11_method_15_code 94 = .ok (.iaload, 1) := by decide +kernel
theorem dX9_make_95 : decode prog_11_method_15_code 95 = .ok (.iastore, 1) := by decide +kernel
theorem dX9_make_96 : decode prog_11_method_15_code 96 = .ok (.iinc 2 1, 3) := by decide +kernel
theorem dX9_make_99 : decode prog_11_method_15_code 99 = .ok (.goto (-25), 3) := by decide +kernel
theorem dX9_make_102 : decode prog_11_method_15_code 102 = .ok (.aload_n 0, 1) := by decide +kernel
theorem dX9_make_103 : decode prog_11_method_15_code 103 = .ok (.invokevirtual 134, 3) := by decide +kernel
theorem dX9_make_106 : decode prog_11_method_15_code 106 = .ok (.iinc 1 16, 3) := by decide +kernel
theorem dX9_make_109 : decode prog_11_method_15_code 109 = .ok (.goto (-71), 3) := by decide +kernel
theorem dX9_make_112 : decode prog_11_method_15_code 112 = .ok (.aload_n 0, 1) := by decide +kernel
theorem dX9_make_113 : decode prog_11_method_15_code 113 = .ok (.iconst 0, 1) := by decide +kernel
theorem dX9_make_114 : decode prog_11_method_15_code 114 = .ok (.putfield 106, 3) := by decide +kernel
theorem dX9_make_117 : decode prog_11_method_15_code 117 = .ok (.aload_n 0, 1) := by decide +kernel
theorem dX9_make_118 : decode prog_11_method_15_code 118 = .ok (.iconst (-1), 1) := by decide +kernel
theorem dX9_make_119 : decode prog_11_method_15_code 119 = .ok (.invokevirtual 137, 3) := by decide +kernel
theorem dX9_make_122 : decode prog_11_method_15_code 122 = .ok (.ireturn, 1) := by decide +kernel
theorem cw_X8_145 : am_cw "SignCellar" 145 M_X8_lengthIn 2 := ⟨wd_1_1, wd_2_115, ⟨by decide, by decide, by decide⟩, Or.inl wd_2_112⟩
theorem cw_X8_351 : am_cw "SignCellar" 351 M_X7_init 3 := ⟨wd_1_11, wd_2_81, ⟨by decide, by decide, by decide⟩, Or.inl wd_2_79⟩
theorem cw_X8_352 : am_cw "SignCellar" 352 M_X8_addUp 1 := ⟨wd_1_1, wd_2_120, ⟨by decide, by decide, by decide⟩, Or.inl wd_2_117⟩
theorem fw_X8_130 : am_fw "SignCellar" 130 7 3 := ⟨(RX7, TX7, 6), rfl, by decide, inX7, Or.inr ⟨_, wd_2_94⟩⟩
theorem fw_X8_33 : am_fw "SignCellar" 33 8 4 := ⟨(RX8, TX8, 16), rfl, by decide, inX8, Or.inl wd_1_184⟩
theorem fx_X8_130 {nm : String} : am_fx "SignCellar" 130 7 3 .int nm := ⟨(RX7, TX7, 6), tyX7, rfl, by decide, inX7, tyX7_ok, nmX7, rfl, Or.inr ⟨rfl, _, wd_2_94⟩⟩
theorem fx_X8_37 {nm : String} : am_fx "SignCellar" 37 8 5 .int nm := ⟨(RX8, TX8, 16), tyX8, rfl, by decide, inX8, tyX8_ok, nmX8, rfl, Or.inl ⟨wd_1_185, Or.inl rfl⟩⟩
theorem nx_X8_31 : am_nx "SignCellar" 31 7 := ⟨(RX7, TX7, 6), rfl, inX7, tyX7_ok, by decide, wd_1_40, wd_2_78, wd_1_11⟩
theorem sl_X8_addUp : Cond.selects (⟨"SignCellar", "addUp", "(LSignCellar$Version;)V"⟩ : MethodName).cls ⟨"SignCellar", "addUp", "(LSignCellar$Version;)V"⟩ ⟨"SignCellar", "addUp", "(LSignCellar$Version;)V"⟩ ∈ am_ts := am_in_p (q := (⟨"SignCellar", "addUp", "(LSignCellar$Version;)V"⟩, 16)) (by decide +kernel)
theorem sl_X8_lengthIn : Cond.selects (⟨"SignCellar", "lengthIn", "(LSignCellar$Version;I)I"⟩ : MethodName).cls ⟨"SignCellar", "lengthIn", "(LSignCellar$Version;I)I"⟩ ⟨"SignCellar", "lengthIn", "(LSignCellar$Version;I)I"⟩ ∈ am_ts := am_in_p (q := (⟨"SignCellar", "lengthIn", "(LSignCellar$Version;I)I"⟩, 16)) (by decide +kernel)
def F_X8_keepPlan_40 : Nat → Nat → Int32 → Nat → Int32 → am_H → Option (Int32 × am_H)
  | 0, _, _, _, _, _ => none
  | n + 1, v0, v2, v3, v4, h =>
  (am_gr 8 6 v0 h).bind fun x1 =>
  (F_X4_length x1 h).bind fun x2 =>
  if x2 ≤ v4 then
    (F_X8_addUp v0 v3 h).bind fun h4 =>
    (am_gr 8 4 v0 h4).bind fun x5 =>
    (am_as 3 7 x5 v2 v3 h4).bind fun h6 =>
    (am_gi 8 5 v0 h6).bind fun x7 =>
    (am_pi 8 5 v0 (x7 + (1 : Int32)) h6).bind fun h8 =>
    some (v2, h8)
  else
    (am_gi 7 3 v3 h).bind fun x9 =>
    (F_X8_lengthIn v0 v3 v4 h).bind fun x10 =>
    (am_pi 7 3 v3 (x9 + x10) h).bind fun h11 =>
    F_X8_keepPlan_40 n v0 v2 v3 (v4 + (1 : Int32)) h11
theorem w_X8_keepPlan_40 {g : am_G} {l : Launch} {h0 : am_H} {x : Int32} {hf : am_H}  : ∀ (n : Nat) (v0 : Nat) (v2 : Int32) (v3 : Nat) (v4 : Int32) (h : am_H), F_X8_keepPlan_40 n v0 v2 v3 v4 h = some (x, hf) → am_W g l M_X8_keepPlan h0 (some (.int x)) hf 40 [some (.ref v0), none, some (.int v2), some (.ref v3), some (.int v4)] [] h
  | 0, _, _, _, _, _, hF => by cases hF
  | n + 1, v0, v2, v3, v4, h, hF => by
    rw [F_X8_keepPlan_40] at hF
    refine am_iload (pc' := 42) dX8_keepPlan_40 rfl rfl ?_
    refine am_aload_n (pc' := 43) dX8_keepPlan_42 rfl rfl ?_
    obtain ⟨x1, ex1, hF⟩ := am_bind hF
    refine am_getr (pc' := 46) dX8_keepPlan_43 fw_X8_40 ex1 rfl ?_
    obtain ⟨x2, ex2, hF⟩ := am_bind hF
    obtain ⟨ox2, px2⟩ := t_X4_length ex2
    refine am_callV1 (Mc := M_X4_length) (As := []) (st := [.int v4]) (pc' := 49) dX8_keepPlan_46 cw_X8_93 wd_1_235 wd_1_236 ⟨_, rfl, rfl⟩ (by decide) (by decide) rfl rfl (Nat.le_of_ble_eq_true rfl) px2 (c_X4_length ex2) rfl ?_
    rcases am_ite hF with ⟨z3, hF⟩ | ⟨z3, hF⟩
    · refine am_icmp_ge_t (pc' := 74) dX8_keepPlan_49 rfl z3 ?_
      refine am_aload_n (pc' := 75) dX8_keepPlan_74 rfl rfl ?_
      refine am_aload_n (pc' := 76) dX8_keepPlan_75 rfl rfl ?_
      obtain ⟨h4, eh4, hF⟩ := am_bind hF
      obtain ⟨oh4, ph4⟩ := t_X8_addUp eh4
      refine am_callV0 (Mc := M_X8_addUp) (As := [.ref v3]) (st := []) (pc' := 79) dX8_keepPlan_76 cw_X8_352 wd_2_119 sl_X8_addUp ⟨_, rfl, rfl⟩ (by decide) (by decide) rfl rfl (Nat.le_of_ble_eq_true rfl) ph4 (c_X8_addUp eh4) rfl ?_
      refine am_aload_n (pc' := 80) dX8_keepPlan_79 rfl rfl ?_
      obtain ⟨x5, ex5, hF⟩ := am_bind hF
      refine am_getr (pc' := 83) dX8_keepPlan_80 fw_X8_33 ex5 rfl ?_
      refine am_iload_n (pc' := 84) dX8_keepPlan_83 rfl rfl ?_
      refine am_aload_n (pc' := 85) dX8_keepPlan_84 rfl rfl ?_
      obtain ⟨h6, eh6, hF⟩ := am_bind hF
      refine am_aast (pc' := 86) dX8_keepPlan_85 ⟨_, rfl, rfl⟩ eh6 rfl ?_
      refine am_aload_n (pc' := 87) dX8_keepPlan_86 rfl rfl ?_
      refine am_dup (pc' := 88) dX8_keepPlan_87 rfl rfl ?_
      obtain ⟨x7, ex7, hF⟩ := am_bind hF
      refine am_geti (pc' := 91) dX8_keepPlan_88 fw_X8_37 ex7 rfl ?_
      refine am_iconst (v := (1 : Int32)) (pc' := 92) dX8_keepPlan_91 rfl rfl ?_
      refine am_iadd (pc' := 93) dX8_keepPlan_92 rfl ?_
      obtain ⟨h8, eh8, hF⟩ := am_bind hF
      refine am_puti (pc' := 96) dX8_keepPlan_93 fx_X8_37 eh8 rfl ?_
      refine am_iload_n (pc' := 97) dX8_keepPlan_96 rfl rfl ?_
      cases hF
      exact am_iret dX8_keepPlan_97 rfl rfl
    · refine am_icmp_ge_f (pc' := 52) (tgt := 74) dX8_keepPlan_49 rfl z3 rfl ?_
      refine am_aload_n (pc' := 53) dX8_keepPlan_52 rfl rfl ?_
      refine am_dup (pc' := 54) dX8_keepPlan_53 rfl rfl ?_
      obtain ⟨x9, ex9, hF⟩ := am_bind hF
      refine am_geti (pc' := 57) dX8_keepPlan_54 fw_X8_130 ex9 rfl ?_
      refine am_aload_n (pc' := 58) dX8_keepPlan_57 rfl rfl ?_
      refine am_aload_n (pc' := 59) dX8_keepPlan_58 rfl rfl ?_
      refine am_iload (pc' := 61) dX8_keepPlan_59 rfl rfl ?_
      obtain ⟨x10, ex10, hF⟩ := am_bind hF
      obtain ⟨ox10, px10⟩ := t_X8_lengthIn ex10
      refine am_callV1 (Mc := M_X8_lengthIn) (As := [.ref v3, .int v4]) (st := [.int x9, .ref v3]) (pc' := 64) dX8_keepPlan_61 cw_X8_145 wd_2_114 sl_X8_lengthIn ⟨_, rfl, rfl⟩ (by decide) (by decide) rfl rfl (Nat.le_of_ble_eq_true rfl) px10 (c_X8_lengthIn ex10) rfl ?_
      refine am_iadd (pc' := 65) dX8_keepPlan_64 rfl ?_
      obtain ⟨h11, eh11, hF⟩ := am_bind hF
      refine am_puti (pc' := 68) dX8_keepPlan_65 fx_X8_130 eh11 rfl ?_
      refine am_iinc (ls' := [some (.ref v0), none, some (.int v2), some (.ref v3), some (.int (v4 + (1 : Int32)))]) (pc' := 71) (v := (v4 + (1 : Int32))) dX8_keepPlan_68 rfl rfl (Nat.le_of_ble_eq_true rfl) rfl rfl ?_
      refine am_goto (pc' := 40) dX8_keepPlan_71 rfl ?_
      exact w_X8_keepPlan_40 n v0 v2 v3 (v4 + (1 : Int32)) h11 hF
def F_X8_keepPlan_b (v0 : Nat) (v1 : Int32) (h : am_H) : Option (Int32 × am_H) :=
  (am_gi 8 5 v0 h).bind fun x1 =>
  (am_gr 8 4 v0 h).bind fun x2 =>
  (am_ln x2 h).bind fun x3 =>
  if x1 < x3 then
    (am_gi 8 5 v0 h).bind fun x5 =>
    (am_nw 7 h).bind fun p6 =>
    (am_gr 8 6 v0 p6.2).bind fun x7 =>
    (am_gi 8 7 v0 p6.2).bind fun x8 =>
    (F_X7_init p6.1 x7 v1 x8 p6.2).bind fun h9 =>
    F_X8_keepPlan_40 am_F v0 x5 p6.1 (0 : Int32) h9
  else
    some ((-100004 : Int32), h)
theorem w_X8_keepPlan {g : am_G} {l : Launch} {h0 : am_H} {x : Int32} {hf : am_H}  (v0 : Nat) (v1 : Int32) (h : am_H) (hF : F_X8_keepPlan_b v0 v1 h = some (x, hf)) : am_W g l M_X8_keepPlan h0 (some (.int x)) hf 0 [some (.ref v0), some (.int v1), none, none, none] [] h := by
  unfold F_X8_keepPlan_b at hF
  refine am_aload_n (pc' := 1) dX8_keepPlan_0 rfl rfl ?_
  obtain ⟨x1, ex1, hF⟩ := am_bind hF
  refine am_geti (pc' := 4) dX8_keepPlan_1 fw_X8_37 ex1 rfl ?_
  refine am_aload_n (pc' := 5) dX8_keepPlan_4 rfl rfl ?_
  obtain ⟨x2, ex2, hF⟩ := am_bind hF
  refine am_getr (pc' := 8) dX8_keepPlan_5 fw_X8_33 ex2 rfl ?_
  obtain ⟨x3, ex3, hF⟩ := am_bind hF
  refine am_alen (pc' := 9) dX8_keepPlan_8 ex3 rfl ?_
  rcases am_ite hF with ⟨z4, hF⟩ | ⟨z4, hF⟩
  · refine am_icmp_lt_t (pc' := 15) dX8_keepPlan_9 rfl z4 ?_
    refine am_aload_n (pc' := 16) dX8_keepPlan_15 rfl rfl ?_
    obtain ⟨x5, ex5, hF⟩ := am_bind hF
    refine am_geti (pc' := 19) dX8_keepPlan_16 fw_X8_37 ex5 rfl ?_
    refine am_istore_n (ls' := [some (.ref v0), some (.int v1), some (.int x5), none, none]) (pc' := 20) dX8_keepPlan_19 (Nat.le_of_ble_eq_true rfl) rfl rfl ?_
    obtain ⟨p6, ep6, hF⟩ := am_bind hF
    refine am_new (pc' := 23) dX8_keepPlan_20 nx_X8_31 ep6 rfl ?_
    refine am_dup (pc' := 24) dX8_keepPlan_23 rfl rfl ?_
    refine am_aload_n (pc' := 25) dX8_keepPlan_24 rfl rfl ?_
    obtain ⟨x7, ex7, hF⟩ := am_bind hF
    refine am_getr (pc' := 28) dX8_keepPlan_25 fw_X8_40 ex7 rfl ?_
    refine am_iload_n (pc' := 29) dX8_keepPlan_28 rfl rfl ?_
    refine am_aload_n (pc' := 30) dX8_keepPlan_29 rfl rfl ?_
    obtain ⟨x8, ex8, hF⟩ := am_bind hF
    refine am_geti (pc' := 33) dX8_keepPlan_30 fw_X8_43 ex8 rfl ?_
    obtain ⟨h9, eh9, hF⟩ := am_bind hF
    obtain ⟨oh9, ph9⟩ := t_X7_init eh9
    refine am_callI0 (Mc := M_X7_init) (As := [.ref x7, .int v1, .int x8]) (st := [.ref p6.1]) (pc' := 36) dX8_keepPlan_33 cw_X8_351 wd_2_80 rfl rfl (by decide) (by decide) rfl rfl (Nat.le_of_ble_eq_true rfl) ph9 (c_X7_init eh9) rfl ?_
    refine am_astore_n (ls' := [some (.ref v0), some (.int v1), some (.int x5), some (.ref p6.1), none]) (pc' := 37) dX8_keepPlan_36 (Nat.le_of_ble_eq_true rfl) rfl rfl ?_
    refine am_iconst (v := (0 : Int32)) (pc' := 38) dX8_keepPlan_37 rfl rfl ?_
    refine am_istore (ls' := [some (.ref v0), some (.int v1), some (.int x5), some (.ref p6.1), some (.int (0 : Int32))]) (pc' := 40) dX8_keepPlan_38 (Nat.le_of_ble_eq_true rfl) rfl rfl ?_
    exact am_weak [true, false, true, true, true] (w_X8_keepPlan_40 am_F v0 x5 p6.1 (0 : Int32) h9 hF)
  · refine am_icmp_lt_f (pc' := 12) (tgt := 15) dX8_keepPlan_9 rfl z4 rfl ?_
    refine am_ldc (v := (-100004 : Int32)) (pc' := 14) dX8_keepPlan_12 wd_1_238 rfl ?_
    cases hF
    exact am_iret dX8_keepPlan_14 rfl rfl
def F_X8_keepPlan (v0 : Nat) (v1 : Int32) (h : am_H) : Option (Int32 × am_H) := (am_obj v0 8 h).bind fun _ => F_X8_keepPlan_b v0 v1 h
theorem t_X8_keepPlan {x : Int32} {hf : am_H}  {v0 : Nat} {v1 : Int32} {h : am_H} (hF : F_X8_keepPlan v0 v1 h = some (x, hf)) : ∃ fs, am_obj v0 8 h = some fs := by
  obtain ⟨fs, e, _⟩ := am_bind hF
  exact ⟨fs, e⟩
theorem c_X8_keepPlan {g : am_G} {l : Launch} {x : Int32} {hf : am_H}  {v0 : Nat} {v1 : Int32} {h : am_H} (hF : F_X8_keepPlan v0 v1 h = some (x, hf)) : am_Met g l M_X8_keepPlan [.ref v0, .int v1] h (some (.int x)) hf := by
  obtain ⟨fs, e0, e⟩ := am_bind hF
  exact am_met (n := 3) (by decide +kernel) rfl (Nat.le_of_ble_eq_true rfl) (w_X8_keepPlan v0 v1 h e)
theorem cw_X8_102 : am_cw "SignCellar" 102 M_X8_hasRoom 1 := ⟨wd_1_1, wd_2_11, ⟨by decide, by decide, by decide⟩, Or.inl wd_2_8⟩
theorem cw_X8_106 : am_cw "SignCellar" 106 M_X8_startPlan 0 := ⟨wd_1_1, wd_2_15, ⟨by decide, by decide, by decide⟩, Or.inl wd_2_12⟩
theorem cw_X8_109 : am_cw "SignCellar" 109 M_J9_min_7cf53 2 := ⟨wd_1_3, wd_2_22, ⟨by decide, by decide, by decide⟩, Or.inl wd_2_20⟩
theorem cw_X8_115 : am_cw "SignCellar" 115 M_X8_planBlock 3 := ⟨wd_1_1, wd_2_26, ⟨by decide, by decide, by decide⟩, Or.inl wd_2_23⟩
theorem cw_X8_122 : am_cw "SignCellar" 122 M_X8_keepPlan 1 := ⟨wd_1_1, wd_2_77, ⟨by decide, by decide, by decide⟩, Or.inl wd_2_74⟩
theorem sl_X8_hasRoom : Cond.selects (⟨"SignCellar", "hasRoom", "(I)Z"⟩ : MethodName).cls ⟨"SignCellar", "hasRoom", "(I)Z"⟩ ⟨"SignCellar", "hasRoom", "(I)Z"⟩ ∈ am_ts := am_in_p (q := (⟨"SignCellar", "hasRoom", "(I)Z"⟩, 16)) (by decide +kernel)
theorem sl_X8_keepPlan : Cond.selects (⟨"SignCellar", "keepPlan", "(I)I"⟩ : MethodName).cls ⟨"SignCellar", "keepPlan", "(I)I"⟩ ⟨"SignCellar", "keepPlan", "(I)I"⟩ ∈ am_ts := am_in_p (q := (⟨"SignCellar", "keepPlan", "(I)I"⟩, 16)) (by decide +kernel)
theorem sl_X8_planBlock : Cond.selects (⟨"SignCellar", "planBlock", "(LSignCellar$Row;II)V"⟩ : MethodName).cls ⟨"SignCellar", "planBlock", "(LSignCellar$Row;II)V"⟩ ⟨"SignCellar", "planBlock", "(LSignCellar$Row;II)V"⟩ ∈ am_ts := am_in_p (q := (⟨"SignCellar", "planBlock", "(LSignCellar$Row;II)V"⟩, 16)) (by decide +kernel)
theorem sl_X8_startPlan : Cond.selects (⟨"SignCellar", "startPlan", "()V"⟩ : MethodName).cls ⟨"SignCellar", "startPlan", "()V"⟩ ⟨"SignCellar", "startPlan", "()V"⟩ ∈ am_ts := am_in_p (q := (⟨"SignCellar", "startPlan", "()V"⟩, 16)) (by decide +kernel)
def F_X8_make_40 : Nat → Nat → Int32 → Int32 → am_H → Option (Int32 × am_H)
  | 0, _, _, _, _ => none
  | n + 1, v0, v1, v2, h =>
  if v1 ≤ v2 then
    (am_gr 8 0 v0 h).bind fun x2 =>
    (F_X4_empty x2 h).bind fun h3 =>
    (F_X8_keepPlan v0 (-1 : Int32) h3).bind fun q4 =>
    some (q4.1, q4.2)
  else
    (am_gr 8 0 v0 h).bind fun x5 =>
    (F_J9_min_7cf53 v1 (v2 + (16 : Int32)) h).bind fun x6 =>
    (F_X8_planBlock v0 x5 v2 x6 h).bind fun h7 =>
    F_X8_make_40 n v0 v1 (v2 + (16 : Int32)) h7
theorem w_X8_make_40 {g : am_G} {l : Launch} {h0 : am_H} {x : Int32} {hf : am_H}  : ∀ (n : Nat) (v0 : Nat) (v1 : Int32) (v2 : Int32) (h : am_H), F_X8_make_40 n v0 v1 v2 h = some (x, hf) → am_W g l M_X8_make h0 (some (.int x)) hf 40 [some (.ref v0), some (.int v1), some (.int v2)] [] h
  | 0, _, _, _, _, hF => by cases hF
  | n + 1, v0, v1, v2, h, hF => by
    rw [F_X8_make_40] at hF
    refine am_iload_n (pc' := 41) dX8_make_40 rfl rfl ?_
    refine am_iload_n (pc' := 42) dX8_make_41 rfl rfl ?_
    rcases am_ite hF with ⟨z1, hF⟩ | ⟨z1, hF⟩
    · refine am_icmp_ge_t (pc' := 68) dX8_make_42 rfl z1 ?_
      refine am_aload_n (pc' := 69) dX8_make_68 rfl rfl ?_
      obtain ⟨x2, ex2, hF⟩ := am_bind hF
      refine am_getr (pc' := 72) dX8_make_69 fw_X8_14 ex2 rfl ?_
      obtain ⟨h3, eh3, hF⟩ := am_bind hF
      obtain ⟨oh3, ph3⟩ := t_X4_empty eh3
      refine am_callV0 (Mc := M_X4_empty) (As := []) (st := []) (pc' := 75) dX8_make_72 cw_X8_119 wd_2_17 wd_2_18 ⟨_, rfl, rfl⟩ (by decide) (by decide) rfl rfl (Nat.le_of_ble_eq_true rfl) ph3 (c_X4_empty eh3) rfl ?_
      refine am_aload_n (pc' := 76) dX8_make_75 rfl rfl ?_
      refine am_iconst (v := (-1 : Int32)) (pc' := 77) dX8_make_76 rfl rfl ?_
      obtain ⟨q4, eq4, hF⟩ := am_bind hF
      obtain ⟨oq4, pq4⟩ := t_X8_keepPlan eq4
      refine am_callV1 (Mc := M_X8_keepPlan) (As := [.int (-1 : Int32)]) (st := []) (pc' := 80) dX8_make_77 cw_X8_122 wd_2_76 sl_X8_keepPlan ⟨_, rfl, rfl⟩ (by decide) (by decide) rfl rfl (Nat.le_of_ble_eq_true rfl) pq4 (c_X8_keepPlan eq4) rfl ?_
      cases hF
      exact am_iret dX8_make_80 rfl rfl
    · refine am_icmp_ge_f (pc' := 45) (tgt := 68) dX8_make_42 rfl z1 rfl ?_
      refine am_aload_n (pc' := 46) dX8_make_45 rfl rfl ?_
      refine am_aload_n (pc' := 47) dX8_make_46 rfl rfl ?_
      obtain ⟨x5, ex5, hF⟩ := am_bind hF
      refine am_getr (pc' := 50) dX8_make_47 fw_X8_14 ex5 rfl ?_
      refine am_iload_n (pc' := 51) dX8_make_50 rfl rfl ?_
      refine am_iload_n (pc' := 52) dX8_make_51 rfl rfl ?_
      refine am_iload_n (pc' := 53) dX8_make_52 rfl rfl ?_
      refine am_bipush (v := (16 : Int32)) (pc' := 55) dX8_make_53 rfl rfl ?_
      refine am_iadd (pc' := 56) dX8_make_55 rfl ?_
      obtain ⟨x6, ex6, hF⟩ := am_bind hF
      refine am_callS1 (Mc := M_J9_min_7cf53) (As := [.int v1, .int (v2 + (16 : Int32))]) (st := [.int v2, .ref x5, .ref v0]) (pc' := 59) dX8_make_56 cw_X8_109 wd_2_21 (by decide) (by decide) rfl rfl (Nat.le_of_ble_eq_true rfl) (c_J9_min_7cf53 ex6) rfl ?_
      obtain ⟨h7, eh7, hF⟩ := am_bind hF
      obtain ⟨oh7, ph7⟩ := t_X8_planBlock eh7
      refine am_callV0 (Mc := M_X8_planBlock) (As := [.ref x5, .int v2, .int x6]) (st := []) (pc' := 62) dX8_make_59 cw_X8_115 wd_2_25 sl_X8_planBlock ⟨_, rfl, rfl⟩ (by decide) (by decide) rfl rfl (Nat.le_of_ble_eq_true rfl) ph7 (c_X8_planBlock eh7) rfl ?_
      refine am_iinc (ls' := [some (.ref v0), some (.int v1), some (.int (v2 + (16 : Int32)))]) (pc' := 65) (v := (v2 + (16 : Int32))) dX8_make_62 rfl rfl (Nat.le_of_ble_eq_true rfl) rfl rfl ?_
      refine am_goto (pc' := 40) dX8_make_65 rfl ?_
      exact w_X8_make_40 n v0 v1 (v2 + (16 : Int32)) h7 hF
def F_X8_make_b (v0 : Nat) (h : am_H) : Option (Int32 × am_H) :=
  (am_gr 8 0 v0 h).bind fun x1 =>
  (F_X4_length x1 h).bind fun x2 =>
  if x2 = 0 then
    some ((-100003 : Int32), h)
  else
    (F_X8_hasRoom v0 (((x2 + (16 : Int32)) - (1 : Int32)) / (16 : Int32)) h).bind fun x4 =>
    if x4 = 0 then
      some ((-100004 : Int32), h)
    else
      (F_X8_startPlan v0 h).bind fun h6 =>
      F_X8_make_40 am_F v0 x2 (0 : Int32) h6
theorem w_X8_make {g : am_G} {l : Launch} {h0 : am_H} {x : Int32} {hf : am_H}  (v0 : Nat) (h : am_H) (hF : F_X8_make_b v0 h = some (x, hf)) : am_W g l M_X8_make h0 (some (.int x)) hf 0 [some (.ref v0), none, none] [] h := by
  unfold F_X8_make_b at hF
  refine am_aload_n (pc' := 1) dX8_make_0 rfl rfl ?_
  obtain ⟨x1, ex1, hF⟩ := am_bind hF
  refine am_getr (pc' := 4) dX8_make_1 fw_X8_14 ex1 rfl ?_
  obtain ⟨x2, ex2, hF⟩ := am_bind hF
  obtain ⟨ox2, px2⟩ := t_X4_length ex2
  refine am_callV1 (Mc := M_X4_length) (As := []) (st := []) (pc' := 7) dX8_make_4 cw_X8_93 wd_1_235 wd_1_236 ⟨_, rfl, rfl⟩ (by decide) (by decide) rfl rfl (Nat.le_of_ble_eq_true rfl) px2 (c_X4_length ex2) rfl ?_
  refine am_istore_n (ls' := [some (.ref v0), some (.int x2), none]) (pc' := 8) dX8_make_7 (Nat.le_of_ble_eq_true rfl) rfl rfl ?_
  refine am_iload_n (pc' := 9) dX8_make_8 rfl rfl ?_
  rcases am_ite hF with ⟨z3, hF⟩ | ⟨z3, hF⟩
  · refine am_if_ne_f (pc' := 12) (tgt := 15) dX8_make_9 rfl z3 rfl ?_
    refine am_ldc (v := (-100003 : Int32)) (pc' := 14) dX8_make_12 wd_2_7 rfl ?_
    cases hF
    exact am_iret dX8_make_14 rfl rfl
  · refine am_if_ne_t (pc' := 15) dX8_make_9 rfl z3 ?_
    refine am_aload_n (pc' := 16) dX8_make_15 rfl rfl ?_
    refine am_iload_n (pc' := 17) dX8_make_16 rfl rfl ?_
    refine am_bipush (v := (16 : Int32)) (pc' := 19) dX8_make_17 rfl rfl ?_
    refine am_iadd (pc' := 20) dX8_make_19 rfl ?_
    refine am_iconst (v := (1 : Int32)) (pc' := 21) dX8_make_20 rfl rfl ?_
    refine am_isub (pc' := 22) dX8_make_21 rfl ?_
    refine am_bipush (v := (16 : Int32)) (pc' := 24) dX8_make_22 rfl rfl ?_
    refine am_idiv (pc' := 25) dX8_make_24 (by decide) rfl ?_
    obtain ⟨x4, ex4, hF⟩ := am_bind hF
    obtain ⟨ox4, px4⟩ := t_X8_hasRoom ex4
    refine am_callV1 (Mc := M_X8_hasRoom) (As := [.int (((x2 + (16 : Int32)) - (1 : Int32)) / (16 : Int32))]) (st := []) (pc' := 28) dX8_make_25 cw_X8_102 wd_2_10 sl_X8_hasRoom ⟨_, rfl, rfl⟩ (by decide) (by decide) rfl rfl (Nat.le_of_ble_eq_true rfl) px4 (c_X8_hasRoom ex4) rfl ?_
    rcases am_ite hF with ⟨z5, hF⟩ | ⟨z5, hF⟩
    · refine am_if_ne_f (pc' := 31) (tgt := 34) dX8_make_28 rfl z5 rfl ?_
      refine am_ldc (v := (-100004 : Int32)) (pc' := 33) dX8_make_31 wd_1_238 rfl ?_
      cases hF
      exact am_iret dX8_make_33 rfl rfl
    · refine am_if_ne_t (pc' := 34) dX8_make_28 rfl z5 ?_
      refine am_aload_n (pc' := 35) dX8_make_34 rfl rfl ?_
      obtain ⟨h6, eh6, hF⟩ := am_bind hF
      obtain ⟨oh6, ph6⟩ := t_X8_startPlan eh6
      refine am_callV0 (Mc := M_X8_startPlan) (As := []) (st := []) (pc' := 38) dX8_make_35 cw_X8_106 wd_2_14 sl_X8_startPlan ⟨_, rfl, rfl⟩ (by decide) (by decide) rfl rfl (Nat.le_of_ble_eq_true rfl) ph6 (c_X8_startPlan eh6) rfl ?_
      refine am_iconst (v := (0 : Int32)) (pc' := 39) dX8_make_38 rfl rfl ?_
      refine am_istore_n (ls' := [some (.ref v0), some (.int x2), some (.int (0 : Int32))]) (pc' := 40) dX8_make_39 (Nat.le_of_ble_eq_true rfl) rfl rfl ?_
      exact w_X8_make_40 am_F v0 x2 (0 : Int32) h6 hF
def F_X8_make (v0 : Nat) (h : am_H) : Option (Int32 × am_H) := (am_obj v0 8 h).bind fun _ => F_X8_make_b v0 h
theorem t_X8_make {x : Int32} {hf : am_H}  {v0 : Nat} {h : am_H} (hF : F_X8_make v0 h = some (x, hf)) : ∃ fs, am_obj v0 8 h = some fs := by
  obtain ⟨fs, e, _⟩ := am_bind hF
  exact ⟨fs, e⟩
theorem c_X8_make {g : am_G} {l : Launch} {x : Int32} {hf : am_H}  {v0 : Nat} {h : am_H} (hF : F_X8_make v0 h = some (x, hf)) : am_Met g l M_X8_make [.ref v0] h (some (.int x)) hf := by
  obtain ⟨fs, e0, e⟩ := am_bind hF
  exact am_met (n := 2) (by decide +kernel) rfl (Nat.le_of_ble_eq_true rfl) (w_X8_make v0 h e)
theorem fw_X9_100 : am_fw "SignCellarModel" 100 9 2 := ⟨(RX9, TX9, 42), rfl, by decide, inX9, Or.inl wd_4_102⟩
theorem fw_X9_92 : am_fw "SignCellarModel" 92 9 6 := ⟨(RX9, TX9, 42), rfl, by decide, inX9, Or.inl wd_4_106⟩
def F_X9_isFull_26 (s0 : Int32) (h : am_H) : Option Int32 :=
  am_z s0
theorem w_X9_isFull_26 {g : am_G} {l : Launch} {h0 : am_H} {x : Int32}  (s0 : Int32) (h : am_H) (hF : F_X9_isFull_26 s0 h = some x) : am_W g l M_X9_isFull h0 (some (.int x)) h 26 [none, none] [.int s0] h := by
  unfold F_X9_isFull_26 at hF
  exact am_zret dX9_isFull_26 rfl hF
def F_X9_isFull_21 (h : am_H) : Option Int32 :=
  F_X9_isFull_26 (1 : Int32) h
theorem w_X9_isFull_21 {g : am_G} {l : Launch} {h0 : am_H} {x : Int32}  (h : am_H) (hF : F_X9_isFull_21 h = some x) : am_W g l M_X9_isFull h0 (some (.int x)) h 21 [none, none] [] h := by
  unfold F_X9_isFull_21 at hF
  refine am_iconst (v := (1 : Int32)) (pc' := 22) dX9_isFull_21 rfl rfl ?_
  refine am_goto (pc' := 26) dX9_isFull_22 rfl ?_
  exact w_X9_isFull_26 (1 : Int32) h hF
def F_X9_isFull_b (v0 : Nat) (v1 : Int32) (h : am_H) : Option Int32 :=
  (am_gi 9 6 v0 h).bind fun x1 =>
  if x1 = (30 : Int32) then
    F_X9_isFull_21 h
  else
    (am_gi 9 2 v0 h).bind fun x3 =>
    if (x3 + v1) ≤ (200 : Int32) then
      F_X9_isFull_26 (0 : Int32) h
    else
      F_X9_isFull_21 h
theorem w_X9_isFull {g : am_G} {l : Launch} {h0 : am_H} {x : Int32}  (v0 : Nat) (v1 : Int32) (h : am_H) (hF : F_X9_isFull_b v0 v1 h = some x) : am_W g l M_X9_isFull h0 (some (.int x)) h 0 [some (.ref v0), some (.int v1)] [] h := by
  unfold F_X9_isFull_b at hF
  refine am_aload_n (pc' := 1) dX9_isFull_0 rfl rfl ?_
  obtain ⟨x1, ex1, hF⟩ := am_bind hF
  refine am_geti (pc' := 4) dX9_isFull_1 fw_X9_92 ex1 rfl ?_
  refine am_bipush (v := (30 : Int32)) (pc' := 6) dX9_isFull_4 rfl rfl ?_
  rcases am_ite hF with ⟨z2, hF⟩ | ⟨z2, hF⟩
  · refine am_icmp_eq_t (pc' := 21) dX9_isFull_6 rfl z2 ?_
    exact am_weak [false, false] (w_X9_isFull_21 h hF)
  · refine am_icmp_eq_f (pc' := 9) (tgt := 21) dX9_isFull_6 rfl z2 rfl ?_
    refine am_aload_n (pc' := 10) dX9_isFull_9 rfl rfl ?_
    obtain ⟨x3, ex3, hF⟩ := am_bind hF
    refine am_geti (pc' := 13) dX9_isFull_10 fw_X9_100 ex3 rfl ?_
    refine am_iload_n (pc' := 14) dX9_isFull_13 rfl rfl ?_
    refine am_iadd (pc' := 15) dX9_isFull_14 rfl ?_
    refine am_sipush (v := (200 : Int32)) (pc' := 18) dX9_isFull_15 rfl rfl ?_
    rcases am_ite hF with ⟨z4, hF⟩ | ⟨z4, hF⟩
    · refine am_icmp_le_t (pc' := 25) dX9_isFull_18 rfl z4 ?_
      refine am_iconst (v := (0 : Int32)) (pc' := 26) dX9_isFull_25 rfl rfl ?_
      exact am_weak [false, false] (w_X9_isFull_26 (0 : Int32) h hF)
    · refine am_icmp_le_f (pc' := 21) (tgt := 25) dX9_isFull_18 rfl z4 rfl ?_
      exact am_weak [false, false] (w_X9_isFull_21 h hF)
def F_X9_isFull (v0 : Nat) (v1 : Int32) (h : am_H) : Option Int32 := (am_obj v0 9 h).bind fun _ => F_X9_isFull_b v0 v1 h
theorem t_X9_isFull {x : Int32}  {v0 : Nat} {v1 : Int32} {h : am_H} (hF : F_X9_isFull v0 v1 h = some x) : ∃ fs, am_obj v0 9 h = some fs := by
  obtain ⟨fs, e, _⟩ := am_bind hF
  exact ⟨fs, e⟩
theorem c_X9_isFull {g : am_G} {l : Launch} {x : Int32}  {v0 : Nat} {v1 : Int32} {h : am_H} (hF : F_X9_isFull v0 v1 h = some x) : am_Met g l M_X9_isFull [.ref v0, .int v1] h (some (.int x)) h := by
  obtain ⟨fs, e0, e⟩ := am_bind hF
  exact am_met (n := 0) (by decide +kernel) rfl (Nat.le_of_ble_eq_true rfl) (w_X9_isFull v0 v1 h e)
theorem fx_X9_121 {nm : String} : am_fx "SignCellarModel" 121 9 17 .int nm := ⟨(RX9, TX9, 42), tyX9, rfl, by decide, inX9, tyX9_ok, nmX9, rfl, Or.inl ⟨wd_4_117, Or.inl rfl⟩⟩
theorem fx_X9_124 {nm : String} : am_fx "SignCellarModel" 124 9 16 .int nm := ⟨(RX9, TX9, 42), tyX9, rfl, by decide, inX9, tyX9_ok, nmX9, rfl, Or.inl ⟨wd_4_116, Or.inl rfl⟩⟩
def F_X9_begin_b (v0 : Nat) (h : am_H) : Option am_H :=
  (am_pi 9 16 v0 (0 : Int32) h).bind fun h1 =>
  (am_pi 9 17 v0 (0 : Int32) h1).bind fun h2 =>
  some h2
theorem w_X9_begin {g : am_G} {l : Launch} {h0 : am_H} {hf : am_H}  (v0 : Nat) (h : am_H) (hF : F_X9_begin_b v0 h = some hf) : am_W g l M_X9_begin h0 none hf 0 [some (.ref v0)] [] h := by
  unfold F_X9_begin_b at hF
  refine am_aload_n (pc' := 1) dX9_begin_0 rfl rfl ?_
  refine am_iconst (v := (0 : Int32)) (pc' := 2) dX9_begin_1 rfl rfl ?_
  obtain ⟨h1, eh1, hF⟩ := am_bind hF
  refine am_puti (pc' := 5) dX9_begin_2 fx_X9_124 eh1 rfl ?_
  refine am_aload_n (pc' := 6) dX9_begin_5 rfl rfl ?_
  refine am_iconst (v := (0 : Int32)) (pc' := 7) dX9_begin_6 rfl rfl ?_
  obtain ⟨h2, eh2, hF⟩ := am_bind hF
  refine am_puti (pc' := 10) dX9_begin_7 fx_X9_121 eh2 rfl ?_
  cases hF
  exact am_vret dX9_begin_10 rfl
def F_X9_begin (v0 : Nat) (h : am_H) : Option am_H := (am_obj v0 9 h).bind fun _ => F_X9_begin_b v0 h
theorem t_X9_begin {hf : am_H}  {v0 : Nat} {h : am_H} (hF : F_X9_begin v0 h = some hf) : ∃ fs, am_obj v0 9 h = some fs := by
  obtain ⟨fs, e, _⟩ := am_bind hF
  exact ⟨fs, e⟩
theorem c_X9_begin {g : am_G} {l : Launch} {hf : am_H}  {v0 : Nat} {h : am_H} (hF : F_X9_begin v0 h = some hf) : am_Met g l M_X9_begin [.ref v0] h none hf := by
  obtain ⟨fs, e0, e⟩ := am_bind hF
  exact am_met (n := 0) (by decide +kernel) rfl (Nat.le_of_ble_eq_true rfl) (w_X9_begin v0 h e)
theorem fw_X9_16 : am_fw "SignCellarModel" 16 9 4 := ⟨(RX9, TX9, 42), rfl, by decide, inX9, Or.inl wd_4_104⟩
def F_X9_sign_b (v0 : Nat) (v1 : Int32) (v2 : Int32) (h : am_H) : Option Int32 :=
  (am_gr 9 4 v0 h).bind fun x1 =>
  (am_il 0 x1 (((24 : Int32) * v1) + v2) h).bind fun x2 =>
  some x2
theorem w_X9_sign {g : am_G} {l : Launch} {h0 : am_H} {x : Int32}  (v0 : Nat) (v1 : Int32) (v2 : Int32) (h : am_H) (hF : F_X9_sign_b v0 v1 v2 h = some x) : am_W g l M_X9_sign h0 (some (.int x)) h 0 [some (.ref v0), some (.int v1), some (.int v2)] [] h := by
  unfold F_X9_sign_b at hF
  refine am_aload_n (pc' := 1) dX9_sign_0 rfl rfl ?_
  obtain ⟨x1, ex1, hF⟩ := am_bind hF
  refine am_getr (pc' := 4) dX9_sign_1 fw_X9_16 ex1 rfl ?_
  refine am_bipush (v := (24 : Int32)) (pc' := 6) dX9_sign_4 rfl rfl ?_
  refine am_iload_n (pc' := 7) dX9_sign_6 rfl rfl ?_
  refine am_imul (pc' := 8) dX9_sign_7 rfl ?_
  refine am_iload_n (pc' := 9) dX9_sign_8 rfl rfl ?_
  refine am_iadd (pc' := 10) dX9_sign_9 rfl ?_
  obtain ⟨x2, ex2, hF⟩ := am_bind hF
  refine am_iald (pc' := 11) dX9_sign_10 ex2 rfl ?_
  cases hF
  exact am_iret dX9_sign_11 rfl rfl
def F_X9_sign (v0 : Nat) (v1 : Int32) (v2 : Int32) (h : am_H) : Option Int32 := (am_obj v0 9 h).bind fun _ => F_X9_sign_b v0 v1 v2 h
theorem t_X9_sign {x : Int32}  {v0 : Nat} {v1 : Int32} {v2 : Int32} {h : am_H} (hF : F_X9_sign v0 v1 v2 h = some x) : ∃ fs, am_obj v0 9 h = some fs := by
  obtain ⟨fs, e, _⟩ := am_bind hF
  exact ⟨fs, e⟩
theorem c_X9_sign {g : am_G} {l : Launch} {x : Int32}  {v0 : Nat} {v1 : Int32} {v2 : Int32} {h : am_H} (hF : F_X9_sign v0 v1 v2 h = some x) : am_Met g l M_X9_sign [.ref v0, .int v1, .int v2] h (some (.int x)) h := by
  obtain ⟨fs, e0, e⟩ := am_bind hF
  exact am_met (n := 0) (by decide +kernel) rfl (Nat.le_of_ble_eq_true rfl) (w_X9_sign v0 v1 v2 h e)
theorem cw_X9_113 : am_cw "SignCellarModel" 113 M_X9_sign 2 := ⟨wd_1_9, wd_5_22, ⟨by decide, by decide, by decide⟩, Or.inl wd_5_19⟩
theorem fw_X9_110 : am_fw "SignCellarModel" 110 9 14 := ⟨(RX9, TX9, 42), rfl, by decide, inX9, Or.inl wd_4_114⟩
theorem fw_X9_13 : am_fw "SignCellarModel" 13 9 3 := ⟨(RX9, TX9, 42), rfl, by decide, inX9, Or.inl wd_4_103⟩
theorem fw_X9_19 : am_fw "SignCellarModel" 19 9 5 := ⟨(RX9, TX9, 42), rfl, by decide, inX9, Or.inl wd_4_105⟩
theorem fw_X9_41 : am_fw "SignCellarModel" 41 9 13 := ⟨(RX9, TX9, 42), rfl, by decide, inX9, Or.inl wd_4_113⟩
theorem sl_X9_sign : Cond.selects (⟨"SignCellarModel", "sign", "(II)I"⟩ : MethodName).cls ⟨"SignCellarModel", "sign", "(II)I"⟩ ⟨"SignCellarModel", "sign", "(II)I"⟩ ∈ am_ts := am_in_p (q := (⟨"SignCellarModel", "sign", "(II)I"⟩, 42)) (by decide +kernel)
def F_X9_isSame_69 (v2 : Int32) (h : am_H) : Option Int32 :=
  am_z v2
theorem w_X9_isSame_69 {g : am_G} {l : Launch} {h0 : am_H} {x : Int32}  (v2 : Int32) (h : am_H) (hF : F_X9_isSame_69 v2 h = some x) : am_W g l M_X9_isSame h0 (some (.int x)) h 69 [none, none, some (.int v2), none] [] h := by
  unfold F_X9_isSame_69 at hF
  refine am_iload_n (pc' := 70) dX9_isSame_69 rfl rfl ?_
  exact am_zret dX9_isSame_70 rfl hF
def F_X9_isSame_62 (k30 : Nat → Int32 → Int32 → Int32 → am_H → Option Int32) (v0 : Nat) (v1 : Int32) (v3 : Int32) (s0 : Int32) (h : am_H) : Option Int32 :=
  k30 v0 v1 s0 (v3 + (1 : Int32)) h
theorem w_X9_isSame_62 {g : am_G} {l : Launch} {h0 : am_H} {x : Int32}  {k30 : Nat → Int32 → Int32 → Int32 → am_H → Option Int32} (j30 : ∀ (v0 : Nat) (v1 : Int32) (v2 : Int32) (v3 : Int32) (h : am_H), k30 v0 v1 v2 v3 h = some x → am_W g l M_X9_isSame h0 (some (.int x)) h 30 [some (.ref v0), some (.int v1), some (.int v2), some (.int v3)] [] h) (v0 : Nat) (v1 : Int32) (v3 : Int32) (s0 : Int32) (h : am_H) (hF : F_X9_isSame_62 k30 v0 v1 v3 s0 h = some x) : am_W g l M_X9_isSame h0 (some (.int x)) h 62 [some (.ref v0), some (.int v1), none, some (.int v3)] [.int s0] h := by
  unfold F_X9_isSame_62 at hF
  refine am_istore_n (ls' := [some (.ref v0), some (.int v1), some (.int s0), some (.int v3)]) (pc' := 63) dX9_isSame_62 (Nat.le_of_ble_eq_true rfl) rfl rfl ?_
  refine am_iinc (ls' := [some (.ref v0), some (.int v1), some (.int s0), some (.int (v3 + (1 : Int32)))]) (pc' := 66) (v := (v3 + (1 : Int32))) dX9_isSame_63 rfl rfl (Nat.le_of_ble_eq_true rfl) rfl rfl ?_
  refine am_goto (pc' := 30) dX9_isSame_66 rfl ?_
  exact j30 v0 v1 s0 (v3 + (1 : Int32)) h hF
def F_X9_isSame_30 : Nat → Nat → Int32 → Int32 → Int32 → am_H → Option Int32
  | 0, _, _, _, _, _ => none
  | n + 1, v0, v1, v2, v3, h =>
  (am_gi 9 14 v0 h).bind fun x1 =>
  if x1 ≤ v3 then
    F_X9_isSame_69 v2 h
  else
    if v2 = 0 then
      F_X9_isSame_69 v2 h
    else
      (F_X9_sign v0 v1 v3 h).bind fun x4 =>
      (am_gr 9 13 v0 h).bind fun x5 =>
      (am_il 0 x5 v3 h).bind fun x6 =>
      if x4 = x6 then
        F_X9_isSame_62 (F_X9_isSame_30 n) v0 v1 v3 (1 : Int32) h
      else
        F_X9_isSame_62 (F_X9_isSame_30 n) v0 v1 v3 (0 : Int32) h
theorem w_X9_isSame_30 {g : am_G} {l : Launch} {h0 : am_H} {x : Int32}  : ∀ (n : Nat) (v0 : Nat) (v1 : Int32) (v2 : Int32) (v3 : Int32) (h : am_H), F_X9_isSame_30 n v0 v1 v2 v3 h = some x → am_W g l M_X9_isSame h0 (some (.int x)) h 30 [some (.ref v0), some (.int v1), some (.int v2), some (.int v3)] [] h
  | 0, _, _, _, _, _, hF => by cases hF
  | n + 1, v0, v1, v2, v3, h, hF => by
    rw [F_X9_isSame_30] at hF
    refine am_iload_n (pc' := 31) dX9_isSame_30 rfl rfl ?_
    refine am_aload_n (pc' := 32) dX9_isSame_31 rfl rfl ?_
    obtain ⟨x1, ex1, hF⟩ := am_bind hF
    refine am_geti (pc' := 35) dX9_isSame_32 fw_X9_110 ex1 rfl ?_
    rcases am_ite hF with ⟨z2, hF⟩ | ⟨z2, hF⟩
    · refine am_icmp_ge_t (pc' := 69) dX9_isSame_35 rfl z2 ?_
      exact am_weak [false, false, true, false] (w_X9_isSame_69 v2 h hF)
    · refine am_icmp_ge_f (pc' := 38) (tgt := 69) dX9_isSame_35 rfl z2 rfl ?_
      refine am_iload_n (pc' := 39) dX9_isSame_38 rfl rfl ?_
      rcases am_ite hF with ⟨z3, hF⟩ | ⟨z3, hF⟩
      · refine am_if_eq_t (pc' := 69) dX9_isSame_39 rfl z3 ?_
        exact am_weak [false, false, true, false] (w_X9_isSame_69 v2 h hF)
      · refine am_if_eq_f (pc' := 42) (tgt := 69) dX9_isSame_39 rfl z3 rfl ?_
        refine am_aload_n (pc' := 43) dX9_isSame_42 rfl rfl ?_
        refine am_iload_n (pc' := 44) dX9_isSame_43 rfl rfl ?_
        refine am_iload_n (pc' := 45) dX9_isSame_44 rfl rfl ?_
        obtain ⟨x4, ex4, hF⟩ := am_bind hF
        obtain ⟨ox4, px4⟩ := t_X9_sign ex4
        refine am_callV1 (Mc := M_X9_sign) (As := [.int v1, .int v3]) (st := []) (pc' := 48) dX9_isSame_45 cw_X9_113 wd_5_21 sl_X9_sign ⟨_, rfl, rfl⟩ (by decide) (by decide) rfl rfl (Nat.le_of_ble_eq_true rfl) px4 (c_X9_sign ex4) rfl ?_
        refine am_aload_n (pc' := 49) dX9_isSame_48 rfl rfl ?_
        obtain ⟨x5, ex5, hF⟩ := am_bind hF
        refine am_getr (pc' := 52) dX9_isSame_49 fw_X9_41 ex5 rfl ?_
        refine am_iload_n (pc' := 53) dX9_isSame_52 rfl rfl ?_
        obtain ⟨x6, ex6, hF⟩ := am_bind hF
        refine am_iald (pc' := 54) dX9_isSame_53 ex6 rfl ?_
        rcases am_ite hF with ⟨z7, hF⟩ | ⟨z7, hF⟩
        · refine am_icmp_ne_f (pc' := 57) (tgt := 61) dX9_isSame_54 rfl z7 rfl ?_
          refine am_iconst (v := (1 : Int32)) (pc' := 58) dX9_isSame_57 rfl rfl ?_
          refine am_goto (pc' := 62) dX9_isSame_58 rfl ?_
          exact am_weak [true, true, false, true] (w_X9_isSame_62 (w_X9_isSame_30 n) v0 v1 v3 (1 : Int32) h hF)
        · refine am_icmp_ne_t (pc' := 61) dX9_isSame_54 rfl z7 ?_
          refine am_iconst (v := (0 : Int32)) (pc' := 62) dX9_isSame_61 rfl rfl ?_
          exact am_weak [true, true, false, true] (w_X9_isSame_62 (w_X9_isSame_30 n) v0 v1 v3 (0 : Int32) h hF)
def F_X9_isSame_27 (v0 : Nat) (v1 : Int32) (s0 : Int32) (h : am_H) : Option Int32 :=
  F_X9_isSame_30 am_F v0 v1 s0 (0 : Int32) h
theorem w_X9_isSame_27 {g : am_G} {l : Launch} {h0 : am_H} {x : Int32}  (v0 : Nat) (v1 : Int32) (s0 : Int32) (h : am_H) (hF : F_X9_isSame_27 v0 v1 s0 h = some x) : am_W g l M_X9_isSame h0 (some (.int x)) h 27 [some (.ref v0), some (.int v1), none, none] [.int s0] h := by
  unfold F_X9_isSame_27 at hF
  refine am_istore_n (ls' := [some (.ref v0), some (.int v1), some (.int s0), none]) (pc' := 28) dX9_isSame_27 (Nat.le_of_ble_eq_true rfl) rfl rfl ?_
  refine am_iconst (v := (0 : Int32)) (pc' := 29) dX9_isSame_28 rfl rfl ?_
  refine am_istore_n (ls' := [some (.ref v0), some (.int v1), some (.int s0), some (.int (0 : Int32))]) (pc' := 30) dX9_isSame_29 (Nat.le_of_ble_eq_true rfl) rfl rfl ?_
  exact w_X9_isSame_30 am_F v0 v1 s0 (0 : Int32) h hF
def F_X9_isSame_26 (v0 : Nat) (v1 : Int32) (h : am_H) : Option Int32 :=
  F_X9_isSame_27 v0 v1 (0 : Int32) h
theorem w_X9_isSame_26 {g : am_G} {l : Launch} {h0 : am_H} {x : Int32}  (v0 : Nat) (v1 : Int32) (h : am_H) (hF : F_X9_isSame_26 v0 v1 h = some x) : am_W g l M_X9_isSame h0 (some (.int x)) h 26 [some (.ref v0), some (.int v1), none, none] [] h := by
  unfold F_X9_isSame_26 at hF
  refine am_iconst (v := (0 : Int32)) (pc' := 27) dX9_isSame_26 rfl rfl ?_
  exact w_X9_isSame_27 v0 v1 (0 : Int32) h hF
def F_X9_isSame_b (v0 : Nat) (v1 : Int32) (h : am_H) : Option Int32 :=
  (am_gr 9 5 v0 h).bind fun x1 =>
  (am_il 1 x1 v1 h).bind fun x2 =>
  if x2 = 0 then
    (am_gr 9 3 v0 h).bind fun x4 =>
    (am_il 0 x4 v1 h).bind fun x5 =>
    (am_gi 9 14 v0 h).bind fun x6 =>
    if x5 = x6 then
      F_X9_isSame_27 v0 v1 (1 : Int32) h
    else
      F_X9_isSame_26 v0 v1 h
  else
    F_X9_isSame_26 v0 v1 h
theorem w_X9_isSame {g : am_G} {l : Launch} {h0 : am_H} {x : Int32}  (v0 : Nat) (v1 : Int32) (h : am_H) (hF : F_X9_isSame_b v0 v1 h = some x) : am_W g l M_X9_isSame h0 (some (.int x)) h 0 [some (.ref v0), some (.int v1), none, none] [] h := by
  unfold F_X9_isSame_b at hF
  refine am_aload_n (pc' := 1) dX9_isSame_0 rfl rfl ?_
  obtain ⟨x1, ex1, hF⟩ := am_bind hF
  refine am_getr (pc' := 4) dX9_isSame_1 fw_X9_19 ex1 rfl ?_
  refine am_iload_n (pc' := 5) dX9_isSame_4 rfl rfl ?_
  obtain ⟨x2, ex2, hF⟩ := am_bind hF
  refine am_bald (pc' := 6) dX9_isSame_5 ex2 rfl ?_
  rcases am_ite hF with ⟨z3, hF⟩ | ⟨z3, hF⟩
  · refine am_if_ne_f (pc' := 9) (tgt := 26) dX9_isSame_6 rfl z3 rfl ?_
    refine am_aload_n (pc' := 10) dX9_isSame_9 rfl rfl ?_
    obtain ⟨x4, ex4, hF⟩ := am_bind hF
    refine am_getr (pc' := 13) dX9_isSame_10 fw_X9_13 ex4 rfl ?_
    refine am_iload_n (pc' := 14) dX9_isSame_13 rfl rfl ?_
    obtain ⟨x5, ex5, hF⟩ := am_bind hF
    refine am_iald (pc' := 15) dX9_isSame_14 ex5 rfl ?_
    refine am_aload_n (pc' := 16) dX9_isSame_15 rfl rfl ?_
    obtain ⟨x6, ex6, hF⟩ := am_bind hF
    refine am_geti (pc' := 19) dX9_isSame_16 fw_X9_110 ex6 rfl ?_
    rcases am_ite hF with ⟨z7, hF⟩ | ⟨z7, hF⟩
    · refine am_icmp_ne_f (pc' := 22) (tgt := 26) dX9_isSame_19 rfl z7 rfl ?_
      refine am_iconst (v := (1 : Int32)) (pc' := 23) dX9_isSame_22 rfl rfl ?_
      refine am_goto (pc' := 27) dX9_isSame_23 rfl ?_
      exact w_X9_isSame_27 v0 v1 (1 : Int32) h hF
    · refine am_icmp_ne_t (pc' := 26) dX9_isSame_19 rfl z7 ?_
      exact w_X9_isSame_26 v0 v1 h hF
  · refine am_if_ne_t (pc' := 26) dX9_isSame_6 rfl z3 ?_
    exact w_X9_isSame_26 v0 v1 h hF
def F_X9_isSame (v0 : Nat) (v1 : Int32) (h : am_H) : Option Int32 := (am_obj v0 9 h).bind fun _ => F_X9_isSame_b v0 v1 h
theorem t_X9_isSame {x : Int32}  {v0 : Nat} {v1 : Int32} {h : am_H} (hF : F_X9_isSame v0 v1 h = some x) : ∃ fs, am_obj v0 9 h = some fs := by
  obtain ⟨fs, e, _⟩ := am_bind hF
  exact ⟨fs, e⟩
theorem c_X9_isSame {g : am_G} {l : Launch} {x : Int32}  {v0 : Nat} {v1 : Int32} {h : am_H} (hF : F_X9_isSame v0 v1 h = some x) : am_Met g l M_X9_isSame [.ref v0, .int v1] h (some (.int x)) h := by
  obtain ⟨fs, e0, e⟩ := am_bind hF
  exact am_met (n := 2) (by decide +kernel) rfl (Nat.le_of_ble_eq_true rfl) (w_X9_isSame v0 v1 h e)
theorem cw_X9_117 : am_cw "SignCellarModel" 117 M_X9_isSame 1 := ⟨wd_1_9, wd_5_18, ⟨by decide, by decide, by decide⟩, Or.inl wd_5_15⟩
theorem fw_X9_121 : am_fw "SignCellarModel" 121 9 17 := ⟨(RX9, TX9, 42), rfl, by decide, inX9, Or.inl wd_4_117⟩
theorem fw_X9_124 : am_fw "SignCellarModel" 124 9 16 := ⟨(RX9, TX9, 42), rfl, by decide, inX9, Or.inl wd_4_116⟩
theorem fw_X9_44 : am_fw "SignCellarModel" 44 9 15 := ⟨(RX9, TX9, 42), rfl, by decide, inX9, Or.inl wd_4_115⟩
theorem fx_X9_100 {nm : String} : am_fx "SignCellarModel" 100 9 2 .int nm := ⟨(RX9, TX9, 42), tyX9, rfl, by decide, inX9, tyX9_ok, nmX9, rfl, Or.inl ⟨wd_4_102, Or.inl rfl⟩⟩
theorem sl_X9_isSame : Cond.selects (⟨"SignCellarModel", "isSame", "(I)Z"⟩ : MethodName).cls ⟨"SignCellarModel", "isSame", "(I)Z"⟩ ⟨"SignCellarModel", "isSame", "(I)Z"⟩ ∈ am_ts := am_in_p (q := (⟨"SignCellarModel", "isSame", "(I)Z"⟩, 42)) (by decide +kernel)
def F_X9_lay_102 (v0 : Nat) (v1 : Int32) (h : am_H) : Option am_H :=
  (am_gr 9 15 v0 h).bind fun x1 =>
  (am_gi 9 16 v0 h).bind fun x2 =>
  (am_is 0 x1 x2 v1 h).bind fun h3 =>
  (am_gi 9 16 v0 h3).bind fun x4 =>
  (am_pi 9 16 v0 (x4 + (1 : Int32)) h3).bind fun h5 =>
  some h5
theorem w_X9_lay_102 {g : am_G} {l : Launch} {h0 : am_H} {hf : am_H}  (v0 : Nat) (v1 : Int32) (h : am_H) (hF : F_X9_lay_102 v0 v1 h = some hf) : am_W g l M_X9_lay h0 none hf 102 [some (.ref v0), some (.int v1), none] [] h := by
  unfold F_X9_lay_102 at hF
  refine am_aload_n (pc' := 103) dX9_lay_102 rfl rfl ?_
  obtain ⟨x1, ex1, hF⟩ := am_bind hF
  refine am_getr (pc' := 106) dX9_lay_103 fw_X9_44 ex1 rfl ?_
  refine am_aload_n (pc' := 107) dX9_lay_106 rfl rfl ?_
  obtain ⟨x2, ex2, hF⟩ := am_bind hF
  refine am_geti (pc' := 110) dX9_lay_107 fw_X9_124 ex2 rfl ?_
  refine am_iload_n (pc' := 111) dX9_lay_110 rfl rfl ?_
  obtain ⟨h3, eh3, hF⟩ := am_bind hF
  refine am_iast (pc' := 112) dX9_lay_111 eh3 rfl ?_
  refine am_aload_n (pc' := 113) dX9_lay_112 rfl rfl ?_
  refine am_dup (pc' := 114) dX9_lay_113 rfl rfl ?_
  obtain ⟨x4, ex4, hF⟩ := am_bind hF
  refine am_geti (pc' := 117) dX9_lay_114 fw_X9_124 ex4 rfl ?_
  refine am_iconst (v := (1 : Int32)) (pc' := 118) dX9_lay_117 rfl rfl ?_
  refine am_iadd (pc' := 119) dX9_lay_118 rfl ?_
  obtain ⟨h5, eh5, hF⟩ := am_bind hF
  refine am_puti (pc' := 122) dX9_lay_119 fx_X9_124 eh5 rfl ?_
  cases hF
  exact am_vret dX9_lay_122 rfl
def F_X9_lay_44 : Nat → Nat → Int32 → Int32 → am_H → Option am_H
  | 0, _, _, _, _ => none
  | n + 1, v0, v1, v2, h =>
  (am_gi 9 14 v0 h).bind fun x1 =>
  if x1 ≤ v2 then
    (am_gr 9 5 v0 h).bind fun x3 =>
    (am_zs 1 x3 v1 (0 : Int32) h).bind fun h4 =>
    (am_gi 9 2 v0 h4).bind fun x5 =>
    (am_pi 9 2 v0 (x5 + (1 : Int32)) h4).bind fun h6 =>
    (am_gi 9 17 v0 h6).bind fun x7 =>
    (am_pi 9 17 v0 (x7 + (1 : Int32)) h6).bind fun h8 =>
    F_X9_lay_102 v0 v1 h8
  else
    (am_gr 9 4 v0 h).bind fun x9 =>
    (am_gr 9 13 v0 h).bind fun x10 =>
    (am_il 0 x10 v2 h).bind fun x11 =>
    (am_is 0 x9 (((24 : Int32) * v1) + v2) x11 h).bind fun h12 =>
    F_X9_lay_44 n v0 v1 (v2 + (1 : Int32)) h12
theorem w_X9_lay_44 {g : am_G} {l : Launch} {h0 : am_H} {hf : am_H}  : ∀ (n : Nat) (v0 : Nat) (v1 : Int32) (v2 : Int32) (h : am_H), F_X9_lay_44 n v0 v1 v2 h = some hf → am_W g l M_X9_lay h0 none hf 44 [some (.ref v0), some (.int v1), some (.int v2)] [] h
  | 0, _, _, _, _, hF => by cases hF
  | n + 1, v0, v1, v2, h, hF => by
    rw [F_X9_lay_44] at hF
    refine am_iload_n (pc' := 45) dX9_lay_44 rfl rfl ?_
    refine am_aload_n (pc' := 46) dX9_lay_45 rfl rfl ?_
    obtain ⟨x1, ex1, hF⟩ := am_bind hF
    refine am_geti (pc' := 49) dX9_lay_46 fw_X9_110 ex1 rfl ?_
    rcases am_ite hF with ⟨z2, hF⟩ | ⟨z2, hF⟩
    · refine am_icmp_ge_t (pc' := 75) dX9_lay_49 rfl z2 ?_
      refine am_aload_n (pc' := 76) dX9_lay_75 rfl rfl ?_
      obtain ⟨x3, ex3, hF⟩ := am_bind hF
      refine am_getr (pc' := 79) dX9_lay_76 fw_X9_19 ex3 rfl ?_
      refine am_iload_n (pc' := 80) dX9_lay_79 rfl rfl ?_
      refine am_iconst (v := (0 : Int32)) (pc' := 81) dX9_lay_80 rfl rfl ?_
      obtain ⟨h4, eh4, hF⟩ := am_bind hF
      refine am_bast (pc' := 82) dX9_lay_81 eh4 rfl ?_
      refine am_aload_n (pc' := 83) dX9_lay_82 rfl rfl ?_
      refine am_dup (pc' := 84) dX9_lay_83 rfl rfl ?_
      obtain ⟨x5, ex5, hF⟩ := am_bind hF
      refine am_geti (pc' := 87) dX9_lay_84 fw_X9_100 ex5 rfl ?_
      refine am_iconst (v := (1 : Int32)) (pc' := 88) dX9_lay_87 rfl rfl ?_
      refine am_iadd (pc' := 89) dX9_lay_88 rfl ?_
      obtain ⟨h6, eh6, hF⟩ := am_bind hF
      refine am_puti (pc' := 92) dX9_lay_89 fx_X9_100 eh6 rfl ?_
      refine am_aload_n (pc' := 93) dX9_lay_92 rfl rfl ?_
      refine am_dup (pc' := 94) dX9_lay_93 rfl rfl ?_
      obtain ⟨x7, ex7, hF⟩ := am_bind hF
      refine am_geti (pc' := 97) dX9_lay_94 fw_X9_121 ex7 rfl ?_
      refine am_iconst (v := (1 : Int32)) (pc' := 98) dX9_lay_97 rfl rfl ?_
      refine am_iadd (pc' := 99) dX9_lay_98 rfl ?_
      obtain ⟨h8, eh8, hF⟩ := am_bind hF
      refine am_puti (pc' := 102) dX9_lay_99 fx_X9_121 eh8 rfl ?_
      exact am_weak [true, true, false] (w_X9_lay_102 v0 v1 h8 hF)
    · refine am_icmp_ge_f (pc' := 52) (tgt := 75) dX9_lay_49 rfl z2 rfl ?_
      refine am_aload_n (pc' := 53) dX9_lay_52 rfl rfl ?_
      obtain ⟨x9, ex9, hF⟩ := am_bind hF
      refine am_getr (pc' := 56) dX9_lay_53 fw_X9_16 ex9 rfl ?_
      refine am_bipush (v := (24 : Int32)) (pc' := 58) dX9_lay_56 rfl rfl ?_
      refine am_iload_n (pc' := 59) dX9_lay_58 rfl rfl ?_
      refine am_imul (pc' := 60) dX9_lay_59 rfl ?_
      refine am_iload_n (pc' := 61) dX9_lay_60 rfl rfl ?_
      refine am_iadd (pc' := 62) dX9_lay_61 rfl ?_
      refine am_aload_n (pc' := 63) dX9_lay_62 rfl rfl ?_
      obtain ⟨x10, ex10, hF⟩ := am_bind hF
      refine am_getr (pc' := 66) dX9_lay_63 fw_X9_41 ex10 rfl ?_
      refine am_iload_n (pc' := 67) dX9_lay_66 rfl rfl ?_
      obtain ⟨x11, ex11, hF⟩ := am_bind hF
      refine am_iald (pc' := 68) dX9_lay_67 ex11 rfl ?_
      obtain ⟨h12, eh12, hF⟩ := am_bind hF
      refine am_iast (pc' := 69) dX9_lay_68 eh12 rfl ?_
      refine am_iinc (ls' := [some (.ref v0), some (.int v1), some (.int (v2 + (1 : Int32)))]) (pc' := 72) (v := (v2 + (1 : Int32))) dX9_lay_69 rfl rfl (Nat.le_of_ble_eq_true rfl) rfl rfl ?_
      refine am_goto (pc' := 44) dX9_lay_72 rfl ?_
      exact w_X9_lay_44 n v0 v1 (v2 + (1 : Int32)) h12 hF
def F_X9_lay_24 (v0 : Nat) (v1 : Int32) (h : am_H) : Option am_H :=
  (am_gi 9 2 v0 h).bind fun x1 =>
  if v1 = x1 then
    (am_gr 9 3 v0 h).bind fun x3 =>
    (am_gi 9 14 v0 h).bind fun x4 =>
    (am_is 0 x3 v1 x4 h).bind fun h5 =>
    F_X9_lay_44 am_F v0 v1 (0 : Int32) h5
  else
    F_X9_lay_102 v0 v1 h
theorem w_X9_lay_24 {g : am_G} {l : Launch} {h0 : am_H} {hf : am_H}  (v0 : Nat) (v1 : Int32) (h : am_H) (hF : F_X9_lay_24 v0 v1 h = some hf) : am_W g l M_X9_lay h0 none hf 24 [some (.ref v0), some (.int v1), none] [] h := by
  unfold F_X9_lay_24 at hF
  refine am_iload_n (pc' := 25) dX9_lay_24 rfl rfl ?_
  refine am_aload_n (pc' := 26) dX9_lay_25 rfl rfl ?_
  obtain ⟨x1, ex1, hF⟩ := am_bind hF
  refine am_geti (pc' := 29) dX9_lay_26 fw_X9_100 ex1 rfl ?_
  rcases am_ite hF with ⟨z2, hF⟩ | ⟨z2, hF⟩
  · refine am_icmp_ne_f (pc' := 32) (tgt := 102) dX9_lay_29 rfl z2 rfl ?_
    refine am_aload_n (pc' := 33) dX9_lay_32 rfl rfl ?_
    obtain ⟨x3, ex3, hF⟩ := am_bind hF
    refine am_getr (pc' := 36) dX9_lay_33 fw_X9_13 ex3 rfl ?_
    refine am_iload_n (pc' := 37) dX9_lay_36 rfl rfl ?_
    refine am_aload_n (pc' := 38) dX9_lay_37 rfl rfl ?_
    obtain ⟨x4, ex4, hF⟩ := am_bind hF
    refine am_geti (pc' := 41) dX9_lay_38 fw_X9_110 ex4 rfl ?_
    obtain ⟨h5, eh5, hF⟩ := am_bind hF
    refine am_iast (pc' := 42) dX9_lay_41 eh5 rfl ?_
    refine am_iconst (v := (0 : Int32)) (pc' := 43) dX9_lay_42 rfl rfl ?_
    refine am_istore_n (ls' := [some (.ref v0), some (.int v1), some (.int (0 : Int32))]) (pc' := 44) dX9_lay_43 (Nat.le_of_ble_eq_true rfl) rfl rfl ?_
    exact w_X9_lay_44 am_F v0 v1 (0 : Int32) h5 hF
  · refine am_icmp_ne_t (pc' := 102) dX9_lay_29 rfl z2 ?_
    exact w_X9_lay_102 v0 v1 h hF
def F_X9_lay_2 : Nat → Nat → Int32 → am_H → Option am_H
  | 0, _, _, _ => none
  | n + 1, v0, v1, h =>
  (am_gi 9 2 v0 h).bind fun x1 =>
  if x1 ≤ v1 then
    F_X9_lay_24 v0 v1 h
  else
    (F_X9_isSame v0 v1 h).bind fun x3 =>
    if x3 = 0 then
      F_X9_lay_2 n v0 (v1 + (1 : Int32)) h
    else
      F_X9_lay_24 v0 v1 h
theorem w_X9_lay_2 {g : am_G} {l : Launch} {h0 : am_H} {hf : am_H}  : ∀ (n : Nat) (v0 : Nat) (v1 : Int32) (h : am_H), F_X9_lay_2 n v0 v1 h = some hf → am_W g l M_X9_lay h0 none hf 2 [some (.ref v0), some (.int v1), none] [] h
  | 0, _, _, _, hF => by cases hF
  | n + 1, v0, v1, h, hF => by
    rw [F_X9_lay_2] at hF
    refine am_iload_n (pc' := 3) dX9_lay_2 rfl rfl ?_
    refine am_aload_n (pc' := 4) dX9_lay_3 rfl rfl ?_
    obtain ⟨x1, ex1, hF⟩ := am_bind hF
    refine am_geti (pc' := 7) dX9_lay_4 fw_X9_100 ex1 rfl ?_
    rcases am_ite hF with ⟨z2, hF⟩ | ⟨z2, hF⟩
    · refine am_icmp_ge_t (pc' := 24) dX9_lay_7 rfl z2 ?_
      exact w_X9_lay_24 v0 v1 h hF
    · refine am_icmp_ge_f (pc' := 10) (tgt := 24) dX9_lay_7 rfl z2 rfl ?_
      refine am_aload_n (pc' := 11) dX9_lay_10 rfl rfl ?_
      refine am_iload_n (pc' := 12) dX9_lay_11 rfl rfl ?_
      obtain ⟨x3, ex3, hF⟩ := am_bind hF
      obtain ⟨ox3, px3⟩ := t_X9_isSame ex3
      refine am_callV1 (Mc := M_X9_isSame) (As := [.int v1]) (st := []) (pc' := 15) dX9_lay_12 cw_X9_117 wd_5_17 sl_X9_isSame ⟨_, rfl, rfl⟩ (by decide) (by decide) rfl rfl (Nat.le_of_ble_eq_true rfl) px3 (c_X9_isSame ex3) rfl ?_
      rcases am_ite hF with ⟨z4, hF⟩ | ⟨z4, hF⟩
      · refine am_if_ne_f (pc' := 18) (tgt := 24) dX9_lay_15 rfl z4 rfl ?_
        refine am_iinc (ls' := [some (.ref v0), some (.int (v1 + (1 : Int32))), none]) (pc' := 21) (v := (v1 + (1 : Int32))) dX9_lay_18 rfl rfl (Nat.le_of_ble_eq_true rfl) rfl rfl ?_
        refine am_goto (pc' := 2) dX9_lay_21 rfl ?_
        exact w_X9_lay_2 n v0 (v1 + (1 : Int32)) h hF
      · refine am_if_ne_t (pc' := 24) dX9_lay_15 rfl z4 ?_
        exact w_X9_lay_24 v0 v1 h hF
def F_X9_lay_b (v0 : Nat) (h : am_H) : Option am_H :=
  F_X9_lay_2 am_F v0 (0 : Int32) h
theorem w_X9_lay {g : am_G} {l : Launch} {h0 : am_H} {hf : am_H}  (v0 : Nat) (h : am_H) (hF : F_X9_lay_b v0 h = some hf) : am_W g l M_X9_lay h0 none hf 0 [some (.ref v0), none, none] [] h := by
  unfold F_X9_lay_b at hF
  refine am_iconst (v := (0 : Int32)) (pc' := 1) dX9_lay_0 rfl rfl ?_
  refine am_istore_n (ls' := [some (.ref v0), some (.int (0 : Int32)), none]) (pc' := 2) dX9_lay_1 (Nat.le_of_ble_eq_true rfl) rfl rfl ?_
  exact w_X9_lay_2 am_F v0 (0 : Int32) h hF
def F_X9_lay (v0 : Nat) (h : am_H) : Option am_H := (am_obj v0 9 h).bind fun _ => F_X9_lay_b v0 h
theorem t_X9_lay {hf : am_H}  {v0 : Nat} {h : am_H} (hF : F_X9_lay v0 h = some hf) : ∃ fs, am_obj v0 9 h = some fs := by
  obtain ⟨fs, e, _⟩ := am_bind hF
  exact ⟨fs, e⟩
theorem c_X9_lay {g : am_G} {l : Launch} {hf : am_H}  {v0 : Nat} {h : am_H} (hF : F_X9_lay v0 h = some hf) : am_Met g l M_X9_lay [.ref v0] h none hf := by
  obtain ⟨fs, e0, e⟩ := am_bind hF
  exact am_met (n := 2) (by decide +kernel) rfl (Nat.le_of_ble_eq_true rfl) (w_X9_lay v0 h e)
theorem fw_X9_23 : am_fw "SignCellarModel" 23 9 7 := ⟨(RX9, TX9, 42), rfl, by decide, inX9, Or.inl wd_4_107⟩
theorem fw_X9_26 : am_fw "SignCellarModel" 26 9 8 := ⟨(RX9, TX9, 42), rfl, by decide, inX9, Or.inl wd_4_108⟩
theorem fw_X9_29 : am_fw "SignCellarModel" 29 9 9 := ⟨(RX9, TX9, 42), rfl, by decide, inX9, Or.inl wd_4_109⟩
theorem fw_X9_32 : am_fw "SignCellarModel" 32 9 10 := ⟨(RX9, TX9, 42), rfl, by decide, inX9, Or.inl wd_4_110⟩
theorem fw_X9_35 : am_fw "SignCellarModel" 35 9 11 := ⟨(RX9, TX9, 42), rfl, by decide, inX9, Or.inl wd_4_111⟩
theorem fw_X9_38 : am_fw "SignCellarModel" 38 9 12 := ⟨(RX9, TX9, 42), rfl, by decide, inX9, Or.inl wd_4_112⟩
theorem fx_X9_92 {nm : String} : am_fx "SignCellarModel" 92 9 6 .int nm := ⟨(RX9, TX9, 42), tyX9, rfl, by decide, inX9, tyX9_ok, nmX9, rfl, Or.inl ⟨wd_4_106, Or.inl rfl⟩⟩
def F_X9_note_130 (k74 : Nat → Int32 → am_H → Option (Int32 × am_H)) (k88 : Nat → Int32 → Int32 → Int32 → Int32 → am_H → Option (Int32 × am_H)) (v0 : Nat) (v2 : Int32) (v3 : Int32) (v4 : Int32) (v5 : Int32) (s0 : Int32) (h : am_H) : Option (Int32 × am_H) :=
  k88 v0 v2 (v3 + s0) (v4 + (s0 * (v5 + (1 : Int32)))) (v5 + (1 : Int32)) h
theorem w_X9_note_130 {g : am_G} {l : Launch} {h0 : am_H} {x : Int32} {hf : am_H}  {k74 : Nat → Int32 → am_H → Option (Int32 × am_H)} {k88 : Nat → Int32 → Int32 → Int32 → Int32 → am_H → Option (Int32 × am_H)} (j74 : ∀ (v0 : Nat) (v2 : Int32) (h : am_H), k74 v0 v2 h = some (x, hf) → am_W g l M_X9_note h0 (some (.int x)) hf 74 [some (.ref v0), none, some (.int v2), none, none, none, none] [] h) (j88 : ∀ (v0 : Nat) (v2 : Int32) (v3 : Int32) (v4 : Int32) (v5 : Int32) (h : am_H), k88 v0 v2 v3 v4 v5 h = some (x, hf) → am_W g l M_X9_note h0 (some (.int x)) hf 88 [some (.ref v0), none, some (.int v2), some (.int v3), some (.int v4), some (.int v5), none] [] h) (v0 : Nat) (v2 : Int32) (v3 : Int32) (v4 : Int32) (v5 : Int32) (s0 : Int32) (h : am_H) (hF : F_X9_note_130 k74 k88 v0 v2 v3 v4 v5 s0 h = some (x, hf)) : am_W g l M_X9_note h0 (some (.int x)) hf 130 [some (.ref v0), none, some (.int v2), some (.int v3), some (.int v4), some (.int v5), none] [.int s0] h := by
  unfold F_X9_note_130 at hF
  refine am_istore (ls' := [some (.ref v0), none, some (.int v2), some (.int v3), some (.int v4), some (.int v5), some (.int s0)]) (pc' := 132) dX9_note_130 (Nat.le_of_ble_eq_true rfl) rfl rfl ?_
  refine am_iload_n (pc' := 133) dX9_note_132 rfl rfl ?_
  refine am_iload (pc' := 135) dX9_note_133 rfl rfl ?_
  refine am_iadd (pc' := 136) dX9_note_135 rfl ?_
  refine am_istore_n (ls' := [some (.ref v0), none, some (.int v2), some (.int (v3 + s0)), some (.int v4), some (.int v5), some (.int s0)]) (pc' := 137) dX9_note_136 (Nat.le_of_ble_eq_true rfl) rfl rfl ?_
  refine am_iload (pc' := 139) dX9_note_137 rfl rfl ?_
  refine am_iload (pc' := 141) dX9_note_139 rfl rfl ?_
  refine am_iload (pc' := 143) dX9_note_141 rfl rfl ?_
  refine am_iconst (v := (1 : Int32)) (pc' := 144) dX9_note_143 rfl rfl ?_
  refine am_iadd (pc' := 145) dX9_note_144 rfl ?_
  refine am_imul (pc' := 146) dX9_note_145 rfl ?_
  refine am_iadd (pc' := 147) dX9_note_146 rfl ?_
  refine am_istore (ls' := [some (.ref v0), none, some (.int v2), some (.int (v3 + s0)), some (.int (v4 + (s0 * (v5 + (1 : Int32))))), some (.int v5), some (.int s0)]) (pc' := 149) dX9_note_147 (Nat.le_of_ble_eq_true rfl) rfl rfl ?_
  refine am_iinc (ls' := [some (.ref v0), none, some (.int v2), some (.int (v3 + s0)), some (.int (v4 + (s0 * (v5 + (1 : Int32))))), some (.int (v5 + (1 : Int32))), some (.int s0)]) (pc' := 152) (v := (v5 + (1 : Int32))) dX9_note_149 rfl rfl (Nat.le_of_ble_eq_true rfl) rfl rfl ?_
  refine am_goto (pc' := 88) dX9_note_152 rfl ?_
  exact am_weak [true, false, true, true, true, true, false] (j88 v0 v2 (v3 + s0) (v4 + (s0 * (v5 + (1 : Int32)))) (v5 + (1 : Int32)) h hF)
def F_X9_note_88 (k74 : Nat → Int32 → am_H → Option (Int32 × am_H)) : Nat → Nat → Int32 → Int32 → Int32 → Int32 → am_H → Option (Int32 × am_H)
  | 0, _, _, _, _, _, _ => none
  | n + 1, v0, v2, v3, v4, v5, h =>
  (am_gi 9 16 v0 h).bind fun x1 =>
  if x1 ≤ v5 then
    (am_gr 9 11 v0 h).bind fun x3 =>
    (am_gi 9 6 v0 h).bind fun x4 =>
    (am_is 0 x3 (((24 : Int32) * x4) + v2) (v3 - v3 / (17 : Int32) * (17 : Int32)) h).bind fun h5 =>
    (am_gr 9 12 v0 h5).bind fun x6 =>
    (am_gi 9 6 v0 h5).bind fun x7 =>
    (am_is 0 x6 (((24 : Int32) * x7) + v2) (v4 - v4 / (17 : Int32) * (17 : Int32)) h5).bind fun h8 =>
    k74 v0 (v2 + (1 : Int32)) h8
  else
    (am_gr 9 3 v0 h).bind fun x9 =>
    (am_gr 9 15 v0 h).bind fun x10 =>
    (am_il 0 x10 v5 h).bind fun x11 =>
    (am_il 0 x9 x11 h).bind fun x12 =>
    if x12 ≤ v2 then
      F_X9_note_130 k74 (F_X9_note_88 k74 n) v0 v2 v3 v4 v5 (16 : Int32) h
    else
      (am_gr 9 15 v0 h).bind fun x14 =>
      (am_il 0 x14 v5 h).bind fun x15 =>
      (F_X9_sign v0 x15 v2 h).bind fun x16 =>
      F_X9_note_130 k74 (F_X9_note_88 k74 n) v0 v2 v3 v4 v5 x16 h
theorem w_X9_note_88 {g : am_G} {l : Launch} {h0 : am_H} {x : Int32} {hf : am_H}  {k74 : Nat → Int32 → am_H → Option (Int32 × am_H)} (j74 : ∀ (v0 : Nat) (v2 : Int32) (h : am_H), k74 v0 v2 h = some (x, hf) → am_W g l M_X9_note h0 (some (.int x)) hf 74 [some (.ref v0), none, some (.int v2), none, none, none, none] [] h) : ∀ (n : Nat) (v0 : Nat) (v2 : Int32) (v3 : Int32) (v4 : Int32) (v5 : Int32) (h : am_H), F_X9_note_88 k74 n v0 v2 v3 v4 v5 h = some (x, hf) → am_W g l M_X9_note h0 (some (.int x)) hf 88 [some (.ref v0), none, some (.int v2), some (.int v3), some (.int v4), some (.int v5), none] [] h
  | 0, _, _, _, _, _, _, hF => by cases hF
  | n + 1, v0, v2, v3, v4, v5, h, hF => by
    rw [F_X9_note_88] at hF
    refine am_iload (pc' := 90) dX9_note_88 rfl rfl ?_
    refine am_aload_n (pc' := 91) dX9_note_90 rfl rfl ?_
    obtain ⟨x1, ex1, hF⟩ := am_bind hF
    refine am_geti (pc' := 94) dX9_note_91 fw_X9_124 ex1 rfl ?_
    rcases am_ite hF with ⟨z2, hF⟩ | ⟨z2, hF⟩
    · refine am_icmp_ge_t (pc' := 155) dX9_note_94 rfl z2 ?_
      refine am_aload_n (pc' := 156) dX9_note_155 rfl rfl ?_
      obtain ⟨x3, ex3, hF⟩ := am_bind hF
      refine am_getr (pc' := 159) dX9_note_156 fw_X9_35 ex3 rfl ?_
      refine am_bipush (v := (24 : Int32)) (pc' := 161) dX9_note_159 rfl rfl ?_
      refine am_aload_n (pc' := 162) dX9_note_161 rfl rfl ?_
      obtain ⟨x4, ex4, hF⟩ := am_bind hF
      refine am_geti (pc' := 165) dX9_note_162 fw_X9_92 ex4 rfl ?_
      refine am_imul (pc' := 166) dX9_note_165 rfl ?_
      refine am_iload_n (pc' := 167) dX9_note_166 rfl rfl ?_
      refine am_iadd (pc' := 168) dX9_note_167 rfl ?_
      refine am_iload_n (pc' := 169) dX9_note_168 rfl rfl ?_
      refine am_bipush (v := (17 : Int32)) (pc' := 171) dX9_note_169 rfl rfl ?_
      refine am_irem (pc' := 172) dX9_note_171 (by decide) rfl ?_
      obtain ⟨h5, eh5, hF⟩ := am_bind hF
      refine am_iast (pc' := 173) dX9_note_172 eh5 rfl ?_
      refine am_aload_n (pc' := 174) dX9_note_173 rfl rfl ?_
      obtain ⟨x6, ex6, hF⟩ := am_bind hF
      refine am_getr (pc' := 177) dX9_note_174 fw_X9_38 ex6 rfl ?_
      refine am_bipush (v := (24 : Int32)) (pc' := 179) dX9_note_177 rfl rfl ?_
      refine am_aload_n (pc' := 180) dX9_note_179 rfl rfl ?_
      obtain ⟨x7, ex7, hF⟩ := am_bind hF
      refine am_geti (pc' := 183) dX9_note_180 fw_X9_92 ex7 rfl ?_
      refine am_imul (pc' := 184) dX9_note_183 rfl ?_
      refine am_iload_n (pc' := 185) dX9_note_184 rfl rfl ?_
      refine am_iadd (pc' := 186) dX9_note_185 rfl ?_
      refine am_iload (pc' := 188) dX9_note_186 rfl rfl ?_
      refine am_bipush (v := (17 : Int32)) (pc' := 190) dX9_note_188 rfl rfl ?_
      refine am_irem (pc' := 191) dX9_note_190 (by decide) rfl ?_
      obtain ⟨h8, eh8, hF⟩ := am_bind hF
      refine am_iast (pc' := 192) dX9_note_191 eh8 rfl ?_
      refine am_iinc (ls' := [some (.ref v0), none, some (.int (v2 + (1 : Int32))), some (.int v3), some (.int v4), some (.int v5), none]) (pc' := 195) (v := (v2 + (1 : Int32))) dX9_note_192 rfl rfl (Nat.le_of_ble_eq_true rfl) rfl rfl ?_
      refine am_goto (pc' := 74) dX9_note_195 rfl ?_
      exact am_weak [true, false, true, false, false, false, false] (j74 v0 (v2 + (1 : Int32)) h8 hF)
    · refine am_icmp_ge_f (pc' := 97) (tgt := 155) dX9_note_94 rfl z2 rfl ?_
      refine am_iload_n (pc' := 98) dX9_note_97 rfl rfl ?_
      refine am_aload_n (pc' := 99) dX9_note_98 rfl rfl ?_
      obtain ⟨x9, ex9, hF⟩ := am_bind hF
      refine am_getr (pc' := 102) dX9_note_99 fw_X9_13 ex9 rfl ?_
      refine am_aload_n (pc' := 103) dX9_note_102 rfl rfl ?_
      obtain ⟨x10, ex10, hF⟩ := am_bind hF
      refine am_getr (pc' := 106) dX9_note_103 fw_X9_44 ex10 rfl ?_
      refine am_iload (pc' := 108) dX9_note_106 rfl rfl ?_
      obtain ⟨x11, ex11, hF⟩ := am_bind hF
      refine am_iald (pc' := 109) dX9_note_108 ex11 rfl ?_
      obtain ⟨x12, ex12, hF⟩ := am_bind hF
      refine am_iald (pc' := 110) dX9_note_109 ex12 rfl ?_
      rcases am_ite hF with ⟨z13, hF⟩ | ⟨z13, hF⟩
      · refine am_icmp_ge_t (pc' := 128) dX9_note_110 rfl z13 ?_
        refine am_bipush (v := (16 : Int32)) (pc' := 130) dX9_note_128 rfl rfl ?_
        exact w_X9_note_130 j74 (w_X9_note_88 j74 n) v0 v2 v3 v4 v5 (16 : Int32) h hF
      · refine am_icmp_ge_f (pc' := 113) (tgt := 128) dX9_note_110 rfl z13 rfl ?_
        refine am_aload_n (pc' := 114) dX9_note_113 rfl rfl ?_
        refine am_aload_n (pc' := 115) dX9_note_114 rfl rfl ?_
        obtain ⟨x14, ex14, hF⟩ := am_bind hF
        refine am_getr (pc' := 118) dX9_note_115 fw_X9_44 ex14 rfl ?_
        refine am_iload (pc' := 120) dX9_note_118 rfl rfl ?_
        obtain ⟨x15, ex15, hF⟩ := am_bind hF
        refine am_iald (pc' := 121) dX9_note_120 ex15 rfl ?_
        refine am_iload_n (pc' := 122) dX9_note_121 rfl rfl ?_
        obtain ⟨x16, ex16, hF⟩ := am_bind hF
        obtain ⟨ox16, px16⟩ := t_X9_sign ex16
        refine am_callV1 (Mc := M_X9_sign) (As := [.int x15, .int v2]) (st := []) (pc' := 125) dX9_note_122 cw_X9_113 wd_5_21 sl_X9_sign ⟨_, rfl, rfl⟩ (by decide) (by decide) rfl rfl (Nat.le_of_ble_eq_true rfl) px16 (c_X9_sign ex16) rfl ?_
        refine am_goto (pc' := 130) dX9_note_125 rfl ?_
        exact w_X9_note_130 j74 (w_X9_note_88 j74 n) v0 v2 v3 v4 v5 x16 h hF
def F_X9_note_74 : Nat → Nat → Int32 → am_H → Option (Int32 × am_H)
  | 0, _, _, _ => none
  | n + 1, v0, v2, h =>
  if (24 : Int32) ≤ v2 then
    (am_gi 9 6 v0 h).bind fun x2 =>
    (am_pi 9 6 v0 (x2 + (1 : Int32)) h).bind fun h3 =>
    (am_gi 9 6 v0 h3).bind fun x4 =>
    some ((x4 - (1 : Int32)), h3)
  else
    F_X9_note_88 (F_X9_note_74 n) am_F v0 v2 (0 : Int32) (0 : Int32) (0 : Int32) h
theorem w_X9_note_74 {g : am_G} {l : Launch} {h0 : am_H} {x : Int32} {hf : am_H}  : ∀ (n : Nat) (v0 : Nat) (v2 : Int32) (h : am_H), F_X9_note_74 n v0 v2 h = some (x, hf) → am_W g l M_X9_note h0 (some (.int x)) hf 74 [some (.ref v0), none, some (.int v2), none, none, none, none] [] h
  | 0, _, _, _, hF => by cases hF
  | n + 1, v0, v2, h, hF => by
    rw [F_X9_note_74] at hF
    refine am_iload_n (pc' := 75) dX9_note_74 rfl rfl ?_
    refine am_bipush (v := (24 : Int32)) (pc' := 77) dX9_note_75 rfl rfl ?_
    rcases am_ite hF with ⟨z1, hF⟩ | ⟨z1, hF⟩
    · refine am_icmp_ge_t (pc' := 198) dX9_note_77 rfl z1 ?_
      refine am_aload_n (pc' := 199) dX9_note_198 rfl rfl ?_
      refine am_dup (pc' := 200) dX9_note_199 rfl rfl ?_
      obtain ⟨x2, ex2, hF⟩ := am_bind hF
      refine am_geti (pc' := 203) dX9_note_200 fw_X9_92 ex2 rfl ?_
      refine am_iconst (v := (1 : Int32)) (pc' := 204) dX9_note_203 rfl rfl ?_
      refine am_iadd (pc' := 205) dX9_note_204 rfl ?_
      obtain ⟨h3, eh3, hF⟩ := am_bind hF
      refine am_puti (pc' := 208) dX9_note_205 fx_X9_92 eh3 rfl ?_
      refine am_aload_n (pc' := 209) dX9_note_208 rfl rfl ?_
      obtain ⟨x4, ex4, hF⟩ := am_bind hF
      refine am_geti (pc' := 212) dX9_note_209 fw_X9_92 ex4 rfl ?_
      refine am_iconst (v := (1 : Int32)) (pc' := 213) dX9_note_212 rfl rfl ?_
      refine am_isub (pc' := 214) dX9_note_213 rfl ?_
      cases hF
      exact am_iret dX9_note_214 rfl rfl
    · refine am_icmp_ge_f (pc' := 80) (tgt := 198) dX9_note_77 rfl z1 rfl ?_
      refine am_iconst (v := (0 : Int32)) (pc' := 81) dX9_note_80 rfl rfl ?_
      refine am_istore_n (ls' := [some (.ref v0), none, some (.int v2), some (.int (0 : Int32)), none, none, none]) (pc' := 82) dX9_note_81 (Nat.le_of_ble_eq_true rfl) rfl rfl ?_
      refine am_iconst (v := (0 : Int32)) (pc' := 83) dX9_note_82 rfl rfl ?_
      refine am_istore (ls' := [some (.ref v0), none, some (.int v2), some (.int (0 : Int32)), some (.int (0 : Int32)), none, none]) (pc' := 85) dX9_note_83 (Nat.le_of_ble_eq_true rfl) rfl rfl ?_
      refine am_iconst (v := (0 : Int32)) (pc' := 86) dX9_note_85 rfl rfl ?_
      refine am_istore (ls' := [some (.ref v0), none, some (.int v2), some (.int (0 : Int32)), some (.int (0 : Int32)), some (.int (0 : Int32)), none]) (pc' := 88) dX9_note_86 (Nat.le_of_ble_eq_true rfl) rfl rfl ?_
      exact w_X9_note_88 (w_X9_note_74 n) am_F v0 v2 (0 : Int32) (0 : Int32) (0 : Int32) h hF
def F_X9_note_2 : Nat → Nat → Int32 → Int32 → am_H → Option (Int32 × am_H)
  | 0, _, _, _, _ => none
  | n + 1, v0, v1, v2, h =>
  (am_gi 9 16 v0 h).bind fun x1 =>
  if x1 ≤ v2 then
    (am_gr 9 7 v0 h).bind fun x3 =>
    (am_gi 9 6 v0 h).bind fun x4 =>
    (am_gi 9 16 v0 h).bind fun x5 =>
    (am_is 0 x3 x4 x5 h).bind fun h6 =>
    (am_gr 9 9 v0 h6).bind fun x7 =>
    (am_gi 9 6 v0 h6).bind fun x8 =>
    (am_is 0 x7 x8 v1 h6).bind fun h9 =>
    (am_gr 9 10 v0 h9).bind fun x10 =>
    (am_gi 9 6 v0 h9).bind fun x11 =>
    (am_gi 9 17 v0 h9).bind fun x12 =>
    (am_is 0 x10 x11 x12 h9).bind fun h13 =>
    F_X9_note_74 am_F v0 (0 : Int32) h13
  else
    (am_gr 9 8 v0 h).bind fun x14 =>
    (am_gi 9 6 v0 h).bind fun x15 =>
    (am_gr 9 15 v0 h).bind fun x16 =>
    (am_il 0 x16 v2 h).bind fun x17 =>
    (am_is 0 x14 (((8 : Int32) * x15) + v2) x17 h).bind fun h18 =>
    F_X9_note_2 n v0 v1 (v2 + (1 : Int32)) h18
theorem w_X9_note_2 {g : am_G} {l : Launch} {h0 : am_H} {x : Int32} {hf : am_H}  : ∀ (n : Nat) (v0 : Nat) (v1 : Int32) (v2 : Int32) (h : am_H), F_X9_note_2 n v0 v1 v2 h = some (x, hf) → am_W g l M_X9_note h0 (some (.int x)) hf 2 [some (.ref v0), some (.int v1), some (.int v2), none, none, none, none] [] h
  | 0, _, _, _, _, hF => by cases hF
  | n + 1, v0, v1, v2, h, hF => by
    rw [F_X9_note_2] at hF
    refine am_iload_n (pc' := 3) dX9_note_2 rfl rfl ?_
    refine am_aload_n (pc' := 4) dX9_note_3 rfl rfl ?_
    obtain ⟨x1, ex1, hF⟩ := am_bind hF
    refine am_geti (pc' := 7) dX9_note_4 fw_X9_124 ex1 rfl ?_
    rcases am_ite hF with ⟨z2, hF⟩ | ⟨z2, hF⟩
    · refine am_icmp_ge_t (pc' := 36) dX9_note_7 rfl z2 ?_
      refine am_aload_n (pc' := 37) dX9_note_36 rfl rfl ?_
      obtain ⟨x3, ex3, hF⟩ := am_bind hF
      refine am_getr (pc' := 40) dX9_note_37 fw_X9_23 ex3 rfl ?_
      refine am_aload_n (pc' := 41) dX9_note_40 rfl rfl ?_
      obtain ⟨x4, ex4, hF⟩ := am_bind hF
      refine am_geti (pc' := 44) dX9_note_41 fw_X9_92 ex4 rfl ?_
      refine am_aload_n (pc' := 45) dX9_note_44 rfl rfl ?_
      obtain ⟨x5, ex5, hF⟩ := am_bind hF
      refine am_geti (pc' := 48) dX9_note_45 fw_X9_124 ex5 rfl ?_
      obtain ⟨h6, eh6, hF⟩ := am_bind hF
      refine am_iast (pc' := 49) dX9_note_48 eh6 rfl ?_
      refine am_aload_n (pc' := 50) dX9_note_49 rfl rfl ?_
      obtain ⟨x7, ex7, hF⟩ := am_bind hF
      refine am_getr (pc' := 53) dX9_note_50 fw_X9_29 ex7 rfl ?_
      refine am_aload_n (pc' := 54) dX9_note_53 rfl rfl ?_
      obtain ⟨x8, ex8, hF⟩ := am_bind hF
      refine am_geti (pc' := 57) dX9_note_54 fw_X9_92 ex8 rfl ?_
      refine am_iload_n (pc' := 58) dX9_note_57 rfl rfl ?_
      obtain ⟨h9, eh9, hF⟩ := am_bind hF
      refine am_iast (pc' := 59) dX9_note_58 eh9 rfl ?_
      refine am_aload_n (pc' := 60) dX9_note_59 rfl rfl ?_
      obtain ⟨x10, ex10, hF⟩ := am_bind hF
      refine am_getr (pc' := 63) dX9_note_60 fw_X9_32 ex10 rfl ?_
      refine am_aload_n (pc' := 64) dX9_note_63 rfl rfl ?_
      obtain ⟨x11, ex11, hF⟩ := am_bind hF
      refine am_geti (pc' := 67) dX9_note_64 fw_X9_92 ex11 rfl ?_
      refine am_aload_n (pc' := 68) dX9_note_67 rfl rfl ?_
      obtain ⟨x12, ex12, hF⟩ := am_bind hF
      refine am_geti (pc' := 71) dX9_note_68 fw_X9_121 ex12 rfl ?_
      obtain ⟨h13, eh13, hF⟩ := am_bind hF
      refine am_iast (pc' := 72) dX9_note_71 eh13 rfl ?_
      refine am_iconst (v := (0 : Int32)) (pc' := 73) dX9_note_72 rfl rfl ?_
      refine am_istore_n (ls' := [some (.ref v0), some (.int v1), some (.int (0 : Int32)), none, none, none, none]) (pc' := 74) dX9_note_73 (Nat.le_of_ble_eq_true rfl) rfl rfl ?_
      exact am_weak [true, false, true, false, false, false, false] (w_X9_note_74 am_F v0 (0 : Int32) h13 hF)
    · refine am_icmp_ge_f (pc' := 10) (tgt := 36) dX9_note_7 rfl z2 rfl ?_
      refine am_aload_n (pc' := 11) dX9_note_10 rfl rfl ?_
      obtain ⟨x14, ex14, hF⟩ := am_bind hF
      refine am_getr (pc' := 14) dX9_note_11 fw_X9_26 ex14 rfl ?_
      refine am_bipush (v := (8 : Int32)) (pc' := 16) dX9_note_14 rfl rfl ?_
      refine am_aload_n (pc' := 17) dX9_note_16 rfl rfl ?_
      obtain ⟨x15, ex15, hF⟩ := am_bind hF
      refine am_geti (pc' := 20) dX9_note_17 fw_X9_92 ex15 rfl ?_
      refine am_imul (pc' := 21) dX9_note_20 rfl ?_
      refine am_iload_n (pc' := 22) dX9_note_21 rfl rfl ?_
      refine am_iadd (pc' := 23) dX9_note_22 rfl ?_
      refine am_aload_n (pc' := 24) dX9_note_23 rfl rfl ?_
      obtain ⟨x16, ex16, hF⟩ := am_bind hF
      refine am_getr (pc' := 27) dX9_note_24 fw_X9_44 ex16 rfl ?_
      refine am_iload_n (pc' := 28) dX9_note_27 rfl rfl ?_
      obtain ⟨x17, ex17, hF⟩ := am_bind hF
      refine am_iald (pc' := 29) dX9_note_28 ex17 rfl ?_
      obtain ⟨h18, eh18, hF⟩ := am_bind hF
      refine am_iast (pc' := 30) dX9_note_29 eh18 rfl ?_
      refine am_iinc (ls' := [some (.ref v0), some (.int v1), some (.int (v2 + (1 : Int32))), none, none, none, none]) (pc' := 33) (v := (v2 + (1 : Int32))) dX9_note_30 rfl rfl (Nat.le_of_ble_eq_true rfl) rfl rfl ?_
      refine am_goto (pc' := 2) dX9_note_33 rfl ?_
      exact w_X9_note_2 n v0 v1 (v2 + (1 : Int32)) h18 hF
def F_X9_note_b (v0 : Nat) (v1 : Int32) (h : am_H) : Option (Int32 × am_H) :=
  F_X9_note_2 am_F v0 v1 (0 : Int32) h
theorem w_X9_note {g : am_G} {l : Launch} {h0 : am_H} {x : Int32} {hf : am_H}  (v0 : Nat) (v1 : Int32) (h : am_H) (hF : F_X9_note_b v0 v1 h = some (x, hf)) : am_W g l M_X9_note h0 (some (.int x)) hf 0 [some (.ref v0), some (.int v1), none, none, none, none, none] [] h := by
  unfold F_X9_note_b at hF
  refine am_iconst (v := (0 : Int32)) (pc' := 1) dX9_note_0 rfl rfl ?_
  refine am_istore_n (ls' := [some (.ref v0), some (.int v1), some (.int (0 : Int32)), none, none, none, none]) (pc' := 2) dX9_note_1 (Nat.le_of_ble_eq_true rfl) rfl rfl ?_
  exact w_X9_note_2 am_F v0 v1 (0 : Int32) h hF
def F_X9_note (v0 : Nat) (v1 : Int32) (h : am_H) : Option (Int32 × am_H) := (am_obj v0 9 h).bind fun _ => F_X9_note_b v0 v1 h
theorem t_X9_note {x : Int32} {hf : am_H}  {v0 : Nat} {v1 : Int32} {h : am_H} (hF : F_X9_note v0 v1 h = some (x, hf)) : ∃ fs, am_obj v0 9 h = some fs := by
  obtain ⟨fs, e, _⟩ := am_bind hF
  exact ⟨fs, e⟩
theorem c_X9_note {g : am_G} {l : Launch} {x : Int32} {hf : am_H}  {v0 : Nat} {v1 : Int32} {h : am_H} (hF : F_X9_note v0 v1 h = some (x, hf)) : am_Met g l M_X9_note [.ref v0, .int v1] h (some (.int x)) hf := by
  obtain ⟨fs, e0, e⟩ := am_bind hF
  exact am_met (n := 5) (by decide +kernel) rfl (Nat.le_of_ble_eq_true rfl) (w_X9_note v0 v1 h e)
theorem cw_X9_128 : am_cw "SignCellarModel" 128 M_X9_isFull 1 := ⟨wd_1_9, wd_5_6, ⟨by decide, by decide, by decide⟩, Or.inl wd_5_3⟩
theorem cw_X9_131 : am_cw "SignCellarModel" 131 M_X9_begin 0 := ⟨wd_1_9, wd_5_10, ⟨by decide, by decide, by decide⟩, Or.inl wd_5_7⟩
theorem cw_X9_134 : am_cw "SignCellarModel" 134 M_X9_lay 0 := ⟨wd_1_9, wd_5_14, ⟨by decide, by decide, by decide⟩, Or.inl wd_5_11⟩
theorem cw_X9_137 : am_cw "SignCellarModel" 137 M_X9_note 1 := ⟨wd_1_9, wd_5_26, ⟨by decide, by decide, by decide⟩, Or.inl wd_5_23⟩
theorem fx_X9_110 {nm : String} : am_fx "SignCellarModel" 110 9 14 .int nm := ⟨(RX9, TX9, 42), tyX9, rfl, by decide, inX9, tyX9_ok, nmX9, rfl, Or.inl ⟨wd_4_114, Or.inl rfl⟩⟩
theorem sl_X9_begin : Cond.selects (⟨"SignCellarModel", "begin", "()V"⟩ : MethodName).cls ⟨"SignCellarModel", "begin", "()V"⟩ ⟨"SignCellarModel", "begin", "()V"⟩ ∈ am_ts := am_in_p (q := (⟨"SignCellarModel", "begin", "()V"⟩, 42)) (by decide +kernel)
theorem sl_X9_isFull : Cond.selects (⟨"SignCellarModel", "isFull", "(I)Z"⟩ : MethodName).cls ⟨"SignCellarModel", "isFull", "(I)Z"⟩ ⟨"SignCellarModel", "isFull", "(I)Z"⟩ ∈ am_ts := am_in_p (q := (⟨"SignCellarModel", "isFull", "(I)Z"⟩, 42)) (by decide +kernel)
theorem sl_X9_lay : Cond.selects (⟨"SignCellarModel", "lay", "()V"⟩ : MethodName).cls ⟨"SignCellarModel", "lay", "()V"⟩ ⟨"SignCellarModel", "lay", "()V"⟩ ∈ am_ts := am_in_p (q := (⟨"SignCellarModel", "lay", "()V"⟩, 42)) (by decide +kernel)
theorem sl_X9_note : Cond.selects (⟨"SignCellarModel", "note", "(I)I"⟩ : MethodName).cls ⟨"SignCellarModel", "note", "(I)I"⟩ ⟨"SignCellarModel", "note", "(I)I"⟩ ∈ am_ts := am_in_p (q := (⟨"SignCellarModel", "note", "(I)I"⟩, 42)) (by decide +kernel)
def F_X9_make_74 (k38 : Nat → Int32 → am_H → Option (Int32 × am_H)) : Nat → Nat → Int32 → Int32 → am_H → Option (Int32 × am_H)
  | 0, _, _, _, _ => none
  | n + 1, v0, v1, v2, h =>
  (am_gi 9 14 v0 h).bind fun x1 =>
  if x1 ≤ v2 then
    (F_X9_lay v0 h).bind fun h3 =>
    k38 v0 (v1 + (16 : Int32)) h3
  else
    (am_gr 9 13 v0 h).bind fun x4 =>
    (am_gr 9 1 v0 h).bind fun x5 =>
    (am_il 0 x5 (v1 + v2) h).bind fun x6 =>
    (am_is 0 x4 v2 x6 h).bind fun h7 =>
    F_X9_make_74 k38 n v0 v1 (v2 + (1 : Int32)) h7
theorem w_X9_make_74 {g : am_G} {l : Launch} {h0 : am_H} {x : Int32} {hf : am_H}  {k38 : Nat → Int32 → am_H → Option (Int32 × am_H)} (j38 : ∀ (v0 : Nat) (v1 : Int32) (h : am_H), k38 v0 v1 h = some (x, hf) → am_W g l M_X9_make h0 (some (.int x)) hf 38 [some (.ref v0), some (.int v1), none] [] h) : ∀ (n : Nat) (v0 : Nat) (v1 : Int32) (v2 : Int32) (h : am_H), F_X9_make_74 k38 n v0 v1 v2 h = some (x, hf) → am_W g l M_X9_make h0 (some (.int x)) hf 74 [some (.ref v0), some (.int v1), some (.int v2)] [] h
  | 0, _, _, _, _, hF => by cases hF
  | n + 1, v0, v1, v2, h, hF => by
    rw [F_X9_make_74] at hF
    refine am_iload_n (pc' := 75) dX9_make_74 rfl rfl ?_
    refine am_aload_n (pc' := 76) dX9_make_75 rfl rfl ?_
    obtain ⟨x1, ex1, hF⟩ := am_bind hF
    refine am_geti (pc' := 79) dX9_make_76 fw_X9_110 ex1 rfl ?_
    rcases am_ite hF with ⟨z2, hF⟩ | ⟨z2, hF⟩
    · refine am_icmp_ge_t (pc' := 102) dX9_make_79 rfl z2 ?_
      refine am_aload_n (pc' := 103) dX9_make_102 rfl rfl ?_
      obtain ⟨h3, eh3, hF⟩ := am_bind hF
      obtain ⟨oh3, ph3⟩ := t_X9_lay eh3
      refine am_callV0 (Mc := M_X9_lay) (As := []) (st := []) (pc' := 106) dX9_make_103 cw_X9_134 wd_5_13 sl_X9_lay ⟨_, rfl, rfl⟩ (by decide) (by decide) rfl rfl (Nat.le_of_ble_eq_true rfl) ph3 (c_X9_lay eh3) rfl ?_
      refine am_iinc (ls' := [some (.ref v0), some (.int (v1 + (16 : Int32))), some (.int v2)]) (pc' := 109) (v := (v1 + (16 : Int32))) dX9_make_106 rfl rfl (Nat.le_of_ble_eq_true rfl) rfl rfl ?_
      refine am_goto (pc' := 38) dX9_make_109 rfl ?_
      exact am_weak [true, true, false] (j38 v0 (v1 + (16 : Int32)) h3 hF)
    · refine am_icmp_ge_f (pc' := 82) (tgt := 102) dX9_make_79 rfl z2 rfl ?_
      refine am_aload_n (pc' := 83) dX9_make_82 rfl rfl ?_
      obtain ⟨x4, ex4, hF⟩ := am_bind hF
      refine am_getr (pc' := 86) dX9_make_83 fw_X9_41 ex4 rfl ?_
      refine am_iload_n (pc' := 87) dX9_make_86 rfl rfl ?_
      refine am_aload_n (pc' := 88) dX9_make_87 rfl rfl ?_
      obtain ⟨x5, ex5, hF⟩ := am_bind hF
      refine am_getr (pc' := 91) dX9_make_88 fw_X9_7 ex5 rfl ?_
      refine am_iload_n (pc' := 92) dX9_make_91 rfl rfl ?_
      refine am_iload_n (pc' := 93) dX9_make_92 rfl rfl ?_
      refine am_iadd (pc' := 94) dX9_make_93 rfl ?_
      obtain ⟨x6, ex6, hF⟩ := am_bind hF
      refine am_iald (pc' := 95) dX9_make_94 ex6 rfl ?_
      obtain ⟨h7, eh7, hF⟩ := am_bind hF
      refine am_iast (pc' := 96) dX9_make_95 eh7 rfl ?_
      refine am_iinc (ls' := [some (.ref v0), some (.int v1), some (.int (v2 + (1 : Int32)))]) (pc' := 99) (v := (v2 + (1 : Int32))) dX9_make_96 rfl rfl (Nat.le_of_ble_eq_true rfl) rfl rfl ?_
      refine am_goto (pc' := 74) dX9_make_99 rfl ?_
      exact w_X9_make_74 j38 n v0 v1 (v2 + (1 : Int32)) h7 hF
def F_X9_make_69 (k38 : Nat → Int32 → am_H → Option (Int32 × am_H)) (v0 : Nat) (v1 : Int32) (s0 : Nat) (s1 : Int32) (h : am_H) : Option (Int32 × am_H) :=
  (am_pi 9 14 s0 s1 h).bind fun h1 =>
  F_X9_make_74 k38 am_F v0 v1 (0 : Int32) h1
theorem w_X9_make_69 {g : am_G} {l : Launch} {h0 : am_H} {x : Int32} {hf : am_H}  {k38 : Nat → Int32 → am_H → Option (Int32 × am_H)} (j38 : ∀ (v0 : Nat) (v1 : Int32) (h : am_H), k38 v0 v1 h = some (x, hf) → am_W g l M_X9_make h0 (some (.int x)) hf 38 [some (.ref v0), some (.int v1), none] [] h) (v0 : Nat) (v1 : Int32) (s0 : Nat) (s1 : Int32) (h : am_H) (hF : F_X9_make_69 k38 v0 v1 s0 s1 h = some (x, hf)) : am_W g l M_X9_make h0 (some (.int x)) hf 69 [some (.ref v0), some (.int v1), none] [.int s1, .ref s0] h := by
  unfold F_X9_make_69 at hF
  obtain ⟨h1, eh1, hF⟩ := am_bind hF
  refine am_puti (pc' := 72) dX9_make_69 fx_X9_110 eh1 rfl ?_
  refine am_iconst (v := (0 : Int32)) (pc' := 73) dX9_make_72 rfl rfl ?_
  refine am_istore_n (ls' := [some (.ref v0), some (.int v1), some (.int (0 : Int32))]) (pc' := 74) dX9_make_73 (Nat.le_of_ble_eq_true rfl) rfl rfl ?_
  exact w_X9_make_74 j38 am_F v0 v1 (0 : Int32) h1 hF
def F_X9_make_38 : Nat → Nat → Int32 → am_H → Option (Int32 × am_H)
  | 0, _, _, _ => none
  | n + 1, v0, v1, h =>
  (am_gi 9 0 v0 h).bind fun x1 =>
  if x1 ≤ v1 then
    (am_pi 9 0 v0 (0 : Int32) h).bind fun h3 =>
    (F_X9_note v0 (-1 : Int32) h3).bind fun q4 =>
    some (q4.1, q4.2)
  else
    (am_gi 9 0 v0 h).bind fun x5 =>
    if (16 : Int32) ≤ (x5 - v1) then
      F_X9_make_69 (F_X9_make_38 n) v0 v1 v0 (16 : Int32) h
    else
      (am_gi 9 0 v0 h).bind fun x7 =>
      F_X9_make_69 (F_X9_make_38 n) v0 v1 v0 (x7 - v1) h
theorem w_X9_make_38 {g : am_G} {l : Launch} {h0 : am_H} {x : Int32} {hf : am_H}  : ∀ (n : Nat) (v0 : Nat) (v1 : Int32) (h : am_H), F_X9_make_38 n v0 v1 h = some (x, hf) → am_W g l M_X9_make h0 (some (.int x)) hf 38 [some (.ref v0), some (.int v1), none] [] h
  | 0, _, _, _, hF => by cases hF
  | n + 1, v0, v1, h, hF => by
    rw [F_X9_make_38] at hF
    refine am_iload_n (pc' := 39) dX9_make_38 rfl rfl ?_
    refine am_aload_n (pc' := 40) dX9_make_39 rfl rfl ?_
    obtain ⟨x1, ex1, hF⟩ := am_bind hF
    refine am_geti (pc' := 43) dX9_make_40 fw_X9_106 ex1 rfl ?_
    rcases am_ite hF with ⟨z2, hF⟩ | ⟨z2, hF⟩
    · refine am_icmp_ge_t (pc' := 112) dX9_make_43 rfl z2 ?_
      refine am_aload_n (pc' := 113) dX9_make_112 rfl rfl ?_
      refine am_iconst (v := (0 : Int32)) (pc' := 114) dX9_make_113 rfl rfl ?_
      obtain ⟨h3, eh3, hF⟩ := am_bind hF
      refine am_puti (pc' := 117) dX9_make_114 fx_X9_106 eh3 rfl ?_
      refine am_aload_n (pc' := 118) dX9_make_117 rfl rfl ?_
      refine am_iconst (v := (-1 : Int32)) (pc' := 119) dX9_make_118 rfl rfl ?_
      obtain ⟨q4, eq4, hF⟩ := am_bind hF
      obtain ⟨oq4, pq4⟩ := t_X9_note eq4
      refine am_callV1 (Mc := M_X9_note) (As := [.int (-1 : Int32)]) (st := []) (pc' := 122) dX9_make_119 cw_X9_137 wd_5_25 sl_X9_note ⟨_, rfl, rfl⟩ (by decide) (by decide) rfl rfl (Nat.le_of_ble_eq_true rfl) pq4 (c_X9_note eq4) rfl ?_
      cases hF
      exact am_iret dX9_make_122 rfl rfl
    · refine am_icmp_ge_f (pc' := 46) (tgt := 112) dX9_make_43 rfl z2 rfl ?_
      refine am_aload_n (pc' := 47) dX9_make_46 rfl rfl ?_
      refine am_aload_n (pc' := 48) dX9_make_47 rfl rfl ?_
      obtain ⟨x5, ex5, hF⟩ := am_bind hF
      refine am_geti (pc' := 51) dX9_make_48 fw_X9_106 ex5 rfl ?_
      refine am_iload_n (pc' := 52) dX9_make_51 rfl rfl ?_
      refine am_isub (pc' := 53) dX9_make_52 rfl ?_
      refine am_bipush (v := (16 : Int32)) (pc' := 55) dX9_make_53 rfl rfl ?_
      rcases am_ite hF with ⟨z6, hF⟩ | ⟨z6, hF⟩
      · refine am_icmp_ge_t (pc' := 67) dX9_make_55 rfl z6 ?_
        refine am_bipush (v := (16 : Int32)) (pc' := 69) dX9_make_67 rfl rfl ?_
        exact w_X9_make_69 (w_X9_make_38 n) v0 v1 v0 (16 : Int32) h hF
      · refine am_icmp_ge_f (pc' := 58) (tgt := 67) dX9_make_55 rfl z6 rfl ?_
        refine am_aload_n (pc' := 59) dX9_make_58 rfl rfl ?_
        obtain ⟨x7, ex7, hF⟩ := am_bind hF
        refine am_geti (pc' := 62) dX9_make_59 fw_X9_106 ex7 rfl ?_
        refine am_iload_n (pc' := 63) dX9_make_62 rfl rfl ?_
        refine am_isub (pc' := 64) dX9_make_63 rfl ?_
        refine am_goto (pc' := 69) dX9_make_64 rfl ?_
        exact w_X9_make_69 (w_X9_make_38 n) v0 v1 v0 (x7 - v1) h hF
def F_X9_make_b (v0 : Nat) (h : am_H) : Option (Int32 × am_H) :=
  (am_gi 9 0 v0 h).bind fun x1 =>
  if x1 = 0 then
    some ((-100003 : Int32), h)
  else
    (am_gi 9 0 v0 h).bind fun x3 =>
    (F_X9_isFull v0 (((x3 + (16 : Int32)) - (1 : Int32)) / (16 : Int32)) h).bind fun x4 =>
    if x4 = 0 then
      (F_X9_begin v0 h).bind fun h6 =>
      F_X9_make_38 am_F v0 (0 : Int32) h6
    else
      some ((-100004 : Int32), h)
theorem w_X9_make {g : am_G} {l : Launch} {h0 : am_H} {x : Int32} {hf : am_H}  (v0 : Nat) (h : am_H) (hF : F_X9_make_b v0 h = some (x, hf)) : am_W g l M_X9_make h0 (some (.int x)) hf 0 [some (.ref v0), none, none] [] h := by
  unfold F_X9_make_b at hF
  refine am_aload_n (pc' := 1) dX9_make_0 rfl rfl ?_
  obtain ⟨x1, ex1, hF⟩ := am_bind hF
  refine am_geti (pc' := 4) dX9_make_1 fw_X9_106 ex1 rfl ?_
  rcases am_ite hF with ⟨z2, hF⟩ | ⟨z2, hF⟩
  · refine am_if_ne_f (pc' := 7) (tgt := 10) dX9_make_4 rfl z2 rfl ?_
    refine am_ldc (v := (-100003 : Int32)) (pc' := 9) dX9_make_7 wd_5_2 rfl ?_
    cases hF
    exact am_iret dX9_make_9 rfl rfl
  · refine am_if_ne_t (pc' := 10) dX9_make_4 rfl z2 ?_
    refine am_aload_n (pc' := 11) dX9_make_10 rfl rfl ?_
    refine am_aload_n (pc' := 12) dX9_make_11 rfl rfl ?_
    obtain ⟨x3, ex3, hF⟩ := am_bind hF
    refine am_geti (pc' := 15) dX9_make_12 fw_X9_106 ex3 rfl ?_
    refine am_bipush (v := (16 : Int32)) (pc' := 17) dX9_make_15 rfl rfl ?_
    refine am_iadd (pc' := 18) dX9_make_17 rfl ?_
    refine am_iconst (v := (1 : Int32)) (pc' := 19) dX9_make_18 rfl rfl ?_
    refine am_isub (pc' := 20) dX9_make_19 rfl ?_
    refine am_bipush (v := (16 : Int32)) (pc' := 22) dX9_make_20 rfl rfl ?_
    refine am_idiv (pc' := 23) dX9_make_22 (by decide) rfl ?_
    obtain ⟨x4, ex4, hF⟩ := am_bind hF
    obtain ⟨ox4, px4⟩ := t_X9_isFull ex4
    refine am_callV1 (Mc := M_X9_isFull) (As := [.int (((x3 + (16 : Int32)) - (1 : Int32)) / (16 : Int32))]) (st := []) (pc' := 26) dX9_make_23 cw_X9_128 wd_5_5 sl_X9_isFull ⟨_, rfl, rfl⟩ (by decide) (by decide) rfl rfl (Nat.le_of_ble_eq_true rfl) px4 (c_X9_isFull ex4) rfl ?_
    rcases am_ite hF with ⟨z5, hF⟩ | ⟨z5, hF⟩
    · refine am_if_eq_t (pc' := 32) dX9_make_26 rfl z5 ?_
      refine am_aload_n (pc' := 33) dX9_make_32 rfl rfl ?_
      obtain ⟨h6, eh6, hF⟩ := am_bind hF
      obtain ⟨oh6, ph6⟩ := t_X9_begin eh6
      refine am_callV0 (Mc := M_X9_begin) (As := []) (st := []) (pc' := 36) dX9_make_33 cw_X9_131 wd_5_9 sl_X9_begin ⟨_, rfl, rfl⟩ (by decide) (by decide) rfl rfl (Nat.le_of_ble_eq_true rfl) ph6 (c_X9_begin eh6) rfl ?_
      refine am_iconst (v := (0 : Int32)) (pc' := 37) dX9_make_36 rfl rfl ?_
      refine am_istore_n (ls' := [some (.ref v0), some (.int (0 : Int32)), none]) (pc' := 38) dX9_make_37 (Nat.le_of_ble_eq_true rfl) rfl rfl ?_
      exact w_X9_make_38 am_F v0 (0 : Int32) h6 hF
    · refine am_if_eq_f (pc' := 29) (tgt := 32) dX9_make_26 rfl z5 rfl ?_
      refine am_ldc (v := (-100004 : Int32)) (pc' := 31) dX9_make_29 wd_4_237 rfl ?_
      cases hF
      exact am_iret dX9_make_31 rfl rfl
def F_X9_make (v0 : Nat) (h : am_H) : Option (Int32 × am_H) := (am_obj v0 9 h).bind fun _ => F_X9_make_b v0 h
theorem t_X9_make {x : Int32} {hf : am_H}  {v0 : Nat} {h : am_H} (hF : F_X9_make v0 h = some (x, hf)) : ∃ fs, am_obj v0 9 h = some fs := by
  obtain ⟨fs, e, _⟩ := am_bind hF
  exact ⟨fs, e⟩
theorem c_X9_make {g : am_G} {l : Launch} {x : Int32} {hf : am_H}  {v0 : Nat} {h : am_H} (hF : F_X9_make v0 h = some (x, hf)) : am_Met g l M_X9_make [.ref v0] h (some (.int x)) hf := by
  obtain ⟨fs, e0, e⟩ := am_bind hF
  exact am_met (n := 2) (by decide +kernel) rfl (Nat.le_of_ble_eq_true rfl) (w_X9_make v0 h e)
