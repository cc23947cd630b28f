abbrev M_X9_often : am_M := ((⟨"SignCellarModel", "often", "(II)I"⟩ : MethodName), prog_11_method_70_code, 5, (some .int), 1, 22)
theorem dX9_often_0 : decode prog_11_method_70_code 0 = .ok (.iconst 0, 1) := by decide +kernel
theorem dX9_often_1 : decode prog_11_method_70_code 1 = .ok (.istore_n 3, 1) := by decide +kernel
theorem dX9_often_2 : decode prog_11_method_70_code 2 = .ok (.iconst 0, 1) := by decide +kernel
theorem dX9_often_3 : decode prog_11_method_70_code 3 = .ok (.istore 4, 2) := by decide +kernel
theorem dX9_often_5 : decode prog_11_method_70_code 5 = .ok (.iload 4, 2) := by decide +kernel
theorem dX9_often_7 : decode prog_11_method_70_code 7 = .ok (.aload_n 0, 1) := by decide +kernel
theorem dX9_often_8 : decode prog_11_method_70_code 8 = .ok (.getfield 13, 3) := by decide +kernel
theorem dX9_often_11 : decode prog_11_method_70_code 11 = .ok (.iload_n 1, 1) := by decide +kernel
theorem dX9_often_12 : decode prog_11_method_70_code 12 = .ok (.iaload, 1) := by decide +kernel
theorem dX9_often_13 : decode prog_11_method_70_code 13 = .ok (.if_icmp .ge 31, 3) := by decide +kernel
theorem dX9_often_16 : decode prog_11_method_70_code 16 = .ok (.iload_n 3, 1) := by decide +kernel
theorem dX9_often_17 : decode prog_11_method_70_code 17 = .ok (.aload_n 0, 1) := by decide +kernel
theorem dX9_often_18 : decode prog_11_method_70_code 18 = .ok (.iload_n 1, 1) := by decide +kernel
theorem dX9_often_19 : decode prog_11_method_70_code 19 = .ok (.iload 4, 2) := by decide +kernel
theorem dX9_often_21 : decode prog_11_method_70_code 21 = .ok (.invokevirtual 113, 3) := by decide +kernel
theorem dX9_often_24 : decode prog_11_method_70_code 24 = .ok (.iload_n 2, 1) := by decide +kernel
theorem dX9_often_25 : decode prog_11_method_70_code 25 = .ok (.if_icmp .ne 7, 3) := by decide +kernel
theorem dX9_often_28 : decode prog_11_method_70_code 28 = .ok (.iconst 1, 1) := by decide +kernel
theorem dX9_often_29 : decode prog_11_method_70_code 29 = .ok (.goto 4, 3) := by decide +kernel
theorem dX9_often_32 : decode prog_11_method_70_code 32 = .ok (.iconst 0, 1) := by decide +kernel
theorem dX9_often_33 : decode prog_11_method_70_code 33 = .ok (.invokestatic 150, 3) := by decide +kernel
theorem dX9_often_36 : decode prog_11_method_70_code 36 = .ok (.iadd, 1) := by decide +kernel
theorem dX9_often_37 : decode prog_11_method_70_code 37 = .ok (.istore_n 3, 1) := by decide +kernel
theorem dX9_often_38 : decode prog_11_method_70_code 38 = .ok (.iinc 4 1, 3) := by decide +kernel
theorem dX9_often_41 : decode prog_11_method_70_code 41 = .ok (.goto (-36), 3) := by decide +kernel
theorem dX9_often_44 : decode prog_11_method_70_code 44 = .ok (.iload_n 3, 1) := by decide +kernel
theorem dX9_often_45 : decode prog_11_method_70_code 45 = .ok (.ireturn, 1) := by decide +kernel
abbrev M_X9_waysOf : am_M := ((⟨"SignCellarModel", "waysOf", "(I)J"⟩ : MethodName), prog_11_method_71_code, 10, (some .long), 2, 46)
theorem dX9_waysOf_0 : decode prog_11_method_71_code 0 = .ok (.lconst 1, 1) := by decide +kernel
theorem dX9_waysOf_1 : decode prog_11_method_71_code 1 = .ok (.lstore_n 2, 1) := by decide +kernel
theorem dX9_waysOf_2 : decode prog_11_method_71_code 2 = .ok (.aload_n 0, 1) := by decide +kernel
theorem dX9_waysOf_3 : decode prog_11_method_71_code 3 = .ok (.getfield 13, 3) := by decide +kernel
theorem dX9_waysOf_6 : decode prog_11_method_71_code 6 = .ok (.iload_n 1, 1) := by decide +kernel
theorem dX9_waysOf_7 : decode prog_11_method_71_code 7 = .ok (.iaload, 1) := by decide +kernel
theorem dX9_waysOf_8 : decode prog_11_method_71_code 8 = .ok (.istore 4, 2) := by decide +kernel
theorem dX9_waysOf_10 : decode prog_11_method_71_code 10 = .ok (.iconst 0, 1) := by decide +kernel
theorem dX9_waysOf_11 : decode prog_11_method_71_code 11 = .ok (.istore 5, 2) := by decide +kernel
theorem dX9_waysOf_13 : decode prog_11_method_71_code 13 = .ok (.iload 5, 2) := by decide +kernel
theorem dX9_waysOf_15 : decode prog_11_method_71_code 15 = .ok (.bipush 16, 2) := by decide +kernel
theorem dX9_waysOf_17 : decode prog_11_method_71_code 17 = .ok (.if_icmp .ge 67, 3) := by decide +kernel
theorem dX9_waysOf_20 : decode prog_11_method_71_code 20 = .ok (.aload_n 0, 1) := by decide +kernel
theorem dX9_waysOf_21 : decode prog_11_method_71_code 21 = .ok (.iload_n 1, 1) := by decide +kernel
theorem dX9_waysOf_22 : decode prog_11_method_71_code 22 = .ok (.iload 5, 2) := by decide +kernel
theorem dX9_waysOf_24 : decode prog_11_method_71_code 24 = .ok (.invokevirtual 301, 3) := by decide +kernel
theorem dX9_waysOf_27 : decode prog_11_method_71_code 27 = .ok (.istore 6, 2) := by decide +kernel
theorem dX9_waysOf_29 : decode prog_11_method_71_code 29 = .ok (.lconst 1, 1) := by decide +kernel
theorem dX9_waysOf_30 : decode prog_11_method_71_code 30 = .ok (.lstore 7, 2) := by decide +kernel
theorem dX9_waysOf_32 : decode prog_11_method_71_code 32 = .ok (.iconst 1, 1) := by decide +kernel
theorem dX9_waysOf_33 : decode prog_11_method_71_code 33 = .ok (.istore 9, 2) := by decide +kernel
theorem dX9_waysOf_35 : decode prog_11_method_71_code 35 = .ok (.iload 9, 2) := by decide +kernel
theorem dX9_waysOf_37 : decode prog_11_method_71_code 37 = .ok (.iload 6, 2) := by decide +kernel
theorem dX9_waysOf_39 : decode prog_11_method_71_code 39 = .ok (.if_icmp .gt 27, 3) := by decide +kernel
theorem dX9_waysOf_42 : decode prog_11_method_71_code 42 = .ok (.lload 7, 2) := by decide +kernel
theorem dX9_waysOf_44 : decode prog_11_method_71_code 44 = .ok (.iload 4, 2) := by decide +kernel
theorem dX9_waysOf_46 : decode prog_11_method_71_code 46 = .ok (.iload 6, 2) := by decide +kernel
theorem dX9_waysOf_48 : decode prog_11_method_71_code 48 = .ok (.isub, 1) := by decide +kernel
theorem dX9_waysOf_49 : decode prog_11_method_71_code 49 = .ok (.iload 9, 2) := by decide +kernel
theorem dX9_waysOf_51 : decode prog_11_method_71_code 51 = .ok (.iadd, 1) := by decide +kernel
theorem dX9_waysOf_52 : decode prog_11_method_71_code 52 = .ok (.i2l, 1) := by decide +kernel
theorem dX9_waysOf_53 : decode prog_11_method_71_code 53 = .ok (.lmul, 1) := by decide +kernel
theorem dX9_waysOf_54 : decode prog_11_method_71_code 54 = .ok (.iload 9, 2) := by decide +kernel
theorem dX9_waysOf_56 : decode prog_11_method_71_code 56 = .ok (.i2l, 1) := by decide +kernel
theorem dX9_waysOf_57 : decode prog_11_method_71_code 57 = .ok (.ldiv, 1) := by decide +kernel
theorem dX9_waysOf_58 : decode prog_11_method_71_code 58 = .ok (.lstore 7, 2) := by decide +kernel
theorem dX9_waysOf_60 : decode prog_11_method_71_code 60 = .ok (.iinc 9 1, 3) := by decide +kernel
theorem dX9_waysOf_63 : decode prog_11_method_71_code 63 = .ok (.goto (-28), 3) := by decide +kernel
theorem dX9_waysOf_66 : decode prog_11_method_71_code 66 = .ok (.lload_n 2, 1) := by decide +kernel
theorem dX9_waysOf_67 : decode prog_11_method_71_code 67 = .ok (.lload 7, 2) := by decide +kernel
theorem dX9_waysOf_69 : decode prog_11_method_71_code 69 = .ok (.lmul, 1) := by decide +kernel
theorem dX9_waysOf_70 : decode prog_11_method_71_code 70 = .ok (.lstore_n 2, 1) := by decide +kernel
theorem dX9_waysOf_71 : decode prog_11_method_71_code 71 = .ok (.iload 4, 2) := by decide +kernel
theorem dX9_waysOf_73 : decode prog_11_method_71_code 73 = .ok (.iload 6, 2) := by decide +kernel
theorem dX9_waysOf_75 : decode prog_11_method_71_code 75 = .ok (.isub, 1) := by decide +kernel
theorem dX9_waysOf_76 : decode prog_11_method_71_code 76 = .ok (.istore 4, 2) := by decide +kernel
theorem dX9_waysOf_78 : decode prog_11_method_71_code 78 = .ok (.iinc 5 1, 3) := by decide +kernel
theorem dX9_waysOf_81 : decode prog_11_method_71_code 81 = .ok (.goto (-68), 3) := by decide +kernel
theorem dX9_waysOf_84 : decode prog_11_method_71_code 84 = .ok (.lload_n 2, 1) := by decide +kernel
theorem dX9_waysOf_85 : decode prog_11_method_71_code 85 = .ok (.lreturn, 1) := by decide +kernel
abbrev M_X9_ways : am_M := ((⟨"SignCellarModel", "ways", "(I)J"⟩ : MethodName), prog_11_method_73_code, 3, (some .long), 3, 75)
theorem dX9_ways_0 : decode prog_11_method_73_code 0 = .ok (.aload_n 0, 1) := by decide +kernel
theorem dX9_ways_1 : decode prog_11_method_73_code 1 = .ok (.iload_n 1, 1) := by decide +kernel
theorem dX9_ways_2 : decode prog_11_method_73_code 2 = .ok (.invokevirtual 304, 3) := by decide +kernel
theorem dX9_ways_5 : decode prog_11_method_73_code 5 = .ok (.istore_n 2, 1) := by decide +kernel
theorem dX9_ways_6 : decode prog_11_method_73_code 6 = .ok (.iload_n 2, 1) := by decide +kernel
theorem dX9_ways_7 : decode prog_11_method_73_code 7 = .ok (.ifCond .eq 8, 3) := by decide +kernel
theorem dX9_ways_10 : decode prog_11_method_73_code 10 = .ok (.iload_n 2, 1) := by decide +kernel
theorem dX9_ways_11 : decode prog_11_method_73_code 11 = .ok (.i2l, 1) := by decide +kernel
theorem dX9_ways_12 : decode prog_11_method_73_code 12 = .ok (.goto 8, 3) := by decide +kernel
theorem dX9_ways_15 : decode prog_11_method_73_code 15 = .ok (.aload_n 0, 1) := by decide +kernel
theorem dX9_ways_16 : decode prog_11_method_73_code 16 = .ok (.iload_n 1, 1) := by decide +kernel
theorem dX9_ways_17 : decode prog_11_method_73_code 17 = .ok (.invokevirtual 307, 3) := by decide +kernel
theorem dX9_ways_20 : decode prog_11_method_73_code 20 = .ok (.lreturn, 1) := by decide +kernel
abbrev M_X8_bound : am_M := ((⟨"SignCellar", "bound", "(I)I"⟩ : MethodName), prog_1_method_29_code, 7, (some .int), 4, 93)
theorem dX8_bound_0 : decode prog_1_method_29_code 0 = .ok (.aload_n 0, 1) := by decide +kernel
theorem dX8_bound_1 : decode prog_1_method_29_code 1 = .ok (.iload_n 1, 1) := by decide +kernel
theorem dX8_bound_2 : decode prog_1_method_29_code 2 = .ok (.invokevirtual 176, 3) := by decide +kernel
theorem dX8_bound_5 : decode prog_1_method_29_code 5 = .ok (.astore_n 2, 1) := by decide +kernel
theorem dX8_bound_6 : decode prog_1_method_29_code 6 = .ok (.aload_n 2, 1) := by decide +kernel
theorem dX8_bound_7 : decode prog_1_method_29_code 7 = .ok (.invokestatic 318, 3) := by decide +kernel
theorem dX8_bound_10 : decode prog_1_method_29_code 10 = .ok (.istore_n 3, 1) := by decide +kernel
theorem dX8_bound_11 : decode prog_1_method_29_code 11 = .ok (.aload_n 2, 1) := by decide +kernel
theorem dX8_bound_12 : decode prog_1_method_29_code 12 = .ok (.ifnull 7, 3) := by decide +kernel
theorem dX8_bound_15 : decode prog_1_method_29_code 15 = .ok (.iload_n 3, 1) := by decide +kernel
theorem dX8_bound_16 : decode prog_1_method_29_code 16 = .ok (.ifCond .eq 5, 3) := by decide +kernel
theorem dX8_bound_19 : decode prog_1_method_29_code 19 = .ok (.iload_n 3, 1) := by decide +kernel
theorem dX8_bound_20 : decode prog_1_method_29_code 20 = .ok (.ireturn, 1) := by decide +kernel
theorem dX8_bound_21 : decode prog_1_method_29_code 21 = .ok (.aload_n 2, 1) := by decide +kernel
theorem dX8_bound_22 : decode prog_1_method_29_code 22 = .ok (.getfield 180, 3) := by decide +kernel
theorem dX8_bound_25 : decode prog_1_method_29_code 25 = .ok (.invokestatic 322, 3) := by decide +kernel
theorem dX8_bound_28 : decode prog_1_method_29_code 28 = .ok (.lstore 4, 2) := by decide +kernel
theorem dX8_bound_30 : decode prog_1_method_29_code 30 = .ok (.iconst 0, 1) := by decide +kernel
theorem dX8_bound_31 : decode prog_1_method_29_code 31 = .ok (.istore 6, 2) := by decide +kernel
theorem dX8_bound_33 : decode prog_1_method_29_code 33 = .ok (.iload 6, 2) := by decide +kernel
theorem dX8_bound_35 : decode prog_1_method_29_code 35 = .ok (.bipush 63, 2) := by decide +kernel
theorem dX8_bound_37 : decode prog_1_method_29_code 37 = .ok (.if_icmp .ge 19, 3) := by decide +kernel
theorem dX8_bound_40 : decode prog_1_method_29_code 40 = .ok (.lconst 1, 1) := by decide +kernel
theorem dX8_bound_41 : decode prog_1_method_29_code 41 = .ok (.iload 6, 2) := by decide +kernel
theorem dX8_bound_43 : decode prog_1_method_29_code 43 = .ok (.lshl, 1) := by decide +kernel
theorem dX8_bound_44 : decode prog_1_method_29_code 44 = .ok (.lload 4, 2) := by decide +kernel
theorem dX8_bound_46 : decode prog_1_method_29_code 46 = .ok (.lcmp, 1) := by decide +kernel
theorem dX8_bound_47 : decode prog_1_method_29_code 47 = .ok (.ifCond .ge 9, 3) := by decide +kernel
theorem dX8_bound_50 : decode prog_1_method_29_code 50 = .ok (.iinc 6 1, 3) := by decide +kernel
theorem dX8_bound_53 : decode prog_1_method_29_code 53 = .ok (.goto (-20), 3) := by decide +kernel
theorem dX8_bound_56 : decode prog_1_method_29_code 56 = .ok (.iload 6, 2) := by decide +kernel
theorem dX8_bound_58 : decode prog_1_method_29_code 58 = .ok (.ireturn, 1) := by decide +kernel
abbrev M_X9_bound : am_M := ((⟨"SignCellarModel", "bound", "(I)I"⟩ : MethodName), prog_11_method_74_code, 4, (some .int), 3, 75)
theorem dX9_bound_0 : decode prog_11_method_74_code 0 = .ok (.aload_n 0, 1) := by decide +kernel
theorem dX9_bound_1 : decode prog_11_method_74_code 1 = .ok (.iload_n 1, 1) := by decide +kernel
theorem dX9_bound_2 : decode prog_11_method_74_code 2 = .ok (.invokevirtual 304, 3) := by decide +kernel
theorem dX9_bound_5 : decode prog_11_method_74_code 5 = .ok (.istore_n 2, 1) := by decide +kernel
theorem dX9_bound_6 : decode prog_11_method_74_code 6 = .ok (.iload_n 2, 1) := by decide +kernel
theorem dX9_bound_7 : decode prog_11_method_74_code 7 = .ok (.ifCond .eq 5, 3) := by decide +kernel
theorem dX9_bound_10 : decode prog_11_method_74_code 10 = .ok (.iload_n 2, 1) := by decide +kernel
theorem dX9_bound_11 : decode prog_11_method_74_code 11 = .ok (.ireturn, 1) := by decide +kernel
theorem dX9_bound_12 : decode prog_11_method_74_code 12 = .ok (.iconst 0, 1) := by decide +kernel
theorem dX9_bound_13 : decode prog_11_method_74_code 13 = .ok (.istore_n 3, 1) := by decide +kernel
theorem dX9_bound_14 : decode prog_11_method_74_code 14 = .ok (.iload_n 3, 1) := by decide +kernel
theorem dX9_bound_15 : decode prog_11_method_74_code 15 = .ok (.bipush 62, 2) := by decide +kernel
theorem dX9_bound_17 : decode prog_11_method_74_code 17 = .ok (.if_icmp .ge 21, 3) := by decide +kernel
theorem dX9_bound_20 : decode prog_11_method_74_code 20 = .ok (.lconst 1, 1) := by decide +kernel
theorem dX9_bound_21 : decode prog_11_method_74_code 21 = .ok (.iload_n 3, 1) := by decide +kernel
theorem dX9_bound_22 : decode prog_11_method_74_code 22 = .ok (.lshl, 1) := by decide +kernel
theorem dX9_bound_23 : decode prog_11_method_74_code 23 = .ok (.aload_n 0, 1) := by decide +kernel
theorem dX9_bound_24 : decode prog_11_method_74_code 24 = .ok (.iload_n 1, 1) := by decide +kernel
theorem dX9_bound_25 : decode prog_11_method_74_code 25 = .ok (.invokevirtual 307, 3) := by decide +kernel
theorem dX9_bound_28 : decode prog_11_method_74_code 28 = .ok (.lcmp, 1) := by decide +kernel
theorem dX9_bound_29 : decode prog_11_method_74_code 29 = .ok (.ifCond .ge 9, 3) := by decide +kernel
theorem dX9_bound_32 : decode prog_11_method_74_code 32 = .ok (.iinc 3 1, 3) := by decide +kernel
theorem dX9_bound_35 : decode prog_11_method_74_code 35 = .ok (.goto (-21), 3) := by decide +kernel
theorem dX9_bound_38 : decode prog_11_method_74_code 38 = .ok (.iload_n 3, 1) := by decide +kernel
theorem dX9_bound_39 : decode prog_11_method_74_code 39 = .ok (.ireturn, 1) := by decide +kernel
abbrev M_X8_entropy : am_M := ((⟨"SignCellar", "entropy", "(II)I"⟩ : MethodName), prog_1_method_30_code, 4, (some .int), 3, 67)
theorem dX8_entropy_0 : decode prog_1_method_30_code 0 = .ok (.aload_n 0, 1) := by decide +kernel
theorem dX8_entropy_1 : decode prog_1_method_30_code 1 = .ok (.iload_n 1, 1) := by decide +kernel
theorem dX8_entropy_2 : decode prog_1_method_30_code 2 = .ok (.invokevirtual 176, 3) := by decide +kernel
theorem dX8_entropy_5 : decode prog_1_method_30_code 5 = .ok (.astore_n 3, 1) := by decide +kernel
theorem dX8_entropy_6 : decode prog_1_method_30_code 6 = .ok (.aload_n 3, 1) := by decide +kernel
theorem dX8_entropy_7 : decode prog_1_method_30_code 7 = .ok (.ifnonnull 6, 3) := by decide +kernel
theorem dX8_entropy_10 : decode prog_1_method_30_code 10 = .ok (.ldc 133, 2) := by decide +kernel
theorem dX8_entropy_12 : decode prog_1_method_30_code 12 = .ok (.ireturn, 1) := by decide +kernel
theorem dX8_entropy_13 : decode prog_1_method_30_code 13 = .ok (.iload_n 2, 1) := by decide +kernel
theorem dX8_entropy_14 : decode prog_1_method_30_code 14 = .ok (.iconst (-1), 1) := by decide +kernel
theorem dX8_entropy_15 : decode prog_1_method_30_code 15 = .ok (.if_icmp .eq 13, 3) := by decide +kernel
theorem dX8_entropy_18 : decode prog_1_method_30_code 18 = .ok (.iload_n 2, 1) := by decide +kernel
theorem dX8_entropy_19 : decode prog_1_method_30_code 19 = .ok (.invokestatic 134, 3) := by decide +kernel
theorem dX8_entropy_22 : decode prog_1_method_30_code 22 = .ok (.ifCond .ne 6, 3) := by decide +kernel
theorem dX8_entropy_25 : decode prog_1_method_30_code 25 = .ok (.ldc 92, 2) := by decide +kernel
theorem dX8_entropy_27 : decode prog_1_method_30_code 27 = .ok (.ireturn, 1) := by decide +kernel
theorem dX8_entropy_28 : decode prog_1_method_30_code 28 = .ok (.aload_n 3, 1) := by decide +kernel
theorem dX8_entropy_29 : decode prog_1_method_30_code 29 = .ok (.getfield 182, 3) := by decide +kernel
theorem dX8_entropy_32 : decode prog_1_method_30_code 32 = .ok (.ifCond .eq 6, 3) := by decide +kernel
theorem dX8_entropy_35 : decode prog_1_method_30_code 35 = .ok (.ldc 168, 2) := by decide +kernel
theorem dX8_entropy_37 : decode prog_1_method_30_code 37 = .ok (.ireturn, 1) := by decide +kernel
theorem dX8_entropy_38 : decode prog_1_method_30_code 38 = .ok (.iload_n 2, 1) := by decide +kernel
theorem dX8_entropy_39 : decode prog_1_method_30_code 39 = .ok (.iconst (-1), 1) := by decide +kernel
theorem dX8_entropy_40 : decode prog_1_method_30_code 40 = .ok (.if_icmp .ne 13, 3) := by decide +kernel
theorem dX8_entropy_43 : decode prog_1_method_30_code 43 = .ok (.aload_n 3, 1) := by decide +kernel
theorem dX8_entropy_44 : decode prog_1_method_30_code 44 = .ok (.getfield 180, 3) := by decide +kernel
theorem dX8_entropy_47 : decode prog_1_method_30_code 47 = .ok (.invokevirtual 93, 3) := by decide +kernel
theorem dX8_entropy_50 : decode prog_1_method_30_code 50 = .ok (.goto 11, 3) := by decide +kernel
theorem dX8_entropy_53 : decode prog_1_method_30_code 53 = .ok (.aload_n 3, 1) := by decide +kernel
theorem dX8_entropy_54 : decode prog_1_method_30_code 54 = .ok (.getfield 180, 3) := by decide +kernel
theorem dX8_entropy_57 : decode prog_1_method_30_code 57 = .ok (.iload_n 2, 1) := by decide +kernel
theorem dX8_entropy_58 : decode prog_1_method_30_code 58 = .ok (.invokevirtual 326, 3) := by decide +kernel
theorem dX8_entropy_61 : decode prog_1_method_30_code 61 = .ok (.ireturn, 1) := by decide +kernel
abbrev M_X9_entropy : am_M := ((⟨"SignCellarModel", "entropy", "(II)I"⟩ : MethodName), prog_11_method_75_code, 3, (some .int), 2, 46)
theorem dX9_entropy_0 : decode prog_11_method_75_code 0 = .ok (.aload_n 0, 1) := by decide +kernel
theorem dX9_entropy_1 : decode prog_11_method_75_code 1 = .ok (.iload_n 1, 1) := by decide +kernel
theorem dX9_entropy_2 : decode prog_11_method_75_code 2 = .ok (.invokevirtual 184, 3) := by decide +kernel
theorem dX9_entropy_5 : decode prog_11_method_75_code 5 = .ok (.ifCond .eq 6, 3) := by decide +kernel
theorem dX9_entropy_8 : decode prog_11_method_75_code 8 = .ok (.ldc 164, 2) := by decide +kernel
theorem dX9_entropy_10 : decode prog_11_method_75_code 10 = .ok (.ireturn, 1) := by decide +kernel
theorem dX9_entropy_11 : decode prog_11_method_75_code 11 = .ok (.iload_n 2, 1) := by decide +kernel
theorem dX9_entropy_12 : decode prog_11_method_75_code 12 = .ok (.i2l, 1) := by decide +kernel
theorem dX9_entropy_13 : decode prog_11_method_75_code 13 = .ok (.ldc2_w 311, 3) := by decide +kernel
theorem dX9_entropy_16 : decode prog_11_method_75_code 16 = .ok (.ldc2_w 103, 3) := by decide +kernel
theorem dX9_entropy_19 : decode prog_11_method_75_code 19 = .ok (.invokestatic 96, 3) := by decide +kernel
theorem dX9_entropy_22 : decode prog_11_method_75_code 22 = .ok (.ifCond .ne 6, 3) := by decide +kernel
theorem dX9_entropy_25 : decode prog_11_method_75_code 25 = .ok (.ldc 105, 2) := by decide +kernel
theorem dX9_entropy_27 : decode prog_11_method_75_code 27 = .ok (.ireturn, 1) := by decide +kernel
theorem dX9_entropy_28 : decode prog_11_method_75_code 28 = .ok (.aload_n 0, 1) := by decide +kernel
theorem dX9_entropy_29 : decode prog_11_method_75_code 29 = .ok (.getfield 19, 3) := by decide +kernel
theorem dX9_entropy_32 : decode prog_11_method_75_code 32 = .ok (.iload_n 1, 1) := by decide +kernel
theorem dX9_entropy_33 : decode prog_11_method_75_code 33 = .ok (.baload, 1) := by decide +kernel
theorem dX9_entropy_34 : decode prog_11_method_75_code 34 = .ok (.ifCond .eq 8, 3) := by decide +kernel
theorem dX9_entropy_37 : decode prog_11_method_75_code 37 = .ok (.ldc 168, 2) := by decide +kernel
theorem dX9_entropy_39 : decode prog_11_method_75_code 39 = .ok (.goto 22, 3) := by decide +kernel
theorem dX9_entropy_42 : decode prog_11_method_75_code 42 = .ok (.iload_n 2, 1) := by decide +kernel
theorem dX9_entropy_43 : decode prog_11_method_75_code 43 = .ok (.ifCond .ge 12, 3) := by decide +kernel
theorem dX9_entropy_46 : decode prog_11_method_75_code 46 = .ok (.aload_n 0, 1) := by decide +kernel
theorem dX9_entropy_47 : decode prog_11_method_75_code 47 = .ok (.getfield 13, 3) := by decide +kernel
theorem dX9_entropy_50 : decode prog_11_method_75_code 50 = .ok (.iload_n 1, 1) := by decide +kernel
theorem dX9_entropy_51 : decode prog_11_method_75_code 51 = .ok (.iaload, 1) := by decide +kernel
theorem dX9_entropy_52 : decode prog_11_method_75_code 52 = .ok (.goto 9, 3) := by decide +kernel
theorem dX9_entropy_55 : decode prog_11_method_75_code 55 = .ok (.aload_n 0, 1) := by decide +kernel
theorem dX9_entropy_56 : decode prog_11_method_75_code 56 = .ok (.iload_n 1, 1) := by decide +kernel
theorem dX9_entropy_57 : decode prog_11_method_75_code 57 = .ok (.iload_n 2, 1) := by decide +kernel
theorem dX9_entropy_58 : decode prog_11_method_75_code 58 = .ok (.invokevirtual 301, 3) := by decide +kernel
theorem dX9_entropy_61 : decode prog_11_method_75_code 61 = .ok (.ireturn, 1) := by decide +kernel
def F_X9_often_33 (k5 : Nat → Int32 → Int32 → Int32 → Int32 → am_H → Option Int32) (v0 : Nat) (v1 : Int32) (v2 : Int32) (v4 : Int32) (s0 : Int32) (s1 : Int32) (h : am_H) : Option Int32 :=
  (F_X9_one s1 h).bind fun x1 =>
  k5 v0 v1 v2 (s0 + x1) (v4 + (1 : Int32)) h
theorem w_X9_often_33 {g : am_G} {l : Launch} {h0 : am_H} {x : Int32}  {k5 : Nat → Int32 → Int32 → Int32 → Int32 → am_H → Option Int32} (j5 : ∀ (v0 : Nat) (v1 : Int32) (v2 : Int32) (v3 : Int32) (v4 : Int32) (h : am_H), k5 v0 v1 v2 v3 v4 h = some x → am_W g l M_X9_often h0 (some (.int x)) h 5 [some (.ref v0), some (.int v1), some (.int v2), some (.int v3), some (.int v4)] [] h) (v0 : Nat) (v1 : Int32) (v2 : Int32) (v4 : Int32) (s0 : Int32) (s1 : Int32) (h : am_H) (hF : F_X9_often_33 k5 v0 v1 v2 v4 s0 s1 h = some x) : am_W g l M_X9_often h0 (some (.int x)) h 33 [some (.ref v0), some (.int v1), some (.int v2), none, some (.int v4)] [.int s1, .int s0] h := by
  unfold F_X9_often_33 at hF
  obtain ⟨x1, ex1, hF⟩ := am_bind hF
  refine am_callS1 (Mc := M_X9_one) (As := [.int s1]) (st := [.int s0]) (pc' := 36) dX9_often_33 cw_X9_150 wd_5_53 (by decide) (by decide) rfl rfl (Nat.le_of_ble_eq_true rfl) (c_X9_one ex1) rfl ?_
  refine am_iadd (pc' := 37) dX9_often_36 rfl ?_
  refine am_istore_n (ls' := [some (.ref v0), some (.int v1), some (.int v2), some (.int (s0 + x1)), some (.int v4)]) (pc' := 38) dX9_often_37 (Nat.le_of_ble_eq_true rfl) rfl rfl ?_
  refine am_iinc (ls' := [some (.ref v0), some (.int v1), some (.int v2), some (.int (s0 + x1)), some (.int (v4 + (1 : Int32)))]) (pc' := 41) (v := (v4 + (1 : Int32))) dX9_often_38 rfl rfl (Nat.le_of_ble_eq_true rfl) rfl rfl ?_
  refine am_goto (pc' := 5) dX9_often_41 rfl ?_
  exact j5 v0 v1 v2 (s0 + x1) (v4 + (1 : Int32)) h hF
def F_X9_often_5 : Nat → Nat → Int32 → Int32 → Int32 → Int32 → am_H → Option Int32
  | 0, _, _, _, _, _, _ => none
  | n + 1, v0, v1, v2, v3, v4, h =>
  (am_gr 9 3 v0 h).bind fun x1 =>
  (am_il 0 x1 v1 h).bind fun x2 =>
  if x2 ≤ v4 then
    some v3
  else
    (F_X9_sign v0 v1 v4 h).bind fun x4 =>
    if x4 = v2 then
      F_X9_often_33 (F_X9_often_5 n) v0 v1 v2 v4 v3 (1 : Int32) h
    else
      F_X9_often_33 (F_X9_often_5 n) v0 v1 v2 v4 v3 (0 : Int32) h
theorem w_X9_often_5 {g : am_G} {l : Launch} {h0 : am_H} {x : Int32}  : ∀ (n : Nat) (v0 : Nat) (v1 : Int32) (v2 : Int32) (v3 : Int32) (v4 : Int32) (h : am_H), F_X9_often_5 n v0 v1 v2 v3 v4 h = some x → am_W g l M_X9_often h0 (some (.int x)) h 5 [some (.ref v0), some (.int v1), some (.int v2), some (.int v3), some (.int v4)] [] h
  | 0, _, _, _, _, _, _, hF => by cases hF
  | n + 1, v0, v1, v2, v3, v4, h, hF => by
    rw [F_X9_often_5] at hF
    refine am_iload (pc' := 7) dX9_often_5 rfl rfl ?_
    refine am_aload_n (pc' := 8) dX9_often_7 rfl rfl ?_
    obtain ⟨x1, ex1, hF⟩ := am_bind hF
    refine am_getr (pc' := 11) dX9_often_8 fw_X9_13 ex1 rfl ?_
    refine am_iload_n (pc' := 12) dX9_often_11 rfl rfl ?_
    obtain ⟨x2, ex2, hF⟩ := am_bind hF
    refine am_iald (pc' := 13) dX9_often_12 ex2 rfl ?_
    rcases am_ite hF with ⟨z3, hF⟩ | ⟨z3, hF⟩
    · refine am_icmp_ge_t (pc' := 44) dX9_often_13 rfl z3 ?_
      refine am_iload_n (pc' := 45) dX9_often_44 rfl rfl ?_
      cases hF
      exact am_iret dX9_often_45 rfl rfl
    · refine am_icmp_ge_f (pc' := 16) (tgt := 44) dX9_often_13 rfl z3 rfl ?_
      refine am_iload_n (pc' := 17) dX9_often_16 rfl rfl ?_
      refine am_aload_n (pc' := 18) dX9_often_17 rfl rfl ?_
      refine am_iload_n (pc' := 19) dX9_often_18 rfl rfl ?_
      refine am_iload (pc' := 21) dX9_often_19 rfl rfl ?_
      obtain ⟨x4, ex4, hF⟩ := am_bind hF
      obtain ⟨ox4, px4⟩ := t_X9_sign ex4
      refine am_callV1 (Mc := M_X9_sign) (As := [.int v1, .int v4]) (st := [.int v3]) (pc' := 24) dX9_often_21 cw_X9_113 wd_5_21 sl_X9_sign ⟨_, rfl, rfl⟩ (by decide) (by decide) rfl rfl (Nat.le_of_ble_eq_true rfl) px4 (c_X9_sign ex4) rfl ?_
      refine am_iload_n (pc' := 25) dX9_often_24 rfl rfl ?_
      rcases am_ite hF with ⟨z5, hF⟩ | ⟨z5, hF⟩
      · refine am_icmp_ne_f (pc' := 28) (tgt := 32) dX9_often_25 rfl z5 rfl ?_
        refine am_iconst (v := (1 : Int32)) (pc' := 29) dX9_often_28 rfl rfl ?_
        refine am_goto (pc' := 33) dX9_often_29 rfl ?_
        exact am_weak [true, true, true, false, true] (w_X9_often_33 (w_X9_often_5 n) v0 v1 v2 v4 v3 (1 : Int32) h hF)
      · refine am_icmp_ne_t (pc' := 32) dX9_often_25 rfl z5 ?_
        refine am_iconst (v := (0 : Int32)) (pc' := 33) dX9_often_32 rfl rfl ?_
        exact am_weak [true, true, true, false, true] (w_X9_often_33 (w_X9_often_5 n) v0 v1 v2 v4 v3 (0 : Int32) h hF)
def F_X9_often_b (v0 : Nat) (v1 : Int32) (v2 : Int32) (h : am_H) : Option Int32 :=
  F_X9_often_5 am_F v0 v1 v2 (0 : Int32) (0 : Int32) h
theorem w_X9_often {g : am_G} {l : Launch} {h0 : am_H} {x : Int32}  (v0 : Nat) (v1 : Int32) (v2 : Int32) (h : am_H) (hF : F_X9_often_b v0 v1 v2 h = some x) : am_W g l M_X9_often h0 (some (.int x)) h 0 [some (.ref v0), some (.int v1), some (.int v2), none, none] [] h := by
  unfold F_X9_often_b at hF
  refine am_iconst (v := (0 : Int32)) (pc' := 1) dX9_often_0 rfl rfl ?_
  refine am_istore_n (ls' := [some (.ref v0), some (.int v1), some (.int v2), some (.int (0 : Int32)), none]) (pc' := 2) dX9_often_1 (Nat.le_of_ble_eq_true rfl) rfl rfl ?_
  refine am_iconst (v := (0 : Int32)) (pc' := 3) dX9_often_2 rfl rfl ?_
  refine am_istore (ls' := [some (.ref v0), some (.int v1), some (.int v2), some (.int (0 : Int32)), some (.int (0 : Int32))]) (pc' := 5) dX9_often_3 (Nat.le_of_ble_eq_true rfl) rfl rfl ?_
  exact w_X9_often_5 am_F v0 v1 v2 (0 : Int32) (0 : Int32) h hF
def F_X9_often (v0 : Nat) (v1 : Int32) (v2 : Int32) (h : am_H) : Option Int32 := (am_obj v0 9 h).bind fun _ => F_X9_often_b v0 v1 v2 h
theorem t_X9_often {x : Int32}  {v0 : Nat} {v1 : Int32} {v2 : Int32} {h : am_H} (hF : F_X9_often v0 v1 v2 h = some x) : ∃ fs, am_obj v0 9 h = some fs := by
  obtain ⟨fs, e, _⟩ := am_bind hF
  exact ⟨fs, e⟩
theorem c_X9_often {g : am_G} {l : Launch} {x : Int32}  {v0 : Nat} {v1 : Int32} {v2 : Int32} {h : am_H} (hF : F_X9_often v0 v1 v2 h = some x) : am_Met g l M_X9_often [.ref v0, .int v1, .int v2] h (some (.int x)) h := by
  obtain ⟨fs, e0, e⟩ := am_bind hF
  exact am_met (n := 2) (by decide +kernel) rfl (Nat.le_of_ble_eq_true rfl) (w_X9_often v0 v1 v2 h e)
theorem cw_X9_301 : am_cw "SignCellarModel" 301 M_X9_often 2 := ⟨wd_1_9, wd_6_46, ⟨by decide, by decide, by decide⟩, Or.inl wd_6_43⟩
theorem sl_X9_often : Cond.selects (⟨"SignCellarModel", "often", "(II)I"⟩ : MethodName).cls ⟨"SignCellarModel", "often", "(II)I"⟩ ⟨"SignCellarModel", "often", "(II)I"⟩ ∈ am_ts := am_in_p (q := (⟨"SignCellarModel", "often", "(II)I"⟩, 42)) (by decide +kernel)
def F_X9_waysOf_35 (k13 : Nat → Int32 → Int64 → Int32 → Int32 → am_H → Option Int64) : Nat → Nat → Int32 → Int64 → Int32 → Int32 → Int32 → Int64 → Int32 → am_H → Option Int64
  | 0, _, _, _, _, _, _, _, _, _ => none
  | n + 1, v0, v1, v2, v4, v5, v6, v7, v9, h =>
  if v6 < v9 then
    k13 v0 v1 (v2 * v7) (v4 - v6) (v5 + (1 : Int32)) h
  else
    if (Int32.toInt64 v9) = 0 then none else
    F_X9_waysOf_35 k13 n v0 v1 v2 v4 v5 v6 ((v7 * (Int32.toInt64 ((v4 - v6) + v9))) / (Int32.toInt64 v9)) (v9 + (1 : Int32)) h
theorem w_X9_waysOf_35 {g : am_G} {l : Launch} {h0 : am_H} {x : Int64}  {k13 : Nat → Int32 → Int64 → Int32 → Int32 → am_H → Option Int64} (j13 : ∀ (v0 : Nat) (v1 : Int32) (v2 : Int64) (v4 : Int32) (v5 : Int32) (h : am_H), k13 v0 v1 v2 v4 v5 h = some x → am_W g l M_X9_waysOf h0 (some (.long x)) h 13 [some (.ref v0), some (.int v1), some (.long v2), none, some (.int v4), some (.int v5), none, none, none, none] [] h) : ∀ (n : Nat) (v0 : Nat) (v1 : Int32) (v2 : Int64) (v4 : Int32) (v5 : Int32) (v6 : Int32) (v7 : Int64) (v9 : Int32) (h : am_H), F_X9_waysOf_35 k13 n v0 v1 v2 v4 v5 v6 v7 v9 h = some x → am_W g l M_X9_waysOf h0 (some (.long x)) h 35 [some (.ref v0), some (.int v1), some (.long v2), none, some (.int v4), some (.int v5), some (.int v6), some (.long v7), none, some (.int v9)] [] h
  | 0, _, _, _, _, _, _, _, _, _, hF => by cases hF
  | n + 1, v0, v1, v2, v4, v5, v6, v7, v9, h, hF => by
    rw [F_X9_waysOf_35] at hF
    refine am_iload (pc' := 37) dX9_waysOf_35 rfl rfl ?_
    refine am_iload (pc' := 39) dX9_waysOf_37 rfl rfl ?_
    rcases am_ite hF with ⟨z1, hF⟩ | ⟨z1, hF⟩
    · refine am_icmp_gt_t (pc' := 66) dX9_waysOf_39 rfl z1 ?_
      refine am_lload_n (pc' := 67) dX9_waysOf_66 rfl rfl ?_
      refine am_lload (pc' := 69) dX9_waysOf_67 rfl rfl ?_
      refine am_lmul (pc' := 70) dX9_waysOf_69 rfl ?_
      refine am_lstore_n (ls' := [some (.ref v0), some (.int v1), some (.long (v2 * v7)), none, some (.int v4), some (.int v5), some (.int v6), some (.long v7), none, some (.int v9)]) (pc' := 71) dX9_waysOf_70 (Nat.le_of_ble_eq_true rfl) rfl rfl ?_
      refine am_iload (pc' := 73) dX9_waysOf_71 rfl rfl ?_
      refine am_iload (pc' := 75) dX9_waysOf_73 rfl rfl ?_
      refine am_isub (pc' := 76) dX9_waysOf_75 rfl ?_
      refine am_istore (ls' := [some (.ref v0), some (.int v1), some (.long (v2 * v7)), none, some (.int (v4 - v6)), some (.int v5), some (.int v6), some (.long v7), none, some (.int v9)]) (pc' := 78) dX9_waysOf_76 (Nat.le_of_ble_eq_true rfl) rfl rfl ?_
      refine am_iinc (ls' := [some (.ref v0), some (.int v1), some (.long (v2 * v7)), none, some (.int (v4 - v6)), some (.int (v5 + (1 : Int32))), some (.int v6), some (.long v7), none, some (.int v9)]) (pc' := 81) (v := (v5 + (1 : Int32))) dX9_waysOf_78 rfl rfl (Nat.le_of_ble_eq_true rfl) rfl rfl ?_
      refine am_goto (pc' := 13) dX9_waysOf_81 rfl ?_
      exact am_weak [true, true, true, false, true, true, false, false, false, false] (j13 v0 v1 (v2 * v7) (v4 - v6) (v5 + (1 : Int32)) h hF)
    · refine am_icmp_gt_f (pc' := 42) (tgt := 66) dX9_waysOf_39 rfl z1 rfl ?_
      refine am_lload (pc' := 44) dX9_waysOf_42 rfl rfl ?_
      refine am_iload (pc' := 46) dX9_waysOf_44 rfl rfl ?_
      refine am_iload (pc' := 48) dX9_waysOf_46 rfl rfl ?_
      refine am_isub (pc' := 49) dX9_waysOf_48 rfl ?_
      refine am_iload (pc' := 51) dX9_waysOf_49 rfl rfl ?_
      refine am_iadd (pc' := 52) dX9_waysOf_51 rfl ?_
      refine am_i2l (pc' := 53) dX9_waysOf_52 rfl ?_
      refine am_lmul (pc' := 54) dX9_waysOf_53 rfl ?_
      refine am_iload (pc' := 56) dX9_waysOf_54 rfl rfl ?_
      refine am_i2l (pc' := 57) dX9_waysOf_56 rfl ?_
      rcases am_ite hF with ⟨z2, hF⟩ | ⟨z2, hF⟩
      · cases hF
      refine am_ldiv (pc' := 58) dX9_waysOf_57 z2 rfl ?_
      refine am_lstore (ls' := [some (.ref v0), some (.int v1), some (.long v2), none, some (.int v4), some (.int v5), some (.int v6), some (.long ((v7 * (Int32.toInt64 ((v4 - v6) + v9))) / (Int32.toInt64 v9))), none, some (.int v9)]) (pc' := 60) dX9_waysOf_58 (Nat.le_of_ble_eq_true rfl) rfl rfl ?_
      refine am_iinc (ls' := [some (.ref v0), some (.int v1), some (.long v2), none, some (.int v4), some (.int v5), some (.int v6), some (.long ((v7 * (Int32.toInt64 ((v4 - v6) + v9))) / (Int32.toInt64 v9))), none, some (.int (v9 + (1 : Int32)))]) (pc' := 63) (v := (v9 + (1 : Int32))) dX9_waysOf_60 rfl rfl (Nat.le_of_ble_eq_true rfl) rfl rfl ?_
      refine am_goto (pc' := 35) dX9_waysOf_63 rfl ?_
      exact w_X9_waysOf_35 j13 n v0 v1 v2 v4 v5 v6 ((v7 * (Int32.toInt64 ((v4 - v6) + v9))) / (Int32.toInt64 v9)) (v9 + (1 : Int32)) h hF
def F_X9_waysOf_13 : Nat → Nat → Int32 → Int64 → Int32 → Int32 → am_H → Option Int64
  | 0, _, _, _, _, _, _ => none
  | n + 1, v0, v1, v2, v4, v5, h =>
  if (16 : Int32) ≤ v5 then
    some v2
  else
    (F_X9_often v0 v1 v5 h).bind fun x2 =>
    F_X9_waysOf_35 (F_X9_waysOf_13 n) am_F v0 v1 v2 v4 v5 x2 (1 : Int64) (1 : Int32) h
theorem w_X9_waysOf_13 {g : am_G} {l : Launch} {h0 : am_H} {x : Int64}  : ∀ (n : Nat) (v0 : Nat) (v1 : Int32) (v2 : Int64) (v4 : Int32) (v5 : Int32) (h : am_H), F_X9_waysOf_13 n v0 v1 v2 v4 v5 h = some x → am_W g l M_X9_waysOf h0 (some (.long x)) h 13 [some (.ref v0), some (.int v1), some (.long v2), none, some (.int v4), some (.int v5), none, none, none, none] [] h
  | 0, _, _, _, _, _, _, hF => by cases hF
  | n + 1, v0, v1, v2, v4, v5, h, hF => by
    rw [F_X9_waysOf_13] at hF
    refine am_iload (pc' := 15) dX9_waysOf_13 rfl rfl ?_
    refine am_bipush (v := (16 : Int32)) (pc' := 17) dX9_waysOf_15 rfl rfl ?_
    rcases am_ite hF with ⟨z1, hF⟩ | ⟨z1, hF⟩
    · refine am_icmp_ge_t (pc' := 84) dX9_waysOf_17 rfl z1 ?_
      refine am_lload_n (pc' := 85) dX9_waysOf_84 rfl rfl ?_
      cases hF
      exact am_lret dX9_waysOf_85 rfl
    · refine am_icmp_ge_f (pc' := 20) (tgt := 84) dX9_waysOf_17 rfl z1 rfl ?_
      refine am_aload_n (pc' := 21) dX9_waysOf_20 rfl rfl ?_
      refine am_iload_n (pc' := 22) dX9_waysOf_21 rfl rfl ?_
      refine am_iload (pc' := 24) dX9_waysOf_22 rfl rfl ?_
      obtain ⟨x2, ex2, hF⟩ := am_bind hF
      obtain ⟨ox2, px2⟩ := t_X9_often ex2
      refine am_callV1 (Mc := M_X9_often) (As := [.int v1, .int v5]) (st := []) (pc' := 27) dX9_waysOf_24 cw_X9_301 wd_6_45 sl_X9_often ⟨_, rfl, rfl⟩ (by decide) (by decide) rfl rfl (Nat.le_of_ble_eq_true rfl) px2 (c_X9_often ex2) rfl ?_
      refine am_istore (ls' := [some (.ref v0), some (.int v1), some (.long v2), none, some (.int v4), some (.int v5), some (.int x2), none, none, none]) (pc' := 29) dX9_waysOf_27 (Nat.le_of_ble_eq_true rfl) rfl rfl ?_
      refine am_lconst (v := (1 : Int64)) (pc' := 30) dX9_waysOf_29 rfl rfl ?_
      refine am_lstore (ls' := [some (.ref v0), some (.int v1), some (.long v2), none, some (.int v4), some (.int v5), some (.int x2), some (.long (1 : Int64)), none, none]) (pc' := 32) dX9_waysOf_30 (Nat.le_of_ble_eq_true rfl) rfl rfl ?_
      refine am_iconst (v := (1 : Int32)) (pc' := 33) dX9_waysOf_32 rfl rfl ?_
      refine am_istore (ls' := [some (.ref v0), some (.int v1), some (.long v2), none, some (.int v4), some (.int v5), some (.int x2), some (.long (1 : Int64)), none, some (.int (1 : Int32))]) (pc' := 35) dX9_waysOf_33 (Nat.le_of_ble_eq_true rfl) rfl rfl ?_
      exact w_X9_waysOf_35 (w_X9_waysOf_13 n) am_F v0 v1 v2 v4 v5 x2 (1 : Int64) (1 : Int32) h hF
def F_X9_waysOf_b (v0 : Nat) (v1 : Int32) (h : am_H) : Option Int64 :=
  (am_gr 9 3 v0 h).bind fun x1 =>
  (am_il 0 x1 v1 h).bind fun x2 =>
  F_X9_waysOf_13 am_F v0 v1 (1 : Int64) x2 (0 : Int32) h
theorem w_X9_waysOf {g : am_G} {l : Launch} {h0 : am_H} {x : Int64}  (v0 : Nat) (v1 : Int32) (h : am_H) (hF : F_X9_waysOf_b v0 v1 h = some x) : am_W g l M_X9_waysOf h0 (some (.long x)) h 0 [some (.ref v0), some (.int v1), none, none, none, none, none, none, none, none] [] h := by
  unfold F_X9_waysOf_b at hF
  refine am_lconst (v := (1 : Int64)) (pc' := 1) dX9_waysOf_0 rfl rfl ?_
  refine am_lstore_n (ls' := [some (.ref v0), some (.int v1), some (.long (1 : Int64)), none, none, none, none, none, none, none]) (pc' := 2) dX9_waysOf_1 (Nat.le_of_ble_eq_true rfl) rfl rfl ?_
  refine am_aload_n (pc' := 3) dX9_waysOf_2 rfl rfl ?_
  obtain ⟨x1, ex1, hF⟩ := am_bind hF
  refine am_getr (pc' := 6) dX9_waysOf_3 fw_X9_13 ex1 rfl ?_
  refine am_iload_n (pc' := 7) dX9_waysOf_6 rfl rfl ?_
  obtain ⟨x2, ex2, hF⟩ := am_bind hF
  refine am_iald (pc' := 8) dX9_waysOf_7 ex2 rfl ?_
  refine am_istore (ls' := [some (.ref v0), some (.int v1), some (.long (1 : Int64)), none, some (.int x2), none, none, none, none, none]) (pc' := 10) dX9_waysOf_8 (Nat.le_of_ble_eq_true rfl) rfl rfl ?_
  refine am_iconst (v := (0 : Int32)) (pc' := 11) dX9_waysOf_10 rfl rfl ?_
  refine am_istore (ls' := [some (.ref v0), some (.int v1), some (.long (1 : Int64)), none, some (.int x2), some (.int (0 : Int32)), none, none, none, none]) (pc' := 13) dX9_waysOf_11 (Nat.le_of_ble_eq_true rfl) rfl rfl ?_
  exact w_X9_waysOf_13 am_F v0 v1 (1 : Int64) x2 (0 : Int32) h hF
def F_X9_waysOf (v0 : Nat) (v1 : Int32) (h : am_H) : Option Int64 := (am_obj v0 9 h).bind fun _ => F_X9_waysOf_b v0 v1 h
theorem t_X9_waysOf {x : Int64}  {v0 : Nat} {v1 : Int32} {h : am_H} (hF : F_X9_waysOf v0 v1 h = some x) : ∃ fs, am_obj v0 9 h = some fs := by
  obtain ⟨fs, e, _⟩ := am_bind hF
  exact ⟨fs, e⟩
theorem c_X9_waysOf {g : am_G} {l : Launch} {x : Int64}  {v0 : Nat} {v1 : Int32} {h : am_H} (hF : F_X9_waysOf v0 v1 h = some x) : am_Met g l M_X9_waysOf [.ref v0, .int v1] h (some (.long x)) h := by
  obtain ⟨fs, e0, e⟩ := am_bind hF
  exact am_met (n := 8) (by decide +kernel) rfl (Nat.le_of_ble_eq_true rfl) (w_X9_waysOf v0 v1 h e)
theorem cw_X9_304 : am_cw "SignCellarModel" 304 M_X9_whyNoWays 1 := ⟨wd_1_9, wd_6_38, ⟨by decide, by decide, by decide⟩, Or.inl wd_6_35⟩
theorem cw_X9_307 : am_cw "SignCellarModel" 307 M_X9_waysOf 1 := ⟨wd_1_9, wd_6_42, ⟨by decide, by decide, by decide⟩, Or.inl wd_6_39⟩
theorem sl_X9_waysOf : Cond.selects (⟨"SignCellarModel", "waysOf", "(I)J"⟩ : MethodName).cls ⟨"SignCellarModel", "waysOf", "(I)J"⟩ ⟨"SignCellarModel", "waysOf", "(I)J"⟩ ∈ am_ts := am_in_p (q := (⟨"SignCellarModel", "waysOf", "(I)J"⟩, 42)) (by decide +kernel)
theorem sl_X9_whyNoWays : Cond.selects (⟨"SignCellarModel", "whyNoWays", "(I)I"⟩ : MethodName).cls ⟨"SignCellarModel", "whyNoWays", "(I)I"⟩ ⟨"SignCellarModel", "whyNoWays", "(I)I"⟩ ∈ am_ts := am_in_p (q := (⟨"SignCellarModel", "whyNoWays", "(I)I"⟩, 42)) (by decide +kernel)
def F_X9_ways_20 (s0 : Int64) (h : am_H) : Option Int64 :=
  some s0
theorem w_X9_ways_20 {g : am_G} {l : Launch} {h0 : am_H} {x : Int64}  (s0 : Int64) (h : am_H) (hF : F_X9_ways_20 s0 h = some x) : am_W g l M_X9_ways h0 (some (.long x)) h 20 [none, none, none] [.long s0] h := by
  unfold F_X9_ways_20 at hF
  cases hF
  exact am_lret dX9_ways_20 rfl
def F_X9_ways_b (v0 : Nat) (v1 : Int32) (h : am_H) : Option Int64 :=
  (F_X9_whyNoWays v0 v1 h).bind fun x1 =>
  if x1 = 0 then
    (F_X9_waysOf v0 v1 h).bind fun x3 =>
    F_X9_ways_20 x3 h
  else
    F_X9_ways_20 (Int32.toInt64 x1) h
theorem w_X9_ways {g : am_G} {l : Launch} {h0 : am_H} {x : Int64}  (v0 : Nat) (v1 : Int32) (h : am_H) (hF : F_X9_ways_b v0 v1 h = some x) : am_W g l M_X9_ways h0 (some (.long x)) h 0 [some (.ref v0), some (.int v1), none] [] h := by
  unfold F_X9_ways_b at hF
  refine am_aload_n (pc' := 1) dX9_ways_0 rfl rfl ?_
  refine am_iload_n (pc' := 2) dX9_ways_1 rfl rfl ?_
  obtain ⟨x1, ex1, hF⟩ := am_bind hF
  obtain ⟨ox1, px1⟩ := t_X9_whyNoWays ex1
  refine am_callV1 (Mc := M_X9_whyNoWays) (As := [.int v1]) (st := []) (pc' := 5) dX9_ways_2 cw_X9_304 wd_6_37 sl_X9_whyNoWays ⟨_, rfl, rfl⟩ (by decide) (by decide) rfl rfl (Nat.le_of_ble_eq_true rfl) px1 (c_X9_whyNoWays ex1) rfl ?_
  refine am_istore_n (ls' := [some (.ref v0), some (.int v1), some (.int x1)]) (pc' := 6) dX9_ways_5 (Nat.le_of_ble_eq_true rfl) rfl rfl ?_
  refine am_iload_n (pc' := 7) dX9_ways_6 rfl rfl ?_
  rcases am_ite hF with ⟨z2, hF⟩ | ⟨z2, hF⟩
  · refine am_if_eq_t (pc' := 15) dX9_ways_7 rfl z2 ?_
    refine am_aload_n (pc' := 16) dX9_ways_15 rfl rfl ?_
    refine am_iload_n (pc' := 17) dX9_ways_16 rfl rfl ?_
    obtain ⟨x3, ex3, hF⟩ := am_bind hF
    obtain ⟨ox3, px3⟩ := t_X9_waysOf ex3
    refine am_callV1 (Mc := M_X9_waysOf) (As := [.int v1]) (st := []) (pc' := 20) dX9_ways_17 cw_X9_307 wd_6_41 sl_X9_waysOf ⟨_, rfl, rfl⟩ (by decide) (by decide) rfl rfl (Nat.le_of_ble_eq_true rfl) px3 (c_X9_waysOf ex3) rfl ?_
    exact am_weak [false, false, false] (w_X9_ways_20 x3 h hF)
  · refine am_if_eq_f (pc' := 10) (tgt := 15) dX9_ways_7 rfl z2 rfl ?_
    refine am_iload_n (pc' := 11) dX9_ways_10 rfl rfl ?_
    refine am_i2l (pc' := 12) dX9_ways_11 rfl ?_
    refine am_goto (pc' := 20) dX9_ways_12 rfl ?_
    exact am_weak [false, false, false] (w_X9_ways_20 (Int32.toInt64 x1) h hF)
def F_X9_ways (v0 : Nat) (v1 : Int32) (h : am_H) : Option Int64 := (am_obj v0 9 h).bind fun _ => F_X9_ways_b v0 v1 h
theorem t_X9_ways {x : Int64}  {v0 : Nat} {v1 : Int32} {h : am_H} (hF : F_X9_ways v0 v1 h = some x) : ∃ fs, am_obj v0 9 h = some fs := by
  obtain ⟨fs, e, _⟩ := am_bind hF
  exact ⟨fs, e⟩
theorem c_X9_ways {g : am_G} {l : Launch} {x : Int64}  {v0 : Nat} {v1 : Int32} {h : am_H} (hF : F_X9_ways v0 v1 h = some x) : am_Met g l M_X9_ways [.ref v0, .int v1] h (some (.long x)) h := by
  obtain ⟨fs, e0, e⟩ := am_bind hF
  exact am_met (n := 1) (by decide +kernel) rfl (Nat.le_of_ble_eq_true rfl) (w_X9_ways v0 v1 h e)
def F_X8_bound_19 (v3 : Int32) (h : am_H) : Option Int32 :=
  some v3
theorem w_X8_bound_19 {g : am_G} {l : Launch} {h0 : am_H} {x : Int32}  (v3 : Int32) (h : am_H) (hF : F_X8_bound_19 v3 h = some x) : am_W g l M_X8_bound h0 (some (.int x)) h 19 [none, none, none, some (.int v3), none, none, none] [] h := by
  unfold F_X8_bound_19 at hF
  refine am_iload_n (pc' := 20) dX8_bound_19 rfl rfl ?_
  cases hF
  exact am_iret dX8_bound_20 rfl rfl
def F_X8_bound_56 (v6 : Int32) (h : am_H) : Option Int32 :=
  some v6
theorem w_X8_bound_56 {g : am_G} {l : Launch} {h0 : am_H} {x : Int32}  (v6 : Int32) (h : am_H) (hF : F_X8_bound_56 v6 h = some x) : am_W g l M_X8_bound h0 (some (.int x)) h 56 [none, none, none, none, none, none, some (.int v6)] [] h := by
  unfold F_X8_bound_56 at hF
  refine am_iload (pc' := 58) dX8_bound_56 rfl rfl ?_
  cases hF
  exact am_iret dX8_bound_58 rfl rfl
def F_X8_bound_33 : Nat → Int64 → Int32 → am_H → Option Int32
  | 0, _, _, _ => none
  | n + 1, v4, v6, h =>
  if (63 : Int32) ≤ v6 then
    F_X8_bound_56 v6 h
  else
    if 0 ≤ (lg_cmp ((1 : Int64) <<< (Int32.toInt64 v6 &&& 63)) v4) then
      F_X8_bound_56 v6 h
    else
      F_X8_bound_33 n v4 (v6 + (1 : Int32)) h
theorem w_X8_bound_33 {g : am_G} {l : Launch} {h0 : am_H} {x : Int32}  : ∀ (n : Nat) (v4 : Int64) (v6 : Int32) (h : am_H), F_X8_bound_33 n v4 v6 h = some x → am_W g l M_X8_bound h0 (some (.int x)) h 33 [none, none, none, none, some (.long v4), none, some (.int v6)] [] h
  | 0, _, _, _, hF => by cases hF
  | n + 1, v4, v6, h, hF => by
    rw [F_X8_bound_33] at hF
    refine am_iload (pc' := 35) dX8_bound_33 rfl rfl ?_
    refine am_bipush (v := (63 : Int32)) (pc' := 37) dX8_bound_35 rfl rfl ?_
    rcases am_ite hF with ⟨z1, hF⟩ | ⟨z1, hF⟩
    · refine am_icmp_ge_t (pc' := 56) dX8_bound_37 rfl z1 ?_
      exact am_weak [false, false, false, false, false, false, true] (w_X8_bound_56 v6 h hF)
    · refine am_icmp_ge_f (pc' := 40) (tgt := 56) dX8_bound_37 rfl z1 rfl ?_
      refine am_lconst (v := (1 : Int64)) (pc' := 41) dX8_bound_40 rfl rfl ?_
      refine am_iload (pc' := 43) dX8_bound_41 rfl rfl ?_
      refine am_lshl (pc' := 44) dX8_bound_43 rfl ?_
      refine am_lload (pc' := 46) dX8_bound_44 rfl rfl ?_
      refine am_lcmp (pc' := 47) dX8_bound_46 rfl ?_
      rcases am_ite hF with ⟨z2, hF⟩ | ⟨z2, hF⟩
      · refine am_if_ge_t (pc' := 56) dX8_bound_47 rfl z2 ?_
        exact am_weak [false, false, false, false, false, false, true] (w_X8_bound_56 v6 h hF)
      · refine am_if_ge_f (pc' := 50) (tgt := 56) dX8_bound_47 rfl z2 rfl ?_
        refine am_iinc (ls' := [none, none, none, none, some (.long v4), none, some (.int (v6 + (1 : Int32)))]) (pc' := 53) (v := (v6 + (1 : Int32))) dX8_bound_50 rfl rfl (Nat.le_of_ble_eq_true rfl) rfl rfl ?_
        refine am_goto (pc' := 33) dX8_bound_53 rfl ?_
        exact w_X8_bound_33 n v4 (v6 + (1 : Int32)) h hF
def F_X8_bound_b (v0 : Nat) (v1 : Int32) (h : am_H) : Option Int32 :=
  (F_X8_blockOf v0 v1 h).bind fun x1 =>
  (F_X8_refusalOfWays x1 h).bind fun x2 =>
  if x1 = 0 then
    F_X8_bound_19 x2 h
  else
    if x2 = 0 then
      (am_gr 0 0 x1 h).bind fun x5 =>
      (F_X8_waysOf x5 h).bind fun x6 =>
      F_X8_bound_33 am_F x6 (0 : Int32) h
    else
      F_X8_bound_19 x2 h
theorem w_X8_bound {g : am_G} {l : Launch} {h0 : am_H} {x : Int32}  (v0 : Nat) (v1 : Int32) (h : am_H) (hF : F_X8_bound_b v0 v1 h = some x) : am_W g l M_X8_bound h0 (some (.int x)) h 0 [some (.ref v0), some (.int v1), none, none, none, none, none] [] h := by
  unfold F_X8_bound_b at hF
  refine am_aload_n (pc' := 1) dX8_bound_0 rfl rfl ?_
  refine am_iload_n (pc' := 2) dX8_bound_1 rfl rfl ?_
  obtain ⟨x1, ex1, hF⟩ := am_bind hF
  obtain ⟨ox1, px1⟩ := t_X8_blockOf ex1
  refine am_callV1 (Mc := M_X8_blockOf) (As := [.int v1]) (st := []) (pc' := 5) dX8_bound_2 cw_X8_176 wd_2_33 sl_X8_blockOf ⟨_, rfl, rfl⟩ (by decide) (by decide) rfl rfl (Nat.le_of_ble_eq_true rfl) px1 (c_X8_blockOf ex1) rfl ?_
  refine am_astore_n (ls' := [some (.ref v0), some (.int v1), some (.ref x1), none, none, none, none]) (pc' := 6) dX8_bound_5 (Nat.le_of_ble_eq_true rfl) rfl rfl ?_
  refine am_aload_n (pc' := 7) dX8_bound_6 rfl rfl ?_
  obtain ⟨x2, ex2, hF⟩ := am_bind hF
  refine am_callS1 (Mc := M_X8_refusalOfWays) (As := [.ref x1]) (st := []) (pc' := 10) dX8_bound_7 cw_X8_318 wd_4_80 (by decide) (by decide) rfl rfl (Nat.le_of_ble_eq_true rfl) (c_X8_refusalOfWays ex2) rfl ?_
  refine am_istore_n (ls' := [some (.ref v0), some (.int v1), some (.ref x1), some (.int x2), none, none, none]) (pc' := 11) dX8_bound_10 (Nat.le_of_ble_eq_true rfl) rfl rfl ?_
  refine am_aload_n (pc' := 12) dX8_bound_11 rfl rfl ?_
  rcases am_ite hF with ⟨z3, hF⟩ | ⟨z3, hF⟩
  · refine am_ifnull_t (pc' := 19) dX8_bound_12 rfl z3 ?_
    exact am_weak [false, false, false, true, false, false, false] (w_X8_bound_19 x2 h hF)
  · refine am_ifnull_f (pc' := 15) dX8_bound_12 z3 rfl ?_
    refine am_iload_n (pc' := 16) dX8_bound_15 rfl rfl ?_
    rcases am_ite hF with ⟨z4, hF⟩ | ⟨z4, hF⟩
    · refine am_if_eq_t (pc' := 21) dX8_bound_16 rfl z4 ?_
      refine am_aload_n (pc' := 22) dX8_bound_21 rfl rfl ?_
      obtain ⟨x5, ex5, hF⟩ := am_bind hF
      refine am_getr (pc' := 25) dX8_bound_22 fw_X8_180 ex5 rfl ?_
      obtain ⟨x6, ex6, hF⟩ := am_bind hF
      refine am_callS1 (Mc := M_X8_waysOf) (As := [.ref x5]) (st := []) (pc' := 28) dX8_bound_25 cw_X8_322 wd_4_83 (by decide) (by decide) rfl rfl (Nat.le_of_ble_eq_true rfl) (c_X8_waysOf ex6) rfl ?_
      refine am_lstore (ls' := [some (.ref v0), some (.int v1), some (.ref x1), some (.int x2), some (.long x6), none, none]) (pc' := 30) dX8_bound_28 (Nat.le_of_ble_eq_true rfl) rfl rfl ?_
      refine am_iconst (v := (0 : Int32)) (pc' := 31) dX8_bound_30 rfl rfl ?_
      refine am_istore (ls' := [some (.ref v0), some (.int v1), some (.ref x1), some (.int x2), some (.long x6), none, some (.int (0 : Int32))]) (pc' := 33) dX8_bound_31 (Nat.le_of_ble_eq_true rfl) rfl rfl ?_
      exact am_weak [false, false, false, false, true, false, true] (w_X8_bound_33 am_F x6 (0 : Int32) h hF)
    · refine am_if_eq_f (pc' := 19) (tgt := 21) dX8_bound_16 rfl z4 rfl ?_
      exact am_weak [false, false, false, true, false, false, false] (w_X8_bound_19 x2 h hF)
def F_X8_bound (v0 : Nat) (v1 : Int32) (h : am_H) : Option Int32 := (am_obj v0 8 h).bind fun _ => F_X8_bound_b v0 v1 h
theorem t_X8_bound {x : Int32}  {v0 : Nat} {v1 : Int32} {h : am_H} (hF : F_X8_bound v0 v1 h = some x) : ∃ fs, am_obj v0 8 h = some fs := by
  obtain ⟨fs, e, _⟩ := am_bind hF
  exact ⟨fs, e⟩
theorem c_X8_bound {g : am_G} {l : Launch} {x : Int32}  {v0 : Nat} {v1 : Int32} {h : am_H} (hF : F_X8_bound v0 v1 h = some x) : am_Met g l M_X8_bound [.ref v0, .int v1] h (some (.int x)) h := by
  obtain ⟨fs, e0, e⟩ := am_bind hF
  exact am_met (n := 5) (by decide +kernel) rfl (Nat.le_of_ble_eq_true rfl) (w_X8_bound v0 v1 h e)
def F_X9_bound_38 (v3 : Int32) (h : am_H) : Option Int32 :=
  some v3
theorem w_X9_bound_38 {g : am_G} {l : Launch} {h0 : am_H} {x : Int32}  (v3 : Int32) (h : am_H) (hF : F_X9_bound_38 v3 h = some x) : am_W g l M_X9_bound h0 (some (.int x)) h 38 [none, none, none, some (.int v3)] [] h := by
  unfold F_X9_bound_38 at hF
  refine am_iload_n (pc' := 39) dX9_bound_38 rfl rfl ?_
  cases hF
  exact am_iret dX9_bound_39 rfl rfl
def F_X9_bound_14 : Nat → Nat → Int32 → Int32 → am_H → Option Int32
  | 0, _, _, _, _ => none
  | n + 1, v0, v1, v3, h =>
  if (62 : Int32) ≤ v3 then
    F_X9_bound_38 v3 h
  else
    (F_X9_waysOf v0 v1 h).bind fun x2 =>
    if 0 ≤ (lg_cmp ((1 : Int64) <<< (Int32.toInt64 v3 &&& 63)) x2) then
      F_X9_bound_38 v3 h
    else
      F_X9_bound_14 n v0 v1 (v3 + (1 : Int32)) h
theorem w_X9_bound_14 {g : am_G} {l : Launch} {h0 : am_H} {x : Int32}  : ∀ (n : Nat) (v0 : Nat) (v1 : Int32) (v3 : Int32) (h : am_H), F_X9_bound_14 n v0 v1 v3 h = some x → am_W g l M_X9_bound h0 (some (.int x)) h 14 [some (.ref v0), some (.int v1), none, some (.int v3)] [] h
  | 0, _, _, _, _, hF => by cases hF
  | n + 1, v0, v1, v3, h, hF => by
    rw [F_X9_bound_14] at hF
    refine am_iload_n (pc' := 15) dX9_bound_14 rfl rfl ?_
    refine am_bipush (v := (62 : Int32)) (pc' := 17) dX9_bound_15 rfl rfl ?_
    rcases am_ite hF with ⟨z1, hF⟩ | ⟨z1, hF⟩
    · refine am_icmp_ge_t (pc' := 38) dX9_bound_17 rfl z1 ?_
      exact am_weak [false, false, false, true] (w_X9_bound_38 v3 h hF)
    · refine am_icmp_ge_f (pc' := 20) (tgt := 38) dX9_bound_17 rfl z1 rfl ?_
      refine am_lconst (v := (1 : Int64)) (pc' := 21) dX9_bound_20 rfl rfl ?_
      refine am_iload_n (pc' := 22) dX9_bound_21 rfl rfl ?_
      refine am_lshl (pc' := 23) dX9_bound_22 rfl ?_
      refine am_aload_n (pc' := 24) dX9_bound_23 rfl rfl ?_
      refine am_iload_n (pc' := 25) dX9_bound_24 rfl rfl ?_
      obtain ⟨x2, ex2, hF⟩ := am_bind hF
      obtain ⟨ox2, px2⟩ := t_X9_waysOf ex2
      refine am_callV1 (Mc := M_X9_waysOf) (As := [.int v1]) (st := [.long ((1 : Int64) <<< (Int32.toInt64 v3 &&& 63))]) (pc' := 28) dX9_bound_25 cw_X9_307 wd_6_41 sl_X9_waysOf ⟨_, rfl, rfl⟩ (by decide) (by decide) rfl rfl (Nat.le_of_ble_eq_true rfl) px2 (c_X9_waysOf ex2) rfl ?_
      refine am_lcmp (pc' := 29) dX9_bound_28 rfl ?_
      rcases am_ite hF with ⟨z3, hF⟩ | ⟨z3, hF⟩
      · refine am_if_ge_t (pc' := 38) dX9_bound_29 rfl z3 ?_
        exact am_weak [false, false, false, true] (w_X9_bound_38 v3 h hF)
      · refine am_if_ge_f (pc' := 32) (tgt := 38) dX9_bound_29 rfl z3 rfl ?_
        refine am_iinc (ls' := [some (.ref v0), some (.int v1), none, some (.int (v3 + (1 : Int32)))]) (pc' := 35) (v := (v3 + (1 : Int32))) dX9_bound_32 rfl rfl (Nat.le_of_ble_eq_true rfl) rfl rfl ?_
        refine am_goto (pc' := 14) dX9_bound_35 rfl ?_
        exact w_X9_bound_14 n v0 v1 (v3 + (1 : Int32)) h hF
def F_X9_bound_b (v0 : Nat) (v1 : Int32) (h : am_H) : Option Int32 :=
  (F_X9_whyNoWays v0 v1 h).bind fun x1 =>
  if x1 = 0 then
    F_X9_bound_14 am_F v0 v1 (0 : Int32) h
  else
    some x1
theorem w_X9_bound {g : am_G} {l : Launch} {h0 : am_H} {x : Int32}  (v0 : Nat) (v1 : Int32) (h : am_H) (hF : F_X9_bound_b v0 v1 h = some x) : am_W g l M_X9_bound h0 (some (.int x)) h 0 [some (.ref v0), some (.int v1), none, none] [] h := by
  unfold F_X9_bound_b at hF
  refine am_aload_n (pc' := 1) dX9_bound_0 rfl rfl ?_
  refine am_iload_n (pc' := 2) dX9_bound_1 rfl rfl ?_
  obtain ⟨x1, ex1, hF⟩ := am_bind hF
  obtain ⟨ox1, px1⟩ := t_X9_whyNoWays ex1
  refine am_callV1 (Mc := M_X9_whyNoWays) (As := [.int v1]) (st := []) (pc' := 5) dX9_bound_2 cw_X9_304 wd_6_37 sl_X9_whyNoWays ⟨_, rfl, rfl⟩ (by decide) (by decide) rfl rfl (Nat.le_of_ble_eq_true rfl) px1 (c_X9_whyNoWays ex1) rfl ?_
  refine am_istore_n (ls' := [some (.ref v0), some (.int v1), some (.int x1), none]) (pc' := 6) dX9_bound_5 (Nat.le_of_ble_eq_true rfl) rfl rfl ?_
  refine am_iload_n (pc' := 7) dX9_bound_6 rfl rfl ?_
  rcases am_ite hF with ⟨z2, hF⟩ | ⟨z2, hF⟩
  · refine am_if_eq_t (pc' := 12) dX9_bound_7 rfl z2 ?_
    refine am_iconst (v := (0 : Int32)) (pc' := 13) dX9_bound_12 rfl rfl ?_
    refine am_istore_n (ls' := [some (.ref v0), some (.int v1), some (.int x1), some (.int (0 : Int32))]) (pc' := 14) dX9_bound_13 (Nat.le_of_ble_eq_true rfl) rfl rfl ?_
    exact am_weak [true, true, false, true] (w_X9_bound_14 am_F v0 v1 (0 : Int32) h hF)
  · refine am_if_eq_f (pc' := 10) (tgt := 12) dX9_bound_7 rfl z2 rfl ?_
    refine am_iload_n (pc' := 11) dX9_bound_10 rfl rfl ?_
    cases hF
    exact am_iret dX9_bound_11 rfl rfl
def F_X9_bound (v0 : Nat) (v1 : Int32) (h : am_H) : Option Int32 := (am_obj v0 9 h).bind fun _ => F_X9_bound_b v0 v1 h
theorem t_X9_bound {x : Int32}  {v0 : Nat} {v1 : Int32} {h : am_H} (hF : F_X9_bound v0 v1 h = some x) : ∃ fs, am_obj v0 9 h = some fs := by
  obtain ⟨fs, e, _⟩ := am_bind hF
  exact ⟨fs, e⟩
theorem c_X9_bound {g : am_G} {l : Launch} {x : Int32}  {v0 : Nat} {v1 : Int32} {h : am_H} (hF : F_X9_bound v0 v1 h = some x) : am_Met g l M_X9_bound [.ref v0, .int v1] h (some (.int x)) h := by
  obtain ⟨fs, e0, e⟩ := am_bind hF
  exact am_met (n := 2) (by decide +kernel) rfl (Nat.le_of_ble_eq_true rfl) (w_X9_bound v0 v1 h e)
def F_X8_entropy_61 (s0 : Int32) (h : am_H) : Option Int32 :=
  some s0
theorem w_X8_entropy_61 {g : am_G} {l : Launch} {h0 : am_H} {x : Int32}  (s0 : Int32) (h : am_H) (hF : F_X8_entropy_61 s0 h = some x) : am_W g l M_X8_entropy h0 (some (.int x)) h 61 [none, none, none, none] [.int s0] h := by
  unfold F_X8_entropy_61 at hF
  cases hF
  exact am_iret dX8_entropy_61 rfl rfl
def F_X8_entropy_28 (v2 : Int32) (v3 : Nat) (h : am_H) : Option Int32 :=
  (am_gi 0 3 v3 h).bind fun x1 =>
  if x1 = 0 then
    if v2 = (-1 : Int32) then
      (am_gr 0 0 v3 h).bind fun x4 =>
      (F_X4_length x4 h).bind fun x5 =>
      F_X8_entropy_61 x5 h
    else
      (am_gr 0 0 v3 h).bind fun x6 =>
      (F_X4_times x6 v2 h).bind fun x7 =>
      F_X8_entropy_61 x7 h
  else
    some (-100005 : Int32)
theorem w_X8_entropy_28 {g : am_G} {l : Launch} {h0 : am_H} {x : Int32}  (v2 : Int32) (v3 : Nat) (h : am_H) (hF : F_X8_entropy_28 v2 v3 h = some x) : am_W g l M_X8_entropy h0 (some (.int x)) h 28 [none, none, some (.int v2), some (.ref v3)] [] h := by
  unfold F_X8_entropy_28 at hF
  refine am_aload_n (pc' := 29) dX8_entropy_28 rfl rfl ?_
  obtain ⟨x1, ex1, hF⟩ := am_bind hF
  refine am_geti (pc' := 32) dX8_entropy_29 fw_X8_182 ex1 rfl ?_
  rcases am_ite hF with ⟨z2, hF⟩ | ⟨z2, hF⟩
  · refine am_if_eq_t (pc' := 38) dX8_entropy_32 rfl z2 ?_
    refine am_iload_n (pc' := 39) dX8_entropy_38 rfl rfl ?_
    refine am_iconst (v := (-1 : Int32)) (pc' := 40) dX8_entropy_39 rfl rfl ?_
    rcases am_ite hF with ⟨z3, hF⟩ | ⟨z3, hF⟩
    · refine am_icmp_ne_f (pc' := 43) (tgt := 53) dX8_entropy_40 rfl z3 rfl ?_
      refine am_aload_n (pc' := 44) dX8_entropy_43 rfl rfl ?_
      obtain ⟨x4, ex4, hF⟩ := am_bind hF
      refine am_getr (pc' := 47) dX8_entropy_44 fw_X8_180 ex4 rfl ?_
      obtain ⟨x5, ex5, hF⟩ := am_bind hF
      obtain ⟨ox5, px5⟩ := t_X4_length ex5
      refine am_callV1 (Mc := M_X4_length) (As := []) (st := []) (pc' := 50) dX8_entropy_47 cw_X8_93 wd_1_235 wd_1_236 ⟨_, rfl, rfl⟩ (by decide) (by decide) rfl rfl (Nat.le_of_ble_eq_true rfl) px5 (c_X4_length ex5) rfl ?_
      refine am_goto (pc' := 61) dX8_entropy_50 rfl ?_
      exact am_weak [false, false, false, false] (w_X8_entropy_61 x5 h hF)
    · refine am_icmp_ne_t (pc' := 53) dX8_entropy_40 rfl z3 ?_
      refine am_aload_n (pc' := 54) dX8_entropy_53 rfl rfl ?_
      obtain ⟨x6, ex6, hF⟩ := am_bind hF
      refine am_getr (pc' := 57) dX8_entropy_54 fw_X8_180 ex6 rfl ?_
      refine am_iload_n (pc' := 58) dX8_entropy_57 rfl rfl ?_
      obtain ⟨x7, ex7, hF⟩ := am_bind hF
      obtain ⟨ox7, px7⟩ := t_X4_times ex7
      refine am_callV1 (Mc := M_X4_times) (As := [.int v2]) (st := []) (pc' := 61) dX8_entropy_58 cw_X8_326 wd_3_52 wd_3_53 ⟨_, rfl, rfl⟩ (by decide) (by decide) rfl rfl (Nat.le_of_ble_eq_true rfl) px7 (c_X4_times ex7) rfl ?_
      exact am_weak [false, false, false, false] (w_X8_entropy_61 x7 h hF)
  · refine am_if_eq_f (pc' := 35) (tgt := 38) dX8_entropy_32 rfl z2 rfl ?_
    refine am_ldc (v := (-100005 : Int32)) (pc' := 37) dX8_entropy_35 wd_2_153 rfl ?_
    cases hF
    exact am_iret dX8_entropy_37 rfl rfl
def F_X8_entropy_b (v0 : Nat) (v1 : Int32) (v2 : Int32) (h : am_H) : Option Int32 :=
  (F_X8_blockOf v0 v1 h).bind fun x1 =>
  if x1 = 0 then
    some (-100001 : Int32)
  else
    if v2 = (-1 : Int32) then
      F_X8_entropy_28 v2 x1 h
    else
      (F_X8_isSign v2 h).bind fun x4 =>
      if x4 = 0 then
        some (-100002 : Int32)
      else
        F_X8_entropy_28 v2 x1 h
theorem w_X8_entropy {g : am_G} {l : Launch} {h0 : am_H} {x : Int32}  (v0 : Nat) (v1 : Int32) (v2 : Int32) (h : am_H) (hF : F_X8_entropy_b v0 v1 v2 h = some x) : am_W g l M_X8_entropy h0 (some (.int x)) h 0 [some (.ref v0), some (.int v1), some (.int v2), none] [] h := by
  unfold F_X8_entropy_b at hF
  refine am_aload_n (pc' := 1) dX8_entropy_0 rfl rfl ?_
  refine am_iload_n (pc' := 2) dX8_entropy_1 rfl rfl ?_
  obtain ⟨x1, ex1, hF⟩ := am_bind hF
  obtain ⟨ox1, px1⟩ := t_X8_blockOf ex1
  refine am_callV1 (Mc := M_X8_blockOf) (As := [.int v1]) (st := []) (pc' := 5) dX8_entropy_2 cw_X8_176 wd_2_33 sl_X8_blockOf ⟨_, rfl, rfl⟩ (by decide) (by decide) rfl rfl (Nat.le_of_ble_eq_true rfl) px1 (c_X8_blockOf ex1) rfl ?_
  refine am_astore_n (ls' := [some (.ref v0), some (.int v1), some (.int v2), some (.ref x1)]) (pc' := 6) dX8_entropy_5 (Nat.le_of_ble_eq_true rfl) rfl rfl ?_
  refine am_aload_n (pc' := 7) dX8_entropy_6 rfl rfl ?_
  rcases am_ite hF with ⟨z2, hF⟩ | ⟨z2, hF⟩
  · refine am_ifnonnull_f (pc' := 10) dX8_entropy_7 z2 rfl ?_
    refine am_ldc (v := (-100001 : Int32)) (pc' := 12) dX8_entropy_10 wd_2_137 rfl ?_
    cases hF
    exact am_iret dX8_entropy_12 rfl rfl
  · refine am_ifnonnull_t (pc' := 13) dX8_entropy_7 rfl z2 ?_
    refine am_iload_n (pc' := 14) dX8_entropy_13 rfl rfl ?_
    refine am_iconst (v := (-1 : Int32)) (pc' := 15) dX8_entropy_14 rfl rfl ?_
    rcases am_ite hF with ⟨z3, hF⟩ | ⟨z3, hF⟩
    · refine am_icmp_eq_t (pc' := 28) dX8_entropy_15 rfl z3 ?_
      exact am_weak [false, false, true, true] (w_X8_entropy_28 v2 x1 h hF)
    · refine am_icmp_eq_f (pc' := 18) (tgt := 28) dX8_entropy_15 rfl z3 rfl ?_
      refine am_iload_n (pc' := 19) dX8_entropy_18 rfl rfl ?_
      obtain ⟨x4, ex4, hF⟩ := am_bind hF
      refine am_callS1 (Mc := M_X8_isSign) (As := [.int v2]) (st := []) (pc' := 22) dX8_entropy_19 cw_X8_134 wd_2_139 (by decide) (by decide) rfl rfl (Nat.le_of_ble_eq_true rfl) (c_X8_isSign ex4) rfl ?_
      rcases am_ite hF with ⟨z5, hF⟩ | ⟨z5, hF⟩
      · refine am_if_ne_f (pc' := 25) (tgt := 28) dX8_entropy_22 rfl z5 rfl ?_
        refine am_ldc (v := (-100002 : Int32)) (pc' := 27) dX8_entropy_25 wd_1_233 rfl ?_
        cases hF
        exact am_iret dX8_entropy_27 rfl rfl
      · refine am_if_ne_t (pc' := 28) dX8_entropy_22 rfl z5 ?_
        exact am_weak [false, false, true, true] (w_X8_entropy_28 v2 x1 h hF)
def F_X8_entropy (v0 : Nat) (v1 : Int32) (v2 : Int32) (h : am_H) : Option Int32 := (am_obj v0 8 h).bind fun _ => F_X8_entropy_b v0 v1 v2 h
theorem t_X8_entropy {x : Int32}  {v0 : Nat} {v1 : Int32} {v2 : Int32} {h : am_H} (hF : F_X8_entropy v0 v1 v2 h = some x) : ∃ fs, am_obj v0 8 h = some fs := by
  obtain ⟨fs, e, _⟩ := am_bind hF
  exact ⟨fs, e⟩
theorem c_X8_entropy {g : am_G} {l : Launch} {x : Int32}  {v0 : Nat} {v1 : Int32} {v2 : Int32} {h : am_H} (hF : F_X8_entropy v0 v1 v2 h = some x) : am_Met g l M_X8_entropy [.ref v0, .int v1, .int v2] h (some (.int x)) h := by
  obtain ⟨fs, e0, e⟩ := am_bind hF
  exact am_met (n := 1) (by decide +kernel) rfl (Nat.le_of_ble_eq_true rfl) (w_X8_entropy v0 v1 v2 h e)
def F_X9_entropy_61 (s0 : Int32) (h : am_H) : Option Int32 :=
  some s0
theorem w_X9_entropy_61 {g : am_G} {l : Launch} {h0 : am_H} {x : Int32}  (s0 : Int32) (h : am_H) (hF : F_X9_entropy_61 s0 h = some x) : am_W g l M_X9_entropy h0 (some (.int x)) h 61 [none, none, none] [.int s0] h := by
  unfold F_X9_entropy_61 at hF
  cases hF
  exact am_iret dX9_entropy_61 rfl rfl
def F_X9_entropy_b (v0 : Nat) (v1 : Int32) (v2 : Int32) (h : am_H) : Option Int32 :=
  (F_X9_noBlock v0 v1 h).bind fun x1 =>
  if x1 = 0 then
    (F_X9_in (Int32.toInt64 v2) (-1 : Int64) (15 : Int64) h).bind fun x3 =>
    if x3 = 0 then
      some (-100002 : Int32)
    else
      (am_gr 9 5 v0 h).bind fun x5 =>
      (am_il 1 x5 v1 h).bind fun x6 =>
      if x6 = 0 then
        if 0 ≤ v2 then
          (F_X9_often v0 v1 v2 h).bind fun x9 =>
          F_X9_entropy_61 x9 h
        else
          (am_gr 9 3 v0 h).bind fun x10 =>
          (am_il 0 x10 v1 h).bind fun x11 =>
          F_X9_entropy_61 x11 h
      else
        F_X9_entropy_61 (-100005 : Int32) h
  else
    some (-100001 : Int32)
theorem w_X9_entropy {g : am_G} {l : Launch} {h0 : am_H} {x : Int32}  (v0 : Nat) (v1 : Int32) (v2 : Int32) (h : am_H) (hF : F_X9_entropy_b v0 v1 v2 h = some x) : am_W g l M_X9_entropy h0 (some (.int x)) h 0 [some (.ref v0), some (.int v1), some (.int v2)] [] h := by
  unfold F_X9_entropy_b at hF
  refine am_aload_n (pc' := 1) dX9_entropy_0 rfl rfl ?_
  refine am_iload_n (pc' := 2) dX9_entropy_1 rfl rfl ?_
  obtain ⟨x1, ex1, hF⟩ := am_bind hF
  obtain ⟨ox1, px1⟩ := t_X9_noBlock ex1
  refine am_callV1 (Mc := M_X9_noBlock) (As := [.int v1]) (st := []) (pc' := 5) dX9_entropy_2 cw_X9_184 wd_5_98 sl_X9_noBlock ⟨_, rfl, rfl⟩ (by decide) (by decide) rfl rfl (Nat.le_of_ble_eq_true rfl) px1 (c_X9_noBlock ex1) rfl ?_
  rcases am_ite hF with ⟨z2, hF⟩ | ⟨z2, hF⟩
  · refine am_if_eq_t (pc' := 11) dX9_entropy_5 rfl z2 ?_
    refine am_iload_n (pc' := 12) dX9_entropy_11 rfl rfl ?_
    refine am_i2l (pc' := 13) dX9_entropy_12 rfl ?_
    refine am_ldc2 (v := (-1 : Int64)) (pc' := 16) dX9_entropy_13 wd_6_55 rfl ?_
    refine am_ldc2 (v := (15 : Int64)) (pc' := 19) dX9_entropy_16 wd_4_232 rfl ?_
    obtain ⟨x3, ex3, hF⟩ := am_bind hF
    refine am_callS1 (Mc := M_X9_in) (As := [.long (Int32.toInt64 v2), .long (-1 : Int64), .long (15 : Int64)]) (st := []) (pc' := 22) dX9_entropy_19 cw_X9_96 wd_4_234 (by decide) (by decide) rfl rfl (Nat.le_of_ble_eq_true rfl) (c_X9_in ex3) rfl ?_
    rcases am_ite hF with ⟨z4, hF⟩ | ⟨z4, hF⟩
    · refine am_if_ne_f (pc' := 25) (tgt := 28) dX9_entropy_22 rfl z4 rfl ?_
      refine am_ldc (v := (-100002 : Int32)) (pc' := 27) dX9_entropy_25 wd_4_236 rfl ?_
      cases hF
      exact am_iret dX9_entropy_27 rfl rfl
    · refine am_if_ne_t (pc' := 28) dX9_entropy_22 rfl z4 ?_
      refine am_aload_n (pc' := 29) dX9_entropy_28 rfl rfl ?_
      obtain ⟨x5, ex5, hF⟩ := am_bind hF
      refine am_getr (pc' := 32) dX9_entropy_29 fw_X9_19 ex5 rfl ?_
      refine am_iload_n (pc' := 33) dX9_entropy_32 rfl rfl ?_
      obtain ⟨x6, ex6, hF⟩ := am_bind hF
      refine am_bald (pc' := 34) dX9_entropy_33 ex6 rfl ?_
      rcases am_ite hF with ⟨z7, hF⟩ | ⟨z7, hF⟩
      · refine am_if_eq_t (pc' := 42) dX9_entropy_34 rfl z7 ?_
        refine am_iload_n (pc' := 43) dX9_entropy_42 rfl rfl ?_
        rcases am_ite hF with ⟨z8, hF⟩ | ⟨z8, hF⟩
        · refine am_if_ge_t (pc' := 55) dX9_entropy_43 rfl z8 ?_
          refine am_aload_n (pc' := 56) dX9_entropy_55 rfl rfl ?_
          refine am_iload_n (pc' := 57) dX9_entropy_56 rfl rfl ?_
          refine am_iload_n (pc' := 58) dX9_entropy_57 rfl rfl ?_
          obtain ⟨x9, ex9, hF⟩ := am_bind hF
          obtain ⟨ox9, px9⟩ := t_X9_often ex9
          refine am_callV1 (Mc := M_X9_often) (As := [.int v1, .int v2]) (st := []) (pc' := 61) dX9_entropy_58 cw_X9_301 wd_6_45 sl_X9_often ⟨_, rfl, rfl⟩ (by decide) (by decide) rfl rfl (Nat.le_of_ble_eq_true rfl) px9 (c_X9_often ex9) rfl ?_
          exact am_weak [false, false, false] (w_X9_entropy_61 x9 h hF)
        · refine am_if_ge_f (pc' := 46) (tgt := 55) dX9_entropy_43 rfl z8 rfl ?_
          refine am_aload_n (pc' := 47) dX9_entropy_46 rfl rfl ?_
          obtain ⟨x10, ex10, hF⟩ := am_bind hF
          refine am_getr (pc' := 50) dX9_entropy_47 fw_X9_13 ex10 rfl ?_
          refine am_iload_n (pc' := 51) dX9_entropy_50 rfl rfl ?_
          obtain ⟨x11, ex11, hF⟩ := am_bind hF
          refine am_iald (pc' := 52) dX9_entropy_51 ex11 rfl ?_
          refine am_goto (pc' := 61) dX9_entropy_52 rfl ?_
          exact am_weak [false, false, false] (w_X9_entropy_61 x11 h hF)
      · refine am_if_eq_f (pc' := 37) (tgt := 42) dX9_entropy_34 rfl z7 rfl ?_
        refine am_ldc (v := (-100005 : Int32)) (pc' := 39) dX9_entropy_37 wd_5_55 rfl ?_
        refine am_goto (pc' := 61) dX9_entropy_39 rfl ?_
        exact am_weak [false, false, false] (w_X9_entropy_61 (-100005 : Int32) h hF)
  · refine am_if_eq_f (pc' := 8) (tgt := 11) dX9_entropy_5 rfl z2 rfl ?_
    refine am_ldc (v := (-100001 : Int32)) (pc' := 10) dX9_entropy_8 wd_5_47 rfl ?_
    cases hF
    exact am_iret dX9_entropy_10 rfl rfl
def F_X9_entropy (v0 : Nat) (v1 : Int32) (v2 : Int32) (h : am_H) : Option Int32 := (am_obj v0 9 h).bind fun _ => F_X9_entropy_b v0 v1 v2 h
theorem t_X9_entropy {x : Int32}  {v0 : Nat} {v1 : Int32} {v2 : Int32} {h : am_H} (hF : F_X9_entropy v0 v1 v2 h = some x) : ∃ fs, am_obj v0 9 h = some fs := by
  obtain ⟨fs, e, _⟩ := am_bind hF
  exact ⟨fs, e⟩
theorem c_X9_entropy {g : am_G} {l : Launch} {x : Int32}  {v0 : Nat} {v1 : Int32} {v2 : Int32} {h : am_H} (hF : F_X9_entropy v0 v1 v2 h = some x) : am_Met g l M_X9_entropy [.ref v0, .int v1, .int v2] h (some (.int x)) h := by
  obtain ⟨fs, e0, e⟩ := am_bind hF
  exact am_met (n := 0) (by decide +kernel) rfl (Nat.le_of_ble_eq_true rfl) (w_X9_entropy v0 v1 v2 h e)
