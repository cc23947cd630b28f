abbrev M_X9_takeSigns : am_M := ((⟨"SignCellarModel", "takeSigns", "(I)V"⟩ : MethodName), prog_11_method_20_code, 3, none, 1, 22)
theorem dX9_takeSigns_0 : decode prog_11_method_20_code 0 = .ok (.aload_n 0, 1) := by decide +kernel
theorem dX9_takeSigns_1 : decode prog_11_method_20_code 1 = .ok (.aload_n 0, 1) := by decide +kernel
theorem dX9_takeSigns_2 : decode prog_11_method_20_code 2 = .ok (.getfield 13, 3) := by decide +kernel
theorem dX9_takeSigns_5 : decode prog_11_method_20_code 5 = .ok (.iload_n 1, 1) := by decide +kernel
theorem dX9_takeSigns_6 : decode prog_11_method_20_code 6 = .ok (.iaload, 1) := by decide +kernel
theorem dX9_takeSigns_7 : decode prog_11_method_20_code 7 = .ok (.putfield 110, 3) := by decide +kernel
theorem dX9_takeSigns_10 : decode prog_11_method_20_code 10 = .ok (.iconst 0, 1) := by decide +kernel
theorem dX9_takeSigns_11 : decode prog_11_method_20_code 11 = .ok (.istore_n 2, 1) := by decide +kernel
theorem dX9_takeSigns_12 : decode prog_11_method_20_code 12 = .ok (.iload_n 2, 1) := by decide +kernel
theorem dX9_takeSigns_13 : decode prog_11_method_20_code 13 = .ok (.aload_n 0, 1) := by decide +kernel
theorem dX9_takeSigns_14 : decode prog_11_method_20_code 14 = .ok (.getfield 110, 3) := by decide +kernel
theorem dX9_takeSigns_17 : decode prog_11_method_20_code 17 = .ok (.if_icmp .ge 21, 3) := by decide +kernel
theorem dX9_takeSigns_20 : decode prog_11_method_20_code 20 = .ok (.aload_n 0, 1) := by decide +kernel
theorem dX9_takeSigns_21 : decode prog_11_method_20_code 21 = .ok (.getfield 41, 3) := by decide +kernel
theorem dX9_takeSigns_24 : decode prog_11_method_20_code 24 = .ok (.iload_n 2, 1) := by decide +kernel
theorem dX9_takeSigns_25 : decode prog_11_method_20_code 25 = .ok (.aload_n 0, 1) := by decide +kernel
theorem dX9_takeSigns_26 : decode prog_11_method_20_code 26 = .ok (.iload_n 1, 1) := by decide +kernel
theorem dX9_takeSigns_27 : decode prog_11_method_20_code 27 = .ok (.iload_n 2, 1) := by decide +kernel
theorem dX9_takeSigns_28 : decode prog_11_method_20_code 28 = .ok (.invokevirtual 113, 3) := by decide +kernel
theorem dX9_takeSigns_31 : decode prog_11_method_20_code 31 = .ok (.iastore, 1) := by decide +kernel
theorem dX9_takeSigns_32 : decode prog_11_method_20_code 32 = .ok (.iinc 2 1, 3) := by decide +kernel
theorem dX9_takeSigns_35 : decode prog_11_method_20_code 35 = .ok (.goto (-23), 3) := by decide +kernel
theorem dX9_takeSigns_38 : decode prog_11_method_20_code 38 = .ok (.return_, 1) := by decide +kernel
abbrev M_X9_change : am_M := ((⟨"SignCellarModel", "change", "(III)I"⟩ : MethodName), prog_11_method_22_code, 5, (some .int), 3, 69)
theorem dX9_change_0 : decode prog_11_method_22_code 0 = .ok (.aload_n 0, 1) := by decide +kernel
theorem dX9_change_1 : decode prog_11_method_22_code 1 = .ok (.iload_n 1, 1) := by decide +kernel
theorem dX9_change_2 : decode prog_11_method_22_code 2 = .ok (.iload_n 2, 1) := by decide +kernel
theorem dX9_change_3 : decode prog_11_method_22_code 3 = .ok (.iconst 0, 1) := by decide +kernel
theorem dX9_change_4 : decode prog_11_method_22_code 4 = .ok (.invokevirtual 160, 3) := by decide +kernel
theorem dX9_change_7 : decode prog_11_method_22_code 7 = .ok (.ifCond .eq 6, 3) := by decide +kernel
theorem dX9_change_10 : decode prog_11_method_22_code 10 = .ok (.ldc 164, 2) := by decide +kernel
theorem dX9_change_12 : decode prog_11_method_22_code 12 = .ok (.ireturn, 1) := by decide +kernel
theorem dX9_change_13 : decode prog_11_method_22_code 13 = .ok (.iload_n 3, 1) := by decide +kernel
theorem dX9_change_14 : decode prog_11_method_22_code 14 = .ok (.i2l, 1) := by decide +kernel
theorem dX9_change_15 : decode prog_11_method_22_code 15 = .ok (.lconst 0, 1) := by decide +kernel
theorem dX9_change_16 : decode prog_11_method_22_code 16 = .ok (.ldc2_w 103, 3) := by decide +kernel
theorem dX9_change_19 : decode prog_11_method_22_code 19 = .ok (.invokestatic 96, 3) := by decide +kernel
theorem dX9_change_22 : decode prog_11_method_22_code 22 = .ok (.ifCond .ne 6, 3) := by decide +kernel
theorem dX9_change_25 : decode prog_11_method_22_code 25 = .ok (.ldc 105, 2) := by decide +kernel
theorem dX9_change_27 : decode prog_11_method_22_code 27 = .ok (.ireturn, 1) := by decide +kernel
theorem dX9_change_28 : decode prog_11_method_22_code 28 = .ok (.aload_n 0, 1) := by decide +kernel
theorem dX9_change_29 : decode prog_11_method_22_code 29 = .ok (.iconst 1, 1) := by decide +kernel
theorem dX9_change_30 : decode prog_11_method_22_code 30 = .ok (.invokevirtual 128, 3) := by decide +kernel
theorem dX9_change_33 : decode prog_11_method_22_code 33 = .ok (.ifCond .eq 6, 3) := by decide +kernel
theorem dX9_change_36 : decode prog_11_method_22_code 36 = .ok (.ldc 109, 2) := by decide +kernel
theorem dX9_change_38 : decode prog_11_method_22_code 38 = .ok (.ireturn, 1) := by decide +kernel
theorem dX9_change_39 : decode prog_11_method_22_code 39 = .ok (.aload_n 0, 1) := by decide +kernel
theorem dX9_change_40 : decode prog_11_method_22_code 40 = .ok (.iload_n 1, 1) := by decide +kernel
theorem dX9_change_41 : decode prog_11_method_22_code 41 = .ok (.invokevirtual 165, 3) := by decide +kernel
theorem dX9_change_44 : decode prog_11_method_22_code 44 = .ok (.ifCond .le 6, 3) := by decide +kernel
theorem dX9_change_47 : decode prog_11_method_22_code 47 = .ok (.ldc 168, 2) := by decide +kernel
theorem dX9_change_49 : decode prog_11_method_22_code 49 = .ok (.ireturn, 1) := by decide +kernel
theorem dX9_change_50 : decode prog_11_method_22_code 50 = .ok (.aload_n 0, 1) := by decide +kernel
theorem dX9_change_51 : decode prog_11_method_22_code 51 = .ok (.iload_n 1, 1) := by decide +kernel
theorem dX9_change_52 : decode prog_11_method_22_code 52 = .ok (.iload_n 2, 1) := by decide +kernel
theorem dX9_change_53 : decode prog_11_method_22_code 53 = .ok (.invokevirtual 169, 3) := by decide +kernel
theorem dX9_change_56 : decode prog_11_method_22_code 56 = .ok (.aload_n 0, 1) := by decide +kernel
theorem dX9_change_57 : decode prog_11_method_22_code 57 = .ok (.getfield 144, 3) := by decide +kernel
theorem dX9_change_60 : decode prog_11_method_22_code 60 = .ok (.istore 4, 2) := by decide +kernel
theorem dX9_change_62 : decode prog_11_method_22_code 62 = .ok (.aload_n 0, 1) := by decide +kernel
theorem dX9_change_63 : decode prog_11_method_22_code 63 = .ok (.invokevirtual 131, 3) := by decide +kernel
theorem dX9_change_66 : decode prog_11_method_22_code 66 = .ok (.aload_n 0, 1) := by decide +kernel
theorem dX9_change_67 : decode prog_11_method_22_code 67 = .ok (.iload_n 1, 1) := by decide +kernel
theorem dX9_change_68 : decode prog_11_method_22_code 68 = .ok (.iconst 0, 1) := by decide +kernel
theorem dX9_change_69 : decode prog_11_method_22_code 69 = .ok (.iload 4, 2) := by decide +kernel
theorem dX9_change_71 : decode prog_11_method_22_code 71 = .ok (.invokevirtual 173, 3) := by decide +kernel
theorem dX9_change_74 : decode prog_11_method_22_code 74 = .ok (.aload_n 0, 1) := by decide +kernel
theorem dX9_change_75 : decode prog_11_method_22_code 75 = .ok (.aload_n 0, 1) := by decide +kernel
theorem dX9_change_76 : decode prog_11_method_22_code 76 = .ok (.iload_n 1, 1) := by decide +kernel
theorem dX9_change_77 : decode prog_11_method_22_code 77 = .ok (.iload 4, 2) := by decide +kernel
theorem dX9_change_79 : decode prog_11_method_22_code 79 = .ok (.invokevirtual 141, 3) := by decide +kernel
theorem dX9_change_82 : decode prog_11_method_22_code 82 = .ok (.invokevirtual 177, 3) := by decide +kernel
theorem dX9_change_85 : decode prog_11_method_22_code 85 = .ok (.aload_n 0, 1) := by decide +kernel
theorem dX9_change_86 : decode prog_11_method_22_code 86 = .ok (.getfield 41, 3) := by decide +kernel
theorem dX9_change_89 : decode prog_11_method_22_code 89 = .ok (.aload_n 0, 1) := by decide +kernel
theorem dX9_change_90 : decode prog_11_method_22_code 90 = .ok (.getfield 147, 3) := by decide +kernel
theorem dX9_change_93 : decode prog_11_method_22_code 93 = .ok (.iload_n 3, 1) := by decide +kernel
theorem dX9_change_94 : decode prog_11_method_22_code 94 = .ok (.iastore, 1) := by decide +kernel
theorem dX9_change_95 : decode prog_11_method_22_code 95 = .ok (.aload_n 0, 1) := by decide +kernel
theorem dX9_change_96 : decode prog_11_method_22_code 96 = .ok (.invokevirtual 134, 3) := by decide +kernel
theorem dX9_change_99 : decode prog_11_method_22_code 99 = .ok (.aload_n 0, 1) := by decide +kernel
theorem dX9_change_100 : decode prog_11_method_22_code 100 = .ok (.iload_n 1, 1) := by decide +kernel
theorem dX9_change_101 : decode prog_11_method_22_code 101 = .ok (.iload 4, 2) := by decide +kernel
theorem dX9_change_103 : decode prog_11_method_22_code 103 = .ok (.iconst 1, 1) := by decide +kernel
theorem dX9_change_104 : decode prog_11_method_22_code 104 = .ok (.iadd, 1) := by decide +kernel
theorem dX9_change_105 : decode prog_11_method_22_code 105 = .ok (.aload_n 0, 1) := by decide +kernel
theorem dX9_change_106 : decode prog_11_method_22_code 106 = .ok (.getfield 23, 3) := by decide +kernel
theorem dX9_change_109 : decode prog_11_method_22_code 109 = .ok (.iload_n 1, 1) := by decide +kernel
theorem dX9_change_110 : decode prog_11_method_22_code 110 = .ok (.iaload, 1) := by decide +kernel
theorem dX9_change_111 : decode prog_11_method_22_code 111 = .ok (.invokevirtual 173, 3) := by decide +kernel
theorem dX9_change_114 : decode prog_11_method_22_code 114 = .ok (.aload_n 0, 1) := by decide +kernel
theorem dX9_change_115 : decode prog_11_method_22_code 115 = .ok (.iload_n 1, 1) := by decide +kernel
theorem dX9_change_116 : decode prog_11_method_22_code 116 = .ok (.invokevirtual 137, 3) := by decide +kernel
theorem dX9_change_119 : decode prog_11_method_22_code 119 = .ok (.ireturn, 1) := by decide +kernel
abbrev M_X8_put : am_M := ((⟨"SignCellar", "put", "(III)I"⟩ : MethodName), prog_1_method_5_code, 6, (some .int), 6, 145)
theorem dX8_put_0 : decode prog_1_method_5_code 0 = .ok (.aload_n 0, 1) := by decide +kernel
theorem dX8_put_1 : decode prog_1_method_5_code 1 = .ok (.iload_n 1, 1) := by decide +kernel
theorem dX8_put_2 : decode prog_1_method_5_code 2 = .ok (.invokevirtual 126, 3) := by decide +kernel
theorem dX8_put_5 : decode prog_1_method_5_code 5 = .ok (.astore 4, 2) := by decide +kernel
theorem dX8_put_7 : decode prog_1_method_5_code 7 = .ok (.aload 4, 2) := by decide +kernel
theorem dX8_put_9 : decode prog_1_method_5_code 9 = .ok (.ifnull 16, 3) := by decide +kernel
theorem dX8_put_12 : decode prog_1_method_5_code 12 = .ok (.iload_n 2, 1) := by decide +kernel
theorem dX8_put_13 : decode prog_1_method_5_code 13 = .ok (.ifCond .lt 12, 3) := by decide +kernel
theorem dX8_put_16 : decode prog_1_method_5_code 16 = .ok (.iload_n 2, 1) := by decide +kernel
theorem dX8_put_17 : decode prog_1_method_5_code 17 = .ok (.aload 4, 2) := by decide +kernel
theorem dX8_put_19 : decode prog_1_method_5_code 19 = .ok (.getfield 130, 3) := by decide +kernel
theorem dX8_put_22 : decode prog_1_method_5_code 22 = .ok (.if_icmp .le 6, 3) := by decide +kernel
theorem dX8_put_25 : decode prog_1_method_5_code 25 = .ok (.ldc 133, 2) := by decide +kernel
theorem dX8_put_27 : decode prog_1_method_5_code 27 = .ok (.ireturn, 1) := by decide +kernel
theorem dX8_put_28 : decode prog_1_method_5_code 28 = .ok (.iload_n 3, 1) := by decide +kernel
theorem dX8_put_29 : decode prog_1_method_5_code 29 = .ok (.invokestatic 134, 3) := by decide +kernel
theorem dX8_put_32 : decode prog_1_method_5_code 32 = .ok (.ifCond .ne 6, 3) := by decide +kernel
theorem dX8_put_35 : decode prog_1_method_5_code 35 = .ok (.ldc 92, 2) := by decide +kernel
theorem dX8_put_37 : decode prog_1_method_5_code 37 = .ok (.ireturn, 1) := by decide +kernel
theorem dX8_put_38 : decode prog_1_method_5_code 38 = .ok (.aload_n 0, 1) := by decide +kernel
theorem dX8_put_39 : decode prog_1_method_5_code 39 = .ok (.aload 4, 2) := by decide +kernel
theorem dX8_put_41 : decode prog_1_method_5_code 41 = .ok (.aload_n 0, 1) := by decide +kernel
theorem dX8_put_42 : decode prog_1_method_5_code 42 = .ok (.aload 4, 2) := by decide +kernel
theorem dX8_put_44 : decode prog_1_method_5_code 44 = .ok (.iload_n 2, 1) := by decide +kernel
theorem dX8_put_45 : decode prog_1_method_5_code 45 = .ok (.invokevirtual 141, 3) := by decide +kernel
theorem dX8_put_48 : decode prog_1_method_5_code 48 = .ok (.invokevirtual 145, 3) := by decide +kernel
theorem dX8_put_51 : decode prog_1_method_5_code 51 = .ok (.bipush 24, 2) := by decide +kernel
theorem dX8_put_53 : decode prog_1_method_5_code 53 = .ok (.if_icmp .ne 7, 3) := by decide +kernel
theorem dX8_put_56 : decode prog_1_method_5_code 56 = .ok (.iconst 1, 1) := by decide +kernel
theorem dX8_put_57 : decode prog_1_method_5_code 57 = .ok (.goto 4, 3) := by decide +kernel
theorem dX8_put_60 : decode prog_1_method_5_code 60 = .ok (.iconst 0, 1) := by decide +kernel
theorem dX8_put_61 : decode prog_1_method_5_code 61 = .ok (.istore 5, 2) := by decide +kernel
theorem dX8_put_63 : decode prog_1_method_5_code 63 = .ok (.aload_n 0, 1) := by decide +kernel
theorem dX8_put_64 : decode prog_1_method_5_code 64 = .ok (.iload 5, 2) := by decide +kernel
theorem dX8_put_66 : decode prog_1_method_5_code 66 = .ok (.ifCond .eq 7, 3) := by decide +kernel
theorem dX8_put_69 : decode prog_1_method_5_code 69 = .ok (.iconst 2, 1) := by decide +kernel
theorem dX8_put_70 : decode prog_1_method_5_code 70 = .ok (.goto 4, 3) := by decide +kernel
theorem dX8_put_73 : decode prog_1_method_5_code 73 = .ok (.iconst 1, 1) := by decide +kernel
theorem dX8_put_74 : decode prog_1_method_5_code 74 = .ok (.invokevirtual 102, 3) := by decide +kernel
theorem dX8_put_77 : decode prog_1_method_5_code 77 = .ok (.ifCond .eq 21, 3) := by decide +kernel
theorem dX8_put_80 : decode prog_1_method_5_code 80 = .ok (.iload 5, 2) := by decide +kernel
theorem dX8_put_82 : decode prog_1_method_5_code 82 = .ok (.ifCond .eq 19, 3) := by decide +kernel
theorem dX8_put_85 : decode prog_1_method_5_code 85 = .ok (.aload 4, 2) := by decide +kernel
theorem dX8_put_87 : decode prog_1_method_5_code 87 = .ok (.getfield 148, 3) := by decide +kernel
theorem dX8_put_90 : decode prog_1_method_5_code 90 = .ok (.invokevirtual 93, 3) := by decide +kernel
theorem dX8_put_93 : decode prog_1_method_5_code 93 = .ok (.bipush 8, 2) := by decide +kernel
theorem dX8_put_95 : decode prog_1_method_5_code 95 = .ok (.if_icmp .ne 6, 3) := by decide +kernel
theorem dX8_put_98 : decode prog_1_method_5_code 98 = .ok (.ldc 97, 2) := by decide +kernel
theorem dX8_put_100 : decode prog_1_method_5_code 100 = .ok (.ireturn, 1) := by decide +kernel
theorem dX8_put_101 : decode prog_1_method_5_code 101 = .ok (.aload_n 0, 1) := by decide +kernel
theorem dX8_put_102 : decode prog_1_method_5_code 102 = .ok (.iload_n 1, 1) := by decide +kernel
theorem dX8_put_103 : decode prog_1_method_5_code 103 = .ok (.iload_n 2, 1) := by decide +kernel
theorem dX8_put_104 : decode prog_1_method_5_code 104 = .ok (.iload_n 3, 1) := by decide +kernel
theorem dX8_put_105 : decode prog_1_method_5_code 105 = .ok (.iconst 0, 1) := by decide +kernel
theorem dX8_put_106 : decode prog_1_method_5_code 106 = .ok (.invokevirtual 137, 3) := by decide +kernel
theorem dX8_put_109 : decode prog_1_method_5_code 109 = .ok (.ireturn, 1) := by decide +kernel
abbrev M_X9_laySplit : am_M := ((⟨"SignCellarModel", "laySplit", "()V"⟩ : MethodName), prog_11_method_23_code, 2, none, 3, 67)
theorem dX9_laySplit_0 : decode prog_11_method_23_code 0 = .ok (.aload_n 0, 1) := by decide +kernel
theorem dX9_laySplit_1 : decode prog_11_method_23_code 1 = .ok (.bipush 12, 2) := by decide +kernel
theorem dX9_laySplit_3 : decode prog_11_method_23_code 3 = .ok (.putfield 110, 3) := by decide +kernel
theorem dX9_laySplit_6 : decode prog_11_method_23_code 6 = .ok (.aload_n 0, 1) := by decide +kernel
theorem dX9_laySplit_7 : decode prog_11_method_23_code 7 = .ok (.invokevirtual 134, 3) := by decide +kernel
theorem dX9_laySplit_10 : decode prog_11_method_23_code 10 = .ok (.iconst 0, 1) := by decide +kernel
theorem dX9_laySplit_11 : decode prog_11_method_23_code 11 = .ok (.istore_n 1, 1) := by decide +kernel
theorem dX9_laySplit_12 : decode prog_11_method_23_code 12 = .ok (.iload_n 1, 1) := by decide +kernel
theorem dX9_laySplit_13 : decode prog_11_method_23_code 13 = .ok (.bipush 13, 2) := by decide +kernel
theorem dX9_laySplit_15 : decode prog_11_method_23_code 15 = .ok (.if_icmp .ge 24, 3) := by decide +kernel
theorem dX9_laySplit_18 : decode prog_11_method_23_code 18 = .ok (.aload_n 0, 1) := by decide +kernel
theorem dX9_laySplit_19 : decode prog_11_method_23_code 19 = .ok (.getfield 41, 3) := by decide +kernel
theorem dX9_laySplit_22 : decode prog_11_method_23_code 22 = .ok (.iload_n 1, 1) := by decide +kernel
theorem dX9_laySplit_23 : decode prog_11_method_23_code 23 = .ok (.aload_n 0, 1) := by decide +kernel
theorem dX9_laySplit_24 : decode prog_11_method_23_code 24 = .ok (.getfield 41, 3) := by decide +kernel
theorem dX9_laySplit_27 : decode prog_11_method_23_code 27 = .ok (.bipush 12, 2) := by decide +kernel
theorem dX9_laySplit_29 : decode prog_11_method_23_code 29 = .ok (.iload_n 1, 1) := by decide +kernel
theorem dX9_laySplit_30 : decode prog_11_method_23_code 30 = .ok (.iadd, 1) := by decide +kernel
theorem dX9_laySplit_31 : decode prog_11_method_23_code 31 = .ok (.iaload, 1) := by decide +kernel
theorem dX9_laySplit_32 : decode prog_11_method_23_code 32 = .ok (.iastore, 1) := by decide +kernel
theorem dX9_laySplit_33 : decode prog_11_method_23_code 33 = .ok (.iinc 1 1, 3) := by decide +kernel
theorem dX9_laySplit_36 : decode prog_11_method_23_code 36 = .ok (.goto (-24), 3) := by decide +kernel
theorem dX9_laySplit_39 : decode prog_11_method_23_code 39 = .ok (.aload_n 0, 1) := by decide +kernel
theorem dX9_laySplit_40 : decode prog_11_method_23_code 40 = .ok (.bipush 13, 2) := by decide +kernel
theorem dX9_laySplit_42 : decode prog_11_method_23_code 42 = .ok (.putfield 110, 3) := by decide +kernel
theorem dX9_laySplit_45 : decode prog_11_method_23_code 45 = .ok (.aload_n 0, 1) := by decide +kernel
theorem dX9_laySplit_46 : decode prog_11_method_23_code 46 = .ok (.invokevirtual 134, 3) := by decide +kernel
theorem dX9_laySplit_49 : decode prog_11_method_23_code 49 = .ok (.return_, 1) := by decide +kernel
abbrev M_X9_put : am_M := ((⟨"SignCellarModel", "put", "(III)I"⟩ : MethodName), prog_11_method_24_code, 9, (some .int), 4, 88)
theorem dX9_put_0 : decode prog_11_method_24_code 0 = .ok (.aload_n 0, 1) := by decide +kernel
theorem dX9_put_1 : decode prog_11_method_24_code 1 = .ok (.iload_n 1, 1) := by decide +kernel
theorem dX9_put_2 : decode prog_11_method_24_code 2 = .ok (.iload_n 2, 1) := by decide +kernel
theorem dX9_put_3 : decode prog_11_method_24_code 3 = .ok (.iconst 1, 1) := by decide +kernel
theorem dX9_put_4 : decode prog_11_method_24_code 4 = .ok (.invokevirtual 160, 3) := by decide +kernel
theorem dX9_put_7 : decode prog_11_method_24_code 7 = .ok (.ifCond .eq 6, 3) := by decide +kernel
theorem dX9_put_10 : decode prog_11_method_24_code 10 = .ok (.ldc 164, 2) := by decide +kernel
theorem dX9_put_12 : decode prog_11_method_24_code 12 = .ok (.ireturn, 1) := by decide +kernel
theorem dX9_put_13 : decode prog_11_method_24_code 13 = .ok (.iload_n 3, 1) := by decide +kernel
theorem dX9_put_14 : decode prog_11_method_24_code 14 = .ok (.i2l, 1) := by decide +kernel
theorem dX9_put_15 : decode prog_11_method_24_code 15 = .ok (.lconst 0, 1) := by decide +kernel
theorem dX9_put_16 : decode prog_11_method_24_code 16 = .ok (.ldc2_w 103, 3) := by decide +kernel
theorem dX9_put_19 : decode prog_11_method_24_code 19 = .ok (.invokestatic 96, 3) := by decide +kernel
theorem dX9_put_22 : decode prog_11_method_24_code 22 = .ok (.ifCond .ne 6, 3) := by decide +kernel
theorem dX9_put_25 : decode prog_11_method_24_code 25 = .ok (.ldc 105, 2) := by decide +kernel
theorem dX9_put_27 : decode prog_11_method_24_code 27 = .ok (.ireturn, 1) := by decide +kernel
theorem dX9_put_28 : decode prog_11_method_24_code 28 = .ok (.aload_n 0, 1) := by decide +kernel
theorem dX9_put_29 : decode prog_11_method_24_code 29 = .ok (.getfield 23, 3) := by decide +kernel
theorem dX9_put_32 : decode prog_11_method_24_code 32 = .ok (.iload_n 1, 1) := by decide +kernel
theorem dX9_put_33 : decode prog_11_method_24_code 33 = .ok (.iaload, 1) := by decide +kernel
theorem dX9_put_34 : decode prog_11_method_24_code 34 = .ok (.istore 4, 2) := by decide +kernel
theorem dX9_put_36 : decode prog_11_method_24_code 36 = .ok (.iconst 0, 1) := by decide +kernel
theorem dX9_put_37 : decode prog_11_method_24_code 37 = .ok (.istore 5, 2) := by decide +kernel
theorem dX9_put_39 : decode prog_11_method_24_code 39 = .ok (.iconst 0, 1) := by decide +kernel
theorem dX9_put_40 : decode prog_11_method_24_code 40 = .ok (.istore 6, 2) := by decide +kernel
theorem dX9_put_42 : decode prog_11_method_24_code 42 = .ok (.iload_n 2, 1) := by decide +kernel
theorem dX9_put_43 : decode prog_11_method_24_code 43 = .ok (.aload_n 0, 1) := by decide +kernel
theorem dX9_put_44 : decode prog_11_method_24_code 44 = .ok (.iload_n 1, 1) := by decide +kernel
theorem dX9_put_45 : decode prog_11_method_24_code 45 = .ok (.invokevirtual 157, 3) := by decide +kernel
theorem dX9_put_48 : decode prog_11_method_24_code 48 = .ok (.if_icmp .ne 35, 3) := by decide +kernel
theorem dX9_put_51 : decode prog_11_method_24_code 51 = .ok (.iload 4, 2) := by decide +kernel
theorem dX9_put_53 : decode prog_11_method_24_code 53 = .ok (.iconst 1, 1) := by decide +kernel
theorem dX9_put_54 : decode prog_11_method_24_code 54 = .ok (.isub, 1) := by decide +kernel
theorem dX9_put_55 : decode prog_11_method_24_code 55 = .ok (.istore 5, 2) := by decide +kernel
theorem dX9_put_57 : decode prog_11_method_24_code 57 = .ok (.iload 4, 2) := by decide +kernel
theorem dX9_put_59 : decode prog_11_method_24_code 59 = .ok (.ifCond .ne 7, 3) := by decide +kernel
theorem dX9_put_62 : decode prog_11_method_24_code 62 = .ok (.iconst 0, 1) := by decide +kernel
theorem dX9_put_63 : decode prog_11_method_24_code 63 = .ok (.goto 15, 3) := by decide +kernel
theorem dX9_put_66 : decode prog_11_method_24_code 66 = .ok (.aload_n 0, 1) := by decide +kernel
theorem dX9_put_67 : decode prog_11_method_24_code 67 = .ok (.getfield 13, 3) := by decide +kernel
theorem dX9_put_70 : decode prog_11_method_24_code 70 = .ok (.aload_n 0, 1) := by decide +kernel
theorem dX9_put_71 : decode prog_11_method_24_code 71 = .ok (.iload_n 1, 1) := by decide +kernel
theorem dX9_put_72 : decode prog_11_method_24_code 72 = .ok (.iload 5, 2) := by decide +kernel
theorem dX9_put_74 : decode prog_11_method_24_code 74 = .ok (.invokevirtual 141, 3) := by decide +kernel
theorem dX9_put_77 : decode prog_11_method_24_code 77 = .ok (.iaload, 1) := by decide +kernel
theorem dX9_put_78 : decode prog_11_method_24_code 78 = .ok (.istore 6, 2) := by decide +kernel
theorem dX9_put_80 : decode prog_11_method_24_code 80 = .ok (.goto 21, 3) := by decide +kernel
theorem dX9_put_83 : decode prog_11_method_24_code 83 = .ok (.aload_n 0, 1) := by decide +kernel
theorem dX9_put_84 : decode prog_11_method_24_code 84 = .ok (.iload_n 1, 1) := by decide +kernel
theorem dX9_put_85 : decode prog_11_method_24_code 85 = .ok (.iload_n 2, 1) := by decide +kernel
theorem dX9_put_86 : decode prog_11_method_24_code 86 = .ok (.invokevirtual 169, 3) := by decide +kernel
theorem dX9_put_89 : decode prog_11_method_24_code 89 = .ok (.aload_n 0, 1) := by decide +kernel
theorem dX9_put_90 : decode prog_11_method_24_code 90 = .ok (.getfield 144, 3) := by decide +kernel
theorem dX9_put_93 : decode prog_11_method_24_code 93 = .ok (.istore 5, 2) := by decide +kernel
theorem dX9_put_95 : decode prog_11_method_24_code 95 = .ok (.aload_n 0, 1) := by decide +kernel
theorem dX9_put_96 : decode prog_11_method_24_code 96 = .ok (.getfield 147, 3) := by decide +kernel
theorem dX9_put_99 : decode prog_11_method_24_code 99 = .ok (.istore 6, 2) := by decide +kernel
theorem dX9_put_101 : decode prog_11_method_24_code 101 = .ok (.iload 4, 2) := by decide +kernel
theorem dX9_put_103 : decode prog_11_method_24_code 103 = .ok (.ifCond .le 24, 3) := by decide +kernel
theorem dX9_put_106 : decode prog_11_method_24_code 106 = .ok (.aload_n 0, 1) := by decide +kernel
theorem dX9_put_107 : decode prog_11_method_24_code 107 = .ok (.getfield 13, 3) := by decide +kernel
theorem dX9_put_110 : decode prog_11_method_24_code 110 = .ok (.aload_n 0, 1) := by decide +kernel
theorem dX9_put_111 : decode prog_11_method_24_code 111 = .ok (.iload_n 1, 1) := by decide +kernel
theorem dX9_put_112 : decode prog_11_method_24_code 112 = .ok (.iload 5, 2) := by decide +kernel
theorem dX9_put_114 : decode prog_11_method_24_code 114 = .ok (.invokevirtual 141, 3) := by decide +kernel
theorem dX9_put_117 : decode prog_11_method_24_code 117 = .ok (.iaload, 1) := by decide +kernel
theorem dX9_put_118 : decode prog_11_method_24_code 118 = .ok (.bipush 24, 2) := by decide +kernel
theorem dX9_put_120 : decode prog_11_method_24_code 120 = .ok (.if_icmp .ne 7, 3) := by decide +kernel
theorem dX9_put_123 : decode prog_11_method_24_code 123 = .ok (.iconst 1, 1) := by decide +kernel
theorem dX9_put_124 : decode prog_11_method_24_code 124 = .ok (.goto 4, 3) := by decide +kernel
theorem dX9_put_127 : decode prog_11_method_24_code 127 = .ok (.iconst 0, 1) := by decide +kernel
theorem dX9_put_128 : decode prog_11_method_24_code 128 = .ok (.istore 7, 2) := by decide +kernel
theorem dX9_put_130 : decode prog_11_method_24_code 130 = .ok (.aload_n 0, 1) := by decide +kernel
theorem dX9_put_131 : decode prog_11_method_24_code 131 = .ok (.iload 7, 2) := by decide +kernel
theorem dX9_put_133 : decode prog_11_method_24_code 133 = .ok (.ifCond .eq 7, 3) := by decide +kernel
theorem dX9_put_136 : decode prog_11_method_24_code 136 = .ok (.iconst 2, 1) := by decide +kernel
theorem dX9_put_137 : decode prog_11_method_24_code 137 = .ok (.goto 4, 3) := by decide +kernel
theorem dX9_put_140 : decode prog_11_method_24_code 140 = .ok (.iconst 1, 1) := by decide +kernel
theorem dX9_put_141 : decode prog_11_method_24_code 141 = .ok (.invokevirtual 128, 3) := by decide +kernel
theorem dX9_put_144 : decode prog_11_method_24_code 144 = .ok (.ifCond .ne 15, 3) := by decide +kernel
theorem dX9_put_147 : decode prog_11_method_24_code 147 = .ok (.iload 7, 2) := by decide +kernel
theorem dX9_put_149 : decode prog_11_method_24_code 149 = .ok (.ifCond .eq 13, 3) := by decide +kernel
theorem dX9_put_152 : decode prog_11_method_24_code 152 = .ok (.iload 4, 2) := by decide +kernel
theorem dX9_put_154 : decode prog_11_method_24_code 154 = .ok (.bipush 8, 2) := by decide +kernel
theorem dX9_put_156 : decode prog_11_method_24_code 156 = .ok (.if_icmp .ne 6, 3) := by decide +kernel
theorem dX9_put_159 : decode prog_11_method_24_code 159 = .ok (.ldc 109, 2) := by decide +kernel
theorem dX9_put_161 : decode prog_11_method_24_code 161 = .ok (.ireturn, 1) := by decide +kernel
theorem dX9_put_162 : decode prog_11_method_24_code 162 = .ok (.aload_n 0, 1) := by decide +kernel
theorem dX9_put_163 : decode prog_11_method_24_code 163 = .ok (.iload_n 1, 1) := by decide +kernel
theorem dX9_put_164 : decode prog_11_method_24_code 164 = .ok (.invokevirtual 165, 3) := by decide +kernel
theorem dX9_put_167 : decode prog_11_method_24_code 167 = .ok (.ifCond .le 6, 3) := by decide +kernel
theorem dX9_put_170 : decode prog_11_method_24_code 170 = .ok (.ldc 168, 2) := by decide +kernel
theorem dX9_put_172 : decode prog_11_method_24_code 172 = .ok (.ireturn, 1) := by decide +kernel
theorem dX9_put_173 : decode prog_11_method_24_code 173 = .ok (.aload_n 0, 1) := by decide +kernel
theorem dX9_put_174 : decode prog_11_method_24_code 174 = .ok (.invokevirtual 131, 3) := by decide +kernel
theorem dX9_put_177 : decode prog_11_method_24_code 177 = .ok (.aload_n 0, 1) := by decide +kernel
theorem dX9_put_178 : decode prog_11_method_24_code 178 = .ok (.iload_n 1, 1) := by decide +kernel
theorem dX9_put_179 : decode prog_11_method_24_code 179 = .ok (.iconst 0, 1) := by decide +kernel
theorem dX9_put_180 : decode prog_11_method_24_code 180 = .ok (.iload 5, 2) := by decide +kernel
theorem dX9_put_182 : decode prog_11_method_24_code 182 = .ok (.invokevirtual 173, 3) := by decide +kernel
theorem dX9_put_185 : decode prog_11_method_24_code 185 = .ok (.aload_n 0, 1) := by decide +kernel
theorem dX9_put_186 : decode prog_11_method_24_code 186 = .ok (.iconst 0, 1) := by decide +kernel
theorem dX9_put_187 : decode prog_11_method_24_code 187 = .ok (.putfield 110, 3) := by decide +kernel
theorem dX9_put_190 : decode prog_11_method_24_code 190 = .ok (.iload 4, 2) := by decide +kernel
theorem dX9_put_192 : decode prog_11_method_24_code 192 = .ok (.ifCond .le 14, 3) := by decide +kernel
theorem dX9_put_195 : decode prog_11_method_24_code 195 = .ok (.aload_n 0, 1) := by decide +kernel
theorem dX9_put_196 : decode prog_11_method_24_code 196 = .ok (.aload_n 0, 1) := by decide +kernel
theorem dX9_put_197 : decode prog_11_method_24_code 197 = .ok (.iload_n 1, 1) := by decide +kernel
theorem dX9_put_198 : decode prog_11_method_24_code 198 = .ok (.iload 5, 2) := by decide +kernel
theorem dX9_put_200 : decode prog_11_method_24_code 200 = .ok (.invokevirtual 141, 3) := by decide +kernel
theorem dX9_put_203 : decode prog_11_method_24_code 203 = .ok (.invokevirtual 177, 3) := by decide +kernel
theorem dX9_put_206 : decode prog_11_method_24_code 206 = .ok (.aload_n 0, 1) := by decide +kernel
theorem dX9_put_207 : decode prog_11_method_24_code 207 = .ok (.getfield 110, 3) := by decide +kernel
theorem dX9_put_210 : decode prog_11_method_24_code 210 = .ok (.istore 8, 2) := by decide +kernel
theorem dX9_put_212 : decode prog_11_method_24_code 212 = .ok (.iload 8, 2) := by decide +kernel
theorem dX9_put_214 : decode prog_11_method_24_code 214 = .ok (.iload 6, 2) := by decide +kernel
theorem dX9_put_216 : decode prog_11_method_24_code 216 = .ok (.if_icmp .le 25, 3) := by decide +kernel
theorem dX9_put_219 : decode prog_11_method_24_code 219 = .ok (.aload_n 0, 1) := by decide +kernel
theorem dX9_put_220 : decode prog_11_method_24_code 220 = .ok (.getfield 41, 3) := by decide +kernel
theorem dX9_put_223 : decode prog_11_method_24_code 223 = .ok (.iload 8, 2) := by decide +kernel
theorem dX9_put_225 : decode prog_11_method_24_code 225 = .ok (.aload_n 0, 1) := by decide +kernel
theorem dX9_put_226 : decode prog_11_method_24_code 226 = .ok (.getfield 41, 3) := by decide +kernel
theorem dX9_put_229 : decode prog_11_method_24_code 229 = .ok (.iload 8, 2) := by decide +kernel
theorem dX9_put_231 : decode prog_11_method_24_code 231 = .ok (.iconst 1, 1) := by decide +kernel
theorem dX9_put_232 : decode prog_11_method_24_code 232 = .ok (.isub, 1) := by decide +kernel
theorem dX9_put_233 : decode prog_11_method_24_code 233 = .ok (.iaload, 1) := by decide +kernel
theorem dX9_put_234 : decode prog_11_method_24_code 234 = .ok (.iastore, 1) := by decide +kernel
theorem dX9_put_235 : decode prog_11_method_24_code 235 = .ok (.iinc 8 (-1), 3) := by decide +kernel
theorem dX9_put_238 : decode prog_11_method_24_code 238 = .ok (.goto (-26), 3) := by decide +kernel
theorem dX9_put_241 : decode prog_11_method_24_code 241 = .ok (.aload_n 0, 1) := by decide +kernel
theorem dX9_put_242 : decode prog_11_method_24_code 242 = .ok (.getfield 41, 3) := by decide +kernel
theorem dX9_put_245 : decode prog_11_method_24_code 245 = .ok (.iload 6, 2) := by decide +kernel
theorem dX9_put_247 : decode prog_11_method_24_code 247 = .ok (.iload_n 3, 1) := by decide +kernel
theorem dX9_put_248 : decode prog_11_method_24_code 248 = .ok (.iastore, 1) := by decide +kernel
theorem dX9_put_249 : decode prog_11_method_24_code 249 = .ok (.aload_n 0, 1) := by decide +kernel
theorem dX9_put_250 : decode prog_11_method_24_code 250 = .ok (.dup, 1) := by decide +kernel
theorem dX9_put_251 : decode prog_11_method_24_code 251 = .ok (.getfield 110, 3) := by decide +kernel
theorem dX9_put_254 : decode prog_11_method_24_code 254 = .ok (.iconst 1, 1) := by decide +kernel
theorem dX9_put_255 : decode prog_11_method_24_code 255 = .ok (.iadd, 1) := by decide +kernel
theorem dX9_put_256 : decode prog_11_method_24_code 256 = .ok (.putfield 110, 3) := by decide +kernel
theorem dX9_put_259 : decode prog_11_method_24_code 259 = .ok (.iload 7, 2) := by decide +kernel
theorem dX9_put_261 : decode prog_11_method_24_code 261 = .ok (.ifCond .eq 10, 3) := by decide +kernel
theorem dX9_put_264 : decode prog_11_method_24_code 264 = .ok (.aload_n 0, 1) := by decide +kernel
theorem dX9_put_265 : decode prog_11_method_24_code 265 = .ok (.invokevirtual 181, 3) := by decide +kernel
theorem dX9_put_268 : decode prog_11_method_24_code 268 = .ok (.goto 7, 3) := by decide +kernel
theorem dX9_put_271 : decode prog_11_method_24_code 271 = .ok (.aload_n 0, 1) := by decide +kernel
theorem dX9_put_272 : decode prog_11_method_24_code 272 = .ok (.invokevirtual 134, 3) := by decide +kernel
theorem dX9_put_275 : decode prog_11_method_24_code 275 = .ok (.aload_n 0, 1) := by decide +kernel
theorem dX9_put_276 : decode prog_11_method_24_code 276 = .ok (.iload_n 1, 1) := by decide +kernel
theorem dX9_put_277 : decode prog_11_method_24_code 277 = .ok (.iload 5, 2) := by decide +kernel
theorem dX9_put_279 : decode prog_11_method_24_code 279 = .ok (.iconst 1, 1) := by decide +kernel
theorem dX9_put_280 : decode prog_11_method_24_code 280 = .ok (.iadd, 1) := by decide +kernel
theorem dX9_put_281 : decode prog_11_method_24_code 281 = .ok (.iload 4, 2) := by decide +kernel
theorem dX9_put_283 : decode prog_11_method_24_code 283 = .ok (.invokevirtual 173, 3) := by decide +kernel
theorem dX9_put_286 : decode prog_11_method_24_code 286 = .ok (.aload_n 0, 1) := by decide +kernel
theorem dX9_put_287 : decode prog_11_method_24_code 287 = .ok (.iload_n 1, 1) := by decide +kernel
theorem dX9_put_288 : decode prog_11_method_24_code 288 = .ok (.invokevirtual 137, 3) := by decide +kernel
theorem dX9_put_291 : decode prog_11_method_24_code 291 = .ok (.ireturn, 1) := by decide +kernel
abbrev M_X8_strike : am_M := ((⟨"SignCellar", "strike", "(II)I"⟩ : MethodName), prog_1_method_6_code, 5, (some .int), 6, 145)
theorem dX8_strike_0 : decode prog_1_method_6_code 0 = .ok (.aload_n 0, 1) := by decide +kernel
theorem dX8_strike_1 : decode prog_1_method_6_code 1 = .ok (.iload_n 1, 1) := by decide +kernel
theorem dX8_strike_2 : decode prog_1_method_6_code 2 = .ok (.invokevirtual 126, 3) := by decide +kernel
theorem dX8_strike_5 : decode prog_1_method_6_code 5 = .ok (.astore_n 3, 1) := by decide +kernel
theorem dX8_strike_6 : decode prog_1_method_6_code 6 = .ok (.aload_n 3, 1) := by decide +kernel
theorem dX8_strike_7 : decode prog_1_method_6_code 7 = .ok (.ifnull 15, 3) := by decide +kernel
theorem dX8_strike_10 : decode prog_1_method_6_code 10 = .ok (.iload_n 2, 1) := by decide +kernel
theorem dX8_strike_11 : decode prog_1_method_6_code 11 = .ok (.ifCond .lt 11, 3) := by decide +kernel
theorem dX8_strike_14 : decode prog_1_method_6_code 14 = .ok (.iload_n 2, 1) := by decide +kernel
theorem dX8_strike_15 : decode prog_1_method_6_code 15 = .ok (.aload_n 3, 1) := by decide +kernel
theorem dX8_strike_16 : decode prog_1_method_6_code 16 = .ok (.getfield 130, 3) := by decide +kernel
theorem dX8_strike_19 : decode prog_1_method_6_code 19 = .ok (.if_icmp .lt 6, 3) := by decide +kernel
theorem dX8_strike_22 : decode prog_1_method_6_code 22 = .ok (.ldc 133, 2) := by decide +kernel
theorem dX8_strike_24 : decode prog_1_method_6_code 24 = .ok (.ireturn, 1) := by decide +kernel
theorem dX8_strike_25 : decode prog_1_method_6_code 25 = .ok (.aload_n 0, 1) := by decide +kernel
theorem dX8_strike_26 : decode prog_1_method_6_code 26 = .ok (.aload_n 3, 1) := by decide +kernel
theorem dX8_strike_27 : decode prog_1_method_6_code 27 = .ok (.aload_n 0, 1) := by decide +kernel
theorem dX8_strike_28 : decode prog_1_method_6_code 28 = .ok (.aload_n 3, 1) := by decide +kernel
theorem dX8_strike_29 : decode prog_1_method_6_code 29 = .ok (.iload_n 2, 1) := by decide +kernel
theorem dX8_strike_30 : decode prog_1_method_6_code 30 = .ok (.invokevirtual 141, 3) := by decide +kernel
theorem dX8_strike_33 : decode prog_1_method_6_code 33 = .ok (.invokevirtual 145, 3) := by decide +kernel
theorem dX8_strike_36 : decode prog_1_method_6_code 36 = .ok (.iconst 1, 1) := by decide +kernel
theorem dX8_strike_37 : decode prog_1_method_6_code 37 = .ok (.if_icmp .ne 7, 3) := by decide +kernel
theorem dX8_strike_40 : decode prog_1_method_6_code 40 = .ok (.iconst 1, 1) := by decide +kernel
theorem dX8_strike_41 : decode prog_1_method_6_code 41 = .ok (.goto 4, 3) := by decide +kernel
theorem dX8_strike_44 : decode prog_1_method_6_code 44 = .ok (.iconst 0, 1) := by decide +kernel
theorem dX8_strike_45 : decode prog_1_method_6_code 45 = .ok (.istore 4, 2) := by decide +kernel
theorem dX8_strike_47 : decode prog_1_method_6_code 47 = .ok (.aload_n 0, 1) := by decide +kernel
theorem dX8_strike_48 : decode prog_1_method_6_code 48 = .ok (.iload 4, 2) := by decide +kernel
theorem dX8_strike_50 : decode prog_1_method_6_code 50 = .ok (.ifCond .eq 7, 3) := by decide +kernel
theorem dX8_strike_53 : decode prog_1_method_6_code 53 = .ok (.iconst 0, 1) := by decide +kernel
theorem dX8_strike_54 : decode prog_1_method_6_code 54 = .ok (.goto 4, 3) := by decide +kernel
theorem dX8_strike_57 : decode prog_1_method_6_code 57 = .ok (.iconst 1, 1) := by decide +kernel
theorem dX8_strike_58 : decode prog_1_method_6_code 58 = .ok (.invokevirtual 102, 3) := by decide +kernel
theorem dX8_strike_61 : decode prog_1_method_6_code 61 = .ok (.ifCond .ne 6, 3) := by decide +kernel
theorem dX8_strike_64 : decode prog_1_method_6_code 64 = .ok (.ldc 97, 2) := by decide +kernel
theorem dX8_strike_66 : decode prog_1_method_6_code 66 = .ok (.ireturn, 1) := by decide +kernel
theorem dX8_strike_67 : decode prog_1_method_6_code 67 = .ok (.aload_n 0, 1) := by decide +kernel
theorem dX8_strike_68 : decode prog_1_method_6_code 68 = .ok (.iload_n 1, 1) := by decide +kernel
theorem dX8_strike_69 : decode prog_1_method_6_code 69 = .ok (.iload_n 2, 1) := by decide +kernel
theorem dX8_strike_70 : decode prog_1_method_6_code 70 = .ok (.iconst (-1), 1) := by decide +kernel
theorem dX8_strike_71 : decode prog_1_method_6_code 71 = .ok (.iconst 1, 1) := by decide +kernel
theorem dX8_strike_72 : decode prog_1_method_6_code 72 = .ok (.invokevirtual 137, 3) := by decide +kernel
theorem dX8_strike_75 : decode prog_1_method_6_code 75 = .ok (.ireturn, 1) := by decide +kernel
def F_X9_takeSigns_12 : Nat → Nat → Int32 → Int32 → am_H → Option am_H
  | 0, _, _, _, _ => none
  | n + 1, v0, v1, v2, h =>
  (am_gi 9 14 v0 h).bind fun x1 =>
  if x1 ≤ v2 then
    some h
  else
    (am_gr 9 13 v0 h).bind fun x3 =>
    (F_X9_sign v0 v1 v2 h).bind fun x4 =>
    (am_is 0 x3 v2 x4 h).bind fun h5 =>
    F_X9_takeSigns_12 n v0 v1 (v2 + (1 : Int32)) h5
theorem w_X9_takeSigns_12 {g : am_G} {l : Launch} {h0 : am_H} {hf : am_H}  : ∀ (n : Nat) (v0 : Nat) (v1 : Int32) (v2 : Int32) (h : am_H), F_X9_takeSigns_12 n v0 v1 v2 h = some hf → am_W g l M_X9_takeSigns h0 none hf 12 [some (.ref v0), some (.int v1), some (.int v2)] [] h
  | 0, _, _, _, _, hF => by cases hF
  | n + 1, v0, v1, v2, h, hF => by
    rw [F_X9_takeSigns_12] at hF
    refine am_iload_n (pc' := 13) dX9_takeSigns_12 rfl rfl ?_
    refine am_aload_n (pc' := 14) dX9_takeSigns_13 rfl rfl ?_
    obtain ⟨x1, ex1, hF⟩ := am_bind hF
    refine am_geti (pc' := 17) dX9_takeSigns_14 fw_X9_110 ex1 rfl ?_
    rcases am_ite hF with ⟨z2, hF⟩ | ⟨z2, hF⟩
    · refine am_icmp_ge_t (pc' := 38) dX9_takeSigns_17 rfl z2 ?_
      cases hF
      exact am_vret dX9_takeSigns_38 rfl
    · refine am_icmp_ge_f (pc' := 20) (tgt := 38) dX9_takeSigns_17 rfl z2 rfl ?_
      refine am_aload_n (pc' := 21) dX9_takeSigns_20 rfl rfl ?_
      obtain ⟨x3, ex3, hF⟩ := am_bind hF
      refine am_getr (pc' := 24) dX9_takeSigns_21 fw_X9_41 ex3 rfl ?_
      refine am_iload_n (pc' := 25) dX9_takeSigns_24 rfl rfl ?_
      refine am_aload_n (pc' := 26) dX9_takeSigns_25 rfl rfl ?_
      refine am_iload_n (pc' := 27) dX9_takeSigns_26 rfl rfl ?_
      refine am_iload_n (pc' := 28) dX9_takeSigns_27 rfl rfl ?_
      obtain ⟨x4, ex4, hF⟩ := am_bind hF
      obtain ⟨ox4, px4⟩ := t_X9_sign ex4
      refine am_callV1 (Mc := M_X9_sign) (As := [.int v1, .int v2]) (st := [.int v2, .ref x3]) (pc' := 31) dX9_takeSigns_28 cw_X9_113 wd_5_21 sl_X9_sign ⟨_, rfl, rfl⟩ (by decide) (by decide) rfl rfl (Nat.le_of_ble_eq_true rfl) px4 (c_X9_sign ex4) rfl ?_
      obtain ⟨h5, eh5, hF⟩ := am_bind hF
      refine am_iast (pc' := 32) dX9_takeSigns_31 eh5 rfl ?_
      refine am_iinc (ls' := [some (.ref v0), some (.int v1), some (.int (v2 + (1 : Int32)))]) (pc' := 35) (v := (v2 + (1 : Int32))) dX9_takeSigns_32 rfl rfl (Nat.le_of_ble_eq_true rfl) rfl rfl ?_
      refine am_goto (pc' := 12) dX9_takeSigns_35 rfl ?_
      exact w_X9_takeSigns_12 n v0 v1 (v2 + (1 : Int32)) h5 hF
def F_X9_takeSigns_b (v0 : Nat) (v1 : Int32) (h : am_H) : Option am_H :=
  (am_gr 9 3 v0 h).bind fun x1 =>
  (am_il 0 x1 v1 h).bind fun x2 =>
  (am_pi 9 14 v0 x2 h).bind fun h3 =>
  F_X9_takeSigns_12 am_F v0 v1 (0 : Int32) h3
theorem w_X9_takeSigns {g : am_G} {l : Launch} {h0 : am_H} {hf : am_H}  (v0 : Nat) (v1 : Int32) (h : am_H) (hF : F_X9_takeSigns_b v0 v1 h = some hf) : am_W g l M_X9_takeSigns h0 none hf 0 [some (.ref v0), some (.int v1), none] [] h := by
  unfold F_X9_takeSigns_b at hF
  refine am_aload_n (pc' := 1) dX9_takeSigns_0 rfl rfl ?_
  refine am_aload_n (pc' := 2) dX9_takeSigns_1 rfl rfl ?_
  obtain ⟨x1, ex1, hF⟩ := am_bind hF
  refine am_getr (pc' := 5) dX9_takeSigns_2 fw_X9_13 ex1 rfl ?_
  refine am_iload_n (pc' := 6) dX9_takeSigns_5 rfl rfl ?_
  obtain ⟨x2, ex2, hF⟩ := am_bind hF
  refine am_iald (pc' := 7) dX9_takeSigns_6 ex2 rfl ?_
  obtain ⟨h3, eh3, hF⟩ := am_bind hF
  refine am_puti (pc' := 10) dX9_takeSigns_7 fx_X9_110 eh3 rfl ?_
  refine am_iconst (v := (0 : Int32)) (pc' := 11) dX9_takeSigns_10 rfl rfl ?_
  refine am_istore_n (ls' := [some (.ref v0), some (.int v1), some (.int (0 : Int32))]) (pc' := 12) dX9_takeSigns_11 (Nat.le_of_ble_eq_true rfl) rfl rfl ?_
  exact w_X9_takeSigns_12 am_F v0 v1 (0 : Int32) h3 hF
def F_X9_takeSigns (v0 : Nat) (v1 : Int32) (h : am_H) : Option am_H := (am_obj v0 9 h).bind fun _ => F_X9_takeSigns_b v0 v1 h
theorem t_X9_takeSigns {hf : am_H}  {v0 : Nat} {v1 : Int32} {h : am_H} (hF : F_X9_takeSigns v0 v1 h = some hf) : ∃ fs, am_obj v0 9 h = some fs := by
  obtain ⟨fs, e, _⟩ := am_bind hF
  exact ⟨fs, e⟩
theorem c_X9_takeSigns {g : am_G} {l : Launch} {hf : am_H}  {v0 : Nat} {v1 : Int32} {h : am_H} (hF : F_X9_takeSigns v0 v1 h = some hf) : am_Met g l M_X9_takeSigns [.ref v0, .int v1] h none hf := by
  obtain ⟨fs, e0, e⟩ := am_bind hF
  exact am_met (n := 1) (by decide +kernel) rfl (Nat.le_of_ble_eq_true rfl) (w_X9_takeSigns v0 v1 h e)
theorem cw_X9_160 : am_cw "SignCellarModel" 160 M_X9_noPlace 3 := ⟨wd_1_9, wd_5_34, ⟨by decide, by decide, by decide⟩, Or.inl wd_5_31⟩
theorem cw_X9_165 : am_cw "SignCellarModel" 165 M_X9_tornIn 1 := ⟨wd_1_9, wd_5_51, ⟨by decide, by decide, by decide⟩, Or.inl wd_5_48⟩
theorem cw_X9_169 : am_cw "SignCellarModel" 169 M_X9_find 2 := ⟨wd_1_9, wd_5_59, ⟨by decide, by decide, by decide⟩, Or.inl wd_5_56⟩
theorem cw_X9_173 : am_cw "SignCellarModel" 173 M_X9_takeBlocks 3 := ⟨wd_1_9, wd_5_63, ⟨by decide, by decide, by decide⟩, Or.inl wd_5_60⟩
theorem cw_X9_177 : am_cw "SignCellarModel" 177 M_X9_takeSigns 1 := ⟨wd_1_9, wd_5_67, ⟨by decide, by decide, by decide⟩, Or.inl wd_5_64⟩
theorem sl_X9_find : Cond.selects (⟨"SignCellarModel", "find", "(II)V"⟩ : MethodName).cls ⟨"SignCellarModel", "find", "(II)V"⟩ ⟨"SignCellarModel", "find", "(II)V"⟩ ∈ am_ts := am_in_p (q := (⟨"SignCellarModel", "find", "(II)V"⟩, 42)) (by decide +kernel)
theorem sl_X9_noPlace : Cond.selects (⟨"SignCellarModel", "noPlace", "(III)Z"⟩ : MethodName).cls ⟨"SignCellarModel", "noPlace", "(III)Z"⟩ ⟨"SignCellarModel", "noPlace", "(III)Z"⟩ ∈ am_ts := am_in_p (q := (⟨"SignCellarModel", "noPlace", "(III)Z"⟩, 42)) (by decide +kernel)
theorem sl_X9_takeBlocks : Cond.selects (⟨"SignCellarModel", "takeBlocks", "(III)V"⟩ : MethodName).cls ⟨"SignCellarModel", "takeBlocks", "(III)V"⟩ ⟨"SignCellarModel", "takeBlocks", "(III)V"⟩ ∈ am_ts := am_in_p (q := (⟨"SignCellarModel", "takeBlocks", "(III)V"⟩, 42)) (by decide +kernel)
theorem sl_X9_takeSigns : Cond.selects (⟨"SignCellarModel", "takeSigns", "(I)V"⟩ : MethodName).cls ⟨"SignCellarModel", "takeSigns", "(I)V"⟩ ⟨"SignCellarModel", "takeSigns", "(I)V"⟩ ∈ am_ts := am_in_p (q := (⟨"SignCellarModel", "takeSigns", "(I)V"⟩, 42)) (by decide +kernel)
theorem sl_X9_tornIn : Cond.selects (⟨"SignCellarModel", "tornIn", "(I)I"⟩ : MethodName).cls ⟨"SignCellarModel", "tornIn", "(I)I"⟩ ⟨"SignCellarModel", "tornIn", "(I)I"⟩ ∈ am_ts := am_in_p (q := (⟨"SignCellarModel", "tornIn", "(I)I"⟩, 42)) (by decide +kernel)
def F_X9_change_b (v0 : Nat) (v1 : Int32) (v2 : Int32) (v3 : Int32) (h : am_H) : Option (Int32 × am_H) :=
  (F_X9_noPlace v0 v1 v2 (0 : Int32) h).bind fun x1 =>
  if x1 = 0 then
    (F_X9_in (Int32.toInt64 v3) (0 : Int64) (15 : Int64) h).bind fun x3 =>
    if x3 = 0 then
      some ((-100002 : Int32), h)
    else
      (F_X9_isFull v0 (1 : Int32) h).bind fun x5 =>
      if x5 = 0 then
        (F_X9_tornIn v0 v1 h).bind fun x7 =>
        if x7 ≤ 0 then
          (F_X9_find v0 v1 v2 h).bind fun h9 =>
          (am_gi 9 18 v0 h9).bind fun x10 =>
          (F_X9_begin v0 h9).bind fun h11 =>
          (F_X9_takeBlocks v0 v1 (0 : Int32) x10 h11).bind fun h12 =>
          (F_X9_blockAt v0 v1 x10 h12).bind fun x13 =>
          (F_X9_takeSigns v0 x13 h12).bind fun h14 =>
          (am_gr 9 13 v0 h14).bind fun x15 =>
          (am_gi 9 19 v0 h14).bind fun x16 =>
          (am_is 0 x15 x16 v3 h14).bind fun h17 =>
          (F_X9_lay v0 h17).bind fun h18 =>
          (am_gr 9 7 v0 h18).bind fun x19 =>
          (am_il 0 x19 v1 h18).bind fun x20 =>
          (F_X9_takeBlocks v0 v1 (x10 + (1 : Int32)) x20 h18).bind fun h21 =>
          (F_X9_note v0 v1 h21).bind fun q22 =>
          some (q22.1, q22.2)
        else
          some ((-100005 : Int32), h)
      else
        some ((-100004 : Int32), h)
  else
    some ((-100001 : Int32), h)
theorem w_X9_change {g : am_G} {l : Launch} {h0 : am_H} {x : Int32} {hf : am_H}  (v0 : Nat) (v1 : Int32) (v2 : Int32) (v3 : Int32) (h : am_H) (hF : F_X9_change_b v0 v1 v2 v3 h = some (x, hf)) : am_W g l M_X9_change h0 (some (.int x)) hf 0 [some (.ref v0), some (.int v1), some (.int v2), some (.int v3), none] [] h := by
  unfold F_X9_change_b at hF
  refine am_aload_n (pc' := 1) dX9_change_0 rfl rfl ?_
  refine am_iload_n (pc' := 2) dX9_change_1 rfl rfl ?_
  refine am_iload_n (pc' := 3) dX9_change_2 rfl rfl ?_
  refine am_iconst (v := (0 : Int32)) (pc' := 4) dX9_change_3 rfl rfl ?_
  obtain ⟨x1, ex1, hF⟩ := am_bind hF
  obtain ⟨ox1, px1⟩ := t_X9_noPlace ex1
  refine am_callV1 (Mc := M_X9_noPlace) (As := [.int v1, .int v2, .int (0 : Int32)]) (st := []) (pc' := 7) dX9_change_4 cw_X9_160 wd_5_33 sl_X9_noPlace ⟨_, rfl, rfl⟩ (by decide) (by decide) rfl rfl (Nat.le_of_ble_eq_true rfl) px1 (c_X9_noPlace ex1) rfl ?_
  rcases am_ite hF with ⟨z2, hF⟩ | ⟨z2, hF⟩
  · refine am_if_eq_t (pc' := 13) dX9_change_7 rfl z2 ?_
    refine am_iload_n (pc' := 14) dX9_change_13 rfl rfl ?_
    refine am_i2l (pc' := 15) dX9_change_14 rfl ?_
    refine am_lconst (v := (0 : Int64)) (pc' := 16) dX9_change_15 rfl rfl ?_
    refine am_ldc2 (v := (15 : Int64)) (pc' := 19) dX9_change_16 wd_4_232 rfl ?_
    obtain ⟨x3, ex3, hF⟩ := am_bind hF
    refine am_callS1 (Mc := M_X9_in) (As := [.long (Int32.toInt64 v3), .long (0 : Int64), .long (15 : Int64)]) (st := []) (pc' := 22) dX9_change_19 cw_X9_96 wd_4_234 (by decide) (by decide) rfl rfl (Nat.le_of_ble_eq_true rfl) (c_X9_in ex3) rfl ?_
    rcases am_ite hF with ⟨z4, hF⟩ | ⟨z4, hF⟩
    · refine am_if_ne_f (pc' := 25) (tgt := 28) dX9_change_22 rfl z4 rfl ?_
      refine am_ldc (v := (-100002 : Int32)) (pc' := 27) dX9_change_25 wd_4_236 rfl ?_
      cases hF
      exact am_iret dX9_change_27 rfl rfl
    · refine am_if_ne_t (pc' := 28) dX9_change_22 rfl z4 ?_
      refine am_aload_n (pc' := 29) dX9_change_28 rfl rfl ?_
      refine am_iconst (v := (1 : Int32)) (pc' := 30) dX9_change_29 rfl rfl ?_
      obtain ⟨x5, ex5, hF⟩ := am_bind hF
      obtain ⟨ox5, px5⟩ := t_X9_isFull ex5
      refine am_callV1 (Mc := M_X9_isFull) (As := [.int (1 : Int32)]) (st := []) (pc' := 33) dX9_change_30 cw_X9_128 wd_5_5 sl_X9_isFull ⟨_, rfl, rfl⟩ (by decide) (by decide) rfl rfl (Nat.le_of_ble_eq_true rfl) px5 (c_X9_isFull ex5) rfl ?_
      rcases am_ite hF with ⟨z6, hF⟩ | ⟨z6, hF⟩
      · refine am_if_eq_t (pc' := 39) dX9_change_33 rfl z6 ?_
        refine am_aload_n (pc' := 40) dX9_change_39 rfl rfl ?_
        refine am_iload_n (pc' := 41) dX9_change_40 rfl rfl ?_
        obtain ⟨x7, ex7, hF⟩ := am_bind hF
        obtain ⟨ox7, px7⟩ := t_X9_tornIn ex7
        refine am_callV1 (Mc := M_X9_tornIn) (As := [.int v1]) (st := []) (pc' := 44) dX9_change_41 cw_X9_165 wd_5_50 sl_X9_tornIn ⟨_, rfl, rfl⟩ (by decide) (by decide) rfl rfl (Nat.le_of_ble_eq_true rfl) px7 (c_X9_tornIn ex7) rfl ?_
        rcases am_ite hF with ⟨z8, hF⟩ | ⟨z8, hF⟩
        · refine am_if_le_t (pc' := 50) dX9_change_44 rfl z8 ?_
          refine am_aload_n (pc' := 51) dX9_change_50 rfl rfl ?_
          refine am_iload_n (pc' := 52) dX9_change_51 rfl rfl ?_
          refine am_iload_n (pc' := 53) dX9_change_52 rfl rfl ?_
          obtain ⟨h9, eh9, hF⟩ := am_bind hF
          obtain ⟨oh9, ph9⟩ := t_X9_find eh9
          refine am_callV0 (Mc := M_X9_find) (As := [.int v1, .int v2]) (st := []) (pc' := 56) dX9_change_53 cw_X9_169 wd_5_58 sl_X9_find ⟨_, rfl, rfl⟩ (by decide) (by decide) rfl rfl (Nat.le_of_ble_eq_true rfl) ph9 (c_X9_find eh9) rfl ?_
          refine am_aload_n (pc' := 57) dX9_change_56 rfl rfl ?_
          obtain ⟨x10, ex10, hF⟩ := am_bind hF
          refine am_geti (pc' := 60) dX9_change_57 fw_X9_144 ex10 rfl ?_
          refine am_istore (ls' := [some (.ref v0), some (.int v1), some (.int v2), some (.int v3), some (.int x10)]) (pc' := 62) dX9_change_60 (Nat.le_of_ble_eq_true rfl) rfl rfl ?_
          refine am_aload_n (pc' := 63) dX9_change_62 rfl rfl ?_
          obtain ⟨h11, eh11, hF⟩ := am_bind hF
          obtain ⟨oh11, ph11⟩ := t_X9_begin eh11
          refine am_callV0 (Mc := M_X9_begin) (As := []) (st := []) (pc' := 66) dX9_change_63 cw_X9_131 wd_5_9 sl_X9_begin ⟨_, rfl, rfl⟩ (by decide) (by decide) rfl rfl (Nat.le_of_ble_eq_true rfl) ph11 (c_X9_begin eh11) rfl ?_
          refine am_aload_n (pc' := 67) dX9_change_66 rfl rfl ?_
          refine am_iload_n (pc' := 68) dX9_change_67 rfl rfl ?_
          refine am_iconst (v := (0 : Int32)) (pc' := 69) dX9_change_68 rfl rfl ?_
          refine am_iload (pc' := 71) dX9_change_69 rfl rfl ?_
          obtain ⟨h12, eh12, hF⟩ := am_bind hF
          obtain ⟨oh12, ph12⟩ := t_X9_takeBlocks eh12
          refine am_callV0 (Mc := M_X9_takeBlocks) (As := [.int v1, .int (0 : Int32), .int x10]) (st := []) (pc' := 74) dX9_change_71 cw_X9_173 wd_5_62 sl_X9_takeBlocks ⟨_, rfl, rfl⟩ (by decide) (by decide) rfl rfl (Nat.le_of_ble_eq_true rfl) ph12 (c_X9_takeBlocks eh12) rfl ?_
          refine am_aload_n (pc' := 75) dX9_change_74 rfl rfl ?_
          refine am_aload_n (pc' := 76) dX9_change_75 rfl rfl ?_
          refine am_iload_n (pc' := 77) dX9_change_76 rfl rfl ?_
          refine am_iload (pc' := 79) dX9_change_77 rfl rfl ?_
          obtain ⟨x13, ex13, hF⟩ := am_bind hF
          obtain ⟨ox13, px13⟩ := t_X9_blockAt ex13
          refine am_callV1 (Mc := M_X9_blockAt) (As := [.int v1, .int x10]) (st := [.ref v0]) (pc' := 82) dX9_change_79 cw_X9_141 wd_5_45 sl_X9_blockAt ⟨_, rfl, rfl⟩ (by decide) (by decide) rfl rfl (Nat.le_of_ble_eq_true rfl) px13 (c_X9_blockAt ex13) rfl ?_
          obtain ⟨h14, eh14, hF⟩ := am_bind hF
          obtain ⟨oh14, ph14⟩ := t_X9_takeSigns eh14
          refine am_callV0 (Mc := M_X9_takeSigns) (As := [.int x13]) (st := []) (pc' := 85) dX9_change_82 cw_X9_177 wd_5_66 sl_X9_takeSigns ⟨_, rfl, rfl⟩ (by decide) (by decide) rfl rfl (Nat.le_of_ble_eq_true rfl) ph14 (c_X9_takeSigns eh14) rfl ?_
          refine am_aload_n (pc' := 86) dX9_change_85 rfl rfl ?_
          obtain ⟨x15, ex15, hF⟩ := am_bind hF
          refine am_getr (pc' := 89) dX9_change_86 fw_X9_41 ex15 rfl ?_
          refine am_aload_n (pc' := 90) dX9_change_89 rfl rfl ?_
          obtain ⟨x16, ex16, hF⟩ := am_bind hF
          refine am_geti (pc' := 93) dX9_change_90 fw_X9_147 ex16 rfl ?_
          refine am_iload_n (pc' := 94) dX9_change_93 rfl rfl ?_
          obtain ⟨h17, eh17, hF⟩ := am_bind hF
          refine am_iast (pc' := 95) dX9_change_94 eh17 rfl ?_
          refine am_aload_n (pc' := 96) dX9_change_95 rfl rfl ?_
          obtain ⟨h18, eh18, hF⟩ := am_bind hF
          obtain ⟨oh18, ph18⟩ := t_X9_lay eh18
          refine am_callV0 (Mc := M_X9_lay) (As := []) (st := []) (pc' := 99) dX9_change_96 cw_X9_134 wd_5_13 sl_X9_lay ⟨_, rfl, rfl⟩ (by decide) (by decide) rfl rfl (Nat.le_of_ble_eq_true rfl) ph18 (c_X9_lay eh18) rfl ?_
          refine am_aload_n (pc' := 100) dX9_change_99 rfl rfl ?_
          refine am_iload_n (pc' := 101) dX9_change_100 rfl rfl ?_
          refine am_iload (pc' := 103) dX9_change_101 rfl rfl ?_
          refine am_iconst (v := (1 : Int32)) (pc' := 104) dX9_change_103 rfl rfl ?_
          refine am_iadd (pc' := 105) dX9_change_104 rfl ?_
          refine am_aload_n (pc' := 106) dX9_change_105 rfl rfl ?_
          obtain ⟨x19, ex19, hF⟩ := am_bind hF
          refine am_getr (pc' := 109) dX9_change_106 fw_X9_23 ex19 rfl ?_
          refine am_iload_n (pc' := 110) dX9_change_109 rfl rfl ?_
          obtain ⟨x20, ex20, hF⟩ := am_bind hF
          refine am_iald (pc' := 111) dX9_change_110 ex20 rfl ?_
          obtain ⟨h21, eh21, hF⟩ := am_bind hF
          obtain ⟨oh21, ph21⟩ := t_X9_takeBlocks eh21
          refine am_callV0 (Mc := M_X9_takeBlocks) (As := [.int v1, .int (x10 + (1 : Int32)), .int x20]) (st := []) (pc' := 114) dX9_change_111 cw_X9_173 wd_5_62 sl_X9_takeBlocks ⟨_, rfl, rfl⟩ (by decide) (by decide) rfl rfl (Nat.le_of_ble_eq_true rfl) ph21 (c_X9_takeBlocks eh21) rfl ?_
          refine am_aload_n (pc' := 115) dX9_change_114 rfl rfl ?_
          refine am_iload_n (pc' := 116) dX9_change_115 rfl rfl ?_
          obtain ⟨q22, eq22, hF⟩ := am_bind hF
          obtain ⟨oq22, pq22⟩ := t_X9_note eq22
          refine am_callV1 (Mc := M_X9_note) (As := [.int v1]) (st := []) (pc' := 119) dX9_change_116 cw_X9_137 wd_5_25 sl_X9_note ⟨_, rfl, rfl⟩ (by decide) (by decide) rfl rfl (Nat.le_of_ble_eq_true rfl) pq22 (c_X9_note eq22) rfl ?_
          cases hF
          exact am_iret dX9_change_119 rfl rfl
        · refine am_if_le_f (pc' := 47) (tgt := 50) dX9_change_44 rfl z8 rfl ?_
          refine am_ldc (v := (-100005 : Int32)) (pc' := 49) dX9_change_47 wd_5_55 rfl ?_
          cases hF
          exact am_iret dX9_change_49 rfl rfl
      · refine am_if_eq_f (pc' := 36) (tgt := 39) dX9_change_33 rfl z6 rfl ?_
        refine am_ldc (v := (-100004 : Int32)) (pc' := 38) dX9_change_36 wd_4_237 rfl ?_
        cases hF
        exact am_iret dX9_change_38 rfl rfl
  · refine am_if_eq_f (pc' := 10) (tgt := 13) dX9_change_7 rfl z2 rfl ?_
    refine am_ldc (v := (-100001 : Int32)) (pc' := 12) dX9_change_10 wd_5_47 rfl ?_
    cases hF
    exact am_iret dX9_change_12 rfl rfl
def F_X9_change (v0 : Nat) (v1 : Int32) (v2 : Int32) (v3 : Int32) (h : am_H) : Option (Int32 × am_H) := (am_obj v0 9 h).bind fun _ => F_X9_change_b v0 v1 v2 v3 h
theorem t_X9_change {x : Int32} {hf : am_H}  {v0 : Nat} {v1 : Int32} {v2 : Int32} {v3 : Int32} {h : am_H} (hF : F_X9_change v0 v1 v2 v3 h = some (x, hf)) : ∃ fs, am_obj v0 9 h = some fs := by
  obtain ⟨fs, e, _⟩ := am_bind hF
  exact ⟨fs, e⟩
theorem c_X9_change {g : am_G} {l : Launch} {x : Int32} {hf : am_H}  {v0 : Nat} {v1 : Int32} {v2 : Int32} {v3 : Int32} {h : am_H} (hF : F_X9_change v0 v1 v2 v3 h = some (x, hf)) : am_Met g l M_X9_change [.ref v0, .int v1, .int v2, .int v3] h (some (.int x)) hf := by
  obtain ⟨fs, e0, e⟩ := am_bind hF
  exact am_met (n := 1) (by decide +kernel) rfl (Nat.le_of_ble_eq_true rfl) (w_X9_change v0 v1 v2 v3 h e)
def F_X8_put_25 (h : am_H) : Option (Int32 × am_H) :=
  some ((-100001 : Int32), h)
theorem w_X8_put_25 {g : am_G} {l : Launch} {h0 : am_H} {x : Int32} {hf : am_H}  (h : am_H) (hF : F_X8_put_25 h = some (x, hf)) : am_W g l M_X8_put h0 (some (.int x)) hf 25 [none, none, none, none, none, none] [] h := by
  unfold F_X8_put_25 at hF
  refine am_ldc (v := (-100001 : Int32)) (pc' := 27) dX8_put_25 wd_2_137 rfl ?_
  cases hF
  exact am_iret dX8_put_27 rfl rfl
def F_X8_put_98 (h : am_H) : Option (Int32 × am_H) :=
  some ((-100004 : Int32), h)
theorem w_X8_put_98 {g : am_G} {l : Launch} {h0 : am_H} {x : Int32} {hf : am_H}  (h : am_H) (hF : F_X8_put_98 h = some (x, hf)) : am_W g l M_X8_put h0 (some (.int x)) hf 98 [none, none, none, none, none, none] [] h := by
  unfold F_X8_put_98 at hF
  refine am_ldc (v := (-100004 : Int32)) (pc' := 100) dX8_put_98 wd_1_238 rfl ?_
  cases hF
  exact am_iret dX8_put_100 rfl rfl
def F_X8_put_101 (v0 : Nat) (v1 : Int32) (v2 : Int32) (v3 : Int32) (h : am_H) : Option (Int32 × am_H) :=
  (F_X8_edited v0 v1 v2 v3 (0 : Int32) h).bind fun q1 =>
  some (q1.1, q1.2)
theorem w_X8_put_101 {g : am_G} {l : Launch} {h0 : am_H} {x : Int32} {hf : am_H}  (v0 : Nat) (v1 : Int32) (v2 : Int32) (v3 : Int32) (h : am_H) (hF : F_X8_put_101 v0 v1 v2 v3 h = some (x, hf)) : am_W g l M_X8_put h0 (some (.int x)) hf 101 [some (.ref v0), some (.int v1), some (.int v2), some (.int v3), none, none] [] h := by
  unfold F_X8_put_101 at hF
  refine am_aload_n (pc' := 102) dX8_put_101 rfl rfl ?_
  refine am_iload_n (pc' := 103) dX8_put_102 rfl rfl ?_
  refine am_iload_n (pc' := 104) dX8_put_103 rfl rfl ?_
  refine am_iload_n (pc' := 105) dX8_put_104 rfl rfl ?_
  refine am_iconst (v := (0 : Int32)) (pc' := 106) dX8_put_105 rfl rfl ?_
  obtain ⟨q1, eq1, hF⟩ := am_bind hF
  obtain ⟨oq1, pq1⟩ := t_X8_edited eq1
  refine am_callV1 (Mc := M_X8_edited) (As := [.int v1, .int v2, .int v3, .int (0 : Int32)]) (st := []) (pc' := 109) dX8_put_106 cw_X8_137 wd_2_143 sl_X8_edited ⟨_, rfl, rfl⟩ (by decide) (by decide) rfl rfl (Nat.le_of_ble_eq_true rfl) pq1 (c_X8_edited eq1) rfl ?_
  cases hF
  exact am_iret dX8_put_109 rfl rfl
def F_X8_put_74 (v0 : Nat) (v1 : Int32) (v2 : Int32) (v3 : Int32) (v4 : Nat) (v5 : Int32) (s0 : Nat) (s1 : Int32) (h : am_H) : Option (Int32 × am_H) :=
  (F_X8_hasRoom s0 s1 h).bind fun x1 =>
  if x1 = 0 then
    F_X8_put_98 h
  else
    if v5 = 0 then
      F_X8_put_101 v0 v1 v2 v3 h
    else
      (am_gr 7 0 v4 h).bind fun x4 =>
      (F_X4_length x4 h).bind fun x5 =>
      if x5 = (8 : Int32) then
        F_X8_put_98 h
      else
        F_X8_put_101 v0 v1 v2 v3 h
theorem w_X8_put_74 {g : am_G} {l : Launch} {h0 : am_H} {x : Int32} {hf : am_H}  (v0 : Nat) (v1 : Int32) (v2 : Int32) (v3 : Int32) (v4 : Nat) (v5 : Int32) (s0 : Nat) (s1 : Int32) (h : am_H) (hF : F_X8_put_74 v0 v1 v2 v3 v4 v5 s0 s1 h = some (x, hf)) : am_W g l M_X8_put h0 (some (.int x)) hf 74 [some (.ref v0), some (.int v1), some (.int v2), some (.int v3), some (.ref v4), some (.int v5)] [.int s1, .ref s0] h := by
  unfold F_X8_put_74 at hF
  obtain ⟨x1, ex1, hF⟩ := am_bind hF
  obtain ⟨ox1, px1⟩ := t_X8_hasRoom ex1
  refine am_callV1 (Mc := M_X8_hasRoom) (As := [.int s1]) (st := []) (pc' := 77) dX8_put_74 cw_X8_102 wd_2_10 sl_X8_hasRoom ⟨_, rfl, rfl⟩ (by decide) (by decide) rfl rfl (Nat.le_of_ble_eq_true rfl) px1 (c_X8_hasRoom ex1) rfl ?_
  rcases am_ite hF with ⟨z2, hF⟩ | ⟨z2, hF⟩
  · refine am_if_eq_t (pc' := 98) dX8_put_77 rfl z2 ?_
    exact am_weak [false, false, false, false, false, false] (w_X8_put_98 h hF)
  · refine am_if_eq_f (pc' := 80) (tgt := 98) dX8_put_77 rfl z2 rfl ?_
    refine am_iload (pc' := 82) dX8_put_80 rfl rfl ?_
    rcases am_ite hF with ⟨z3, hF⟩ | ⟨z3, hF⟩
    · refine am_if_eq_t (pc' := 101) dX8_put_82 rfl z3 ?_
      exact am_weak [true, true, true, true, false, false] (w_X8_put_101 v0 v1 v2 v3 h hF)
    · refine am_if_eq_f (pc' := 85) (tgt := 101) dX8_put_82 rfl z3 rfl ?_
      refine am_aload (pc' := 87) dX8_put_85 rfl rfl ?_
      obtain ⟨x4, ex4, hF⟩ := am_bind hF
      refine am_getr (pc' := 90) dX8_put_87 fw_X8_148 ex4 rfl ?_
      obtain ⟨x5, ex5, hF⟩ := am_bind hF
      obtain ⟨ox5, px5⟩ := t_X4_length ex5
      refine am_callV1 (Mc := M_X4_length) (As := []) (st := []) (pc' := 93) dX8_put_90 cw_X8_93 wd_1_235 wd_1_236 ⟨_, rfl, rfl⟩ (by decide) (by decide) rfl rfl (Nat.le_of_ble_eq_true rfl) px5 (c_X4_length ex5) rfl ?_
      refine am_bipush (v := (8 : Int32)) (pc' := 95) dX8_put_93 rfl rfl ?_
      rcases am_ite hF with ⟨z6, hF⟩ | ⟨z6, hF⟩
      · refine am_icmp_ne_f (pc' := 98) (tgt := 101) dX8_put_95 rfl z6 rfl ?_
        exact am_weak [false, false, false, false, false, false] (w_X8_put_98 h hF)
      · refine am_icmp_ne_t (pc' := 101) dX8_put_95 rfl z6 ?_
        exact am_weak [true, true, true, true, false, false] (w_X8_put_101 v0 v1 v2 v3 h hF)
def F_X8_put_61 (v0 : Nat) (v1 : Int32) (v2 : Int32) (v3 : Int32) (v4 : Nat) (s0 : Int32) (h : am_H) : Option (Int32 × am_H) :=
  if s0 = 0 then
    F_X8_put_74 v0 v1 v2 v3 v4 s0 v0 (1 : Int32) h
  else
    F_X8_put_74 v0 v1 v2 v3 v4 s0 v0 (2 : Int32) h
theorem w_X8_put_61 {g : am_G} {l : Launch} {h0 : am_H} {x : Int32} {hf : am_H}  (v0 : Nat) (v1 : Int32) (v2 : Int32) (v3 : Int32) (v4 : Nat) (s0 : Int32) (h : am_H) (hF : F_X8_put_61 v0 v1 v2 v3 v4 s0 h = some (x, hf)) : am_W g l M_X8_put h0 (some (.int x)) hf 61 [some (.ref v0), some (.int v1), some (.int v2), some (.int v3), some (.ref v4), none] [.int s0] h := by
  unfold F_X8_put_61 at hF
  refine am_istore (ls' := [some (.ref v0), some (.int v1), some (.int v2), some (.int v3), some (.ref v4), some (.int s0)]) (pc' := 63) dX8_put_61 (Nat.le_of_ble_eq_true rfl) rfl rfl ?_
  refine am_aload_n (pc' := 64) dX8_put_63 rfl rfl ?_
  refine am_iload (pc' := 66) dX8_put_64 rfl rfl ?_
  rcases am_ite hF with ⟨z1, hF⟩ | ⟨z1, hF⟩
  · refine am_if_eq_t (pc' := 73) dX8_put_66 rfl z1 ?_
    refine am_iconst (v := (1 : Int32)) (pc' := 74) dX8_put_73 rfl rfl ?_
    exact w_X8_put_74 v0 v1 v2 v3 v4 s0 v0 (1 : Int32) h hF
  · refine am_if_eq_f (pc' := 69) (tgt := 73) dX8_put_66 rfl z1 rfl ?_
    refine am_iconst (v := (2 : Int32)) (pc' := 70) dX8_put_69 rfl rfl ?_
    refine am_goto (pc' := 74) dX8_put_70 rfl ?_
    exact w_X8_put_74 v0 v1 v2 v3 v4 s0 v0 (2 : Int32) h hF
def F_X8_put_b (v0 : Nat) (v1 : Int32) (v2 : Int32) (v3 : Int32) (h : am_H) : Option (Int32 × am_H) :=
  (F_X8_versionOf v0 v1 h).bind fun x1 =>
  if x1 = 0 then
    F_X8_put_25 h
  else
    if v2 < 0 then
      F_X8_put_25 h
    else
      (am_gi 7 3 x1 h).bind fun x4 =>
      if v2 ≤ x4 then
        (F_X8_isSign v3 h).bind fun x6 =>
        if x6 = 0 then
          some ((-100002 : Int32), h)
        else
          (F_X8_indexAt v0 x1 v2 h).bind fun x8 =>
          (F_X8_lengthIn v0 x1 x8 h).bind fun x9 =>
          if x9 = (24 : Int32) then
            F_X8_put_61 v0 v1 v2 v3 x1 (1 : Int32) h
          else
            F_X8_put_61 v0 v1 v2 v3 x1 (0 : Int32) h
      else
        F_X8_put_25 h
theorem w_X8_put {g : am_G} {l : Launch} {h0 : am_H} {x : Int32} {hf : am_H}  (v0 : Nat) (v1 : Int32) (v2 : Int32) (v3 : Int32) (h : am_H) (hF : F_X8_put_b v0 v1 v2 v3 h = some (x, hf)) : am_W g l M_X8_put h0 (some (.int x)) hf 0 [some (.ref v0), some (.int v1), some (.int v2), some (.int v3), none, none] [] h := by
  unfold F_X8_put_b at hF
  refine am_aload_n (pc' := 1) dX8_put_0 rfl rfl ?_
  refine am_iload_n (pc' := 2) dX8_put_1 rfl rfl ?_
  obtain ⟨x1, ex1, hF⟩ := am_bind hF
  obtain ⟨ox1, px1⟩ := t_X8_versionOf ex1
  refine am_callV1 (Mc := M_X8_versionOf) (As := [.int v1]) (st := []) (pc' := 5) dX8_put_2 cw_X8_126 wd_2_135 sl_X8_versionOf ⟨_, rfl, rfl⟩ (by decide) (by decide) rfl rfl (Nat.le_of_ble_eq_true rfl) px1 (c_X8_versionOf ex1) rfl ?_
  refine am_astore (ls' := [some (.ref v0), some (.int v1), some (.int v2), some (.int v3), some (.ref x1), none]) (pc' := 7) dX8_put_5 (Nat.le_of_ble_eq_true rfl) rfl rfl ?_
  refine am_aload (pc' := 9) dX8_put_7 rfl rfl ?_
  rcases am_ite hF with ⟨z2, hF⟩ | ⟨z2, hF⟩
  · refine am_ifnull_t (pc' := 25) dX8_put_9 rfl z2 ?_
    exact am_weak [false, false, false, false, false, false] (w_X8_put_25 h hF)
  · refine am_ifnull_f (pc' := 12) dX8_put_9 z2 rfl ?_
    refine am_iload_n (pc' := 13) dX8_put_12 rfl rfl ?_
    rcases am_ite hF with ⟨z3, hF⟩ | ⟨z3, hF⟩
    · refine am_if_lt_t (pc' := 25) dX8_put_13 rfl z3 ?_
      exact am_weak [false, false, false, false, false, false] (w_X8_put_25 h hF)
    · refine am_if_lt_f (pc' := 16) (tgt := 25) dX8_put_13 rfl z3 rfl ?_
      refine am_iload_n (pc' := 17) dX8_put_16 rfl rfl ?_
      refine am_aload (pc' := 19) dX8_put_17 rfl rfl ?_
      obtain ⟨x4, ex4, hF⟩ := am_bind hF
      refine am_geti (pc' := 22) dX8_put_19 fw_X8_130 ex4 rfl ?_
      rcases am_ite hF with ⟨z5, hF⟩ | ⟨z5, hF⟩
      · refine am_icmp_le_t (pc' := 28) dX8_put_22 rfl z5 ?_
        refine am_iload_n (pc' := 29) dX8_put_28 rfl rfl ?_
        obtain ⟨x6, ex6, hF⟩ := am_bind hF
        refine am_callS1 (Mc := M_X8_isSign) (As := [.int v3]) (st := []) (pc' := 32) dX8_put_29 cw_X8_134 wd_2_139 (by decide) (by decide) rfl rfl (Nat.le_of_ble_eq_true rfl) (c_X8_isSign ex6) rfl ?_
        rcases am_ite hF with ⟨z7, hF⟩ | ⟨z7, hF⟩
        · refine am_if_ne_f (pc' := 35) (tgt := 38) dX8_put_32 rfl z7 rfl ?_
          refine am_ldc (v := (-100002 : Int32)) (pc' := 37) dX8_put_35 wd_1_233 rfl ?_
          cases hF
          exact am_iret dX8_put_37 rfl rfl
        · refine am_if_ne_t (pc' := 38) dX8_put_32 rfl z7 ?_
          refine am_aload_n (pc' := 39) dX8_put_38 rfl rfl ?_
          refine am_aload (pc' := 41) dX8_put_39 rfl rfl ?_
          refine am_aload_n (pc' := 42) dX8_put_41 rfl rfl ?_
          refine am_aload (pc' := 44) dX8_put_42 rfl rfl ?_
          refine am_iload_n (pc' := 45) dX8_put_44 rfl rfl ?_
          obtain ⟨x8, ex8, hF⟩ := am_bind hF
          obtain ⟨ox8, px8⟩ := t_X8_indexAt ex8
          refine am_callV1 (Mc := M_X8_indexAt) (As := [.ref x1, .int v2]) (st := [.ref x1, .ref v0]) (pc' := 48) dX8_put_45 cw_X8_141 wd_2_156 sl_X8_indexAt ⟨_, rfl, rfl⟩ (by decide) (by decide) rfl rfl (Nat.le_of_ble_eq_true rfl) px8 (c_X8_indexAt ex8) rfl ?_
          obtain ⟨x9, ex9, hF⟩ := am_bind hF
          obtain ⟨ox9, px9⟩ := t_X8_lengthIn ex9
          refine am_callV1 (Mc := M_X8_lengthIn) (As := [.ref x1, .int x8]) (st := []) (pc' := 51) dX8_put_48 cw_X8_145 wd_2_114 sl_X8_lengthIn ⟨_, rfl, rfl⟩ (by decide) (by decide) rfl rfl (Nat.le_of_ble_eq_true rfl) px9 (c_X8_lengthIn ex9) rfl ?_
          refine am_bipush (v := (24 : Int32)) (pc' := 53) dX8_put_51 rfl rfl ?_
          rcases am_ite hF with ⟨z10, hF⟩ | ⟨z10, hF⟩
          · refine am_icmp_ne_f (pc' := 56) (tgt := 60) dX8_put_53 rfl z10 rfl ?_
            refine am_iconst (v := (1 : Int32)) (pc' := 57) dX8_put_56 rfl rfl ?_
            refine am_goto (pc' := 61) dX8_put_57 rfl ?_
            exact w_X8_put_61 v0 v1 v2 v3 x1 (1 : Int32) h hF
          · refine am_icmp_ne_t (pc' := 60) dX8_put_53 rfl z10 ?_
            refine am_iconst (v := (0 : Int32)) (pc' := 61) dX8_put_60 rfl rfl ?_
            exact w_X8_put_61 v0 v1 v2 v3 x1 (0 : Int32) h hF
      · refine am_icmp_le_f (pc' := 25) (tgt := 28) dX8_put_22 rfl z5 rfl ?_
        exact am_weak [false, false, false, false, false, false] (w_X8_put_25 h hF)
def F_X8_put (v0 : Nat) (v1 : Int32) (v2 : Int32) (v3 : Int32) (h : am_H) : Option (Int32 × am_H) := (am_obj v0 8 h).bind fun _ => F_X8_put_b v0 v1 v2 v3 h
theorem t_X8_put {x : Int32} {hf : am_H}  {v0 : Nat} {v1 : Int32} {v2 : Int32} {v3 : Int32} {h : am_H} (hF : F_X8_put v0 v1 v2 v3 h = some (x, hf)) : ∃ fs, am_obj v0 8 h = some fs := by
  obtain ⟨fs, e, _⟩ := am_bind hF
  exact ⟨fs, e⟩
theorem c_X8_put {g : am_G} {l : Launch} {x : Int32} {hf : am_H}  {v0 : Nat} {v1 : Int32} {v2 : Int32} {v3 : Int32} {h : am_H} (hF : F_X8_put v0 v1 v2 v3 h = some (x, hf)) : am_Met g l M_X8_put [.ref v0, .int v1, .int v2, .int v3] h (some (.int x)) hf := by
  obtain ⟨fs, e0, e⟩ := am_bind hF
  exact am_met (n := 2) (by decide +kernel) rfl (Nat.le_of_ble_eq_true rfl) (w_X8_put v0 v1 v2 v3 h e)
def F_X9_laySplit_12 : Nat → Nat → Int32 → am_H → Option am_H
  | 0, _, _, _ => none
  | n + 1, v0, v1, h =>
  if (13 : Int32) ≤ v1 then
    (am_pi 9 14 v0 (13 : Int32) h).bind fun h2 =>
    (F_X9_lay v0 h2).bind fun h3 =>
    some h3
  else
    (am_gr 9 13 v0 h).bind fun x4 =>
    (am_gr 9 13 v0 h).bind fun x5 =>
    (am_il 0 x5 ((12 : Int32) + v1) h).bind fun x6 =>
    (am_is 0 x4 v1 x6 h).bind fun h7 =>
    F_X9_laySplit_12 n v0 (v1 + (1 : Int32)) h7
theorem w_X9_laySplit_12 {g : am_G} {l : Launch} {h0 : am_H} {hf : am_H}  : ∀ (n : Nat) (v0 : Nat) (v1 : Int32) (h : am_H), F_X9_laySplit_12 n v0 v1 h = some hf → am_W g l M_X9_laySplit h0 none hf 12 [some (.ref v0), some (.int v1)] [] h
  | 0, _, _, _, hF => by cases hF
  | n + 1, v0, v1, h, hF => by
    rw [F_X9_laySplit_12] at hF
    refine am_iload_n (pc' := 13) dX9_laySplit_12 rfl rfl ?_
    refine am_bipush (v := (13 : Int32)) (pc' := 15) dX9_laySplit_13 rfl rfl ?_
    rcases am_ite hF with ⟨z1, hF⟩ | ⟨z1, hF⟩
    · refine am_icmp_ge_t (pc' := 39) dX9_laySplit_15 rfl z1 ?_
      refine am_aload_n (pc' := 40) dX9_laySplit_39 rfl rfl ?_
      refine am_bipush (v := (13 : Int32)) (pc' := 42) dX9_laySplit_40 rfl rfl ?_
      obtain ⟨h2, eh2, hF⟩ := am_bind hF
      refine am_puti (pc' := 45) dX9_laySplit_42 fx_X9_110 eh2 rfl ?_
      refine am_aload_n (pc' := 46) dX9_laySplit_45 rfl rfl ?_
      obtain ⟨h3, eh3, hF⟩ := am_bind hF
      obtain ⟨oh3, ph3⟩ := t_X9_lay eh3
      refine am_callV0 (Mc := M_X9_lay) (As := []) (st := []) (pc' := 49) dX9_laySplit_46 cw_X9_134 wd_5_13 sl_X9_lay ⟨_, rfl, rfl⟩ (by decide) (by decide) rfl rfl (Nat.le_of_ble_eq_true rfl) ph3 (c_X9_lay eh3) rfl ?_
      cases hF
      exact am_vret dX9_laySplit_49 rfl
    · refine am_icmp_ge_f (pc' := 18) (tgt := 39) dX9_laySplit_15 rfl z1 rfl ?_
      refine am_aload_n (pc' := 19) dX9_laySplit_18 rfl rfl ?_
      obtain ⟨x4, ex4, hF⟩ := am_bind hF
      refine am_getr (pc' := 22) dX9_laySplit_19 fw_X9_41 ex4 rfl ?_
      refine am_iload_n (pc' := 23) dX9_laySplit_22 rfl rfl ?_
      refine am_aload_n (pc' := 24) dX9_laySplit_23 rfl rfl ?_
      obtain ⟨x5, ex5, hF⟩ := am_bind hF
      refine am_getr (pc' := 27) dX9_laySplit_24 fw_X9_41 ex5 rfl ?_
      refine am_bipush (v := (12 : Int32)) (pc' := 29) dX9_laySplit_27 rfl rfl ?_
      refine am_iload_n (pc' := 30) dX9_laySplit_29 rfl rfl ?_
      refine am_iadd (pc' := 31) dX9_laySplit_30 rfl ?_
      obtain ⟨x6, ex6, hF⟩ := am_bind hF
      refine am_iald (pc' := 32) dX9_laySplit_31 ex6 rfl ?_
      obtain ⟨h7, eh7, hF⟩ := am_bind hF
      refine am_iast (pc' := 33) dX9_laySplit_32 eh7 rfl ?_
      refine am_iinc (ls' := [some (.ref v0), some (.int (v1 + (1 : Int32)))]) (pc' := 36) (v := (v1 + (1 : Int32))) dX9_laySplit_33 rfl rfl (Nat.le_of_ble_eq_true rfl) rfl rfl ?_
      refine am_goto (pc' := 12) dX9_laySplit_36 rfl ?_
      exact w_X9_laySplit_12 n v0 (v1 + (1 : Int32)) h7 hF
def F_X9_laySplit_b (v0 : Nat) (h : am_H) : Option am_H :=
  (am_pi 9 14 v0 (12 : Int32) h).bind fun h1 =>
  (F_X9_lay v0 h1).bind fun h2 =>
  F_X9_laySplit_12 am_F v0 (0 : Int32) h2
theorem w_X9_laySplit {g : am_G} {l : Launch} {h0 : am_H} {hf : am_H}  (v0 : Nat) (h : am_H) (hF : F_X9_laySplit_b v0 h = some hf) : am_W g l M_X9_laySplit h0 none hf 0 [some (.ref v0), none] [] h := by
  unfold F_X9_laySplit_b at hF
  refine am_aload_n (pc' := 1) dX9_laySplit_0 rfl rfl ?_
  refine am_bipush (v := (12 : Int32)) (pc' := 3) dX9_laySplit_1 rfl rfl ?_
  obtain ⟨h1, eh1, hF⟩ := am_bind hF
  refine am_puti (pc' := 6) dX9_laySplit_3 fx_X9_110 eh1 rfl ?_
  refine am_aload_n (pc' := 7) dX9_laySplit_6 rfl rfl ?_
  obtain ⟨h2, eh2, hF⟩ := am_bind hF
  obtain ⟨oh2, ph2⟩ := t_X9_lay eh2
  refine am_callV0 (Mc := M_X9_lay) (As := []) (st := []) (pc' := 10) dX9_laySplit_7 cw_X9_134 wd_5_13 sl_X9_lay ⟨_, rfl, rfl⟩ (by decide) (by decide) rfl rfl (Nat.le_of_ble_eq_true rfl) ph2 (c_X9_lay eh2) rfl ?_
  refine am_iconst (v := (0 : Int32)) (pc' := 11) dX9_laySplit_10 rfl rfl ?_
  refine am_istore_n (ls' := [some (.ref v0), some (.int (0 : Int32))]) (pc' := 12) dX9_laySplit_11 (Nat.le_of_ble_eq_true rfl) rfl rfl ?_
  exact w_X9_laySplit_12 am_F v0 (0 : Int32) h2 hF
def F_X9_laySplit (v0 : Nat) (h : am_H) : Option am_H := (am_obj v0 9 h).bind fun _ => F_X9_laySplit_b v0 h
theorem t_X9_laySplit {hf : am_H}  {v0 : Nat} {h : am_H} (hF : F_X9_laySplit v0 h = some hf) : ∃ fs, am_obj v0 9 h = some fs := by
  obtain ⟨fs, e, _⟩ := am_bind hF
  exact ⟨fs, e⟩
theorem c_X9_laySplit {g : am_G} {l : Launch} {hf : am_H}  {v0 : Nat} {h : am_H} (hF : F_X9_laySplit v0 h = some hf) : am_Met g l M_X9_laySplit [.ref v0] h none hf := by
  obtain ⟨fs, e0, e⟩ := am_bind hF
  exact am_met (n := 1) (by decide +kernel) rfl (Nat.le_of_ble_eq_true rfl) (w_X9_laySplit v0 h e)
theorem cw_X9_181 : am_cw "SignCellarModel" 181 M_X9_laySplit 0 := ⟨wd_1_9, wd_5_75, ⟨by decide, by decide, by decide⟩, Or.inl wd_5_72⟩
theorem sl_X9_laySplit : Cond.selects (⟨"SignCellarModel", "laySplit", "()V"⟩ : MethodName).cls ⟨"SignCellarModel", "laySplit", "()V"⟩ ⟨"SignCellarModel", "laySplit", "()V"⟩ ∈ am_ts := am_in_p (q := (⟨"SignCellarModel", "laySplit", "()V"⟩, 42)) (by decide +kernel)
def F_X9_put_159 (h : am_H) : Option (Int32 × am_H) :=
  some ((-100004 : Int32), h)
theorem w_X9_put_159 {g : am_G} {l : Launch} {h0 : am_H} {x : Int32} {hf : am_H}  (h : am_H) (hF : F_X9_put_159 h = some (x, hf)) : am_W g l M_X9_put h0 (some (.int x)) hf 159 [none, none, none, none, none, none, none, none, none] [] h := by
  unfold F_X9_put_159 at hF
  refine am_ldc (v := (-100004 : Int32)) (pc' := 161) dX9_put_159 wd_4_237 rfl ?_
  cases hF
  exact am_iret dX9_put_161 rfl rfl
def F_X9_put_275 (v0 : Nat) (v1 : Int32) (v4 : Int32) (v5 : Int32) (h : am_H) : Option (Int32 × am_H) :=
  (F_X9_takeBlocks v0 v1 (v5 + (1 : Int32)) v4 h).bind fun h1 =>
  (F_X9_note v0 v1 h1).bind fun q2 =>
  some (q2.1, q2.2)
theorem w_X9_put_275 {g : am_G} {l : Launch} {h0 : am_H} {x : Int32} {hf : am_H}  (v0 : Nat) (v1 : Int32) (v4 : Int32) (v5 : Int32) (h : am_H) (hF : F_X9_put_275 v0 v1 v4 v5 h = some (x, hf)) : am_W g l M_X9_put h0 (some (.int x)) hf 275 [some (.ref v0), some (.int v1), none, none, some (.int v4), some (.int v5), none, none, none] [] h := by
  unfold F_X9_put_275 at hF
  refine am_aload_n (pc' := 276) dX9_put_275 rfl rfl ?_
  refine am_iload_n (pc' := 277) dX9_put_276 rfl rfl ?_
  refine am_iload (pc' := 279) dX9_put_277 rfl rfl ?_
  refine am_iconst (v := (1 : Int32)) (pc' := 280) dX9_put_279 rfl rfl ?_
  refine am_iadd (pc' := 281) dX9_put_280 rfl ?_
  refine am_iload (pc' := 283) dX9_put_281 rfl rfl ?_
  obtain ⟨h1, eh1, hF⟩ := am_bind hF
  obtain ⟨oh1, ph1⟩ := t_X9_takeBlocks eh1
  refine am_callV0 (Mc := M_X9_takeBlocks) (As := [.int v1, .int (v5 + (1 : Int32)), .int v4]) (st := []) (pc' := 286) dX9_put_283 cw_X9_173 wd_5_62 sl_X9_takeBlocks ⟨_, rfl, rfl⟩ (by decide) (by decide) rfl rfl (Nat.le_of_ble_eq_true rfl) ph1 (c_X9_takeBlocks eh1) rfl ?_
  refine am_aload_n (pc' := 287) dX9_put_286 rfl rfl ?_
  refine am_iload_n (pc' := 288) dX9_put_287 rfl rfl ?_
  obtain ⟨q2, eq2, hF⟩ := am_bind hF
  obtain ⟨oq2, pq2⟩ := t_X9_note eq2
  refine am_callV1 (Mc := M_X9_note) (As := [.int v1]) (st := []) (pc' := 291) dX9_put_288 cw_X9_137 wd_5_25 sl_X9_note ⟨_, rfl, rfl⟩ (by decide) (by decide) rfl rfl (Nat.le_of_ble_eq_true rfl) pq2 (c_X9_note eq2) rfl ?_
  cases hF
  exact am_iret dX9_put_291 rfl rfl
def F_X9_put_212 : Nat → Nat → Int32 → Int32 → Int32 → Int32 → Int32 → Int32 → Int32 → am_H → Option (Int32 × am_H)
  | 0, _, _, _, _, _, _, _, _, _ => none
  | n + 1, v0, v1, v3, v4, v5, v6, v7, v8, h =>
  if v8 ≤ v6 then
    (am_gr 9 13 v0 h).bind fun x2 =>
    (am_is 0 x2 v6 v3 h).bind fun h3 =>
    (am_gi 9 14 v0 h3).bind fun x4 =>
    (am_pi 9 14 v0 (x4 + (1 : Int32)) h3).bind fun h5 =>
    if v7 = 0 then
      (F_X9_lay v0 h5).bind fun h7 =>
      F_X9_put_275 v0 v1 v4 v5 h7
    else
      (F_X9_laySplit v0 h5).bind fun h8 =>
      F_X9_put_275 v0 v1 v4 v5 h8
  else
    (am_gr 9 13 v0 h).bind fun x9 =>
    (am_gr 9 13 v0 h).bind fun x10 =>
    (am_il 0 x10 (v8 - (1 : Int32)) h).bind fun x11 =>
    (am_is 0 x9 v8 x11 h).bind fun h12 =>
    F_X9_put_212 n v0 v1 v3 v4 v5 v6 v7 (v8 + (-1 : Int32)) h12
theorem w_X9_put_212 {g : am_G} {l : Launch} {h0 : am_H} {x : Int32} {hf : am_H}  : ∀ (n : Nat) (v0 : Nat) (v1 : Int32) (v3 : Int32) (v4 : Int32) (v5 : Int32) (v6 : Int32) (v7 : Int32) (v8 : Int32) (h : am_H), F_X9_put_212 n v0 v1 v3 v4 v5 v6 v7 v8 h = some (x, hf) → am_W g l M_X9_put h0 (some (.int x)) hf 212 [some (.ref v0), some (.int v1), none, some (.int v3), some (.int v4), some (.int v5), some (.int v6), some (.int v7), some (.int v8)] [] h
  | 0, _, _, _, _, _, _, _, _, _, hF => by cases hF
  | n + 1, v0, v1, v3, v4, v5, v6, v7, v8, h, hF => by
    rw [F_X9_put_212] at hF
    refine am_iload (pc' := 214) dX9_put_212 rfl rfl ?_
    refine am_iload (pc' := 216) dX9_put_214 rfl rfl ?_
    rcases am_ite hF with ⟨z1, hF⟩ | ⟨z1, hF⟩
    · refine am_icmp_le_t (pc' := 241) dX9_put_216 rfl z1 ?_
      refine am_aload_n (pc' := 242) dX9_put_241 rfl rfl ?_
      obtain ⟨x2, ex2, hF⟩ := am_bind hF
      refine am_getr (pc' := 245) dX9_put_242 fw_X9_41 ex2 rfl ?_
      refine am_iload (pc' := 247) dX9_put_245 rfl rfl ?_
      refine am_iload_n (pc' := 248) dX9_put_247 rfl rfl ?_
      obtain ⟨h3, eh3, hF⟩ := am_bind hF
      refine am_iast (pc' := 249) dX9_put_248 eh3 rfl ?_
      refine am_aload_n (pc' := 250) dX9_put_249 rfl rfl ?_
      refine am_dup (pc' := 251) dX9_put_250 rfl rfl ?_
      obtain ⟨x4, ex4, hF⟩ := am_bind hF
      refine am_geti (pc' := 254) dX9_put_251 fw_X9_110 ex4 rfl ?_
      refine am_iconst (v := (1 : Int32)) (pc' := 255) dX9_put_254 rfl rfl ?_
      refine am_iadd (pc' := 256) dX9_put_255 rfl ?_
      obtain ⟨h5, eh5, hF⟩ := am_bind hF
      refine am_puti (pc' := 259) dX9_put_256 fx_X9_110 eh5 rfl ?_
      refine am_iload (pc' := 261) dX9_put_259 rfl rfl ?_
      rcases am_ite hF with ⟨z6, hF⟩ | ⟨z6, hF⟩
      · refine am_if_eq_t (pc' := 271) dX9_put_261 rfl z6 ?_
        refine am_aload_n (pc' := 272) dX9_put_271 rfl rfl ?_
        obtain ⟨h7, eh7, hF⟩ := am_bind hF
        obtain ⟨oh7, ph7⟩ := t_X9_lay eh7
        refine am_callV0 (Mc := M_X9_lay) (As := []) (st := []) (pc' := 275) dX9_put_272 cw_X9_134 wd_5_13 sl_X9_lay ⟨_, rfl, rfl⟩ (by decide) (by decide) rfl rfl (Nat.le_of_ble_eq_true rfl) ph7 (c_X9_lay eh7) rfl ?_
        exact am_weak [true, true, false, false, true, true, false, false, false] (w_X9_put_275 v0 v1 v4 v5 h7 hF)
      · refine am_if_eq_f (pc' := 264) (tgt := 271) dX9_put_261 rfl z6 rfl ?_
        refine am_aload_n (pc' := 265) dX9_put_264 rfl rfl ?_
        obtain ⟨h8, eh8, hF⟩ := am_bind hF
        obtain ⟨oh8, ph8⟩ := t_X9_laySplit eh8
        refine am_callV0 (Mc := M_X9_laySplit) (As := []) (st := []) (pc' := 268) dX9_put_265 cw_X9_181 wd_5_74 sl_X9_laySplit ⟨_, rfl, rfl⟩ (by decide) (by decide) rfl rfl (Nat.le_of_ble_eq_true rfl) ph8 (c_X9_laySplit eh8) rfl ?_
        refine am_goto (pc' := 275) dX9_put_268 rfl ?_
        exact am_weak [true, true, false, false, true, true, false, false, false] (w_X9_put_275 v0 v1 v4 v5 h8 hF)
    · refine am_icmp_le_f (pc' := 219) (tgt := 241) dX9_put_216 rfl z1 rfl ?_
      refine am_aload_n (pc' := 220) dX9_put_219 rfl rfl ?_
      obtain ⟨x9, ex9, hF⟩ := am_bind hF
      refine am_getr (pc' := 223) dX9_put_220 fw_X9_41 ex9 rfl ?_
      refine am_iload (pc' := 225) dX9_put_223 rfl rfl ?_
      refine am_aload_n (pc' := 226) dX9_put_225 rfl rfl ?_
      obtain ⟨x10, ex10, hF⟩ := am_bind hF
      refine am_getr (pc' := 229) dX9_put_226 fw_X9_41 ex10 rfl ?_
      refine am_iload (pc' := 231) dX9_put_229 rfl rfl ?_
      refine am_iconst (v := (1 : Int32)) (pc' := 232) dX9_put_231 rfl rfl ?_
      refine am_isub (pc' := 233) dX9_put_232 rfl ?_
      obtain ⟨x11, ex11, hF⟩ := am_bind hF
      refine am_iald (pc' := 234) dX9_put_233 ex11 rfl ?_
      obtain ⟨h12, eh12, hF⟩ := am_bind hF
      refine am_iast (pc' := 235) dX9_put_234 eh12 rfl ?_
      refine am_iinc (ls' := [some (.ref v0), some (.int v1), none, some (.int v3), some (.int v4), some (.int v5), some (.int v6), some (.int v7), some (.int (v8 + (-1 : Int32)))]) (pc' := 238) (v := (v8 + (-1 : Int32))) dX9_put_235 rfl rfl (Nat.le_of_ble_eq_true rfl) rfl rfl ?_
      refine am_goto (pc' := 212) dX9_put_238 rfl ?_
      exact w_X9_put_212 n v0 v1 v3 v4 v5 v6 v7 (v8 + (-1 : Int32)) h12 hF
def F_X9_put_206 (v0 : Nat) (v1 : Int32) (v3 : Int32) (v4 : Int32) (v5 : Int32) (v6 : Int32) (v7 : Int32) (h : am_H) : Option (Int32 × am_H) :=
  (am_gi 9 14 v0 h).bind fun x1 =>
  F_X9_put_212 am_F v0 v1 v3 v4 v5 v6 v7 x1 h
theorem w_X9_put_206 {g : am_G} {l : Launch} {h0 : am_H} {x : Int32} {hf : am_H}  (v0 : Nat) (v1 : Int32) (v3 : Int32) (v4 : Int32) (v5 : Int32) (v6 : Int32) (v7 : Int32) (h : am_H) (hF : F_X9_put_206 v0 v1 v3 v4 v5 v6 v7 h = some (x, hf)) : am_W g l M_X9_put h0 (some (.int x)) hf 206 [some (.ref v0), some (.int v1), none, some (.int v3), some (.int v4), some (.int v5), some (.int v6), some (.int v7), none] [] h := by
  unfold F_X9_put_206 at hF
  refine am_aload_n (pc' := 207) dX9_put_206 rfl rfl ?_
  obtain ⟨x1, ex1, hF⟩ := am_bind hF
  refine am_geti (pc' := 210) dX9_put_207 fw_X9_110 ex1 rfl ?_
  refine am_istore (ls' := [some (.ref v0), some (.int v1), none, some (.int v3), some (.int v4), some (.int v5), some (.int v6), some (.int v7), some (.int x1)]) (pc' := 212) dX9_put_210 (Nat.le_of_ble_eq_true rfl) rfl rfl ?_
  exact w_X9_put_212 am_F v0 v1 v3 v4 v5 v6 v7 x1 h hF
def F_X9_put_162 (v0 : Nat) (v1 : Int32) (v3 : Int32) (v4 : Int32) (v5 : Int32) (v6 : Int32) (v7 : Int32) (h : am_H) : Option (Int32 × am_H) :=
  (F_X9_tornIn v0 v1 h).bind fun x1 =>
  if x1 ≤ 0 then
    (F_X9_begin v0 h).bind fun h3 =>
    (F_X9_takeBlocks v0 v1 (0 : Int32) v5 h3).bind fun h4 =>
    (am_pi 9 14 v0 (0 : Int32) h4).bind fun h5 =>
    if v4 ≤ 0 then
      F_X9_put_206 v0 v1 v3 v4 v5 v6 v7 h5
    else
      (F_X9_blockAt v0 v1 v5 h5).bind fun x7 =>
      (F_X9_takeSigns v0 x7 h5).bind fun h8 =>
      F_X9_put_206 v0 v1 v3 v4 v5 v6 v7 h8
  else
    some ((-100005 : Int32), h)
theorem w_X9_put_162 {g : am_G} {l : Launch} {h0 : am_H} {x : Int32} {hf : am_H}  (v0 : Nat) (v1 : Int32) (v3 : Int32) (v4 : Int32) (v5 : Int32) (v6 : Int32) (v7 : Int32) (h : am_H) (hF : F_X9_put_162 v0 v1 v3 v4 v5 v6 v7 h = some (x, hf)) : am_W g l M_X9_put h0 (some (.int x)) hf 162 [some (.ref v0), some (.int v1), none, some (.int v3), some (.int v4), some (.int v5), some (.int v6), some (.int v7), none] [] h := by
  unfold F_X9_put_162 at hF
  refine am_aload_n (pc' := 163) dX9_put_162 rfl rfl ?_
  refine am_iload_n (pc' := 164) dX9_put_163 rfl rfl ?_
  obtain ⟨x1, ex1, hF⟩ := am_bind hF
  obtain ⟨ox1, px1⟩ := t_X9_tornIn ex1
  refine am_callV1 (Mc := M_X9_tornIn) (As := [.int v1]) (st := []) (pc' := 167) dX9_put_164 cw_X9_165 wd_5_50 sl_X9_tornIn ⟨_, rfl, rfl⟩ (by decide) (by decide) rfl rfl (Nat.le_of_ble_eq_true rfl) px1 (c_X9_tornIn ex1) rfl ?_
  rcases am_ite hF with ⟨z2, hF⟩ | ⟨z2, hF⟩
  · refine am_if_le_t (pc' := 173) dX9_put_167 rfl z2 ?_
    refine am_aload_n (pc' := 174) dX9_put_173 rfl rfl ?_
    obtain ⟨h3, eh3, hF⟩ := am_bind hF
    obtain ⟨oh3, ph3⟩ := t_X9_begin eh3
    refine am_callV0 (Mc := M_X9_begin) (As := []) (st := []) (pc' := 177) dX9_put_174 cw_X9_131 wd_5_9 sl_X9_begin ⟨_, rfl, rfl⟩ (by decide) (by decide) rfl rfl (Nat.le_of_ble_eq_true rfl) ph3 (c_X9_begin eh3) rfl ?_
    refine am_aload_n (pc' := 178) dX9_put_177 rfl rfl ?_
    refine am_iload_n (pc' := 179) dX9_put_178 rfl rfl ?_
    refine am_iconst (v := (0 : Int32)) (pc' := 180) dX9_put_179 rfl rfl ?_
    refine am_iload (pc' := 182) dX9_put_180 rfl rfl ?_
    obtain ⟨h4, eh4, hF⟩ := am_bind hF
    obtain ⟨oh4, ph4⟩ := t_X9_takeBlocks eh4
    refine am_callV0 (Mc := M_X9_takeBlocks) (As := [.int v1, .int (0 : Int32), .int v5]) (st := []) (pc' := 185) dX9_put_182 cw_X9_173 wd_5_62 sl_X9_takeBlocks ⟨_, rfl, rfl⟩ (by decide) (by decide) rfl rfl (Nat.le_of_ble_eq_true rfl) ph4 (c_X9_takeBlocks eh4) rfl ?_
    refine am_aload_n (pc' := 186) dX9_put_185 rfl rfl ?_
    refine am_iconst (v := (0 : Int32)) (pc' := 187) dX9_put_186 rfl rfl ?_
    obtain ⟨h5, eh5, hF⟩ := am_bind hF
    refine am_puti (pc' := 190) dX9_put_187 fx_X9_110 eh5 rfl ?_
    refine am_iload (pc' := 192) dX9_put_190 rfl rfl ?_
    rcases am_ite hF with ⟨z6, hF⟩ | ⟨z6, hF⟩
    · refine am_if_le_t (pc' := 206) dX9_put_192 rfl z6 ?_
      exact w_X9_put_206 v0 v1 v3 v4 v5 v6 v7 h5 hF
    · refine am_if_le_f (pc' := 195) (tgt := 206) dX9_put_192 rfl z6 rfl ?_
      refine am_aload_n (pc' := 196) dX9_put_195 rfl rfl ?_
      refine am_aload_n (pc' := 197) dX9_put_196 rfl rfl ?_
      refine am_iload_n (pc' := 198) dX9_put_197 rfl rfl ?_
      refine am_iload (pc' := 200) dX9_put_198 rfl rfl ?_
      obtain ⟨x7, ex7, hF⟩ := am_bind hF
      obtain ⟨ox7, px7⟩ := t_X9_blockAt ex7
      refine am_callV1 (Mc := M_X9_blockAt) (As := [.int v1, .int v5]) (st := [.ref v0]) (pc' := 203) dX9_put_200 cw_X9_141 wd_5_45 sl_X9_blockAt ⟨_, rfl, rfl⟩ (by decide) (by decide) rfl rfl (Nat.le_of_ble_eq_true rfl) px7 (c_X9_blockAt ex7) rfl ?_
      obtain ⟨h8, eh8, hF⟩ := am_bind hF
      obtain ⟨oh8, ph8⟩ := t_X9_takeSigns eh8
      refine am_callV0 (Mc := M_X9_takeSigns) (As := [.int x7]) (st := []) (pc' := 206) dX9_put_203 cw_X9_177 wd_5_66 sl_X9_takeSigns ⟨_, rfl, rfl⟩ (by decide) (by decide) rfl rfl (Nat.le_of_ble_eq_true rfl) ph8 (c_X9_takeSigns eh8) rfl ?_
      exact w_X9_put_206 v0 v1 v3 v4 v5 v6 v7 h8 hF
  · refine am_if_le_f (pc' := 170) (tgt := 173) dX9_put_167 rfl z2 rfl ?_
    refine am_ldc (v := (-100005 : Int32)) (pc' := 172) dX9_put_170 wd_5_55 rfl ?_
    cases hF
    exact am_iret dX9_put_172 rfl rfl
def F_X9_put_141 (v0 : Nat) (v1 : Int32) (v3 : Int32) (v4 : Int32) (v5 : Int32) (v6 : Int32) (v7 : Int32) (s0 : Nat) (s1 : Int32) (h : am_H) : Option (Int32 × am_H) :=
  (F_X9_isFull s0 s1 h).bind fun x1 =>
  if x1 = 0 then
    if v7 = 0 then
      F_X9_put_162 v0 v1 v3 v4 v5 v6 v7 h
    else
      if v4 = (8 : Int32) then
        F_X9_put_159 h
      else
        F_X9_put_162 v0 v1 v3 v4 v5 v6 v7 h
  else
    F_X9_put_159 h
theorem w_X9_put_141 {g : am_G} {l : Launch} {h0 : am_H} {x : Int32} {hf : am_H}  (v0 : Nat) (v1 : Int32) (v3 : Int32) (v4 : Int32) (v5 : Int32) (v6 : Int32) (v7 : Int32) (s0 : Nat) (s1 : Int32) (h : am_H) (hF : F_X9_put_141 v0 v1 v3 v4 v5 v6 v7 s0 s1 h = some (x, hf)) : am_W g l M_X9_put h0 (some (.int x)) hf 141 [some (.ref v0), some (.int v1), none, some (.int v3), some (.int v4), some (.int v5), some (.int v6), some (.int v7), none] [.int s1, .ref s0] h := by
  unfold F_X9_put_141 at hF
  obtain ⟨x1, ex1, hF⟩ := am_bind hF
  obtain ⟨ox1, px1⟩ := t_X9_isFull ex1
  refine am_callV1 (Mc := M_X9_isFull) (As := [.int s1]) (st := []) (pc' := 144) dX9_put_141 cw_X9_128 wd_5_5 sl_X9_isFull ⟨_, rfl, rfl⟩ (by decide) (by decide) rfl rfl (Nat.le_of_ble_eq_true rfl) px1 (c_X9_isFull ex1) rfl ?_
  rcases am_ite hF with ⟨z2, hF⟩ | ⟨z2, hF⟩
  · refine am_if_ne_f (pc' := 147) (tgt := 159) dX9_put_144 rfl z2 rfl ?_
    refine am_iload (pc' := 149) dX9_put_147 rfl rfl ?_
    rcases am_ite hF with ⟨z3, hF⟩ | ⟨z3, hF⟩
    · refine am_if_eq_t (pc' := 162) dX9_put_149 rfl z3 ?_
      exact w_X9_put_162 v0 v1 v3 v4 v5 v6 v7 h hF
    · refine am_if_eq_f (pc' := 152) (tgt := 162) dX9_put_149 rfl z3 rfl ?_
      refine am_iload (pc' := 154) dX9_put_152 rfl rfl ?_
      refine am_bipush (v := (8 : Int32)) (pc' := 156) dX9_put_154 rfl rfl ?_
      rcases am_ite hF with ⟨z4, hF⟩ | ⟨z4, hF⟩
      · refine am_icmp_ne_f (pc' := 159) (tgt := 162) dX9_put_156 rfl z4 rfl ?_
        exact am_weak [false, false, false, false, false, false, false, false, false] (w_X9_put_159 h hF)
      · refine am_icmp_ne_t (pc' := 162) dX9_put_156 rfl z4 ?_
        exact w_X9_put_162 v0 v1 v3 v4 v5 v6 v7 h hF
  · refine am_if_ne_t (pc' := 159) dX9_put_144 rfl z2 ?_
    exact am_weak [false, false, false, false, false, false, false, false, false] (w_X9_put_159 h hF)
def F_X9_put_128 (v0 : Nat) (v1 : Int32) (v3 : Int32) (v4 : Int32) (v5 : Int32) (v6 : Int32) (s0 : Int32) (h : am_H) : Option (Int32 × am_H) :=
  if s0 = 0 then
    F_X9_put_141 v0 v1 v3 v4 v5 v6 s0 v0 (1 : Int32) h
  else
    F_X9_put_141 v0 v1 v3 v4 v5 v6 s0 v0 (2 : Int32) h
theorem w_X9_put_128 {g : am_G} {l : Launch} {h0 : am_H} {x : Int32} {hf : am_H}  (v0 : Nat) (v1 : Int32) (v3 : Int32) (v4 : Int32) (v5 : Int32) (v6 : Int32) (s0 : Int32) (h : am_H) (hF : F_X9_put_128 v0 v1 v3 v4 v5 v6 s0 h = some (x, hf)) : am_W g l M_X9_put h0 (some (.int x)) hf 128 [some (.ref v0), some (.int v1), none, some (.int v3), some (.int v4), some (.int v5), some (.int v6), none, none] [.int s0] h := by
  unfold F_X9_put_128 at hF
  refine am_istore (ls' := [some (.ref v0), some (.int v1), none, some (.int v3), some (.int v4), some (.int v5), some (.int v6), some (.int s0), none]) (pc' := 130) dX9_put_128 (Nat.le_of_ble_eq_true rfl) rfl rfl ?_
  refine am_aload_n (pc' := 131) dX9_put_130 rfl rfl ?_
  refine am_iload (pc' := 133) dX9_put_131 rfl rfl ?_
  rcases am_ite hF with ⟨z1, hF⟩ | ⟨z1, hF⟩
  · refine am_if_eq_t (pc' := 140) dX9_put_133 rfl z1 ?_
    refine am_iconst (v := (1 : Int32)) (pc' := 141) dX9_put_140 rfl rfl ?_
    exact w_X9_put_141 v0 v1 v3 v4 v5 v6 s0 v0 (1 : Int32) h hF
  · refine am_if_eq_f (pc' := 136) (tgt := 140) dX9_put_133 rfl z1 rfl ?_
    refine am_iconst (v := (2 : Int32)) (pc' := 137) dX9_put_136 rfl rfl ?_
    refine am_goto (pc' := 141) dX9_put_137 rfl ?_
    exact w_X9_put_141 v0 v1 v3 v4 v5 v6 s0 v0 (2 : Int32) h hF
def F_X9_put_127 (v0 : Nat) (v1 : Int32) (v3 : Int32) (v4 : Int32) (v5 : Int32) (v6 : Int32) (h : am_H) : Option (Int32 × am_H) :=
  F_X9_put_128 v0 v1 v3 v4 v5 v6 (0 : Int32) h
theorem w_X9_put_127 {g : am_G} {l : Launch} {h0 : am_H} {x : Int32} {hf : am_H}  (v0 : Nat) (v1 : Int32) (v3 : Int32) (v4 : Int32) (v5 : Int32) (v6 : Int32) (h : am_H) (hF : F_X9_put_127 v0 v1 v3 v4 v5 v6 h = some (x, hf)) : am_W g l M_X9_put h0 (some (.int x)) hf 127 [some (.ref v0), some (.int v1), none, some (.int v3), some (.int v4), some (.int v5), some (.int v6), none, none] [] h := by
  unfold F_X9_put_127 at hF
  refine am_iconst (v := (0 : Int32)) (pc' := 128) dX9_put_127 rfl rfl ?_
  exact w_X9_put_128 v0 v1 v3 v4 v5 v6 (0 : Int32) h hF
def F_X9_put_101 (v0 : Nat) (v1 : Int32) (v3 : Int32) (v4 : Int32) (v5 : Int32) (v6 : Int32) (h : am_H) : Option (Int32 × am_H) :=
  if v4 ≤ 0 then
    F_X9_put_127 v0 v1 v3 v4 v5 v6 h
  else
    (am_gr 9 3 v0 h).bind fun x2 =>
    (F_X9_blockAt v0 v1 v5 h).bind fun x3 =>
    (am_il 0 x2 x3 h).bind fun x4 =>
    if x4 = (24 : Int32) then
      F_X9_put_128 v0 v1 v3 v4 v5 v6 (1 : Int32) h
    else
      F_X9_put_127 v0 v1 v3 v4 v5 v6 h
theorem w_X9_put_101 {g : am_G} {l : Launch} {h0 : am_H} {x : Int32} {hf : am_H}  (v0 : Nat) (v1 : Int32) (v3 : Int32) (v4 : Int32) (v5 : Int32) (v6 : Int32) (h : am_H) (hF : F_X9_put_101 v0 v1 v3 v4 v5 v6 h = some (x, hf)) : am_W g l M_X9_put h0 (some (.int x)) hf 101 [some (.ref v0), some (.int v1), none, some (.int v3), some (.int v4), some (.int v5), some (.int v6), none, none] [] h := by
  unfold F_X9_put_101 at hF
  refine am_iload (pc' := 103) dX9_put_101 rfl rfl ?_
  rcases am_ite hF with ⟨z1, hF⟩ | ⟨z1, hF⟩
  · refine am_if_le_t (pc' := 127) dX9_put_103 rfl z1 ?_
    exact w_X9_put_127 v0 v1 v3 v4 v5 v6 h hF
  · refine am_if_le_f (pc' := 106) (tgt := 127) dX9_put_103 rfl z1 rfl ?_
    refine am_aload_n (pc' := 107) dX9_put_106 rfl rfl ?_
    obtain ⟨x2, ex2, hF⟩ := am_bind hF
    refine am_getr (pc' := 110) dX9_put_107 fw_X9_13 ex2 rfl ?_
    refine am_aload_n (pc' := 111) dX9_put_110 rfl rfl ?_
    refine am_iload_n (pc' := 112) dX9_put_111 rfl rfl ?_
    refine am_iload (pc' := 114) dX9_put_112 rfl rfl ?_
    obtain ⟨x3, ex3, hF⟩ := am_bind hF
    obtain ⟨ox3, px3⟩ := t_X9_blockAt ex3
    refine am_callV1 (Mc := M_X9_blockAt) (As := [.int v1, .int v5]) (st := [.ref x2]) (pc' := 117) dX9_put_114 cw_X9_141 wd_5_45 sl_X9_blockAt ⟨_, rfl, rfl⟩ (by decide) (by decide) rfl rfl (Nat.le_of_ble_eq_true rfl) px3 (c_X9_blockAt ex3) rfl ?_
    obtain ⟨x4, ex4, hF⟩ := am_bind hF
    refine am_iald (pc' := 118) dX9_put_117 ex4 rfl ?_
    refine am_bipush (v := (24 : Int32)) (pc' := 120) dX9_put_118 rfl rfl ?_
    rcases am_ite hF with ⟨z5, hF⟩ | ⟨z5, hF⟩
    · refine am_icmp_ne_f (pc' := 123) (tgt := 127) dX9_put_120 rfl z5 rfl ?_
      refine am_iconst (v := (1 : Int32)) (pc' := 124) dX9_put_123 rfl rfl ?_
      refine am_goto (pc' := 128) dX9_put_124 rfl ?_
      exact w_X9_put_128 v0 v1 v3 v4 v5 v6 (1 : Int32) h hF
    · refine am_icmp_ne_t (pc' := 127) dX9_put_120 rfl z5 ?_
      exact w_X9_put_127 v0 v1 v3 v4 v5 v6 h hF
def F_X9_put_78 (v0 : Nat) (v1 : Int32) (v3 : Int32) (v4 : Int32) (v5 : Int32) (s0 : Int32) (h : am_H) : Option (Int32 × am_H) :=
  F_X9_put_101 v0 v1 v3 v4 v5 s0 h
theorem w_X9_put_78 {g : am_G} {l : Launch} {h0 : am_H} {x : Int32} {hf : am_H}  (v0 : Nat) (v1 : Int32) (v3 : Int32) (v4 : Int32) (v5 : Int32) (s0 : Int32) (h : am_H) (hF : F_X9_put_78 v0 v1 v3 v4 v5 s0 h = some (x, hf)) : am_W g l M_X9_put h0 (some (.int x)) hf 78 [some (.ref v0), some (.int v1), none, some (.int v3), some (.int v4), some (.int v5), none, none, none] [.int s0] h := by
  unfold F_X9_put_78 at hF
  refine am_istore (ls' := [some (.ref v0), some (.int v1), none, some (.int v3), some (.int v4), some (.int v5), some (.int s0), none, none]) (pc' := 80) dX9_put_78 (Nat.le_of_ble_eq_true rfl) rfl rfl ?_
  refine am_goto (pc' := 101) dX9_put_80 rfl ?_
  exact w_X9_put_101 v0 v1 v3 v4 v5 s0 h hF
def F_X9_put_b (v0 : Nat) (v1 : Int32) (v2 : Int32) (v3 : Int32) (h : am_H) : Option (Int32 × am_H) :=
  (F_X9_noPlace v0 v1 v2 (1 : Int32) h).bind fun x1 =>
  if x1 = 0 then
    (F_X9_in (Int32.toInt64 v3) (0 : Int64) (15 : Int64) h).bind fun x3 =>
    if x3 = 0 then
      some ((-100002 : Int32), h)
    else
      (am_gr 9 7 v0 h).bind fun x5 =>
      (am_il 0 x5 v1 h).bind fun x6 =>
      (F_X9_placesOf v0 v1 h).bind fun x7 =>
      if v2 = x7 then
        if x6 = 0 then
          F_X9_put_78 v0 v1 v3 x6 (x6 - (1 : Int32)) (0 : Int32) h
        else
          (am_gr 9 3 v0 h).bind fun x10 =>
          (F_X9_blockAt v0 v1 (x6 - (1 : Int32)) h).bind fun x11 =>
          (am_il 0 x10 x11 h).bind fun x12 =>
          F_X9_put_78 v0 v1 v3 x6 (x6 - (1 : Int32)) x12 h
      else
        (F_X9_find v0 v1 v2 h).bind fun h13 =>
        (am_gi 9 18 v0 h13).bind fun x14 =>
        (am_gi 9 19 v0 h13).bind fun x15 =>
        F_X9_put_101 v0 v1 v3 x6 x14 x15 h13
  else
    some ((-100001 : Int32), h)
theorem w_X9_put {g : am_G} {l : Launch} {h0 : am_H} {x : Int32} {hf : am_H}  (v0 : Nat) (v1 : Int32) (v2 : Int32) (v3 : Int32) (h : am_H) (hF : F_X9_put_b v0 v1 v2 v3 h = some (x, hf)) : am_W g l M_X9_put h0 (some (.int x)) hf 0 [some (.ref v0), some (.int v1), some (.int v2), some (.int v3), none, none, none, none, none] [] h := by
  unfold F_X9_put_b at hF
  refine am_aload_n (pc' := 1) dX9_put_0 rfl rfl ?_
  refine am_iload_n (pc' := 2) dX9_put_1 rfl rfl ?_
  refine am_iload_n (pc' := 3) dX9_put_2 rfl rfl ?_
  refine am_iconst (v := (1 : Int32)) (pc' := 4) dX9_put_3 rfl rfl ?_
  obtain ⟨x1, ex1, hF⟩ := am_bind hF
  obtain ⟨ox1, px1⟩ := t_X9_noPlace ex1
  refine am_callV1 (Mc := M_X9_noPlace) (As := [.int v1, .int v2, .int (1 : Int32)]) (st := []) (pc' := 7) dX9_put_4 cw_X9_160 wd_5_33 sl_X9_noPlace ⟨_, rfl, rfl⟩ (by decide) (by decide) rfl rfl (Nat.le_of_ble_eq_true rfl) px1 (c_X9_noPlace ex1) rfl ?_
  rcases am_ite hF with ⟨z2, hF⟩ | ⟨z2, hF⟩
  · refine am_if_eq_t (pc' := 13) dX9_put_7 rfl z2 ?_
    refine am_iload_n (pc' := 14) dX9_put_13 rfl rfl ?_
    refine am_i2l (pc' := 15) dX9_put_14 rfl ?_
    refine am_lconst (v := (0 : Int64)) (pc' := 16) dX9_put_15 rfl rfl ?_
    refine am_ldc2 (v := (15 : Int64)) (pc' := 19) dX9_put_16 wd_4_232 rfl ?_
    obtain ⟨x3, ex3, hF⟩ := am_bind hF
    refine am_callS1 (Mc := M_X9_in) (As := [.long (Int32.toInt64 v3), .long (0 : Int64), .long (15 : Int64)]) (st := []) (pc' := 22) dX9_put_19 cw_X9_96 wd_4_234 (by decide) (by decide) rfl rfl (Nat.le_of_ble_eq_true rfl) (c_X9_in ex3) rfl ?_
    rcases am_ite hF with ⟨z4, hF⟩ | ⟨z4, hF⟩
    · refine am_if_ne_f (pc' := 25) (tgt := 28) dX9_put_22 rfl z4 rfl ?_
      refine am_ldc (v := (-100002 : Int32)) (pc' := 27) dX9_put_25 wd_4_236 rfl ?_
      cases hF
      exact am_iret dX9_put_27 rfl rfl
    · refine am_if_ne_t (pc' := 28) dX9_put_22 rfl z4 ?_
      refine am_aload_n (pc' := 29) dX9_put_28 rfl rfl ?_
      obtain ⟨x5, ex5, hF⟩ := am_bind hF
      refine am_getr (pc' := 32) dX9_put_29 fw_X9_23 ex5 rfl ?_
      refine am_iload_n (pc' := 33) dX9_put_32 rfl rfl ?_
      obtain ⟨x6, ex6, hF⟩ := am_bind hF
      refine am_iald (pc' := 34) dX9_put_33 ex6 rfl ?_
      refine am_istore (ls' := [some (.ref v0), some (.int v1), some (.int v2), some (.int v3), some (.int x6), none, none, none, none]) (pc' := 36) dX9_put_34 (Nat.le_of_ble_eq_true rfl) rfl rfl ?_
      refine am_iconst (v := (0 : Int32)) (pc' := 37) dX9_put_36 rfl rfl ?_
      refine am_istore (ls' := [some (.ref v0), some (.int v1), some (.int v2), some (.int v3), some (.int x6), some (.int (0 : Int32)), none, none, none]) (pc' := 39) dX9_put_37 (Nat.le_of_ble_eq_true rfl) rfl rfl ?_
      refine am_iconst (v := (0 : Int32)) (pc' := 40) dX9_put_39 rfl rfl ?_
      refine am_istore (ls' := [some (.ref v0), some (.int v1), some (.int v2), some (.int v3), some (.int x6), some (.int (0 : Int32)), some (.int (0 : Int32)), none, none]) (pc' := 42) dX9_put_40 (Nat.le_of_ble_eq_true rfl) rfl rfl ?_
      refine am_iload_n (pc' := 43) dX9_put_42 rfl rfl ?_
      refine am_aload_n (pc' := 44) dX9_put_43 rfl rfl ?_
      refine am_iload_n (pc' := 45) dX9_put_44 rfl rfl ?_
      obtain ⟨x7, ex7, hF⟩ := am_bind hF
      obtain ⟨ox7, px7⟩ := t_X9_placesOf ex7
      refine am_callV1 (Mc := M_X9_placesOf) (As := [.int v1]) (st := [.int v2]) (pc' := 48) dX9_put_45 cw_X9_157 wd_5_41 sl_X9_placesOf ⟨_, rfl, rfl⟩ (by decide) (by decide) rfl rfl (Nat.le_of_ble_eq_true rfl) px7 (c_X9_placesOf ex7) rfl ?_
      rcases am_ite hF with ⟨z8, hF⟩ | ⟨z8, hF⟩
      · refine am_icmp_ne_f (pc' := 51) (tgt := 83) dX9_put_48 rfl z8 rfl ?_
        refine am_iload (pc' := 53) dX9_put_51 rfl rfl ?_
        refine am_iconst (v := (1 : Int32)) (pc' := 54) dX9_put_53 rfl rfl ?_
        refine am_isub (pc' := 55) dX9_put_54 rfl ?_
        refine am_istore (ls' := [some (.ref v0), some (.int v1), some (.int v2), some (.int v3), some (.int x6), some (.int (x6 - (1 : Int32))), some (.int (0 : Int32)), none, none]) (pc' := 57) dX9_put_55 (Nat.le_of_ble_eq_true rfl) rfl rfl ?_
        refine am_iload (pc' := 59) dX9_put_57 rfl rfl ?_
        rcases am_ite hF with ⟨z9, hF⟩ | ⟨z9, hF⟩
        · refine am_if_ne_f (pc' := 62) (tgt := 66) dX9_put_59 rfl z9 rfl ?_
          refine am_iconst (v := (0 : Int32)) (pc' := 63) dX9_put_62 rfl rfl ?_
          refine am_goto (pc' := 78) dX9_put_63 rfl ?_
          exact am_weak [true, true, false, true, true, true, false, false, false] (w_X9_put_78 v0 v1 v3 x6 (x6 - (1 : Int32)) (0 : Int32) h hF)
        · refine am_if_ne_t (pc' := 66) dX9_put_59 rfl z9 ?_
          refine am_aload_n (pc' := 67) dX9_put_66 rfl rfl ?_
          obtain ⟨x10, ex10, hF⟩ := am_bind hF
          refine am_getr (pc' := 70) dX9_put_67 fw_X9_13 ex10 rfl ?_
          refine am_aload_n (pc' := 71) dX9_put_70 rfl rfl ?_
          refine am_iload_n (pc' := 72) dX9_put_71 rfl rfl ?_
          refine am_iload (pc' := 74) dX9_put_72 rfl rfl ?_
          obtain ⟨x11, ex11, hF⟩ := am_bind hF
          obtain ⟨ox11, px11⟩ := t_X9_blockAt ex11
          refine am_callV1 (Mc := M_X9_blockAt) (As := [.int v1, .int (x6 - (1 : Int32))]) (st := [.ref x10]) (pc' := 77) dX9_put_74 cw_X9_141 wd_5_45 sl_X9_blockAt ⟨_, rfl, rfl⟩ (by decide) (by decide) rfl rfl (Nat.le_of_ble_eq_true rfl) px11 (c_X9_blockAt ex11) rfl ?_
          obtain ⟨x12, ex12, hF⟩ := am_bind hF
          refine am_iald (pc' := 78) dX9_put_77 ex12 rfl ?_
          exact am_weak [true, true, false, true, true, true, false, false, false] (w_X9_put_78 v0 v1 v3 x6 (x6 - (1 : Int32)) x12 h hF)
      · refine am_icmp_ne_t (pc' := 83) dX9_put_48 rfl z8 ?_
        refine am_aload_n (pc' := 84) dX9_put_83 rfl rfl ?_
        refine am_iload_n (pc' := 85) dX9_put_84 rfl rfl ?_
        refine am_iload_n (pc' := 86) dX9_put_85 rfl rfl ?_
        obtain ⟨h13, eh13, hF⟩ := am_bind hF
        obtain ⟨oh13, ph13⟩ := t_X9_find eh13
        refine am_callV0 (Mc := M_X9_find) (As := [.int v1, .int v2]) (st := []) (pc' := 89) dX9_put_86 cw_X9_169 wd_5_58 sl_X9_find ⟨_, rfl, rfl⟩ (by decide) (by decide) rfl rfl (Nat.le_of_ble_eq_true rfl) ph13 (c_X9_find eh13) rfl ?_
        refine am_aload_n (pc' := 90) dX9_put_89 rfl rfl ?_
        obtain ⟨x14, ex14, hF⟩ := am_bind hF
        refine am_geti (pc' := 93) dX9_put_90 fw_X9_144 ex14 rfl ?_
        refine am_istore (ls' := [some (.ref v0), some (.int v1), some (.int v2), some (.int v3), some (.int x6), some (.int x14), some (.int (0 : Int32)), none, none]) (pc' := 95) dX9_put_93 (Nat.le_of_ble_eq_true rfl) rfl rfl ?_
        refine am_aload_n (pc' := 96) dX9_put_95 rfl rfl ?_
        obtain ⟨x15, ex15, hF⟩ := am_bind hF
        refine am_geti (pc' := 99) dX9_put_96 fw_X9_147 ex15 rfl ?_
        refine am_istore (ls' := [some (.ref v0), some (.int v1), some (.int v2), some (.int v3), some (.int x6), some (.int x14), some (.int x15), none, none]) (pc' := 101) dX9_put_99 (Nat.le_of_ble_eq_true rfl) rfl rfl ?_
        exact am_weak [true, true, false, true, true, true, true, false, false] (w_X9_put_101 v0 v1 v3 x6 x14 x15 h13 hF)
  · refine am_if_eq_f (pc' := 10) (tgt := 13) dX9_put_7 rfl z2 rfl ?_
    refine am_ldc (v := (-100001 : Int32)) (pc' := 12) dX9_put_10 wd_5_47 rfl ?_
    cases hF
    exact am_iret dX9_put_12 rfl rfl
def F_X9_put (v0 : Nat) (v1 : Int32) (v2 : Int32) (v3 : Int32) (h : am_H) : Option (Int32 × am_H) := (am_obj v0 9 h).bind fun _ => F_X9_put_b v0 v1 v2 v3 h
theorem t_X9_put {x : Int32} {hf : am_H}  {v0 : Nat} {v1 : Int32} {v2 : Int32} {v3 : Int32} {h : am_H} (hF : F_X9_put v0 v1 v2 v3 h = some (x, hf)) : ∃ fs, am_obj v0 9 h = some fs := by
  obtain ⟨fs, e, _⟩ := am_bind hF
  exact ⟨fs, e⟩
theorem c_X9_put {g : am_G} {l : Launch} {x : Int32} {hf : am_H}  {v0 : Nat} {v1 : Int32} {v2 : Int32} {v3 : Int32} {h : am_H} (hF : F_X9_put v0 v1 v2 v3 h = some (x, hf)) : am_Met g l M_X9_put [.ref v0, .int v1, .int v2, .int v3] h (some (.int x)) hf := by
  obtain ⟨fs, e0, e⟩ := am_bind hF
  exact am_met (n := 5) (by decide +kernel) rfl (Nat.le_of_ble_eq_true rfl) (w_X9_put v0 v1 v2 v3 h e)
def F_X8_strike_22 (h : am_H) : Option (Int32 × am_H) :=
  some ((-100001 : Int32), h)
theorem w_X8_strike_22 {g : am_G} {l : Launch} {h0 : am_H} {x : Int32} {hf : am_H}  (h : am_H) (hF : F_X8_strike_22 h = some (x, hf)) : am_W g l M_X8_strike h0 (some (.int x)) hf 22 [none, none, none, none, none] [] h := by
  unfold F_X8_strike_22 at hF
  refine am_ldc (v := (-100001 : Int32)) (pc' := 24) dX8_strike_22 wd_2_137 rfl ?_
  cases hF
  exact am_iret dX8_strike_24 rfl rfl
def F_X8_strike_58 (v0 : Nat) (v1 : Int32) (v2 : Int32) (s0 : Nat) (s1 : Int32) (h : am_H) : Option (Int32 × am_H) :=
  (F_X8_hasRoom s0 s1 h).bind fun x1 =>
  if x1 = 0 then
    some ((-100004 : Int32), h)
  else
    (F_X8_edited v0 v1 v2 (-1 : Int32) (1 : Int32) h).bind fun q3 =>
    some (q3.1, q3.2)
theorem w_X8_strike_58 {g : am_G} {l : Launch} {h0 : am_H} {x : Int32} {hf : am_H}  (v0 : Nat) (v1 : Int32) (v2 : Int32) (s0 : Nat) (s1 : Int32) (h : am_H) (hF : F_X8_strike_58 v0 v1 v2 s0 s1 h = some (x, hf)) : am_W g l M_X8_strike h0 (some (.int x)) hf 58 [some (.ref v0), some (.int v1), some (.int v2), none, none] [.int s1, .ref s0] h := by
  unfold F_X8_strike_58 at hF
  obtain ⟨x1, ex1, hF⟩ := am_bind hF
  obtain ⟨ox1, px1⟩ := t_X8_hasRoom ex1
  refine am_callV1 (Mc := M_X8_hasRoom) (As := [.int s1]) (st := []) (pc' := 61) dX8_strike_58 cw_X8_102 wd_2_10 sl_X8_hasRoom ⟨_, rfl, rfl⟩ (by decide) (by decide) rfl rfl (Nat.le_of_ble_eq_true rfl) px1 (c_X8_hasRoom ex1) rfl ?_
  rcases am_ite hF with ⟨z2, hF⟩ | ⟨z2, hF⟩
  · refine am_if_ne_f (pc' := 64) (tgt := 67) dX8_strike_61 rfl z2 rfl ?_
    refine am_ldc (v := (-100004 : Int32)) (pc' := 66) dX8_strike_64 wd_1_238 rfl ?_
    cases hF
    exact am_iret dX8_strike_66 rfl rfl
  · refine am_if_ne_t (pc' := 67) dX8_strike_61 rfl z2 ?_
    refine am_aload_n (pc' := 68) dX8_strike_67 rfl rfl ?_
    refine am_iload_n (pc' := 69) dX8_strike_68 rfl rfl ?_
    refine am_iload_n (pc' := 70) dX8_strike_69 rfl rfl ?_
    refine am_iconst (v := (-1 : Int32)) (pc' := 71) dX8_strike_70 rfl rfl ?_
    refine am_iconst (v := (1 : Int32)) (pc' := 72) dX8_strike_71 rfl rfl ?_
    obtain ⟨q3, eq3, hF⟩ := am_bind hF
    obtain ⟨oq3, pq3⟩ := t_X8_edited eq3
    refine am_callV1 (Mc := M_X8_edited) (As := [.int v1, .int v2, .int (-1 : Int32), .int (1 : Int32)]) (st := []) (pc' := 75) dX8_strike_72 cw_X8_137 wd_2_143 sl_X8_edited ⟨_, rfl, rfl⟩ (by decide) (by decide) rfl rfl (Nat.le_of_ble_eq_true rfl) pq3 (c_X8_edited eq3) rfl ?_
    cases hF
    exact am_iret dX8_strike_75 rfl rfl
def F_X8_strike_45 (v0 : Nat) (v1 : Int32) (v2 : Int32) (s0 : Int32) (h : am_H) : Option (Int32 × am_H) :=
  if s0 = 0 then
    F_X8_strike_58 v0 v1 v2 v0 (1 : Int32) h
  else
    F_X8_strike_58 v0 v1 v2 v0 (0 : Int32) h
theorem w_X8_strike_45 {g : am_G} {l : Launch} {h0 : am_H} {x : Int32} {hf : am_H}  (v0 : Nat) (v1 : Int32) (v2 : Int32) (s0 : Int32) (h : am_H) (hF : F_X8_strike_45 v0 v1 v2 s0 h = some (x, hf)) : am_W g l M_X8_strike h0 (some (.int x)) hf 45 [some (.ref v0), some (.int v1), some (.int v2), none, none] [.int s0] h := by
  unfold F_X8_strike_45 at hF
  refine am_istore (ls' := [some (.ref v0), some (.int v1), some (.int v2), none, some (.int s0)]) (pc' := 47) dX8_strike_45 (Nat.le_of_ble_eq_true rfl) rfl rfl ?_
  refine am_aload_n (pc' := 48) dX8_strike_47 rfl rfl ?_
  refine am_iload (pc' := 50) dX8_strike_48 rfl rfl ?_
  rcases am_ite hF with ⟨z1, hF⟩ | ⟨z1, hF⟩
  · refine am_if_eq_t (pc' := 57) dX8_strike_50 rfl z1 ?_
    refine am_iconst (v := (1 : Int32)) (pc' := 58) dX8_strike_57 rfl rfl ?_
    exact am_weak [true, true, true, false, false] (w_X8_strike_58 v0 v1 v2 v0 (1 : Int32) h hF)
  · refine am_if_eq_f (pc' := 53) (tgt := 57) dX8_strike_50 rfl z1 rfl ?_
    refine am_iconst (v := (0 : Int32)) (pc' := 54) dX8_strike_53 rfl rfl ?_
    refine am_goto (pc' := 58) dX8_strike_54 rfl ?_
    exact am_weak [true, true, true, false, false] (w_X8_strike_58 v0 v1 v2 v0 (0 : Int32) h hF)
def F_X8_strike_b (v0 : Nat) (v1 : Int32) (v2 : Int32) (h : am_H) : Option (Int32 × am_H) :=
  (F_X8_versionOf v0 v1 h).bind fun x1 =>
  if x1 = 0 then
    F_X8_strike_22 h
  else
    if v2 < 0 then
      F_X8_strike_22 h
    else
      (am_gi 7 3 x1 h).bind fun x4 =>
      if v2 < x4 then
        (F_X8_indexAt v0 x1 v2 h).bind fun x6 =>
        (F_X8_lengthIn v0 x1 x6 h).bind fun x7 =>
        if x7 = (1 : Int32) then
          F_X8_strike_45 v0 v1 v2 (1 : Int32) h
        else
          F_X8_strike_45 v0 v1 v2 (0 : Int32) h
      else
        F_X8_strike_22 h
theorem w_X8_strike {g : am_G} {l : Launch} {h0 : am_H} {x : Int32} {hf : am_H}  (v0 : Nat) (v1 : Int32) (v2 : Int32) (h : am_H) (hF : F_X8_strike_b v0 v1 v2 h = some (x, hf)) : am_W g l M_X8_strike h0 (some (.int x)) hf 0 [some (.ref v0), some (.int v1), some (.int v2), none, none] [] h := by
  unfold F_X8_strike_b at hF
  refine am_aload_n (pc' := 1) dX8_strike_0 rfl rfl ?_
  refine am_iload_n (pc' := 2) dX8_strike_1 rfl rfl ?_
  obtain ⟨x1, ex1, hF⟩ := am_bind hF
  obtain ⟨ox1, px1⟩ := t_X8_versionOf ex1
  refine am_callV1 (Mc := M_X8_versionOf) (As := [.int v1]) (st := []) (pc' := 5) dX8_strike_2 cw_X8_126 wd_2_135 sl_X8_versionOf ⟨_, rfl, rfl⟩ (by decide) (by decide) rfl rfl (Nat.le_of_ble_eq_true rfl) px1 (c_X8_versionOf ex1) rfl ?_
  refine am_astore_n (ls' := [some (.ref v0), some (.int v1), some (.int v2), some (.ref x1), none]) (pc' := 6) dX8_strike_5 (Nat.le_of_ble_eq_true rfl) rfl rfl ?_
  refine am_aload_n (pc' := 7) dX8_strike_6 rfl rfl ?_
  rcases am_ite hF with ⟨z2, hF⟩ | ⟨z2, hF⟩
  · refine am_ifnull_t (pc' := 22) dX8_strike_7 rfl z2 ?_
    exact am_weak [false, false, false, false, false] (w_X8_strike_22 h hF)
  · refine am_ifnull_f (pc' := 10) dX8_strike_7 z2 rfl ?_
    refine am_iload_n (pc' := 11) dX8_strike_10 rfl rfl ?_
    rcases am_ite hF with ⟨z3, hF⟩ | ⟨z3, hF⟩
    · refine am_if_lt_t (pc' := 22) dX8_strike_11 rfl z3 ?_
      exact am_weak [false, false, false, false, false] (w_X8_strike_22 h hF)
    · refine am_if_lt_f (pc' := 14) (tgt := 22) dX8_strike_11 rfl z3 rfl ?_
      refine am_iload_n (pc' := 15) dX8_strike_14 rfl rfl ?_
      refine am_aload_n (pc' := 16) dX8_strike_15 rfl rfl ?_
      obtain ⟨x4, ex4, hF⟩ := am_bind hF
      refine am_geti (pc' := 19) dX8_strike_16 fw_X8_130 ex4 rfl ?_
      rcases am_ite hF with ⟨z5, hF⟩ | ⟨z5, hF⟩
      · refine am_icmp_lt_t (pc' := 25) dX8_strike_19 rfl z5 ?_
        refine am_aload_n (pc' := 26) dX8_strike_25 rfl rfl ?_
        refine am_aload_n (pc' := 27) dX8_strike_26 rfl rfl ?_
        refine am_aload_n (pc' := 28) dX8_strike_27 rfl rfl ?_
        refine am_aload_n (pc' := 29) dX8_strike_28 rfl rfl ?_
        refine am_iload_n (pc' := 30) dX8_strike_29 rfl rfl ?_
        obtain ⟨x6, ex6, hF⟩ := am_bind hF
        obtain ⟨ox6, px6⟩ := t_X8_indexAt ex6
        refine am_callV1 (Mc := M_X8_indexAt) (As := [.ref x1, .int v2]) (st := [.ref x1, .ref v0]) (pc' := 33) dX8_strike_30 cw_X8_141 wd_2_156 sl_X8_indexAt ⟨_, rfl, rfl⟩ (by decide) (by decide) rfl rfl (Nat.le_of_ble_eq_true rfl) px6 (c_X8_indexAt ex6) rfl ?_
        obtain ⟨x7, ex7, hF⟩ := am_bind hF
        obtain ⟨ox7, px7⟩ := t_X8_lengthIn ex7
        refine am_callV1 (Mc := M_X8_lengthIn) (As := [.ref x1, .int x6]) (st := []) (pc' := 36) dX8_strike_33 cw_X8_145 wd_2_114 sl_X8_lengthIn ⟨_, rfl, rfl⟩ (by decide) (by decide) rfl rfl (Nat.le_of_ble_eq_true rfl) px7 (c_X8_lengthIn ex7) rfl ?_
        refine am_iconst (v := (1 : Int32)) (pc' := 37) dX8_strike_36 rfl rfl ?_
        rcases am_ite hF with ⟨z8, hF⟩ | ⟨z8, hF⟩
        · refine am_icmp_ne_f (pc' := 40) (tgt := 44) dX8_strike_37 rfl z8 rfl ?_
          refine am_iconst (v := (1 : Int32)) (pc' := 41) dX8_strike_40 rfl rfl ?_
          refine am_goto (pc' := 45) dX8_strike_41 rfl ?_
          exact am_weak [true, true, true, false, false] (w_X8_strike_45 v0 v1 v2 (1 : Int32) h hF)
        · refine am_icmp_ne_t (pc' := 44) dX8_strike_37 rfl z8 ?_
          refine am_iconst (v := (0 : Int32)) (pc' := 45) dX8_strike_44 rfl rfl ?_
          exact am_weak [true, true, true, false, false] (w_X8_strike_45 v0 v1 v2 (0 : Int32) h hF)
      · refine am_icmp_lt_f (pc' := 22) (tgt := 25) dX8_strike_19 rfl z5 rfl ?_
        exact am_weak [false, false, false, false, false] (w_X8_strike_22 h hF)
def F_X8_strike (v0 : Nat) (v1 : Int32) (v2 : Int32) (h : am_H) : Option (Int32 × am_H) := (am_obj v0 8 h).bind fun _ => F_X8_strike_b v0 v1 v2 h
theorem t_X8_strike {x : Int32} {hf : am_H}  {v0 : Nat} {v1 : Int32} {v2 : Int32} {h : am_H} (hF : F_X8_strike v0 v1 v2 h = some (x, hf)) : ∃ fs, am_obj v0 8 h = some fs := by
  obtain ⟨fs, e, _⟩ := am_bind hF
  exact ⟨fs, e⟩
theorem c_X8_strike {g : am_G} {l : Launch} {x : Int32} {hf : am_H}  {v0 : Nat} {v1 : Int32} {v2 : Int32} {h : am_H} (hF : F_X8_strike v0 v1 v2 h = some (x, hf)) : am_Met g l M_X8_strike [.ref v0, .int v1, .int v2] h (some (.int x)) hf := by
  obtain ⟨fs, e0, e⟩ := am_bind hF
  exact am_met (n := 2) (by decide +kernel) rfl (Nat.le_of_ble_eq_true rfl) (w_X8_strike v0 v1 v2 h e)
