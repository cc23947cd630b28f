abbrev M_X8_allTorn : am_M := ((⟨"SignCellar", "allTorn", "()I"⟩ : MethodName), prog_1_method_42_code, 4, (some .int), 1, 21)
theorem dX8_allTorn_0 : decode prog_1_method_42_code 0 = .ok (.iconst 0, 1) := by decide +kernel
theorem dX8_allTorn_1 : decode prog_1_method_42_code 1 = .ok (.istore_n 1, 1) := by decide +kernel
theorem dX8_allTorn_2 : decode prog_1_method_42_code 2 = .ok (.iconst 0, 1) := by decide +kernel
theorem dX8_allTorn_3 : decode prog_1_method_42_code 3 = .ok (.istore_n 2, 1) := by decide +kernel
theorem dX8_allTorn_4 : decode prog_1_method_42_code 4 = .ok (.iload_n 2, 1) := by decide +kernel
theorem dX8_allTorn_5 : decode prog_1_method_42_code 5 = .ok (.aload_n 0, 1) := by decide +kernel
theorem dX8_allTorn_6 : decode prog_1_method_42_code 6 = .ok (.getfield 27, 3) := by decide +kernel
theorem dX8_allTorn_9 : decode prog_1_method_42_code 9 = .ok (.if_icmp .ge 29, 3) := by decide +kernel
theorem dX8_allTorn_12 : decode prog_1_method_42_code 12 = .ok (.aload_n 0, 1) := by decide +kernel
theorem dX8_allTorn_13 : decode prog_1_method_42_code 13 = .ok (.iload_n 2, 1) := by decide +kernel
theorem dX8_allTorn_14 : decode prog_1_method_42_code 14 = .ok (.invokevirtual 176, 3) := by decide +kernel
theorem dX8_allTorn_17 : decode prog_1_method_42_code 17 = .ok (.astore_n 3, 1) := by decide +kernel
theorem dX8_allTorn_18 : decode prog_1_method_42_code 18 = .ok (.aload_n 3, 1) := by decide +kernel
theorem dX8_allTorn_19 : decode prog_1_method_42_code 19 = .ok (.ifnull 13, 3) := by decide +kernel
theorem dX8_allTorn_22 : decode prog_1_method_42_code 22 = .ok (.aload_n 3, 1) := by decide +kernel
theorem dX8_allTorn_23 : decode prog_1_method_42_code 23 = .ok (.getfield 182, 3) := by decide +kernel
theorem dX8_allTorn_26 : decode prog_1_method_42_code 26 = .ok (.ifCond .eq 6, 3) := by decide +kernel
theorem dX8_allTorn_29 : decode prog_1_method_42_code 29 = .ok (.iinc 1 1, 3) := by decide +kernel
theorem dX8_allTorn_32 : decode prog_1_method_42_code 32 = .ok (.iinc 2 1, 3) := by decide +kernel
theorem dX8_allTorn_35 : decode prog_1_method_42_code 35 = .ok (.goto (-31), 3) := by decide +kernel
theorem dX8_allTorn_38 : decode prog_1_method_42_code 38 = .ok (.iload_n 1, 1) := by decide +kernel
theorem dX8_allTorn_39 : decode prog_1_method_42_code 39 = .ok (.ireturn, 1) := by decide +kernel
abbrev M_X8_signsOfBlocks : am_M := ((⟨"SignCellar", "signsOfBlocks", "()I"⟩ : MethodName), prog_1_method_43_code, 4, (some .int), 1, 21)
theorem dX8_signsOfBlocks_0 : decode prog_1_method_43_code 0 = .ok (.iconst 0, 1) := by decide +kernel
theorem dX8_signsOfBlocks_1 : decode prog_1_method_43_code 1 = .ok (.istore_n 1, 1) := by decide +kernel
theorem dX8_signsOfBlocks_2 : decode prog_1_method_43_code 2 = .ok (.iconst 0, 1) := by decide +kernel
theorem dX8_signsOfBlocks_3 : decode prog_1_method_43_code 3 = .ok (.istore_n 2, 1) := by decide +kernel
theorem dX8_signsOfBlocks_4 : decode prog_1_method_43_code 4 = .ok (.iload_n 2, 1) := by decide +kernel
theorem dX8_signsOfBlocks_5 : decode prog_1_method_43_code 5 = .ok (.aload_n 0, 1) := by decide +kernel
theorem dX8_signsOfBlocks_6 : decode prog_1_method_43_code 6 = .ok (.getfield 27, 3) := by decide +kernel
theorem dX8_signsOfBlocks_9 : decode prog_1_method_43_code 9 = .ok (.if_icmp .ge 29, 3) := by decide +kernel
theorem dX8_signsOfBlocks_12 : decode prog_1_method_43_code 12 = .ok (.aload_n 0, 1) := by decide +kernel
theorem dX8_signsOfBlocks_13 : decode prog_1_method_43_code 13 = .ok (.iload_n 2, 1) := by decide +kernel
theorem dX8_signsOfBlocks_14 : decode prog_1_method_43_code 14 = .ok (.invokevirtual 176, 3) := by decide +kernel
theorem dX8_signsOfBlocks_17 : decode prog_1_method_43_code 17 = .ok (.astore_n 3, 1) := by decide +kernel
theorem dX8_signsOfBlocks_18 : decode prog_1_method_43_code 18 = .ok (.aload_n 3, 1) := by decide +kernel
theorem dX8_signsOfBlocks_19 : decode prog_1_method_43_code 19 = .ok (.ifnull 13, 3) := by decide +kernel
theorem dX8_signsOfBlocks_22 : decode prog_1_method_43_code 22 = .ok (.iload_n 1, 1) := by decide +kernel
theorem dX8_signsOfBlocks_23 : decode prog_1_method_43_code 23 = .ok (.aload_n 3, 1) := by decide +kernel
theorem dX8_signsOfBlocks_24 : decode prog_1_method_43_code 24 = .ok (.getfield 180, 3) := by decide +kernel
theorem dX8_signsOfBlocks_27 : decode prog_1_method_43_code 27 = .ok (.invokevirtual 93, 3) := by decide +kernel
theorem dX8_signsOfBlocks_30 : decode prog_1_method_43_code 30 = .ok (.iadd, 1) := by decide +kernel
theorem dX8_signsOfBlocks_31 : decode prog_1_method_43_code 31 = .ok (.istore_n 1, 1) := by decide +kernel
theorem dX8_signsOfBlocks_32 : decode prog_1_method_43_code 32 = .ok (.iinc 2 1, 3) := by decide +kernel
theorem dX8_signsOfBlocks_35 : decode prog_1_method_43_code 35 = .ok (.goto (-31), 3) := by decide +kernel
theorem dX8_signsOfBlocks_38 : decode prog_1_method_43_code 38 = .ok (.iload_n 1, 1) := by decide +kernel
theorem dX8_signsOfBlocks_39 : decode prog_1_method_43_code 39 = .ok (.ireturn, 1) := by decide +kernel
abbrev M_X8_signsOfVersions : am_M := ((⟨"SignCellar", "signsOfVersions", "()I"⟩ : MethodName), prog_1_method_44_code, 4, (some .int), 1, 21)
theorem dX8_signsOfVersions_0 : decode prog_1_method_44_code 0 = .ok (.iconst 0, 1) := by decide +kernel
theorem dX8_signsOfVersions_1 : decode prog_1_method_44_code 1 = .ok (.istore_n 1, 1) := by decide +kernel
theorem dX8_signsOfVersions_2 : decode prog_1_method_44_code 2 = .ok (.iconst 0, 1) := by decide +kernel
theorem dX8_signsOfVersions_3 : decode prog_1_method_44_code 3 = .ok (.istore_n 2, 1) := by decide +kernel
theorem dX8_signsOfVersions_4 : decode prog_1_method_44_code 4 = .ok (.iload_n 2, 1) := by decide +kernel
theorem dX8_signsOfVersions_5 : decode prog_1_method_44_code 5 = .ok (.aload_n 0, 1) := by decide +kernel
theorem dX8_signsOfVersions_6 : decode prog_1_method_44_code 6 = .ok (.getfield 37, 3) := by decide +kernel
theorem dX8_signsOfVersions_9 : decode prog_1_method_44_code 9 = .ok (.if_icmp .ge 26, 3) := by decide +kernel
theorem dX8_signsOfVersions_12 : decode prog_1_method_44_code 12 = .ok (.aload_n 0, 1) := by decide +kernel
theorem dX8_signsOfVersions_13 : decode prog_1_method_44_code 13 = .ok (.iload_n 2, 1) := by decide +kernel
theorem dX8_signsOfVersions_14 : decode prog_1_method_44_code 14 = .ok (.invokevirtual 126, 3) := by decide +kernel
theorem dX8_signsOfVersions_17 : decode prog_1_method_44_code 17 = .ok (.astore_n 3, 1) := by decide +kernel
theorem dX8_signsOfVersions_18 : decode prog_1_method_44_code 18 = .ok (.aload_n 3, 1) := by decide +kernel
theorem dX8_signsOfVersions_19 : decode prog_1_method_44_code 19 = .ok (.ifnull 10, 3) := by decide +kernel
theorem dX8_signsOfVersions_22 : decode prog_1_method_44_code 22 = .ok (.iload_n 1, 1) := by decide +kernel
theorem dX8_signsOfVersions_23 : decode prog_1_method_44_code 23 = .ok (.aload_n 3, 1) := by decide +kernel
theorem dX8_signsOfVersions_24 : decode prog_1_method_44_code 24 = .ok (.getfield 130, 3) := by decide +kernel
theorem dX8_signsOfVersions_27 : decode prog_1_method_44_code 27 = .ok (.iadd, 1) := by decide +kernel
theorem dX8_signsOfVersions_28 : decode prog_1_method_44_code 28 = .ok (.istore_n 1, 1) := by decide +kernel
theorem dX8_signsOfVersions_29 : decode prog_1_method_44_code 29 = .ok (.iinc 2 1, 3) := by decide +kernel
theorem dX8_signsOfVersions_32 : decode prog_1_method_44_code 32 = .ok (.goto (-28), 3) := by decide +kernel
theorem dX8_signsOfVersions_35 : decode prog_1_method_44_code 35 = .ok (.iload_n 1, 1) := by decide +kernel
theorem dX8_signsOfVersions_36 : decode prog_1_method_44_code 36 = .ok (.ireturn, 1) := by decide +kernel
abbrev M_X8_count : am_M := ((⟨"SignCellar", "count", "(I)I"⟩ : MethodName), prog_1_method_11_code, 2, (some .int), 2, 44)
theorem dX8_count_0 : decode prog_1_method_11_code 0 = .ok (.iload_n 1, 1) := by decide +kernel
theorem dX8_count_1 : decode prog_1_method_11_code 1 = .ok (.tableswitch 84 0 6 #[43, 51, 56, 61, 66, 74, 79], 43) := by decide +kernel
theorem dX8_count_44 : decode prog_1_method_11_code 44 = .ok (.aload_n 0, 1) := by decide +kernel
theorem dX8_count_45 : decode prog_1_method_11_code 45 = .ok (.getfield 14, 3) := by decide +kernel
theorem dX8_count_48 : decode prog_1_method_11_code 48 = .ok (.invokevirtual 93, 3) := by decide +kernel
theorem dX8_count_51 : decode prog_1_method_11_code 51 = .ok (.ireturn, 1) := by decide +kernel
theorem dX8_count_52 : decode prog_1_method_11_code 52 = .ok (.aload_n 0, 1) := by decide +kernel
theorem dX8_count_53 : decode prog_1_method_11_code 53 = .ok (.getfield 37, 3) := by decide +kernel
theorem dX8_count_56 : decode prog_1_method_11_code 56 = .ok (.ireturn, 1) := by decide +kernel
theorem dX8_count_57 : decode prog_1_method_11_code 57 = .ok (.aload_n 0, 1) := by decide +kernel
theorem dX8_count_58 : decode prog_1_method_11_code 58 = .ok (.getfield 27, 3) := by decide +kernel
theorem dX8_count_61 : decode prog_1_method_11_code 61 = .ok (.ireturn, 1) := by decide +kernel
theorem dX8_count_62 : decode prog_1_method_11_code 62 = .ok (.aload_n 0, 1) := by decide +kernel
theorem dX8_count_63 : decode prog_1_method_11_code 63 = .ok (.invokevirtual 189, 3) := by decide +kernel
theorem dX8_count_66 : decode prog_1_method_11_code 66 = .ok (.ireturn, 1) := by decide +kernel
theorem dX8_count_67 : decode prog_1_method_11_code 67 = .ok (.aload_n 0, 1) := by decide +kernel
theorem dX8_count_68 : decode prog_1_method_11_code 68 = .ok (.getfield 18, 3) := by decide +kernel
theorem dX8_count_71 : decode prog_1_method_11_code 71 = .ok (.invokevirtual 93, 3) := by decide +kernel
theorem dX8_count_74 : decode prog_1_method_11_code 74 = .ok (.ireturn, 1) := by decide +kernel
theorem dX8_count_75 : decode prog_1_method_11_code 75 = .ok (.aload_n 0, 1) := by decide +kernel
theorem dX8_count_76 : decode prog_1_method_11_code 76 = .ok (.invokevirtual 192, 3) := by decide +kernel
theorem dX8_count_79 : decode prog_1_method_11_code 79 = .ok (.ireturn, 1) := by decide +kernel
theorem dX8_count_80 : decode prog_1_method_11_code 80 = .ok (.aload_n 0, 1) := by decide +kernel
theorem dX8_count_81 : decode prog_1_method_11_code 81 = .ok (.invokevirtual 195, 3) := by decide +kernel
theorem dX8_count_84 : decode prog_1_method_11_code 84 = .ok (.ireturn, 1) := by decide +kernel
theorem dX8_count_85 : decode prog_1_method_11_code 85 = .ok (.ldc 92, 2) := by decide +kernel
theorem dX8_count_87 : decode prog_1_method_11_code 87 = .ok (.ireturn, 1) := by decide +kernel
abbrev M_X9_count : am_M := ((⟨"SignCellarModel", "count", "(I)I"⟩ : MethodName), prog_11_method_31_code, 6, (some .int), 2, 45)
theorem dX9_count_0 : decode prog_11_method_31_code 0 = .ok (.iconst 0, 1) := by decide +kernel
theorem dX9_count_1 : decode prog_11_method_31_code 1 = .ok (.istore_n 2, 1) := by decide +kernel
theorem dX9_count_2 : decode prog_11_method_31_code 2 = .ok (.iconst 0, 1) := by decide +kernel
theorem dX9_count_3 : decode prog_11_method_31_code 3 = .ok (.istore_n 3, 1) := by decide +kernel
theorem dX9_count_4 : decode prog_11_method_31_code 4 = .ok (.iconst 0, 1) := by decide +kernel
theorem dX9_count_5 : decode prog_11_method_31_code 5 = .ok (.istore 4, 2) := by decide +kernel
theorem dX9_count_7 : decode prog_11_method_31_code 7 = .ok (.iconst 0, 1) := by decide +kernel
theorem dX9_count_8 : decode prog_11_method_31_code 8 = .ok (.istore 5, 2) := by decide +kernel
theorem dX9_count_10 : decode prog_11_method_31_code 10 = .ok (.iload 5, 2) := by decide +kernel
theorem dX9_count_12 : decode prog_11_method_31_code 12 = .ok (.aload_n 0, 1) := by decide +kernel
theorem dX9_count_13 : decode prog_11_method_31_code 13 = .ok (.getfield 100, 3) := by decide +kernel
theorem dX9_count_16 : decode prog_11_method_31_code 16 = .ok (.if_icmp .ge 32, 3) := by decide +kernel
theorem dX9_count_19 : decode prog_11_method_31_code 19 = .ok (.iload_n 2, 1) := by decide +kernel
theorem dX9_count_20 : decode prog_11_method_31_code 20 = .ok (.aload_n 0, 1) := by decide +kernel
theorem dX9_count_21 : decode prog_11_method_31_code 21 = .ok (.getfield 19, 3) := by decide +kernel
theorem dX9_count_24 : decode prog_11_method_31_code 24 = .ok (.iload 5, 2) := by decide +kernel
theorem dX9_count_26 : decode prog_11_method_31_code 26 = .ok (.baload, 1) := by decide +kernel
theorem dX9_count_27 : decode prog_11_method_31_code 27 = .ok (.invokestatic 150, 3) := by decide +kernel
theorem dX9_count_30 : decode prog_11_method_31_code 30 = .ok (.iadd, 1) := by decide +kernel
theorem dX9_count_31 : decode prog_11_method_31_code 31 = .ok (.istore_n 2, 1) := by decide +kernel
theorem dX9_count_32 : decode prog_11_method_31_code 32 = .ok (.iload_n 3, 1) := by decide +kernel
theorem dX9_count_33 : decode prog_11_method_31_code 33 = .ok (.aload_n 0, 1) := by decide +kernel
theorem dX9_count_34 : decode prog_11_method_31_code 34 = .ok (.getfield 13, 3) := by decide +kernel
theorem dX9_count_37 : decode prog_11_method_31_code 37 = .ok (.iload 5, 2) := by decide +kernel
theorem dX9_count_39 : decode prog_11_method_31_code 39 = .ok (.iaload, 1) := by decide +kernel
theorem dX9_count_40 : decode prog_11_method_31_code 40 = .ok (.iadd, 1) := by decide +kernel
theorem dX9_count_41 : decode prog_11_method_31_code 41 = .ok (.istore_n 3, 1) := by decide +kernel
theorem dX9_count_42 : decode prog_11_method_31_code 42 = .ok (.iinc 5 1, 3) := by decide +kernel
theorem dX9_count_45 : decode prog_11_method_31_code 45 = .ok (.goto (-35), 3) := by decide +kernel
theorem dX9_count_48 : decode prog_11_method_31_code 48 = .ok (.iconst 0, 1) := by decide +kernel
theorem dX9_count_49 : decode prog_11_method_31_code 49 = .ok (.istore 5, 2) := by decide +kernel
theorem dX9_count_51 : decode prog_11_method_31_code 51 = .ok (.iload 5, 2) := by decide +kernel
theorem dX9_count_53 : decode prog_11_method_31_code 53 = .ok (.aload_n 0, 1) := by decide +kernel
theorem dX9_count_54 : decode prog_11_method_31_code 54 = .ok (.getfield 92, 3) := by decide +kernel
theorem dX9_count_57 : decode prog_11_method_31_code 57 = .ok (.if_icmp .ge 20, 3) := by decide +kernel
theorem dX9_count_60 : decode prog_11_method_31_code 60 = .ok (.iload 4, 2) := by decide +kernel
theorem dX9_count_62 : decode prog_11_method_31_code 62 = .ok (.aload_n 0, 1) := by decide +kernel
theorem dX9_count_63 : decode prog_11_method_31_code 63 = .ok (.iload 5, 2) := by decide +kernel
theorem dX9_count_65 : decode prog_11_method_31_code 65 = .ok (.invokevirtual 157, 3) := by decide +kernel
theorem dX9_count_68 : decode prog_11_method_31_code 68 = .ok (.iadd, 1) := by decide +kernel
theorem dX9_count_69 : decode prog_11_method_31_code 69 = .ok (.istore 4, 2) := by decide +kernel
theorem dX9_count_71 : decode prog_11_method_31_code 71 = .ok (.iinc 5 1, 3) := by decide +kernel
theorem dX9_count_74 : decode prog_11_method_31_code 74 = .ok (.goto (-23), 3) := by decide +kernel
theorem dX9_count_77 : decode prog_11_method_31_code 77 = .ok (.iload_n 1, 1) := by decide +kernel
theorem dX9_count_78 : decode prog_11_method_31_code 78 = .ok (.tableswitch 69 0 6 #[42, 47, 52, 57, 59, 64, 66], 42) := by decide +kernel
theorem dX9_count_120 : decode prog_11_method_31_code 120 = .ok (.aload_n 0, 1) := by decide +kernel
theorem dX9_count_121 : decode prog_11_method_31_code 121 = .ok (.getfield 106, 3) := by decide +kernel
theorem dX9_count_124 : decode prog_11_method_31_code 124 = .ok (.ireturn, 1) := by decide +kernel
theorem dX9_count_125 : decode prog_11_method_31_code 125 = .ok (.aload_n 0, 1) := by decide +kernel
theorem dX9_count_126 : decode prog_11_method_31_code 126 = .ok (.getfield 92, 3) := by decide +kernel
theorem dX9_count_129 : decode prog_11_method_31_code 129 = .ok (.ireturn, 1) := by decide +kernel
theorem dX9_count_130 : decode prog_11_method_31_code 130 = .ok (.aload_n 0, 1) := by decide +kernel
theorem dX9_count_131 : decode prog_11_method_31_code 131 = .ok (.getfield 100, 3) := by decide +kernel
theorem dX9_count_134 : decode prog_11_method_31_code 134 = .ok (.ireturn, 1) := by decide +kernel
theorem dX9_count_135 : decode prog_11_method_31_code 135 = .ok (.iload_n 2, 1) := by decide +kernel
theorem dX9_count_136 : decode prog_11_method_31_code 136 = .ok (.ireturn, 1) := by decide +kernel
theorem dX9_count_137 : decode prog_11_method_31_code 137 = .ok (.aload_n 0, 1) := by decide +kernel
theorem dX9_count_138 : decode prog_11_method_31_code 138 = .ok (.getfield 191, 3) := by decide +kernel
theorem dX9_count_141 : decode prog_11_method_31_code 141 = .ok (.ireturn, 1) := by decide +kernel
theorem dX9_count_142 : decode prog_11_method_31_code 142 = .ok (.iload_n 3, 1) := by decide +kernel
theorem dX9_count_143 : decode prog_11_method_31_code 143 = .ok (.ireturn, 1) := by decide +kernel
theorem dX9_count_144 : decode prog_11_method_31_code 144 = .ok (.iload 4, 2) := by decide +kernel
theorem dX9_count_146 : decode prog_11_method_31_code 146 = .ok (.ireturn, 1) := by decide +kernel
theorem dX9_count_147 : decode prog_11_method_31_code 147 = .ok (.ldc 105, 2) := by decide +kernel
theorem dX9_count_149 : decode prog_11_method_31_code 149 = .ok (.ireturn, 1) := by decide +kernel
abbrev M_X8_share : am_M := ((⟨"SignCellar", "share", "(II)I"⟩ : MethodName), prog_1_method_12_code, 8, (some .int), 3, 64)
theorem dX8_share_0 : decode prog_1_method_12_code 0 = .ok (.aload_n 0, 1) := by decide +kernel
theorem dX8_share_1 : decode prog_1_method_12_code 1 = .ok (.iload_n 1, 1) := by decide +kernel
theorem dX8_share_2 : decode prog_1_method_12_code 2 = .ok (.invokevirtual 126, 3) := by decide +kernel
theorem dX8_share_5 : decode prog_1_method_12_code 5 = .ok (.astore_n 3, 1) := by decide +kernel
theorem dX8_share_6 : decode prog_1_method_12_code 6 = .ok (.aload_n 0, 1) := by decide +kernel
theorem dX8_share_7 : decode prog_1_method_12_code 7 = .ok (.iload_n 2, 1) := by decide +kernel
theorem dX8_share_8 : decode prog_1_method_12_code 8 = .ok (.invokevirtual 126, 3) := by decide +kernel
theorem dX8_share_11 : decode prog_1_method_12_code 11 = .ok (.astore 4, 2) := by decide +kernel
theorem dX8_share_13 : decode prog_1_method_12_code 13 = .ok (.aload_n 3, 1) := by decide +kernel
theorem dX8_share_14 : decode prog_1_method_12_code 14 = .ok (.ifnull 8, 3) := by decide +kernel
theorem dX8_share_17 : decode prog_1_method_12_code 17 = .ok (.aload 4, 2) := by decide +kernel
theorem dX8_share_19 : decode prog_1_method_12_code 19 = .ok (.ifnonnull 6, 3) := by decide +kernel
theorem dX8_share_22 : decode prog_1_method_12_code 22 = .ok (.ldc 133, 2) := by decide +kernel
theorem dX8_share_24 : decode prog_1_method_12_code 24 = .ok (.ireturn, 1) := by decide +kernel
theorem dX8_share_25 : decode prog_1_method_12_code 25 = .ok (.iconst 0, 1) := by decide +kernel
theorem dX8_share_26 : decode prog_1_method_12_code 26 = .ok (.istore 5, 2) := by decide +kernel
theorem dX8_share_28 : decode prog_1_method_12_code 28 = .ok (.iconst 0, 1) := by decide +kernel
theorem dX8_share_29 : decode prog_1_method_12_code 29 = .ok (.istore 6, 2) := by decide +kernel
theorem dX8_share_31 : decode prog_1_method_12_code 31 = .ok (.iload 6, 2) := by decide +kernel
theorem dX8_share_33 : decode prog_1_method_12_code 33 = .ok (.aload_n 3, 1) := by decide +kernel
theorem dX8_share_34 : decode prog_1_method_12_code 34 = .ok (.getfield 148, 3) := by decide +kernel
theorem dX8_share_37 : decode prog_1_method_12_code 37 = .ok (.invokevirtual 93, 3) := by decide +kernel
theorem dX8_share_40 : decode prog_1_method_12_code 40 = .ok (.if_icmp .ge 50, 3) := by decide +kernel
theorem dX8_share_43 : decode prog_1_method_12_code 43 = .ok (.aload_n 3, 1) := by decide +kernel
theorem dX8_share_44 : decode prog_1_method_12_code 44 = .ok (.getfield 148, 3) := by decide +kernel
theorem dX8_share_47 : decode prog_1_method_12_code 47 = .ok (.iload 6, 2) := by decide +kernel
theorem dX8_share_49 : decode prog_1_method_12_code 49 = .ok (.invokevirtual 161, 3) := by decide +kernel
theorem dX8_share_52 : decode prog_1_method_12_code 52 = .ok (.istore 7, 2) := by decide +kernel
theorem dX8_share_54 : decode prog_1_method_12_code 54 = .ok (.aload 4, 2) := by decide +kernel
theorem dX8_share_56 : decode prog_1_method_12_code 56 = .ok (.getfield 148, 3) := by decide +kernel
theorem dX8_share_59 : decode prog_1_method_12_code 59 = .ok (.iload 7, 2) := by decide +kernel
theorem dX8_share_61 : decode prog_1_method_12_code 61 = .ok (.invokevirtual 198, 3) := by decide +kernel
theorem dX8_share_64 : decode prog_1_method_12_code 64 = .ok (.ifCond .eq 20, 3) := by decide +kernel
theorem dX8_share_67 : decode prog_1_method_12_code 67 = .ok (.aload_n 3, 1) := by decide +kernel
theorem dX8_share_68 : decode prog_1_method_12_code 68 = .ok (.getfield 148, 3) := by decide +kernel
theorem dX8_share_71 : decode prog_1_method_12_code 71 = .ok (.iload 7, 2) := by decide +kernel
theorem dX8_share_73 : decode prog_1_method_12_code 73 = .ok (.invokevirtual 201, 3) := by decide +kernel
theorem dX8_share_76 : decode prog_1_method_12_code 76 = .ok (.iload 6, 2) := by decide +kernel
theorem dX8_share_78 : decode prog_1_method_12_code 78 = .ok (.if_icmp .ne 6, 3) := by decide +kernel
theorem dX8_share_81 : decode prog_1_method_12_code 81 = .ok (.iinc 5 1, 3) := by decide +kernel
theorem dX8_share_84 : decode prog_1_method_12_code 84 = .ok (.iinc 6 1, 3) := by decide +kernel
theorem dX8_share_87 : decode prog_1_method_12_code 87 = .ok (.goto (-56), 3) := by decide +kernel
theorem dX8_share_90 : decode prog_1_method_12_code 90 = .ok (.iload 5, 2) := by decide +kernel
theorem dX8_share_92 : decode prog_1_method_12_code 92 = .ok (.ireturn, 1) := by decide +kernel
abbrev M_X9_share : am_M := ((⟨"SignCellarModel", "share", "(II)I"⟩ : MethodName), prog_11_method_32_code, 5, (some .int), 2, 46)
theorem dX9_share_0 : decode prog_11_method_32_code 0 = .ok (.aload_n 0, 1) := by decide +kernel
theorem dX9_share_1 : decode prog_11_method_32_code 1 = .ok (.iload_n 1, 1) := by decide +kernel
theorem dX9_share_2 : decode prog_11_method_32_code 2 = .ok (.invokevirtual 154, 3) := by decide +kernel
theorem dX9_share_5 : decode prog_11_method_32_code 5 = .ok (.ifCond .ne 11, 3) := by decide +kernel
theorem dX9_share_8 : decode prog_11_method_32_code 8 = .ok (.aload_n 0, 1) := by decide +kernel
theorem dX9_share_9 : decode prog_11_method_32_code 9 = .ok (.iload_n 2, 1) := by decide +kernel
theorem dX9_share_10 : decode prog_11_method_32_code 10 = .ok (.invokevirtual 154, 3) := by decide +kernel
theorem dX9_share_13 : decode prog_11_method_32_code 13 = .ok (.ifCond .eq 6, 3) := by decide +kernel
theorem dX9_share_16 : decode prog_11_method_32_code 16 = .ok (.ldc 164, 2) := by decide +kernel
theorem dX9_share_18 : decode prog_11_method_32_code 18 = .ok (.ireturn, 1) := by decide +kernel
theorem dX9_share_19 : decode prog_11_method_32_code 19 = .ok (.iconst 0, 1) := by decide +kernel
theorem dX9_share_20 : decode prog_11_method_32_code 20 = .ok (.istore_n 3, 1) := by decide +kernel
theorem dX9_share_21 : decode prog_11_method_32_code 21 = .ok (.iconst 0, 1) := by decide +kernel
theorem dX9_share_22 : decode prog_11_method_32_code 22 = .ok (.istore 4, 2) := by decide +kernel
theorem dX9_share_24 : decode prog_11_method_32_code 24 = .ok (.iload 4, 2) := by decide +kernel
theorem dX9_share_26 : decode prog_11_method_32_code 26 = .ok (.aload_n 0, 1) := by decide +kernel
theorem dX9_share_27 : decode prog_11_method_32_code 27 = .ok (.getfield 100, 3) := by decide +kernel
theorem dX9_share_30 : decode prog_11_method_32_code 30 = .ok (.if_icmp .ge 40, 3) := by decide +kernel
theorem dX9_share_33 : decode prog_11_method_32_code 33 = .ok (.iload_n 3, 1) := by decide +kernel
theorem dX9_share_34 : decode prog_11_method_32_code 34 = .ok (.aload_n 0, 1) := by decide +kernel
theorem dX9_share_35 : decode prog_11_method_32_code 35 = .ok (.iload_n 1, 1) := by decide +kernel
theorem dX9_share_36 : decode prog_11_method_32_code 36 = .ok (.iload 4, 2) := by decide +kernel
theorem dX9_share_38 : decode prog_11_method_32_code 38 = .ok (.invokevirtual 187, 3) := by decide +kernel
theorem dX9_share_41 : decode prog_11_method_32_code 41 = .ok (.ifCond .eq 17, 3) := by decide +kernel
theorem dX9_share_44 : decode prog_11_method_32_code 44 = .ok (.aload_n 0, 1) := by decide +kernel
theorem dX9_share_45 : decode prog_11_method_32_code 45 = .ok (.iload_n 2, 1) := by decide +kernel
theorem dX9_share_46 : decode prog_11_method_32_code 46 = .ok (.iload 4, 2) := by decide +kernel
theorem dX9_share_48 : decode prog_11_method_32_code 48 = .ok (.invokevirtual 187, 3) := by decide +kernel
theorem dX9_share_51 : decode prog_11_method_32_code 51 = .ok (.ifCond .eq 7, 3) := by decide +kernel
theorem dX9_share_54 : decode prog_11_method_32_code 54 = .ok (.iconst 1, 1) := by decide +kernel
theorem dX9_share_55 : decode prog_11_method_32_code 55 = .ok (.goto 4, 3) := by decide +kernel
theorem dX9_share_58 : decode prog_11_method_32_code 58 = .ok (.iconst 0, 1) := by decide +kernel
theorem dX9_share_59 : decode prog_11_method_32_code 59 = .ok (.invokestatic 150, 3) := by decide +kernel
theorem dX9_share_62 : decode prog_11_method_32_code 62 = .ok (.iadd, 1) := by decide +kernel
theorem dX9_share_63 : decode prog_11_method_32_code 63 = .ok (.istore_n 3, 1) := by decide +kernel
theorem dX9_share_64 : decode prog_11_method_32_code 64 = .ok (.iinc 4 1, 3) := by decide +kernel
theorem dX9_share_67 : decode prog_11_method_32_code 67 = .ok (.goto (-43), 3) := by decide +kernel
theorem dX9_share_70 : decode prog_11_method_32_code 70 = .ok (.iload_n 3, 1) := by decide +kernel
theorem dX9_share_71 : decode prog_11_method_32_code 71 = .ok (.ireturn, 1) := by decide +kernel
abbrev M_X8_refusalOfKind : am_M := ((⟨"SignCellar", "refusalOfKind", "(LSignCellar$Block;I)I"⟩ : MethodName), prog_1_method_58_code, 2, (some .int), 0, 0)
theorem dX8_refusalOfKind_0 : decode prog_1_method_58_code 0 = .ok (.aload_n 0, 1) := by decide +kernel
theorem dX8_refusalOfKind_1 : decode prog_1_method_58_code 1 = .ok (.ifnonnull 6, 3) := by decide +kernel
theorem dX8_refusalOfKind_4 : decode prog_1_method_58_code 4 = .ok (.ldc 133, 2) := by decide +kernel
theorem dX8_refusalOfKind_6 : decode prog_1_method_58_code 6 = .ok (.ireturn, 1) := by decide +kernel
theorem dX8_refusalOfKind_7 : decode prog_1_method_58_code 7 = .ok (.iload_n 1, 1) := by decide +kernel
theorem dX8_refusalOfKind_8 : decode prog_1_method_58_code 8 = .ok (.ifCond .lt 8, 3) := by decide +kernel
theorem dX8_refusalOfKind_11 : decode prog_1_method_58_code 11 = .ok (.iload_n 1, 1) := by decide +kernel
theorem dX8_refusalOfKind_12 : decode prog_1_method_58_code 12 = .ok (.iconst 5, 1) := by decide +kernel
theorem dX8_refusalOfKind_13 : decode prog_1_method_58_code 13 = .ok (.if_icmp .lt 6, 3) := by decide +kernel
theorem dX8_refusalOfKind_16 : decode prog_1_method_58_code 16 = .ok (.ldc 92, 2) := by decide +kernel
theorem dX8_refusalOfKind_18 : decode prog_1_method_58_code 18 = .ok (.ireturn, 1) := by decide +kernel
theorem dX8_refusalOfKind_19 : decode prog_1_method_58_code 19 = .ok (.aload_n 0, 1) := by decide +kernel
theorem dX8_refusalOfKind_20 : decode prog_1_method_58_code 20 = .ok (.getfield 182, 3) := by decide +kernel
theorem dX8_refusalOfKind_23 : decode prog_1_method_58_code 23 = .ok (.ifCond .eq 8, 3) := by decide +kernel
theorem dX8_refusalOfKind_26 : decode prog_1_method_58_code 26 = .ok (.ldc 168, 2) := by decide +kernel
theorem dX8_refusalOfKind_28 : decode prog_1_method_58_code 28 = .ok (.goto 4, 3) := by decide +kernel
theorem dX8_refusalOfKind_31 : decode prog_1_method_58_code 31 = .ok (.iconst 0, 1) := by decide +kernel
theorem dX8_refusalOfKind_32 : decode prog_1_method_58_code 32 = .ok (.ireturn, 1) := by decide +kernel
abbrev M_J7_fill_53178 : am_M := ((⟨"java/util/Arrays", "fill", "([II)V"⟩ : MethodName), prog_13_method_103_code, 4, none, 0, 0)
theorem dJ7_fill_53178_0 : decode prog_13_method_103_code 0 = .ok (.iconst 0, 1) := by decide +kernel
theorem dJ7_fill_53178_1 : decode prog_13_method_103_code 1 = .ok (.istore_n 2, 1) := by decide +kernel
theorem dJ7_fill_53178_2 : decode prog_13_method_103_code 2 = .ok (.aload_n 0, 1) := by decide +kernel
theorem dJ7_fill_53178_3 : decode prog_13_method_103_code 3 = .ok (.arraylength, 1) := by decide +kernel
theorem dJ7_fill_53178_4 : decode prog_13_method_103_code 4 = .ok (.istore_n 3, 1) := by decide +kernel
theorem dJ7_fill_53178_5 : decode prog_13_method_103_code 5 = .ok (.iload_n 2, 1) := by decide +kernel
theorem dJ7_fill_53178_6 : decode prog_13_method_103_code 6 = .ok (.iload_n 3, 1) := by decide +kernel
theorem dJ7_fill_53178_7 : decode prog_13_method_103_code 7 = .ok (.if_icmp .ge 13, 3) := by decide +kernel
theorem dJ7_fill_53178_10 : decode prog_13_method_103_code 10 = .ok (.aload_n 0, 1) := by decide +kernel
theorem dJ7_fill_53178_11 : decode prog_13_method_103_code 11 = .ok (.iload_n 2, 1) := by decide +kernel
theorem dJ7_fill_53178_12 : decode prog_13_method_103_code 12 = .ok (.iload_n 1, 1) := by decide +kernel
theorem dJ7_fill_53178_13 : decode prog_13_method_103_code 13 = .ok (.iastore, 1) := by decide +kernel
theorem dJ7_fill_53178_14 : decode prog_13_method_103_code 14 = .ok (.iinc 2 1, 3) := by decide +kernel
theorem dJ7_fill_53178_17 : decode prog_13_method_103_code 17 = .ok (.goto (-12), 3) := by decide +kernel
theorem dJ7_fill_53178_20 : decode prog_13_method_103_code 20 = .ok (.return_, 1) := by decide +kernel
abbrev M_X2_findNearest : am_M := ((⟨"SignCellar$Mates", "findNearest", "(LSignCellar$Row;II)V"⟩ : MethodName), prog_4_method_5_code, 6, none, 1, 23)
theorem dX2_findNearest_0 : decode prog_4_method_5_code 0 = .ok (.aload_n 0, 1) := by decide +kernel
theorem dX2_findNearest_1 : decode prog_4_method_5_code 1 = .ok (.getfield 18, 3) := by decide +kernel
theorem dX2_findNearest_4 : decode prog_4_method_5_code 4 = .ok (.iconst 0, 1) := by decide +kernel
theorem dX2_findNearest_5 : decode prog_4_method_5_code 5 = .ok (.invokestatic 56, 3) := by decide +kernel
theorem dX2_findNearest_8 : decode prog_4_method_5_code 8 = .ok (.iload_n 3, 1) := by decide +kernel
theorem dX2_findNearest_9 : decode prog_4_method_5_code 9 = .ok (.bipush 15, 2) := by decide +kernel
theorem dX2_findNearest_11 : decode prog_4_method_5_code 11 = .ok (.invokestatic 34, 3) := by decide +kernel
theorem dX2_findNearest_14 : decode prog_4_method_5_code 14 = .ok (.istore 4, 2) := by decide +kernel
theorem dX2_findNearest_16 : decode prog_4_method_5_code 16 = .ok (.iload 4, 2) := by decide +kernel
theorem dX2_findNearest_18 : decode prog_4_method_5_code 18 = .ok (.iconst 1, 1) := by decide +kernel
theorem dX2_findNearest_19 : decode prog_4_method_5_code 19 = .ok (.if_icmp .lt 71, 3) := by decide +kernel
theorem dX2_findNearest_22 : decode prog_4_method_5_code 22 = .ok (.iconst 1, 1) := by decide +kernel
theorem dX2_findNearest_23 : decode prog_4_method_5_code 23 = .ok (.istore 5, 2) := by decide +kernel
theorem dX2_findNearest_25 : decode prog_4_method_5_code 25 = .ok (.iload 5, 2) := by decide +kernel
theorem dX2_findNearest_27 : decode prog_4_method_5_code 27 = .ok (.bipush 9, 2) := by decide +kernel
theorem dX2_findNearest_29 : decode prog_4_method_5_code 29 = .ok (.if_icmp .gt 55, 3) := by decide +kernel
theorem dX2_findNearest_32 : decode prog_4_method_5_code 32 = .ok (.iload_n 3, 1) := by decide +kernel
theorem dX2_findNearest_33 : decode prog_4_method_5_code 33 = .ok (.iload 5, 2) := by decide +kernel
theorem dX2_findNearest_35 : decode prog_4_method_5_code 35 = .ok (.iadd, 1) := by decide +kernel
theorem dX2_findNearest_36 : decode prog_4_method_5_code 36 = .ok (.iload_n 2, 1) := by decide +kernel
theorem dX2_findNearest_37 : decode prog_4_method_5_code 37 = .ok (.if_icmp .gt 47, 3) := by decide +kernel
theorem dX2_findNearest_40 : decode prog_4_method_5_code 40 = .ok (.aload_n 1, 1) := by decide +kernel
theorem dX2_findNearest_41 : decode prog_4_method_5_code 41 = .ok (.iload_n 3, 1) := by decide +kernel
theorem dX2_findNearest_42 : decode prog_4_method_5_code 42 = .ok (.iload 5, 2) := by decide +kernel
theorem dX2_findNearest_44 : decode prog_4_method_5_code 44 = .ok (.iadd, 1) := by decide +kernel
theorem dX2_findNearest_45 : decode prog_4_method_5_code 45 = .ok (.iconst 1, 1) := by decide +kernel
theorem dX2_findNearest_46 : decode prog_4_method_5_code 46 = .ok (.isub, 1) := by decide +kernel
theorem dX2_findNearest_47 : decode prog_4_method_5_code 47 = .ok (.invokevirtual 62, 3) := by decide +kernel
theorem dX2_findNearest_50 : decode prog_4_method_5_code 50 = .ok (.aload_n 1, 1) := by decide +kernel
theorem dX2_findNearest_51 : decode prog_4_method_5_code 51 = .ok (.iload_n 3, 1) := by decide +kernel
theorem dX2_findNearest_52 : decode prog_4_method_5_code 52 = .ok (.iload 5, 2) := by decide +kernel
theorem dX2_findNearest_54 : decode prog_4_method_5_code 54 = .ok (.iadd, 1) := by decide +kernel
theorem dX2_findNearest_55 : decode prog_4_method_5_code 55 = .ok (.iconst 1, 1) := by decide +kernel
theorem dX2_findNearest_56 : decode prog_4_method_5_code 56 = .ok (.isub, 1) := by decide +kernel
theorem dX2_findNearest_57 : decode prog_4_method_5_code 57 = .ok (.iload 4, 2) := by decide +kernel
theorem dX2_findNearest_59 : decode prog_4_method_5_code 59 = .ok (.isub, 1) := by decide +kernel
theorem dX2_findNearest_60 : decode prog_4_method_5_code 60 = .ok (.invokevirtual 62, 3) := by decide +kernel
theorem dX2_findNearest_63 : decode prog_4_method_5_code 63 = .ok (.if_icmp .eq 6, 3) := by decide +kernel
theorem dX2_findNearest_66 : decode prog_4_method_5_code 66 = .ok (.goto 18, 3) := by decide +kernel
theorem dX2_findNearest_69 : decode prog_4_method_5_code 69 = .ok (.aload_n 0, 1) := by decide +kernel
theorem dX2_findNearest_70 : decode prog_4_method_5_code 70 = .ok (.getfield 18, 3) := by decide +kernel
theorem dX2_findNearest_73 : decode prog_4_method_5_code 73 = .ok (.iload 5, 2) := by decide +kernel
theorem dX2_findNearest_75 : decode prog_4_method_5_code 75 = .ok (.iload 4, 2) := by decide +kernel
theorem dX2_findNearest_77 : decode prog_4_method_5_code 77 = .ok (.iastore, 1) := by decide +kernel
theorem dX2_findNearest_78 : decode prog_4_method_5_code 78 = .ok (.iinc 5 1, 3) := by decide +kernel
theorem dX2_findNearest_81 : decode prog_4_method_5_code 81 = .ok (.goto (-56), 3) := by decide +kernel
theorem dX2_findNearest_84 : decode prog_4_method_5_code 84 = .ok (.iinc 4 (-1), 3) := by decide +kernel
theorem dX2_findNearest_87 : decode prog_4_method_5_code 87 = .ok (.goto (-71), 3) := by decide +kernel
theorem dX2_findNearest_90 : decode prog_4_method_5_code 90 = .ok (.return_, 1) := by decide +kernel
abbrev M_X2_choosePiece : am_M := ((⟨"SignCellar$Mates", "choosePiece", "(LSignCellar$Row;II)V"⟩ : MethodName), prog_4_method_4_code, 6, none, 2, 48)
theorem dX2_choosePiece_0 : decode prog_4_method_4_code 0 = .ok (.aload_n 0, 1) := by decide +kernel
theorem dX2_choosePiece_1 : decode prog_4_method_4_code 1 = .ok (.getfield 9, 3) := by decide +kernel
theorem dX2_choosePiece_4 : decode prog_4_method_4_code 4 = .ok (.iload_n 3, 1) := by decide +kernel
theorem dX2_choosePiece_5 : decode prog_4_method_4_code 5 = .ok (.iconst 5, 1) := by decide +kernel
theorem dX2_choosePiece_6 : decode prog_4_method_4_code 6 = .ok (.aload_n 0, 1) := by decide +kernel
theorem dX2_choosePiece_7 : decode prog_4_method_4_code 7 = .ok (.getfield 9, 3) := by decide +kernel
theorem dX2_choosePiece_10 : decode prog_4_method_4_code 10 = .ok (.iload_n 3, 1) := by decide +kernel
theorem dX2_choosePiece_11 : decode prog_4_method_4_code 11 = .ok (.iconst 1, 1) := by decide +kernel
theorem dX2_choosePiece_12 : decode prog_4_method_4_code 12 = .ok (.iadd, 1) := by decide +kernel
theorem dX2_choosePiece_13 : decode prog_4_method_4_code 13 = .ok (.iaload, 1) := by decide +kernel
theorem dX2_choosePiece_14 : decode prog_4_method_4_code 14 = .ok (.iadd, 1) := by decide +kernel
theorem dX2_choosePiece_15 : decode prog_4_method_4_code 15 = .ok (.iastore, 1) := by decide +kernel
theorem dX2_choosePiece_16 : decode prog_4_method_4_code 16 = .ok (.aload_n 0, 1) := by decide +kernel
theorem dX2_choosePiece_17 : decode prog_4_method_4_code 17 = .ok (.getfield 15, 3) := by decide +kernel
theorem dX2_choosePiece_20 : decode prog_4_method_4_code 20 = .ok (.iload_n 3, 1) := by decide +kernel
theorem dX2_choosePiece_21 : decode prog_4_method_4_code 21 = .ok (.iconst 0, 1) := by decide +kernel
theorem dX2_choosePiece_22 : decode prog_4_method_4_code 22 = .ok (.iastore, 1) := by decide +kernel
theorem dX2_choosePiece_23 : decode prog_4_method_4_code 23 = .ok (.aload_n 0, 1) := by decide +kernel
theorem dX2_choosePiece_24 : decode prog_4_method_4_code 24 = .ok (.aload_n 1, 1) := by decide +kernel
theorem dX2_choosePiece_25 : decode prog_4_method_4_code 25 = .ok (.iload_n 2, 1) := by decide +kernel
theorem dX2_choosePiece_26 : decode prog_4_method_4_code 26 = .ok (.iload_n 3, 1) := by decide +kernel
theorem dX2_choosePiece_27 : decode prog_4_method_4_code 27 = .ok (.invokevirtual 53, 3) := by decide +kernel
theorem dX2_choosePiece_30 : decode prog_4_method_4_code 30 = .ok (.iconst 2, 1) := by decide +kernel
theorem dX2_choosePiece_31 : decode prog_4_method_4_code 31 = .ok (.istore 4, 2) := by decide +kernel
theorem dX2_choosePiece_33 : decode prog_4_method_4_code 33 = .ok (.iload 4, 2) := by decide +kernel
theorem dX2_choosePiece_35 : decode prog_4_method_4_code 35 = .ok (.bipush 9, 2) := by decide +kernel
theorem dX2_choosePiece_37 : decode prog_4_method_4_code 37 = .ok (.if_icmp .gt 79, 3) := by decide +kernel
theorem dX2_choosePiece_40 : decode prog_4_method_4_code 40 = .ok (.iload_n 3, 1) := by decide +kernel
theorem dX2_choosePiece_41 : decode prog_4_method_4_code 41 = .ok (.iload 4, 2) := by decide +kernel
theorem dX2_choosePiece_43 : decode prog_4_method_4_code 43 = .ok (.iadd, 1) := by decide +kernel
theorem dX2_choosePiece_44 : decode prog_4_method_4_code 44 = .ok (.iload_n 2, 1) := by decide +kernel
theorem dX2_choosePiece_45 : decode prog_4_method_4_code 45 = .ok (.if_icmp .gt 71, 3) := by decide +kernel
theorem dX2_choosePiece_48 : decode prog_4_method_4_code 48 = .ok (.bipush 11, 2) := by decide +kernel
theorem dX2_choosePiece_50 : decode prog_4_method_4_code 50 = .ok (.aload_n 0, 1) := by decide +kernel
theorem dX2_choosePiece_51 : decode prog_4_method_4_code 51 = .ok (.getfield 9, 3) := by decide +kernel
theorem dX2_choosePiece_54 : decode prog_4_method_4_code 54 = .ok (.iload_n 3, 1) := by decide +kernel
theorem dX2_choosePiece_55 : decode prog_4_method_4_code 55 = .ok (.iload 4, 2) := by decide +kernel
theorem dX2_choosePiece_57 : decode prog_4_method_4_code 57 = .ok (.iadd, 1) := by decide +kernel
theorem dX2_choosePiece_58 : decode prog_4_method_4_code 58 = .ok (.iaload, 1) := by decide +kernel
theorem dX2_choosePiece_59 : decode prog_4_method_4_code 59 = .ok (.iadd, 1) := by decide +kernel
theorem dX2_choosePiece_60 : decode prog_4_method_4_code 60 = .ok (.istore 5, 2) := by decide +kernel
theorem dX2_choosePiece_62 : decode prog_4_method_4_code 62 = .ok (.aload_n 0, 1) := by decide +kernel
theorem dX2_choosePiece_63 : decode prog_4_method_4_code 63 = .ok (.getfield 18, 3) := by decide +kernel
theorem dX2_choosePiece_66 : decode prog_4_method_4_code 66 = .ok (.iload 4, 2) := by decide +kernel
theorem dX2_choosePiece_68 : decode prog_4_method_4_code 68 = .ok (.iaload, 1) := by decide +kernel
theorem dX2_choosePiece_69 : decode prog_4_method_4_code 69 = .ok (.ifCond .le 41, 3) := by decide +kernel
theorem dX2_choosePiece_72 : decode prog_4_method_4_code 72 = .ok (.iload 5, 2) := by decide +kernel
theorem dX2_choosePiece_74 : decode prog_4_method_4_code 74 = .ok (.aload_n 0, 1) := by decide +kernel
theorem dX2_choosePiece_75 : decode prog_4_method_4_code 75 = .ok (.getfield 9, 3) := by decide +kernel
theorem dX2_choosePiece_78 : decode prog_4_method_4_code 78 = .ok (.iload_n 3, 1) := by decide +kernel
theorem dX2_choosePiece_79 : decode prog_4_method_4_code 79 = .ok (.iaload, 1) := by decide +kernel
theorem dX2_choosePiece_80 : decode prog_4_method_4_code 80 = .ok (.if_icmp .ge 30, 3) := by decide +kernel
theorem dX2_choosePiece_83 : decode prog_4_method_4_code 83 = .ok (.aload_n 0, 1) := by decide +kernel
theorem dX2_choosePiece_84 : decode prog_4_method_4_code 84 = .ok (.getfield 9, 3) := by decide +kernel
theorem dX2_choosePiece_87 : decode prog_4_method_4_code 87 = .ok (.iload_n 3, 1) := by decide +kernel
theorem dX2_choosePiece_88 : decode prog_4_method_4_code 88 = .ok (.iload 5, 2) := by decide +kernel
theorem dX2_choosePiece_90 : decode prog_4_method_4_code 90 = .ok (.iastore, 1) := by decide +kernel
theorem dX2_choosePiece_91 : decode prog_4_method_4_code 91 = .ok (.aload_n 0, 1) := by decide +kernel
theorem dX2_choosePiece_92 : decode prog_4_method_4_code 92 = .ok (.getfield 15, 3) := by decide +kernel
theorem dX2_choosePiece_95 : decode prog_4_method_4_code 95 = .ok (.iload_n 3, 1) := by decide +kernel
theorem dX2_choosePiece_96 : decode prog_4_method_4_code 96 = .ok (.bipush 16, 2) := by decide +kernel
theorem dX2_choosePiece_98 : decode prog_4_method_4_code 98 = .ok (.iload 4, 2) := by decide +kernel
theorem dX2_choosePiece_100 : decode prog_4_method_4_code 100 = .ok (.imul, 1) := by decide +kernel
theorem dX2_choosePiece_101 : decode prog_4_method_4_code 101 = .ok (.aload_n 0, 1) := by decide +kernel
theorem dX2_choosePiece_102 : decode prog_4_method_4_code 102 = .ok (.getfield 18, 3) := by decide +kernel
theorem dX2_choosePiece_105 : decode prog_4_method_4_code 105 = .ok (.iload 4, 2) := by decide +kernel
theorem dX2_choosePiece_107 : decode prog_4_method_4_code 107 = .ok (.iaload, 1) := by decide +kernel
theorem dX2_choosePiece_108 : decode prog_4_method_4_code 108 = .ok (.iadd, 1) := by decide +kernel
theorem dX2_choosePiece_109 : decode prog_4_method_4_code 109 = .ok (.iastore, 1) := by decide +kernel
theorem dX2_choosePiece_110 : decode prog_4_method_4_code 110 = .ok (.iinc 4 1, 3) := by decide +kernel
theorem dX2_choosePiece_113 : decode prog_4_method_4_code 113 = .ok (.goto (-80), 3) := by decide +kernel
theorem dX2_choosePiece_116 : decode prog_4_method_4_code 116 = .ok (.return_, 1) := by decide +kernel
abbrev M_X2_squeeze : am_M := ((⟨"SignCellar$Mates", "squeeze", "(LSignCellar$Row;)V"⟩ : MethodName), prog_4_method_2_code, 4, none, 3, 73)
theorem dX2_squeeze_0 : decode prog_4_method_2_code 0 = .ok (.aload_n 1, 1) := by decide +kernel
theorem dX2_squeeze_1 : decode prog_4_method_2_code 1 = .ok (.invokevirtual 30, 3) := by decide +kernel
theorem dX2_squeeze_4 : decode prog_4_method_2_code 4 = .ok (.bipush 24, 2) := by decide +kernel
theorem dX2_squeeze_6 : decode prog_4_method_2_code 6 = .ok (.invokestatic 34, 3) := by decide +kernel
theorem dX2_squeeze_9 : decode prog_4_method_2_code 9 = .ok (.istore_n 2, 1) := by decide +kernel
theorem dX2_squeeze_10 : decode prog_4_method_2_code 10 = .ok (.aload_n 0, 1) := by decide +kernel
theorem dX2_squeeze_11 : decode prog_4_method_2_code 11 = .ok (.getfield 9, 3) := by decide +kernel
theorem dX2_squeeze_14 : decode prog_4_method_2_code 14 = .ok (.iload_n 2, 1) := by decide +kernel
theorem dX2_squeeze_15 : decode prog_4_method_2_code 15 = .ok (.iconst 0, 1) := by decide +kernel
theorem dX2_squeeze_16 : decode prog_4_method_2_code 16 = .ok (.iastore, 1) := by decide +kernel
theorem dX2_squeeze_17 : decode prog_4_method_2_code 17 = .ok (.iload_n 2, 1) := by decide +kernel
theorem dX2_squeeze_18 : decode prog_4_method_2_code 18 = .ok (.iconst 1, 1) := by decide +kernel
theorem dX2_squeeze_19 : decode prog_4_method_2_code 19 = .ok (.isub, 1) := by decide +kernel
theorem dX2_squeeze_20 : decode prog_4_method_2_code 20 = .ok (.istore_n 3, 1) := by decide +kernel
theorem dX2_squeeze_21 : decode prog_4_method_2_code 21 = .ok (.iload_n 3, 1) := by decide +kernel
theorem dX2_squeeze_22 : decode prog_4_method_2_code 22 = .ok (.ifCond .lt 16, 3) := by decide +kernel
theorem dX2_squeeze_25 : decode prog_4_method_2_code 25 = .ok (.aload_n 0, 1) := by decide +kernel
theorem dX2_squeeze_26 : decode prog_4_method_2_code 26 = .ok (.aload_n 1, 1) := by decide +kernel
theorem dX2_squeeze_27 : decode prog_4_method_2_code 27 = .ok (.iload_n 2, 1) := by decide +kernel
theorem dX2_squeeze_28 : decode prog_4_method_2_code 28 = .ok (.iload_n 3, 1) := by decide +kernel
theorem dX2_squeeze_29 : decode prog_4_method_2_code 29 = .ok (.invokevirtual 40, 3) := by decide +kernel
theorem dX2_squeeze_32 : decode prog_4_method_2_code 32 = .ok (.iinc 3 (-1), 3) := by decide +kernel
theorem dX2_squeeze_35 : decode prog_4_method_2_code 35 = .ok (.goto (-14), 3) := by decide +kernel
theorem dX2_squeeze_38 : decode prog_4_method_2_code 38 = .ok (.aload_n 0, 1) := by decide +kernel
theorem dX2_squeeze_39 : decode prog_4_method_2_code 39 = .ok (.getfield 26, 3) := by decide +kernel
theorem dX2_squeeze_42 : decode prog_4_method_2_code 42 = .ok (.invokevirtual 44, 3) := by decide +kernel
theorem dX2_squeeze_45 : decode prog_4_method_2_code 45 = .ok (.iconst 0, 1) := by decide +kernel
theorem dX2_squeeze_46 : decode prog_4_method_2_code 46 = .ok (.istore_n 3, 1) := by decide +kernel
theorem dX2_squeeze_47 : decode prog_4_method_2_code 47 = .ok (.iload_n 3, 1) := by decide +kernel
theorem dX2_squeeze_48 : decode prog_4_method_2_code 48 = .ok (.iload_n 2, 1) := by decide +kernel
theorem dX2_squeeze_49 : decode prog_4_method_2_code 49 = .ok (.if_icmp .ge 35, 3) := by decide +kernel
theorem dX2_squeeze_52 : decode prog_4_method_2_code 52 = .ok (.aload_n 0, 1) := by decide +kernel
theorem dX2_squeeze_53 : decode prog_4_method_2_code 53 = .ok (.getfield 26, 3) := by decide +kernel
theorem dX2_squeeze_56 : decode prog_4_method_2_code 56 = .ok (.aload_n 0, 1) := by decide +kernel
theorem dX2_squeeze_57 : decode prog_4_method_2_code 57 = .ok (.getfield 15, 3) := by decide +kernel
theorem dX2_squeeze_60 : decode prog_4_method_2_code 60 = .ok (.iload_n 3, 1) := by decide +kernel
theorem dX2_squeeze_61 : decode prog_4_method_2_code 61 = .ok (.iaload, 1) := by decide +kernel
theorem dX2_squeeze_62 : decode prog_4_method_2_code 62 = .ok (.invokevirtual 47, 3) := by decide +kernel
theorem dX2_squeeze_65 : decode prog_4_method_2_code 65 = .ok (.iload_n 3, 1) := by decide +kernel
theorem dX2_squeeze_66 : decode prog_4_method_2_code 66 = .ok (.iconst 1, 1) := by decide +kernel
theorem dX2_squeeze_67 : decode prog_4_method_2_code 67 = .ok (.aload_n 0, 1) := by decide +kernel
theorem dX2_squeeze_68 : decode prog_4_method_2_code 68 = .ok (.getfield 15, 3) := by decide +kernel
theorem dX2_squeeze_71 : decode prog_4_method_2_code 71 = .ok (.iload_n 3, 1) := by decide +kernel
theorem dX2_squeeze_72 : decode prog_4_method_2_code 72 = .ok (.iaload, 1) := by decide +kernel
theorem dX2_squeeze_73 : decode prog_4_method_2_code 73 = .ok (.bipush 16, 2) := by decide +kernel
theorem dX2_squeeze_75 : decode prog_4_method_2_code 75 = .ok (.idiv, 1) := by decide +kernel
theorem dX2_squeeze_76 : decode prog_4_method_2_code 76 = .ok (.invokestatic 50, 3) := by decide +kernel
theorem dX2_squeeze_79 : decode prog_4_method_2_code 79 = .ok (.iadd, 1) := by decide +kernel
theorem dX2_squeeze_80 : decode prog_4_method_2_code 80 = .ok (.istore_n 3, 1) := by decide +kernel
theorem dX2_squeeze_81 : decode prog_4_method_2_code 81 = .ok (.goto (-34), 3) := by decide +kernel
theorem dX2_squeeze_84 : decode prog_4_method_2_code 84 = .ok (.return_, 1) := by decide +kernel
def F_X8_allTorn_32 (k4 : Nat → Int32 → Int32 → am_H → Option Int32) (v0 : Nat) (v1 : Int32) (v2 : Int32) (h : am_H) : Option Int32 :=
  k4 v0 v1 (v2 + (1 : Int32)) h
theorem w_X8_allTorn_32 {g : am_G} {l : Launch} {h0 : am_H} {x : Int32}  {k4 : Nat → Int32 → Int32 → am_H → Option Int32} (j4 : ∀ (v0 : Nat) (v1 : Int32) (v2 : Int32) (h : am_H), k4 v0 v1 v2 h = some x → am_W g l M_X8_allTorn h0 (some (.int x)) h 4 [some (.ref v0), some (.int v1), some (.int v2), none] [] h) (v0 : Nat) (v1 : Int32) (v2 : Int32) (h : am_H) (hF : F_X8_allTorn_32 k4 v0 v1 v2 h = some x) : am_W g l M_X8_allTorn h0 (some (.int x)) h 32 [some (.ref v0), some (.int v1), some (.int v2), none] [] h := by
  unfold F_X8_allTorn_32 at hF
  refine am_iinc (ls' := [some (.ref v0), some (.int v1), some (.int (v2 + (1 : Int32))), none]) (pc' := 35) (v := (v2 + (1 : Int32))) dX8_allTorn_32 rfl rfl (Nat.le_of_ble_eq_true rfl) rfl rfl ?_
  refine am_goto (pc' := 4) dX8_allTorn_35 rfl ?_
  exact j4 v0 v1 (v2 + (1 : Int32)) h hF
def F_X8_allTorn_4 : Nat → Nat → Int32 → Int32 → am_H → Option Int32
  | 0, _, _, _, _ => none
  | n + 1, v0, v1, v2, h =>
  (am_gi 8 3 v0 h).bind fun x1 =>
  if x1 ≤ v2 then
    some v1
  else
    (F_X8_blockOf v0 v2 h).bind fun x3 =>
    if x3 = 0 then
      F_X8_allTorn_32 (F_X8_allTorn_4 n) v0 v1 v2 h
    else
      (am_gi 0 3 x3 h).bind fun x5 =>
      if x5 = 0 then
        F_X8_allTorn_32 (F_X8_allTorn_4 n) v0 v1 v2 h
      else
        F_X8_allTorn_32 (F_X8_allTorn_4 n) v0 (v1 + (1 : Int32)) v2 h
theorem w_X8_allTorn_4 {g : am_G} {l : Launch} {h0 : am_H} {x : Int32}  : ∀ (n : Nat) (v0 : Nat) (v1 : Int32) (v2 : Int32) (h : am_H), F_X8_allTorn_4 n v0 v1 v2 h = some x → am_W g l M_X8_allTorn h0 (some (.int x)) h 4 [some (.ref v0), some (.int v1), some (.int v2), none] [] h
  | 0, _, _, _, _, hF => by cases hF
  | n + 1, v0, v1, v2, h, hF => by
    rw [F_X8_allTorn_4] at hF
    refine am_iload_n (pc' := 5) dX8_allTorn_4 rfl rfl ?_
    refine am_aload_n (pc' := 6) dX8_allTorn_5 rfl rfl ?_
    obtain ⟨x1, ex1, hF⟩ := am_bind hF
    refine am_geti (pc' := 9) dX8_allTorn_6 fw_X8_27 ex1 rfl ?_
    rcases am_ite hF with ⟨z2, hF⟩ | ⟨z2, hF⟩
    · refine am_icmp_ge_t (pc' := 38) dX8_allTorn_9 rfl z2 ?_
      refine am_iload_n (pc' := 39) dX8_allTorn_38 rfl rfl ?_
      cases hF
      exact am_iret dX8_allTorn_39 rfl rfl
    · refine am_icmp_ge_f (pc' := 12) (tgt := 38) dX8_allTorn_9 rfl z2 rfl ?_
      refine am_aload_n (pc' := 13) dX8_allTorn_12 rfl rfl ?_
      refine am_iload_n (pc' := 14) dX8_allTorn_13 rfl rfl ?_
      obtain ⟨x3, ex3, hF⟩ := am_bind hF
      obtain ⟨ox3, px3⟩ := t_X8_blockOf ex3
      refine am_callV1 (Mc := M_X8_blockOf) (As := [.int v2]) (st := []) (pc' := 17) dX8_allTorn_14 cw_X8_176 wd_2_33 sl_X8_blockOf ⟨_, rfl, rfl⟩ (by decide) (by decide) rfl rfl (Nat.le_of_ble_eq_true rfl) px3 (c_X8_blockOf ex3) rfl ?_
      refine am_astore_n (ls' := [some (.ref v0), some (.int v1), some (.int v2), some (.ref x3)]) (pc' := 18) dX8_allTorn_17 (Nat.le_of_ble_eq_true rfl) rfl rfl ?_
      refine am_aload_n (pc' := 19) dX8_allTorn_18 rfl rfl ?_
      rcases am_ite hF with ⟨z4, hF⟩ | ⟨z4, hF⟩
      · refine am_ifnull_t (pc' := 32) dX8_allTorn_19 rfl z4 ?_
        exact am_weak [true, true, true, false] (w_X8_allTorn_32 (w_X8_allTorn_4 n) v0 v1 v2 h hF)
      · refine am_ifnull_f (pc' := 22) dX8_allTorn_19 z4 rfl ?_
        refine am_aload_n (pc' := 23) dX8_allTorn_22 rfl rfl ?_
        obtain ⟨x5, ex5, hF⟩ := am_bind hF
        refine am_geti (pc' := 26) dX8_allTorn_23 fw_X8_182 ex5 rfl ?_
        rcases am_ite hF with ⟨z6, hF⟩ | ⟨z6, hF⟩
        · refine am_if_eq_t (pc' := 32) dX8_allTorn_26 rfl z6 ?_
          exact am_weak [true, true, true, false] (w_X8_allTorn_32 (w_X8_allTorn_4 n) v0 v1 v2 h hF)
        · refine am_if_eq_f (pc' := 29) (tgt := 32) dX8_allTorn_26 rfl z6 rfl ?_
          refine am_iinc (ls' := [some (.ref v0), some (.int (v1 + (1 : Int32))), some (.int v2), some (.ref x3)]) (pc' := 32) (v := (v1 + (1 : Int32))) dX8_allTorn_29 rfl rfl (Nat.le_of_ble_eq_true rfl) rfl rfl ?_
          exact am_weak [true, true, true, false] (w_X8_allTorn_32 (w_X8_allTorn_4 n) v0 (v1 + (1 : Int32)) v2 h hF)
def F_X8_allTorn_b (v0 : Nat) (h : am_H) : Option Int32 :=
  F_X8_allTorn_4 am_F v0 (0 : Int32) (0 : Int32) h
theorem w_X8_allTorn {g : am_G} {l : Launch} {h0 : am_H} {x : Int32}  (v0 : Nat) (h : am_H) (hF : F_X8_allTorn_b v0 h = some x) : am_W g l M_X8_allTorn h0 (some (.int x)) h 0 [some (.ref v0), none, none, none] [] h := by
  unfold F_X8_allTorn_b at hF
  refine am_iconst (v := (0 : Int32)) (pc' := 1) dX8_allTorn_0 rfl rfl ?_
  refine am_istore_n (ls' := [some (.ref v0), some (.int (0 : Int32)), none, none]) (pc' := 2) dX8_allTorn_1 (Nat.le_of_ble_eq_true rfl) rfl rfl ?_
  refine am_iconst (v := (0 : Int32)) (pc' := 3) dX8_allTorn_2 rfl rfl ?_
  refine am_istore_n (ls' := [some (.ref v0), some (.int (0 : Int32)), some (.int (0 : Int32)), none]) (pc' := 4) dX8_allTorn_3 (Nat.le_of_ble_eq_true rfl) rfl rfl ?_
  exact w_X8_allTorn_4 am_F v0 (0 : Int32) (0 : Int32) h hF
def F_X8_allTorn (v0 : Nat) (h : am_H) : Option Int32 := (am_obj v0 8 h).bind fun _ => F_X8_allTorn_b v0 h
theorem t_X8_allTorn {x : Int32}  {v0 : Nat} {h : am_H} (hF : F_X8_allTorn v0 h = some x) : ∃ fs, am_obj v0 8 h = some fs := by
  obtain ⟨fs, e, _⟩ := am_bind hF
  exact ⟨fs, e⟩
theorem c_X8_allTorn {g : am_G} {l : Launch} {x : Int32}  {v0 : Nat} {h : am_H} (hF : F_X8_allTorn v0 h = some x) : am_Met g l M_X8_allTorn [.ref v0] h (some (.int x)) h := by
  obtain ⟨fs, e0, e⟩ := am_bind hF
  exact am_met (n := 3) (by decide +kernel) rfl (Nat.le_of_ble_eq_true rfl) (w_X8_allTorn v0 h e)
def F_X8_signsOfBlocks_32 (k4 : Nat → Int32 → Int32 → am_H → Option Int32) (v0 : Nat) (v1 : Int32) (v2 : Int32) (h : am_H) : Option Int32 :=
  k4 v0 v1 (v2 + (1 : Int32)) h
theorem w_X8_signsOfBlocks_32 {g : am_G} {l : Launch} {h0 : am_H} {x : Int32}  {k4 : Nat → Int32 → Int32 → am_H → Option Int32} (j4 : ∀ (v0 : Nat) (v1 : Int32) (v2 : Int32) (h : am_H), k4 v0 v1 v2 h = some x → am_W g l M_X8_signsOfBlocks h0 (some (.int x)) h 4 [some (.ref v0), some (.int v1), some (.int v2), none] [] h) (v0 : Nat) (v1 : Int32) (v2 : Int32) (h : am_H) (hF : F_X8_signsOfBlocks_32 k4 v0 v1 v2 h = some x) : am_W g l M_X8_signsOfBlocks h0 (some (.int x)) h 32 [some (.ref v0), some (.int v1), some (.int v2), none] [] h := by
  unfold F_X8_signsOfBlocks_32 at hF
  refine am_iinc (ls' := [some (.ref v0), some (.int v1), some (.int (v2 + (1 : Int32))), none]) (pc' := 35) (v := (v2 + (1 : Int32))) dX8_signsOfBlocks_32 rfl rfl (Nat.le_of_ble_eq_true rfl) rfl rfl ?_
  refine am_goto (pc' := 4) dX8_signsOfBlocks_35 rfl ?_
  exact j4 v0 v1 (v2 + (1 : Int32)) h hF
def F_X8_signsOfBlocks_4 : Nat → Nat → Int32 → Int32 → am_H → Option Int32
  | 0, _, _, _, _ => none
  | n + 1, v0, v1, v2, h =>
  (am_gi 8 3 v0 h).bind fun x1 =>
  if x1 ≤ v2 then
    some v1
  else
    (F_X8_blockOf v0 v2 h).bind fun x3 =>
    if x3 = 0 then
      F_X8_signsOfBlocks_32 (F_X8_signsOfBlocks_4 n) v0 v1 v2 h
    else
      (am_gr 0 0 x3 h).bind fun x5 =>
      (F_X4_length x5 h).bind fun x6 =>
      F_X8_signsOfBlocks_32 (F_X8_signsOfBlocks_4 n) v0 (v1 + x6) v2 h
theorem w_X8_signsOfBlocks_4 {g : am_G} {l : Launch} {h0 : am_H} {x : Int32}  : ∀ (n : Nat) (v0 : Nat) (v1 : Int32) (v2 : Int32) (h : am_H), F_X8_signsOfBlocks_4 n v0 v1 v2 h = some x → am_W g l M_X8_signsOfBlocks h0 (some (.int x)) h 4 [some (.ref v0), some (.int v1), some (.int v2), none] [] h
  | 0, _, _, _, _, hF => by cases hF
  | n + 1, v0, v1, v2, h, hF => by
    rw [F_X8_signsOfBlocks_4] at hF
    refine am_iload_n (pc' := 5) dX8_signsOfBlocks_4 rfl rfl ?_
    refine am_aload_n (pc' := 6) dX8_signsOfBlocks_5 rfl rfl ?_
    obtain ⟨x1, ex1, hF⟩ := am_bind hF
    refine am_geti (pc' := 9) dX8_signsOfBlocks_6 fw_X8_27 ex1 rfl ?_
    rcases am_ite hF with ⟨z2, hF⟩ | ⟨z2, hF⟩
    · refine am_icmp_ge_t (pc' := 38) dX8_signsOfBlocks_9 rfl z2 ?_
      refine am_iload_n (pc' := 39) dX8_signsOfBlocks_38 rfl rfl ?_
      cases hF
      exact am_iret dX8_signsOfBlocks_39 rfl rfl
    · refine am_icmp_ge_f (pc' := 12) (tgt := 38) dX8_signsOfBlocks_9 rfl z2 rfl ?_
      refine am_aload_n (pc' := 13) dX8_signsOfBlocks_12 rfl rfl ?_
      refine am_iload_n (pc' := 14) dX8_signsOfBlocks_13 rfl rfl ?_
      obtain ⟨x3, ex3, hF⟩ := am_bind hF
      obtain ⟨ox3, px3⟩ := t_X8_blockOf ex3
      refine am_callV1 (Mc := M_X8_blockOf) (As := [.int v2]) (st := []) (pc' := 17) dX8_signsOfBlocks_14 cw_X8_176 wd_2_33 sl_X8_blockOf ⟨_, rfl, rfl⟩ (by decide) (by decide) rfl rfl (Nat.le_of_ble_eq_true rfl) px3 (c_X8_blockOf ex3) rfl ?_
      refine am_astore_n (ls' := [some (.ref v0), some (.int v1), some (.int v2), some (.ref x3)]) (pc' := 18) dX8_signsOfBlocks_17 (Nat.le_of_ble_eq_true rfl) rfl rfl ?_
      refine am_aload_n (pc' := 19) dX8_signsOfBlocks_18 rfl rfl ?_
      rcases am_ite hF with ⟨z4, hF⟩ | ⟨z4, hF⟩
      · refine am_ifnull_t (pc' := 32) dX8_signsOfBlocks_19 rfl z4 ?_
        exact am_weak [true, true, true, false] (w_X8_signsOfBlocks_32 (w_X8_signsOfBlocks_4 n) v0 v1 v2 h hF)
      · refine am_ifnull_f (pc' := 22) dX8_signsOfBlocks_19 z4 rfl ?_
        refine am_iload_n (pc' := 23) dX8_signsOfBlocks_22 rfl rfl ?_
        refine am_aload_n (pc' := 24) dX8_signsOfBlocks_23 rfl rfl ?_
        obtain ⟨x5, ex5, hF⟩ := am_bind hF
        refine am_getr (pc' := 27) dX8_signsOfBlocks_24 fw_X8_180 ex5 rfl ?_
        obtain ⟨x6, ex6, hF⟩ := am_bind hF
        obtain ⟨ox6, px6⟩ := t_X4_length ex6
        refine am_callV1 (Mc := M_X4_length) (As := []) (st := [.int v1]) (pc' := 30) dX8_signsOfBlocks_27 cw_X8_93 wd_1_235 wd_1_236 ⟨_, rfl, rfl⟩ (by decide) (by decide) rfl rfl (Nat.le_of_ble_eq_true rfl) px6 (c_X4_length ex6) rfl ?_
        refine am_iadd (pc' := 31) dX8_signsOfBlocks_30 rfl ?_
        refine am_istore_n (ls' := [some (.ref v0), some (.int (v1 + x6)), some (.int v2), some (.ref x3)]) (pc' := 32) dX8_signsOfBlocks_31 (Nat.le_of_ble_eq_true rfl) rfl rfl ?_
        exact am_weak [true, true, true, false] (w_X8_signsOfBlocks_32 (w_X8_signsOfBlocks_4 n) v0 (v1 + x6) v2 h hF)
def F_X8_signsOfBlocks_b (v0 : Nat) (h : am_H) : Option Int32 :=
  F_X8_signsOfBlocks_4 am_F v0 (0 : Int32) (0 : Int32) h
theorem w_X8_signsOfBlocks {g : am_G} {l : Launch} {h0 : am_H} {x : Int32}  (v0 : Nat) (h : am_H) (hF : F_X8_signsOfBlocks_b v0 h = some x) : am_W g l M_X8_signsOfBlocks h0 (some (.int x)) h 0 [some (.ref v0), none, none, none] [] h := by
  unfold F_X8_signsOfBlocks_b at hF
  refine am_iconst (v := (0 : Int32)) (pc' := 1) dX8_signsOfBlocks_0 rfl rfl ?_
  refine am_istore_n (ls' := [some (.ref v0), some (.int (0 : Int32)), none, none]) (pc' := 2) dX8_signsOfBlocks_1 (Nat.le_of_ble_eq_true rfl) rfl rfl ?_
  refine am_iconst (v := (0 : Int32)) (pc' := 3) dX8_signsOfBlocks_2 rfl rfl ?_
  refine am_istore_n (ls' := [some (.ref v0), some (.int (0 : Int32)), some (.int (0 : Int32)), none]) (pc' := 4) dX8_signsOfBlocks_3 (Nat.le_of_ble_eq_true rfl) rfl rfl ?_
  exact w_X8_signsOfBlocks_4 am_F v0 (0 : Int32) (0 : Int32) h hF
def F_X8_signsOfBlocks (v0 : Nat) (h : am_H) : Option Int32 := (am_obj v0 8 h).bind fun _ => F_X8_signsOfBlocks_b v0 h
theorem t_X8_signsOfBlocks {x : Int32}  {v0 : Nat} {h : am_H} (hF : F_X8_signsOfBlocks v0 h = some x) : ∃ fs, am_obj v0 8 h = some fs := by
  obtain ⟨fs, e, _⟩ := am_bind hF
  exact ⟨fs, e⟩
theorem c_X8_signsOfBlocks {g : am_G} {l : Launch} {x : Int32}  {v0 : Nat} {h : am_H} (hF : F_X8_signsOfBlocks v0 h = some x) : am_Met g l M_X8_signsOfBlocks [.ref v0] h (some (.int x)) h := by
  obtain ⟨fs, e0, e⟩ := am_bind hF
  exact am_met (n := 3) (by decide +kernel) rfl (Nat.le_of_ble_eq_true rfl) (w_X8_signsOfBlocks v0 h e)
def F_X8_signsOfVersions_29 (k4 : Nat → Int32 → Int32 → am_H → Option Int32) (v0 : Nat) (v1 : Int32) (v2 : Int32) (h : am_H) : Option Int32 :=
  k4 v0 v1 (v2 + (1 : Int32)) h
theorem w_X8_signsOfVersions_29 {g : am_G} {l : Launch} {h0 : am_H} {x : Int32}  {k4 : Nat → Int32 → Int32 → am_H → Option Int32} (j4 : ∀ (v0 : Nat) (v1 : Int32) (v2 : Int32) (h : am_H), k4 v0 v1 v2 h = some x → am_W g l M_X8_signsOfVersions h0 (some (.int x)) h 4 [some (.ref v0), some (.int v1), some (.int v2), none] [] h) (v0 : Nat) (v1 : Int32) (v2 : Int32) (h : am_H) (hF : F_X8_signsOfVersions_29 k4 v0 v1 v2 h = some x) : am_W g l M_X8_signsOfVersions h0 (some (.int x)) h 29 [some (.ref v0), some (.int v1), some (.int v2), none] [] h := by
  unfold F_X8_signsOfVersions_29 at hF
  refine am_iinc (ls' := [some (.ref v0), some (.int v1), some (.int (v2 + (1 : Int32))), none]) (pc' := 32) (v := (v2 + (1 : Int32))) dX8_signsOfVersions_29 rfl rfl (Nat.le_of_ble_eq_true rfl) rfl rfl ?_
  refine am_goto (pc' := 4) dX8_signsOfVersions_32 rfl ?_
  exact j4 v0 v1 (v2 + (1 : Int32)) h hF
def F_X8_signsOfVersions_4 : Nat → Nat → Int32 → Int32 → am_H → Option Int32
  | 0, _, _, _, _ => none
  | n + 1, v0, v1, v2, h =>
  (am_gi 8 5 v0 h).bind fun x1 =>
  if x1 ≤ v2 then
    some v1
  else
    (F_X8_versionOf v0 v2 h).bind fun x3 =>
    if x3 = 0 then
      F_X8_signsOfVersions_29 (F_X8_signsOfVersions_4 n) v0 v1 v2 h
    else
      (am_gi 7 3 x3 h).bind fun x5 =>
      F_X8_signsOfVersions_29 (F_X8_signsOfVersions_4 n) v0 (v1 + x5) v2 h
theorem w_X8_signsOfVersions_4 {g : am_G} {l : Launch} {h0 : am_H} {x : Int32}  : ∀ (n : Nat) (v0 : Nat) (v1 : Int32) (v2 : Int32) (h : am_H), F_X8_signsOfVersions_4 n v0 v1 v2 h = some x → am_W g l M_X8_signsOfVersions h0 (some (.int x)) h 4 [some (.ref v0), some (.int v1), some (.int v2), none] [] h
  | 0, _, _, _, _, hF => by cases hF
  | n + 1, v0, v1, v2, h, hF => by
    rw [F_X8_signsOfVersions_4] at hF
    refine am_iload_n (pc' := 5) dX8_signsOfVersions_4 rfl rfl ?_
    refine am_aload_n (pc' := 6) dX8_signsOfVersions_5 rfl rfl ?_
    obtain ⟨x1, ex1, hF⟩ := am_bind hF
    refine am_geti (pc' := 9) dX8_signsOfVersions_6 fw_X8_37 ex1 rfl ?_
    rcases am_ite hF with ⟨z2, hF⟩ | ⟨z2, hF⟩
    · refine am_icmp_ge_t (pc' := 35) dX8_signsOfVersions_9 rfl z2 ?_
      refine am_iload_n (pc' := 36) dX8_signsOfVersions_35 rfl rfl ?_
      cases hF
      exact am_iret dX8_signsOfVersions_36 rfl rfl
    · refine am_icmp_ge_f (pc' := 12) (tgt := 35) dX8_signsOfVersions_9 rfl z2 rfl ?_
      refine am_aload_n (pc' := 13) dX8_signsOfVersions_12 rfl rfl ?_
      refine am_iload_n (pc' := 14) dX8_signsOfVersions_13 rfl rfl ?_
      obtain ⟨x3, ex3, hF⟩ := am_bind hF
      obtain ⟨ox3, px3⟩ := t_X8_versionOf ex3
      refine am_callV1 (Mc := M_X8_versionOf) (As := [.int v2]) (st := []) (pc' := 17) dX8_signsOfVersions_14 cw_X8_126 wd_2_135 sl_X8_versionOf ⟨_, rfl, rfl⟩ (by decide) (by decide) rfl rfl (Nat.le_of_ble_eq_true rfl) px3 (c_X8_versionOf ex3) rfl ?_
      refine am_astore_n (ls' := [some (.ref v0), some (.int v1), some (.int v2), some (.ref x3)]) (pc' := 18) dX8_signsOfVersions_17 (Nat.le_of_ble_eq_true rfl) rfl rfl ?_
      refine am_aload_n (pc' := 19) dX8_signsOfVersions_18 rfl rfl ?_
      rcases am_ite hF with ⟨z4, hF⟩ | ⟨z4, hF⟩
      · refine am_ifnull_t (pc' := 29) dX8_signsOfVersions_19 rfl z4 ?_
        exact am_weak [true, true, true, false] (w_X8_signsOfVersions_29 (w_X8_signsOfVersions_4 n) v0 v1 v2 h hF)
      · refine am_ifnull_f (pc' := 22) dX8_signsOfVersions_19 z4 rfl ?_
        refine am_iload_n (pc' := 23) dX8_signsOfVersions_22 rfl rfl ?_
        refine am_aload_n (pc' := 24) dX8_signsOfVersions_23 rfl rfl ?_
        obtain ⟨x5, ex5, hF⟩ := am_bind hF
        refine am_geti (pc' := 27) dX8_signsOfVersions_24 fw_X8_130 ex5 rfl ?_
        refine am_iadd (pc' := 28) dX8_signsOfVersions_27 rfl ?_
        refine am_istore_n (ls' := [some (.ref v0), some (.int (v1 + x5)), some (.int v2), some (.ref x3)]) (pc' := 29) dX8_signsOfVersions_28 (Nat.le_of_ble_eq_true rfl) rfl rfl ?_
        exact am_weak [true, true, true, false] (w_X8_signsOfVersions_29 (w_X8_signsOfVersions_4 n) v0 (v1 + x5) v2 h hF)
def F_X8_signsOfVersions_b (v0 : Nat) (h : am_H) : Option Int32 :=
  F_X8_signsOfVersions_4 am_F v0 (0 : Int32) (0 : Int32) h
theorem w_X8_signsOfVersions {g : am_G} {l : Launch} {h0 : am_H} {x : Int32}  (v0 : Nat) (h : am_H) (hF : F_X8_signsOfVersions_b v0 h = some x) : am_W g l M_X8_signsOfVersions h0 (some (.int x)) h 0 [some (.ref v0), none, none, none] [] h := by
  unfold F_X8_signsOfVersions_b at hF
  refine am_iconst (v := (0 : Int32)) (pc' := 1) dX8_signsOfVersions_0 rfl rfl ?_
  refine am_istore_n (ls' := [some (.ref v0), some (.int (0 : Int32)), none, none]) (pc' := 2) dX8_signsOfVersions_1 (Nat.le_of_ble_eq_true rfl) rfl rfl ?_
  refine am_iconst (v := (0 : Int32)) (pc' := 3) dX8_signsOfVersions_2 rfl rfl ?_
  refine am_istore_n (ls' := [some (.ref v0), some (.int (0 : Int32)), some (.int (0 : Int32)), none]) (pc' := 4) dX8_signsOfVersions_3 (Nat.le_of_ble_eq_true rfl) rfl rfl ?_
  exact w_X8_signsOfVersions_4 am_F v0 (0 : Int32) (0 : Int32) h hF
def F_X8_signsOfVersions (v0 : Nat) (h : am_H) : Option Int32 := (am_obj v0 8 h).bind fun _ => F_X8_signsOfVersions_b v0 h
theorem t_X8_signsOfVersions {x : Int32}  {v0 : Nat} {h : am_H} (hF : F_X8_signsOfVersions v0 h = some x) : ∃ fs, am_obj v0 8 h = some fs := by
  obtain ⟨fs, e, _⟩ := am_bind hF
  exact ⟨fs, e⟩
theorem c_X8_signsOfVersions {g : am_G} {l : Launch} {x : Int32}  {v0 : Nat} {h : am_H} (hF : F_X8_signsOfVersions v0 h = some x) : am_Met g l M_X8_signsOfVersions [.ref v0] h (some (.int x)) h := by
  obtain ⟨fs, e0, e⟩ := am_bind hF
  exact am_met (n := 3) (by decide +kernel) rfl (Nat.le_of_ble_eq_true rfl) (w_X8_signsOfVersions v0 h e)
theorem cw_X8_189 : am_cw "SignCellar" 189 M_X8_allTorn 0 := ⟨wd_1_1, wd_2_215, ⟨by decide, by decide, by decide⟩, Or.inl wd_2_212⟩
theorem cw_X8_192 : am_cw "SignCellar" 192 M_X8_signsOfBlocks 0 := ⟨wd_1_1, wd_2_219, ⟨by decide, by decide, by decide⟩, Or.inl wd_2_216⟩
theorem cw_X8_195 : am_cw "SignCellar" 195 M_X8_signsOfVersions 0 := ⟨wd_1_1, wd_2_223, ⟨by decide, by decide, by decide⟩, Or.inl wd_2_220⟩
theorem fw_X8_18 : am_fw "SignCellar" 18 8 1 := ⟨(RX8, TX8, 16), rfl, by decide, inX8, Or.inl wd_1_181⟩
theorem sl_X8_allTorn : Cond.selects (⟨"SignCellar", "allTorn", "()I"⟩ : MethodName).cls ⟨"SignCellar", "allTorn", "()I"⟩ ⟨"SignCellar", "allTorn", "()I"⟩ ∈ am_ts := am_in_p (q := (⟨"SignCellar", "allTorn", "()I"⟩, 16)) (by decide +kernel)
theorem sl_X8_signsOfBlocks : Cond.selects (⟨"SignCellar", "signsOfBlocks", "()I"⟩ : MethodName).cls ⟨"SignCellar", "signsOfBlocks", "()I"⟩ ⟨"SignCellar", "signsOfBlocks", "()I"⟩ ∈ am_ts := am_in_p (q := (⟨"SignCellar", "signsOfBlocks", "()I"⟩, 16)) (by decide +kernel)
theorem sl_X8_signsOfVersions : Cond.selects (⟨"SignCellar", "signsOfVersions", "()I"⟩ : MethodName).cls ⟨"SignCellar", "signsOfVersions", "()I"⟩ ⟨"SignCellar", "signsOfVersions", "()I"⟩ ∈ am_ts := am_in_p (q := (⟨"SignCellar", "signsOfVersions", "()I"⟩, 16)) (by decide +kernel)
def F_X8_count_b (v0 : Nat) (v1 : Int32) (h : am_H) : Option Int32 :=
  if v1 = (0 : Int32) then
    (am_gr 8 0 v0 h).bind fun x2 =>
    (F_X4_length x2 h).bind fun x3 =>
    some x3
  else
  if v1 = (1 : Int32) then
    (am_gi 8 5 v0 h).bind fun x5 =>
    some x5
  else
  if v1 = (2 : Int32) then
    (am_gi 8 3 v0 h).bind fun x7 =>
    some x7
  else
  if v1 = (3 : Int32) then
    (F_X8_allTorn v0 h).bind fun x9 =>
    some x9
  else
  if v1 = (4 : Int32) then
    (am_gr 8 1 v0 h).bind fun x11 =>
    (F_X4_length x11 h).bind fun x12 =>
    some x12
  else
  if v1 = (5 : Int32) then
    (F_X8_signsOfBlocks v0 h).bind fun x14 =>
    some x14
  else
  if v1 = (6 : Int32) then
    (F_X8_signsOfVersions v0 h).bind fun x16 =>
    some x16
  else
  some (-100002 : Int32)
theorem w_X8_count {g : am_G} {l : Launch} {h0 : am_H} {x : Int32}  (v0 : Nat) (v1 : Int32) (h : am_H) (hF : F_X8_count_b v0 v1 h = some x) : am_W g l M_X8_count h0 (some (.int x)) h 0 [some (.ref v0), some (.int v1)] [] h := by
  unfold F_X8_count_b at hF
  refine am_iload_n (pc' := 1) dX8_count_0 rfl rfl ?_
  rcases am_ite hF with ⟨z1, hF⟩ | ⟨z1, hF⟩
  · refine am_tableIn (c := (0 : Int32)) (pc' := 44) dX8_count_1 z1 (by decide) (by decide) rfl rfl ?_
    refine am_aload_n (pc' := 45) dX8_count_44 rfl rfl ?_
    obtain ⟨x2, ex2, hF⟩ := am_bind hF
    refine am_getr (pc' := 48) dX8_count_45 fw_X8_14 ex2 rfl ?_
    obtain ⟨x3, ex3, hF⟩ := am_bind hF
    obtain ⟨ox3, px3⟩ := t_X4_length ex3
    refine am_callV1 (Mc := M_X4_length) (As := []) (st := []) (pc' := 51) dX8_count_48 cw_X8_93 wd_1_235 wd_1_236 ⟨_, rfl, rfl⟩ (by decide) (by decide) rfl rfl (Nat.le_of_ble_eq_true rfl) px3 (c_X4_length ex3) rfl ?_
    cases hF
    exact am_iret dX8_count_51 rfl rfl
  rcases am_ite hF with ⟨z4, hF⟩ | ⟨z4, hF⟩
  · refine am_tableIn (c := (1 : Int32)) (pc' := 52) dX8_count_1 z4 (by decide) (by decide) rfl rfl ?_
    refine am_aload_n (pc' := 53) dX8_count_52 rfl rfl ?_
    obtain ⟨x5, ex5, hF⟩ := am_bind hF
    refine am_geti (pc' := 56) dX8_count_53 fw_X8_37 ex5 rfl ?_
    cases hF
    exact am_iret dX8_count_56 rfl rfl
  rcases am_ite hF with ⟨z6, hF⟩ | ⟨z6, hF⟩
  · refine am_tableIn (c := (2 : Int32)) (pc' := 57) dX8_count_1 z6 (by decide) (by decide) rfl rfl ?_
    refine am_aload_n (pc' := 58) dX8_count_57 rfl rfl ?_
    obtain ⟨x7, ex7, hF⟩ := am_bind hF
    refine am_geti (pc' := 61) dX8_count_58 fw_X8_27 ex7 rfl ?_
    cases hF
    exact am_iret dX8_count_61 rfl rfl
  rcases am_ite hF with ⟨z8, hF⟩ | ⟨z8, hF⟩
  · refine am_tableIn (c := (3 : Int32)) (pc' := 62) dX8_count_1 z8 (by decide) (by decide) rfl rfl ?_
    refine am_aload_n (pc' := 63) dX8_count_62 rfl rfl ?_
    obtain ⟨x9, ex9, hF⟩ := am_bind hF
    obtain ⟨ox9, px9⟩ := t_X8_allTorn ex9
    refine am_callV1 (Mc := M_X8_allTorn) (As := []) (st := []) (pc' := 66) dX8_count_63 cw_X8_189 wd_2_214 sl_X8_allTorn ⟨_, rfl, rfl⟩ (by decide) (by decide) rfl rfl (Nat.le_of_ble_eq_true rfl) px9 (c_X8_allTorn ex9) rfl ?_
    cases hF
    exact am_iret dX8_count_66 rfl rfl
  rcases am_ite hF with ⟨z10, hF⟩ | ⟨z10, hF⟩
  · refine am_tableIn (c := (4 : Int32)) (pc' := 67) dX8_count_1 z10 (by decide) (by decide) rfl rfl ?_
    refine am_aload_n (pc' := 68) dX8_count_67 rfl rfl ?_
    obtain ⟨x11, ex11, hF⟩ := am_bind hF
    refine am_getr (pc' := 71) dX8_count_68 fw_X8_18 ex11 rfl ?_
    obtain ⟨x12, ex12, hF⟩ := am_bind hF
    obtain ⟨ox12, px12⟩ := t_X4_length ex12
    refine am_callV1 (Mc := M_X4_length) (As := []) (st := []) (pc' := 74) dX8_count_71 cw_X8_93 wd_1_235 wd_1_236 ⟨_, rfl, rfl⟩ (by decide) (by decide) rfl rfl (Nat.le_of_ble_eq_true rfl) px12 (c_X4_length ex12) rfl ?_
    cases hF
    exact am_iret dX8_count_74 rfl rfl
  rcases am_ite hF with ⟨z13, hF⟩ | ⟨z13, hF⟩
  · refine am_tableIn (c := (5 : Int32)) (pc' := 75) dX8_count_1 z13 (by decide) (by decide) rfl rfl ?_
    refine am_aload_n (pc' := 76) dX8_count_75 rfl rfl ?_
    obtain ⟨x14, ex14, hF⟩ := am_bind hF
    obtain ⟨ox14, px14⟩ := t_X8_signsOfBlocks ex14
    refine am_callV1 (Mc := M_X8_signsOfBlocks) (As := []) (st := []) (pc' := 79) dX8_count_76 cw_X8_192 wd_2_218 sl_X8_signsOfBlocks ⟨_, rfl, rfl⟩ (by decide) (by decide) rfl rfl (Nat.le_of_ble_eq_true rfl) px14 (c_X8_signsOfBlocks ex14) rfl ?_
    cases hF
    exact am_iret dX8_count_79 rfl rfl
  rcases am_ite hF with ⟨z15, hF⟩ | ⟨z15, hF⟩
  · refine am_tableIn (c := (6 : Int32)) (pc' := 80) dX8_count_1 z15 (by decide) (by decide) rfl rfl ?_
    refine am_aload_n (pc' := 81) dX8_count_80 rfl rfl ?_
    obtain ⟨x16, ex16, hF⟩ := am_bind hF
    obtain ⟨ox16, px16⟩ := t_X8_signsOfVersions ex16
    refine am_callV1 (Mc := M_X8_signsOfVersions) (As := []) (st := []) (pc' := 84) dX8_count_81 cw_X8_195 wd_2_222 sl_X8_signsOfVersions ⟨_, rfl, rfl⟩ (by decide) (by decide) rfl rfl (Nat.le_of_ble_eq_true rfl) px16 (c_X8_signsOfVersions ex16) rfl ?_
    cases hF
    exact am_iret dX8_count_84 rfl rfl
  refine am_tableOut (pc' := 85) dX8_count_1 (by have tz1 := lv_neT (a := 0) z1 rfl; have tz4 := lv_neT (a := 1) z4 rfl; have tz6 := lv_neT (a := 2) z6 rfl; have tz8 := lv_neT (a := 3) z8 rfl; have tz10 := lv_neT (a := 4) z10 rfl; have tz13 := lv_neT (a := 5) z13 rfl; have tz15 := lv_neT (a := 6) z15 rfl; omega) rfl ?_
  refine am_ldc (v := (-100002 : Int32)) (pc' := 87) dX8_count_85 wd_1_233 rfl ?_
  cases hF
  exact am_iret dX8_count_87 rfl rfl
def F_X8_count (v0 : Nat) (v1 : Int32) (h : am_H) : Option Int32 := (am_obj v0 8 h).bind fun _ => F_X8_count_b v0 v1 h
theorem t_X8_count {x : Int32}  {v0 : Nat} {v1 : Int32} {h : am_H} (hF : F_X8_count v0 v1 h = some x) : ∃ fs, am_obj v0 8 h = some fs := by
  obtain ⟨fs, e, _⟩ := am_bind hF
  exact ⟨fs, e⟩
theorem c_X8_count {g : am_G} {l : Launch} {x : Int32}  {v0 : Nat} {v1 : Int32} {h : am_H} (hF : F_X8_count v0 v1 h = some x) : am_Met g l M_X8_count [.ref v0, .int v1] h (some (.int x)) h := by
  obtain ⟨fs, e0, e⟩ := am_bind hF
  exact am_met (n := 0) (by decide +kernel) rfl (Nat.le_of_ble_eq_true rfl) (w_X8_count v0 v1 h e)
theorem fw_X9_191 : am_fw "SignCellarModel" 191 9 39 := ⟨(RX9, TX9, 42), rfl, by decide, inX9, Or.inl wd_4_139⟩
def F_X9_count_51 : Nat → Nat → Int32 → Int32 → Int32 → Int32 → Int32 → am_H → Option Int32
  | 0, _, _, _, _, _, _, _ => none
  | n + 1, v0, v1, v2, v3, v4, v5, h =>
  (am_gi 9 6 v0 h).bind fun x1 =>
  if x1 ≤ v5 then
    if v1 = (0 : Int32) then
      (am_gi 9 0 v0 h).bind fun x4 =>
      some x4
    else
    if v1 = (1 : Int32) then
      (am_gi 9 6 v0 h).bind fun x6 =>
      some x6
    else
    if v1 = (2 : Int32) then
      (am_gi 9 2 v0 h).bind fun x8 =>
      some x8
    else
    if v1 = (3 : Int32) then
      some v2
    else
    if v1 = (4 : Int32) then
      (am_gi 9 39 v0 h).bind fun x11 =>
      some x11
    else
    if v1 = (5 : Int32) then
      some v3
    else
    if v1 = (6 : Int32) then
      some v4
    else
    some (-100002 : Int32)
  else
    (F_X9_placesOf v0 v5 h).bind fun x14 =>
    F_X9_count_51 n v0 v1 v2 v3 (v4 + x14) (v5 + (1 : Int32)) h
theorem w_X9_count_51 {g : am_G} {l : Launch} {h0 : am_H} {x : Int32}  : ∀ (n : Nat) (v0 : Nat) (v1 : Int32) (v2 : Int32) (v3 : Int32) (v4 : Int32) (v5 : Int32) (h : am_H), F_X9_count_51 n v0 v1 v2 v3 v4 v5 h = some x → am_W g l M_X9_count h0 (some (.int x)) h 51 [some (.ref v0), some (.int v1), some (.int v2), some (.int v3), some (.int v4), some (.int v5)] [] h
  | 0, _, _, _, _, _, _, _, hF => by cases hF
  | n + 1, v0, v1, v2, v3, v4, v5, h, hF => by
    rw [F_X9_count_51] at hF
    refine am_iload (pc' := 53) dX9_count_51 rfl rfl ?_
    refine am_aload_n (pc' := 54) dX9_count_53 rfl rfl ?_
    obtain ⟨x1, ex1, hF⟩ := am_bind hF
    refine am_geti (pc' := 57) dX9_count_54 fw_X9_92 ex1 rfl ?_
    rcases am_ite hF with ⟨z2, hF⟩ | ⟨z2, hF⟩
    · refine am_icmp_ge_t (pc' := 77) dX9_count_57 rfl z2 ?_
      refine am_iload_n (pc' := 78) dX9_count_77 rfl rfl ?_
      rcases am_ite hF with ⟨z3, hF⟩ | ⟨z3, hF⟩
      · refine am_tableIn (c := (0 : Int32)) (pc' := 120) dX9_count_78 z3 (by decide) (by decide) rfl rfl ?_
        refine am_aload_n (pc' := 121) dX9_count_120 rfl rfl ?_
        obtain ⟨x4, ex4, hF⟩ := am_bind hF
        refine am_geti (pc' := 124) dX9_count_121 fw_X9_106 ex4 rfl ?_
        cases hF
        exact am_iret dX9_count_124 rfl rfl
      rcases am_ite hF with ⟨z5, hF⟩ | ⟨z5, hF⟩
      · refine am_tableIn (c := (1 : Int32)) (pc' := 125) dX9_count_78 z5 (by decide) (by decide) rfl rfl ?_
        refine am_aload_n (pc' := 126) dX9_count_125 rfl rfl ?_
        obtain ⟨x6, ex6, hF⟩ := am_bind hF
        refine am_geti (pc' := 129) dX9_count_126 fw_X9_92 ex6 rfl ?_
        cases hF
        exact am_iret dX9_count_129 rfl rfl
      rcases am_ite hF with ⟨z7, hF⟩ | ⟨z7, hF⟩
      · refine am_tableIn (c := (2 : Int32)) (pc' := 130) dX9_count_78 z7 (by decide) (by decide) rfl rfl ?_
        refine am_aload_n (pc' := 131) dX9_count_130 rfl rfl ?_
        obtain ⟨x8, ex8, hF⟩ := am_bind hF
        refine am_geti (pc' := 134) dX9_count_131 fw_X9_100 ex8 rfl ?_
        cases hF
        exact am_iret dX9_count_134 rfl rfl
      rcases am_ite hF with ⟨z9, hF⟩ | ⟨z9, hF⟩
      · refine am_tableIn (c := (3 : Int32)) (pc' := 135) dX9_count_78 z9 (by decide) (by decide) rfl rfl ?_
        refine am_iload_n (pc' := 136) dX9_count_135 rfl rfl ?_
        cases hF
        exact am_iret dX9_count_136 rfl rfl
      rcases am_ite hF with ⟨z10, hF⟩ | ⟨z10, hF⟩
      · refine am_tableIn (c := (4 : Int32)) (pc' := 137) dX9_count_78 z10 (by decide) (by decide) rfl rfl ?_
        refine am_aload_n (pc' := 138) dX9_count_137 rfl rfl ?_
        obtain ⟨x11, ex11, hF⟩ := am_bind hF
        refine am_geti (pc' := 141) dX9_count_138 fw_X9_191 ex11 rfl ?_
        cases hF
        exact am_iret dX9_count_141 rfl rfl
      rcases am_ite hF with ⟨z12, hF⟩ | ⟨z12, hF⟩
      · refine am_tableIn (c := (5 : Int32)) (pc' := 142) dX9_count_78 z12 (by decide) (by decide) rfl rfl ?_
        refine am_iload_n (pc' := 143) dX9_count_142 rfl rfl ?_
        cases hF
        exact am_iret dX9_count_143 rfl rfl
      rcases am_ite hF with ⟨z13, hF⟩ | ⟨z13, hF⟩
      · refine am_tableIn (c := (6 : Int32)) (pc' := 144) dX9_count_78 z13 (by decide) (by decide) rfl rfl ?_
        refine am_iload (pc' := 146) dX9_count_144 rfl rfl ?_
        cases hF
        exact am_iret dX9_count_146 rfl rfl
      refine am_tableOut (pc' := 147) dX9_count_78 (by have tz3 := lv_neT (a := 0) z3 rfl; have tz5 := lv_neT (a := 1) z5 rfl; have tz7 := lv_neT (a := 2) z7 rfl; have tz9 := lv_neT (a := 3) z9 rfl; have tz10 := lv_neT (a := 4) z10 rfl; have tz12 := lv_neT (a := 5) z12 rfl; have tz13 := lv_neT (a := 6) z13 rfl; omega) rfl ?_
      refine am_ldc (v := (-100002 : Int32)) (pc' := 149) dX9_count_147 wd_4_236 rfl ?_
      cases hF
      exact am_iret dX9_count_149 rfl rfl
    · refine am_icmp_ge_f (pc' := 60) (tgt := 77) dX9_count_57 rfl z2 rfl ?_
      refine am_iload (pc' := 62) dX9_count_60 rfl rfl ?_
      refine am_aload_n (pc' := 63) dX9_count_62 rfl rfl ?_
      refine am_iload (pc' := 65) dX9_count_63 rfl rfl ?_
      obtain ⟨x14, ex14, hF⟩ := am_bind hF
      obtain ⟨ox14, px14⟩ := t_X9_placesOf ex14
      refine am_callV1 (Mc := M_X9_placesOf) (As := [.int v5]) (st := [.int v4]) (pc' := 68) dX9_count_65 cw_X9_157 wd_5_41 sl_X9_placesOf ⟨_, rfl, rfl⟩ (by decide) (by decide) rfl rfl (Nat.le_of_ble_eq_true rfl) px14 (c_X9_placesOf ex14) rfl ?_
      refine am_iadd (pc' := 69) dX9_count_68 rfl ?_
      refine am_istore (ls' := [some (.ref v0), some (.int v1), some (.int v2), some (.int v3), some (.int (v4 + x14)), some (.int v5)]) (pc' := 71) dX9_count_69 (Nat.le_of_ble_eq_true rfl) rfl rfl ?_
      refine am_iinc (ls' := [some (.ref v0), some (.int v1), some (.int v2), some (.int v3), some (.int (v4 + x14)), some (.int (v5 + (1 : Int32)))]) (pc' := 74) (v := (v5 + (1 : Int32))) dX9_count_71 rfl rfl (Nat.le_of_ble_eq_true rfl) rfl rfl ?_
      refine am_goto (pc' := 51) dX9_count_74 rfl ?_
      exact w_X9_count_51 n v0 v1 v2 v3 (v4 + x14) (v5 + (1 : Int32)) h hF
def F_X9_count_10 : Nat → Nat → Int32 → Int32 → Int32 → Int32 → Int32 → am_H → Option Int32
  | 0, _, _, _, _, _, _, _ => none
  | n + 1, v0, v1, v2, v3, v4, v5, h =>
  (am_gi 9 2 v0 h).bind fun x1 =>
  if x1 ≤ v5 then
    F_X9_count_51 am_F v0 v1 v2 v3 v4 (0 : Int32) h
  else
    (am_gr 9 5 v0 h).bind fun x3 =>
    (am_il 1 x3 v5 h).bind fun x4 =>
    (F_X9_one x4 h).bind fun x5 =>
    (am_gr 9 3 v0 h).bind fun x6 =>
    (am_il 0 x6 v5 h).bind fun x7 =>
    F_X9_count_10 n v0 v1 (v2 + x5) (v3 + x7) v4 (v5 + (1 : Int32)) h
theorem w_X9_count_10 {g : am_G} {l : Launch} {h0 : am_H} {x : Int32}  : ∀ (n : Nat) (v0 : Nat) (v1 : Int32) (v2 : Int32) (v3 : Int32) (v4 : Int32) (v5 : Int32) (h : am_H), F_X9_count_10 n v0 v1 v2 v3 v4 v5 h = some x → am_W g l M_X9_count h0 (some (.int x)) h 10 [some (.ref v0), some (.int v1), some (.int v2), some (.int v3), some (.int v4), some (.int v5)] [] h
  | 0, _, _, _, _, _, _, _, hF => by cases hF
  | n + 1, v0, v1, v2, v3, v4, v5, h, hF => by
    rw [F_X9_count_10] at hF
    refine am_iload (pc' := 12) dX9_count_10 rfl rfl ?_
    refine am_aload_n (pc' := 13) dX9_count_12 rfl rfl ?_
    obtain ⟨x1, ex1, hF⟩ := am_bind hF
    refine am_geti (pc' := 16) dX9_count_13 fw_X9_100 ex1 rfl ?_
    rcases am_ite hF with ⟨z2, hF⟩ | ⟨z2, hF⟩
    · refine am_icmp_ge_t (pc' := 48) dX9_count_16 rfl z2 ?_
      refine am_iconst (v := (0 : Int32)) (pc' := 49) dX9_count_48 rfl rfl ?_
      refine am_istore (ls' := [some (.ref v0), some (.int v1), some (.int v2), some (.int v3), some (.int v4), some (.int (0 : Int32))]) (pc' := 51) dX9_count_49 (Nat.le_of_ble_eq_true rfl) rfl rfl ?_
      exact w_X9_count_51 am_F v0 v1 v2 v3 v4 (0 : Int32) h hF
    · refine am_icmp_ge_f (pc' := 19) (tgt := 48) dX9_count_16 rfl z2 rfl ?_
      refine am_iload_n (pc' := 20) dX9_count_19 rfl rfl ?_
      refine am_aload_n (pc' := 21) dX9_count_20 rfl rfl ?_
      obtain ⟨x3, ex3, hF⟩ := am_bind hF
      refine am_getr (pc' := 24) dX9_count_21 fw_X9_19 ex3 rfl ?_
      refine am_iload (pc' := 26) dX9_count_24 rfl rfl ?_
      obtain ⟨x4, ex4, hF⟩ := am_bind hF
      refine am_bald (pc' := 27) dX9_count_26 ex4 rfl ?_
      obtain ⟨x5, ex5, hF⟩ := am_bind hF
      refine am_callS1 (Mc := M_X9_one) (As := [.int x4]) (st := [.int v2]) (pc' := 30) dX9_count_27 cw_X9_150 wd_5_53 (by decide) (by decide) rfl rfl (Nat.le_of_ble_eq_true rfl) (c_X9_one ex5) rfl ?_
      refine am_iadd (pc' := 31) dX9_count_30 rfl ?_
      refine am_istore_n (ls' := [some (.ref v0), some (.int v1), some (.int (v2 + x5)), some (.int v3), some (.int v4), some (.int v5)]) (pc' := 32) dX9_count_31 (Nat.le_of_ble_eq_true rfl) rfl rfl ?_
      refine am_iload_n (pc' := 33) dX9_count_32 rfl rfl ?_
      refine am_aload_n (pc' := 34) dX9_count_33 rfl rfl ?_
      obtain ⟨x6, ex6, hF⟩ := am_bind hF
      refine am_getr (pc' := 37) dX9_count_34 fw_X9_13 ex6 rfl ?_
      refine am_iload (pc' := 39) dX9_count_37 rfl rfl ?_
      obtain ⟨x7, ex7, hF⟩ := am_bind hF
      refine am_iald (pc' := 40) dX9_count_39 ex7 rfl ?_
      refine am_iadd (pc' := 41) dX9_count_40 rfl ?_
      refine am_istore_n (ls' := [some (.ref v0), some (.int v1), some (.int (v2 + x5)), some (.int (v3 + x7)), some (.int v4), some (.int v5)]) (pc' := 42) dX9_count_41 (Nat.le_of_ble_eq_true rfl) rfl rfl ?_
      refine am_iinc (ls' := [some (.ref v0), some (.int v1), some (.int (v2 + x5)), some (.int (v3 + x7)), some (.int v4), some (.int (v5 + (1 : Int32)))]) (pc' := 45) (v := (v5 + (1 : Int32))) dX9_count_42 rfl rfl (Nat.le_of_ble_eq_true rfl) rfl rfl ?_
      refine am_goto (pc' := 10) dX9_count_45 rfl ?_
      exact w_X9_count_10 n v0 v1 (v2 + x5) (v3 + x7) v4 (v5 + (1 : Int32)) h hF
def F_X9_count_b (v0 : Nat) (v1 : Int32) (h : am_H) : Option Int32 :=
  F_X9_count_10 am_F v0 v1 (0 : Int32) (0 : Int32) (0 : Int32) (0 : Int32) h
theorem w_X9_count {g : am_G} {l : Launch} {h0 : am_H} {x : Int32}  (v0 : Nat) (v1 : Int32) (h : am_H) (hF : F_X9_count_b v0 v1 h = some x) : am_W g l M_X9_count h0 (some (.int x)) h 0 [some (.ref v0), some (.int v1), none, none, none, none] [] h := by
  unfold F_X9_count_b at hF
  refine am_iconst (v := (0 : Int32)) (pc' := 1) dX9_count_0 rfl rfl ?_
  refine am_istore_n (ls' := [some (.ref v0), some (.int v1), some (.int (0 : Int32)), none, none, none]) (pc' := 2) dX9_count_1 (Nat.le_of_ble_eq_true rfl) rfl rfl ?_
  refine am_iconst (v := (0 : Int32)) (pc' := 3) dX9_count_2 rfl rfl ?_
  refine am_istore_n (ls' := [some (.ref v0), some (.int v1), some (.int (0 : Int32)), some (.int (0 : Int32)), none, none]) (pc' := 4) dX9_count_3 (Nat.le_of_ble_eq_true rfl) rfl rfl ?_
  refine am_iconst (v := (0 : Int32)) (pc' := 5) dX9_count_4 rfl rfl ?_
  refine am_istore (ls' := [some (.ref v0), some (.int v1), some (.int (0 : Int32)), some (.int (0 : Int32)), some (.int (0 : Int32)), none]) (pc' := 7) dX9_count_5 (Nat.le_of_ble_eq_true rfl) rfl rfl ?_
  refine am_iconst (v := (0 : Int32)) (pc' := 8) dX9_count_7 rfl rfl ?_
  refine am_istore (ls' := [some (.ref v0), some (.int v1), some (.int (0 : Int32)), some (.int (0 : Int32)), some (.int (0 : Int32)), some (.int (0 : Int32))]) (pc' := 10) dX9_count_8 (Nat.le_of_ble_eq_true rfl) rfl rfl ?_
  exact w_X9_count_10 am_F v0 v1 (0 : Int32) (0 : Int32) (0 : Int32) (0 : Int32) h hF
def F_X9_count (v0 : Nat) (v1 : Int32) (h : am_H) : Option Int32 := (am_obj v0 9 h).bind fun _ => F_X9_count_b v0 v1 h
theorem t_X9_count {x : Int32}  {v0 : Nat} {v1 : Int32} {h : am_H} (hF : F_X9_count v0 v1 h = some x) : ∃ fs, am_obj v0 9 h = some fs := by
  obtain ⟨fs, e, _⟩ := am_bind hF
  exact ⟨fs, e⟩
theorem c_X9_count {g : am_G} {l : Launch} {x : Int32}  {v0 : Nat} {v1 : Int32} {h : am_H} (hF : F_X9_count v0 v1 h = some x) : am_Met g l M_X9_count [.ref v0, .int v1] h (some (.int x)) h := by
  obtain ⟨fs, e0, e⟩ := am_bind hF
  exact am_met (n := 4) (by decide +kernel) rfl (Nat.le_of_ble_eq_true rfl) (w_X9_count v0 v1 h e)
theorem cw_X8_201 : am_cw "SignCellar" 201 M_X4_firstOf 1 := ⟨wd_1_2, wd_2_207, ⟨by decide, by decide, by decide⟩, Or.inl wd_2_228⟩
def F_X8_share_22 (h : am_H) : Option Int32 :=
  some (-100001 : Int32)
theorem w_X8_share_22 {g : am_G} {l : Launch} {h0 : am_H} {x : Int32}  (h : am_H) (hF : F_X8_share_22 h = some x) : am_W g l M_X8_share h0 (some (.int x)) h 22 [none, none, none, none, none, none, none, none] [] h := by
  unfold F_X8_share_22 at hF
  refine am_ldc (v := (-100001 : Int32)) (pc' := 24) dX8_share_22 wd_2_137 rfl ?_
  cases hF
  exact am_iret dX8_share_24 rfl rfl
def F_X8_share_84 (k31 : Nat → Nat → Int32 → Int32 → am_H → Option Int32) (v3 : Nat) (v4 : Nat) (v5 : Int32) (v6 : Int32) (h : am_H) : Option Int32 :=
  k31 v3 v4 v5 (v6 + (1 : Int32)) h
theorem w_X8_share_84 {g : am_G} {l : Launch} {h0 : am_H} {x : Int32}  {k31 : Nat → Nat → Int32 → Int32 → am_H → Option Int32} (j31 : ∀ (v3 : Nat) (v4 : Nat) (v5 : Int32) (v6 : Int32) (h : am_H), k31 v3 v4 v5 v6 h = some x → am_W g l M_X8_share h0 (some (.int x)) h 31 [none, none, none, some (.ref v3), some (.ref v4), some (.int v5), some (.int v6), none] [] h) (v3 : Nat) (v4 : Nat) (v5 : Int32) (v6 : Int32) (h : am_H) (hF : F_X8_share_84 k31 v3 v4 v5 v6 h = some x) : am_W g l M_X8_share h0 (some (.int x)) h 84 [none, none, none, some (.ref v3), some (.ref v4), some (.int v5), some (.int v6), none] [] h := by
  unfold F_X8_share_84 at hF
  refine am_iinc (ls' := [none, none, none, some (.ref v3), some (.ref v4), some (.int v5), some (.int (v6 + (1 : Int32))), none]) (pc' := 87) (v := (v6 + (1 : Int32))) dX8_share_84 rfl rfl (Nat.le_of_ble_eq_true rfl) rfl rfl ?_
  refine am_goto (pc' := 31) dX8_share_87 rfl ?_
  exact j31 v3 v4 v5 (v6 + (1 : Int32)) h hF
def F_X8_share_31 : Nat → Nat → Nat → Int32 → Int32 → am_H → Option Int32
  | 0, _, _, _, _, _ => none
  | n + 1, v3, v4, v5, v6, h =>
  (am_gr 7 0 v3 h).bind fun x1 =>
  (F_X4_length x1 h).bind fun x2 =>
  if x2 ≤ v6 then
    some v5
  else
    (am_gr 7 0 v3 h).bind fun x4 =>
    (F_X4_at x4 v6 h).bind fun x5 =>
    (am_gr 7 0 v4 h).bind fun x6 =>
    (F_X4_has x6 x5 h).bind fun x7 =>
    if x7 = 0 then
      F_X8_share_84 (F_X8_share_31 n) v3 v4 v5 v6 h
    else
      (am_gr 7 0 v3 h).bind fun x9 =>
      (F_X4_firstOf x9 x5 h).bind fun x10 =>
      if x10 = v6 then
        F_X8_share_84 (F_X8_share_31 n) v3 v4 (v5 + (1 : Int32)) v6 h
      else
        F_X8_share_84 (F_X8_share_31 n) v3 v4 v5 v6 h
theorem w_X8_share_31 {g : am_G} {l : Launch} {h0 : am_H} {x : Int32}  : ∀ (n : Nat) (v3 : Nat) (v4 : Nat) (v5 : Int32) (v6 : Int32) (h : am_H), F_X8_share_31 n v3 v4 v5 v6 h = some x → am_W g l M_X8_share h0 (some (.int x)) h 31 [none, none, none, some (.ref v3), some (.ref v4), some (.int v5), some (.int v6), none] [] h
  | 0, _, _, _, _, _, hF => by cases hF
  | n + 1, v3, v4, v5, v6, h, hF => by
    rw [F_X8_share_31] at hF
    refine am_iload (pc' := 33) dX8_share_31 rfl rfl ?_
    refine am_aload_n (pc' := 34) dX8_share_33 rfl rfl ?_
    obtain ⟨x1, ex1, hF⟩ := am_bind hF
    refine am_getr (pc' := 37) dX8_share_34 fw_X8_148 ex1 rfl ?_
    obtain ⟨x2, ex2, hF⟩ := am_bind hF
    obtain ⟨ox2, px2⟩ := t_X4_length ex2
    refine am_callV1 (Mc := M_X4_length) (As := []) (st := [.int v6]) (pc' := 40) dX8_share_37 cw_X8_93 wd_1_235 wd_1_236 ⟨_, rfl, rfl⟩ (by decide) (by decide) rfl rfl (Nat.le_of_ble_eq_true rfl) px2 (c_X4_length ex2) rfl ?_
    rcases am_ite hF with ⟨z3, hF⟩ | ⟨z3, hF⟩
    · refine am_icmp_ge_t (pc' := 90) dX8_share_40 rfl z3 ?_
      refine am_iload (pc' := 92) dX8_share_90 rfl rfl ?_
      cases hF
      exact am_iret dX8_share_92 rfl rfl
    · refine am_icmp_ge_f (pc' := 43) (tgt := 90) dX8_share_40 rfl z3 rfl ?_
      refine am_aload_n (pc' := 44) dX8_share_43 rfl rfl ?_
      obtain ⟨x4, ex4, hF⟩ := am_bind hF
      refine am_getr (pc' := 47) dX8_share_44 fw_X8_148 ex4 rfl ?_
      refine am_iload (pc' := 49) dX8_share_47 rfl rfl ?_
      obtain ⟨x5, ex5, hF⟩ := am_bind hF
      obtain ⟨ox5, px5⟩ := t_X4_at ex5
      refine am_callV1 (Mc := M_X4_at) (As := [.int v6]) (st := []) (pc' := 52) dX8_share_49 cw_X8_161 wd_2_40 wd_2_41 ⟨_, rfl, rfl⟩ (by decide) (by decide) rfl rfl (Nat.le_of_ble_eq_true rfl) px5 (c_X4_at ex5) rfl ?_
      refine am_istore (ls' := [none, none, none, some (.ref v3), some (.ref v4), some (.int v5), some (.int v6), some (.int x5)]) (pc' := 54) dX8_share_52 (Nat.le_of_ble_eq_true rfl) rfl rfl ?_
      refine am_aload (pc' := 56) dX8_share_54 rfl rfl ?_
      obtain ⟨x6, ex6, hF⟩ := am_bind hF
      refine am_getr (pc' := 59) dX8_share_56 fw_X8_148 ex6 rfl ?_
      refine am_iload (pc' := 61) dX8_share_59 rfl rfl ?_
      obtain ⟨x7, ex7, hF⟩ := am_bind hF
      obtain ⟨ox7, px7⟩ := t_X4_has ex7
      refine am_callV1 (Mc := M_X4_has) (As := [.int x5]) (st := []) (pc' := 64) dX8_share_61 cw_X8_198 wd_2_201 wd_2_202 ⟨_, rfl, rfl⟩ (by decide) (by decide) rfl rfl (Nat.le_of_ble_eq_true rfl) px7 (c_X4_has ex7) rfl ?_
      rcases am_ite hF with ⟨z8, hF⟩ | ⟨z8, hF⟩
      · refine am_if_eq_t (pc' := 84) dX8_share_64 rfl z8 ?_
        exact am_weak [false, false, false, true, true, true, true, false] (w_X8_share_84 (w_X8_share_31 n) v3 v4 v5 v6 h hF)
      · refine am_if_eq_f (pc' := 67) (tgt := 84) dX8_share_64 rfl z8 rfl ?_
        refine am_aload_n (pc' := 68) dX8_share_67 rfl rfl ?_
        obtain ⟨x9, ex9, hF⟩ := am_bind hF
        refine am_getr (pc' := 71) dX8_share_68 fw_X8_148 ex9 rfl ?_
        refine am_iload (pc' := 73) dX8_share_71 rfl rfl ?_
        obtain ⟨x10, ex10, hF⟩ := am_bind hF
        obtain ⟨ox10, px10⟩ := t_X4_firstOf ex10
        refine am_callV1 (Mc := M_X4_firstOf) (As := [.int x5]) (st := []) (pc' := 76) dX8_share_73 cw_X8_201 wd_2_205 wd_2_206 ⟨_, rfl, rfl⟩ (by decide) (by decide) rfl rfl (Nat.le_of_ble_eq_true rfl) px10 (c_X4_firstOf ex10) rfl ?_
        refine am_iload (pc' := 78) dX8_share_76 rfl rfl ?_
        rcases am_ite hF with ⟨z11, hF⟩ | ⟨z11, hF⟩
        · refine am_icmp_ne_f (pc' := 81) (tgt := 84) dX8_share_78 rfl z11 rfl ?_
          refine am_iinc (ls' := [none, none, none, some (.ref v3), some (.ref v4), some (.int (v5 + (1 : Int32))), some (.int v6), some (.int x5)]) (pc' := 84) (v := (v5 + (1 : Int32))) dX8_share_81 rfl rfl (Nat.le_of_ble_eq_true rfl) rfl rfl ?_
          exact am_weak [false, false, false, true, true, true, true, false] (w_X8_share_84 (w_X8_share_31 n) v3 v4 (v5 + (1 : Int32)) v6 h hF)
        · refine am_icmp_ne_t (pc' := 84) dX8_share_78 rfl z11 ?_
          exact am_weak [false, false, false, true, true, true, true, false] (w_X8_share_84 (w_X8_share_31 n) v3 v4 v5 v6 h hF)
def F_X8_share_b (v0 : Nat) (v1 : Int32) (v2 : Int32) (h : am_H) : Option Int32 :=
  (F_X8_versionOf v0 v1 h).bind fun x1 =>
  (F_X8_versionOf v0 v2 h).bind fun x2 =>
  if x1 = 0 then
    F_X8_share_22 h
  else
    if x2 = 0 then
      F_X8_share_22 h
    else
      F_X8_share_31 am_F x1 x2 (0 : Int32) (0 : Int32) h
theorem w_X8_share {g : am_G} {l : Launch} {h0 : am_H} {x : Int32}  (v0 : Nat) (v1 : Int32) (v2 : Int32) (h : am_H) (hF : F_X8_share_b v0 v1 v2 h = some x) : am_W g l M_X8_share h0 (some (.int x)) h 0 [some (.ref v0), some (.int v1), some (.int v2), none, none, none, none, none] [] h := by
  unfold F_X8_share_b at hF
  refine am_aload_n (pc' := 1) dX8_share_0 rfl rfl ?_
  refine am_iload_n (pc' := 2) dX8_share_1 rfl rfl ?_
  obtain ⟨x1, ex1, hF⟩ := am_bind hF
  obtain ⟨ox1, px1⟩ := t_X8_versionOf ex1
  refine am_callV1 (Mc := M_X8_versionOf) (As := [.int v1]) (st := []) (pc' := 5) dX8_share_2 cw_X8_126 wd_2_135 sl_X8_versionOf ⟨_, rfl, rfl⟩ (by decide) (by decide) rfl rfl (Nat.le_of_ble_eq_true rfl) px1 (c_X8_versionOf ex1) rfl ?_
  refine am_astore_n (ls' := [some (.ref v0), some (.int v1), some (.int v2), some (.ref x1), none, none, none, none]) (pc' := 6) dX8_share_5 (Nat.le_of_ble_eq_true rfl) rfl rfl ?_
  refine am_aload_n (pc' := 7) dX8_share_6 rfl rfl ?_
  refine am_iload_n (pc' := 8) dX8_share_7 rfl rfl ?_
  obtain ⟨x2, ex2, hF⟩ := am_bind hF
  obtain ⟨ox2, px2⟩ := t_X8_versionOf ex2
  refine am_callV1 (Mc := M_X8_versionOf) (As := [.int v2]) (st := []) (pc' := 11) dX8_share_8 cw_X8_126 wd_2_135 sl_X8_versionOf ⟨_, rfl, rfl⟩ (by decide) (by decide) rfl rfl (Nat.le_of_ble_eq_true rfl) px2 (c_X8_versionOf ex2) rfl ?_
  refine am_astore (ls' := [some (.ref v0), some (.int v1), some (.int v2), some (.ref x1), some (.ref x2), none, none, none]) (pc' := 13) dX8_share_11 (Nat.le_of_ble_eq_true rfl) rfl rfl ?_
  refine am_aload_n (pc' := 14) dX8_share_13 rfl rfl ?_
  rcases am_ite hF with ⟨z3, hF⟩ | ⟨z3, hF⟩
  · refine am_ifnull_t (pc' := 22) dX8_share_14 rfl z3 ?_
    exact am_weak [false, false, false, false, false, false, false, false] (w_X8_share_22 h hF)
  · refine am_ifnull_f (pc' := 17) dX8_share_14 z3 rfl ?_
    refine am_aload (pc' := 19) dX8_share_17 rfl rfl ?_
    rcases am_ite hF with ⟨z4, hF⟩ | ⟨z4, hF⟩
    · refine am_ifnonnull_f (pc' := 22) dX8_share_19 z4 rfl ?_
      exact am_weak [false, false, false, false, false, false, false, false] (w_X8_share_22 h hF)
    · refine am_ifnonnull_t (pc' := 25) dX8_share_19 rfl z4 ?_
      refine am_iconst (v := (0 : Int32)) (pc' := 26) dX8_share_25 rfl rfl ?_
      refine am_istore (ls' := [some (.ref v0), some (.int v1), some (.int v2), some (.ref x1), some (.ref x2), some (.int (0 : Int32)), none, none]) (pc' := 28) dX8_share_26 (Nat.le_of_ble_eq_true rfl) rfl rfl ?_
      refine am_iconst (v := (0 : Int32)) (pc' := 29) dX8_share_28 rfl rfl ?_
      refine am_istore (ls' := [some (.ref v0), some (.int v1), some (.int v2), some (.ref x1), some (.ref x2), some (.int (0 : Int32)), some (.int (0 : Int32)), none]) (pc' := 31) dX8_share_29 (Nat.le_of_ble_eq_true rfl) rfl rfl ?_
      exact am_weak [false, false, false, true, true, true, true, false] (w_X8_share_31 am_F x1 x2 (0 : Int32) (0 : Int32) h hF)
def F_X8_share (v0 : Nat) (v1 : Int32) (v2 : Int32) (h : am_H) : Option Int32 := (am_obj v0 8 h).bind fun _ => F_X8_share_b v0 v1 v2 h
theorem t_X8_share {x : Int32}  {v0 : Nat} {v1 : Int32} {v2 : Int32} {h : am_H} (hF : F_X8_share v0 v1 v2 h = some x) : ∃ fs, am_obj v0 8 h = some fs := by
  obtain ⟨fs, e, _⟩ := am_bind hF
  exact ⟨fs, e⟩
theorem c_X8_share {g : am_G} {l : Launch} {x : Int32}  {v0 : Nat} {v1 : Int32} {v2 : Int32} {h : am_H} (hF : F_X8_share v0 v1 v2 h = some x) : am_Met g l M_X8_share [.ref v0, .int v1, .int v2] h (some (.int x)) h := by
  obtain ⟨fs, e0, e⟩ := am_bind hF
  exact am_met (n := 5) (by decide +kernel) rfl (Nat.le_of_ble_eq_true rfl) (w_X8_share v0 v1 v2 h e)
def F_X9_share_16 (h : am_H) : Option Int32 :=
  some (-100001 : Int32)
theorem w_X9_share_16 {g : am_G} {l : Launch} {h0 : am_H} {x : Int32}  (h : am_H) (hF : F_X9_share_16 h = some x) : am_W g l M_X9_share h0 (some (.int x)) h 16 [none, none, none, none, none] [] h := by
  unfold F_X9_share_16 at hF
  refine am_ldc (v := (-100001 : Int32)) (pc' := 18) dX9_share_16 wd_5_47 rfl ?_
  cases hF
  exact am_iret dX9_share_18 rfl rfl
def F_X9_share_59 (k24 : Nat → Int32 → Int32 → Int32 → Int32 → am_H → Option Int32) (v0 : Nat) (v1 : Int32) (v2 : Int32) (v4 : Int32) (s0 : Int32) (s1 : Int32) (h : am_H) : Option Int32 :=
  (F_X9_one s1 h).bind fun x1 =>
  k24 v0 v1 v2 (s0 + x1) (v4 + (1 : Int32)) h
theorem w_X9_share_59 {g : am_G} {l : Launch} {h0 : am_H} {x : Int32}  {k24 : Nat → Int32 → Int32 → Int32 → Int32 → am_H → Option Int32} (j24 : ∀ (v0 : Nat) (v1 : Int32) (v2 : Int32) (v3 : Int32) (v4 : Int32) (h : am_H), k24 v0 v1 v2 v3 v4 h = some x → am_W g l M_X9_share h0 (some (.int x)) h 24 [some (.ref v0), some (.int v1), some (.int v2), some (.int v3), some (.int v4)] [] h) (v0 : Nat) (v1 : Int32) (v2 : Int32) (v4 : Int32) (s0 : Int32) (s1 : Int32) (h : am_H) (hF : F_X9_share_59 k24 v0 v1 v2 v4 s0 s1 h = some x) : am_W g l M_X9_share h0 (some (.int x)) h 59 [some (.ref v0), some (.int v1), some (.int v2), none, some (.int v4)] [.int s1, .int s0] h := by
  unfold F_X9_share_59 at hF
  obtain ⟨x1, ex1, hF⟩ := am_bind hF
  refine am_callS1 (Mc := M_X9_one) (As := [.int s1]) (st := [.int s0]) (pc' := 62) dX9_share_59 cw_X9_150 wd_5_53 (by decide) (by decide) rfl rfl (Nat.le_of_ble_eq_true rfl) (c_X9_one ex1) rfl ?_
  refine am_iadd (pc' := 63) dX9_share_62 rfl ?_
  refine am_istore_n (ls' := [some (.ref v0), some (.int v1), some (.int v2), some (.int (s0 + x1)), some (.int v4)]) (pc' := 64) dX9_share_63 (Nat.le_of_ble_eq_true rfl) rfl rfl ?_
  refine am_iinc (ls' := [some (.ref v0), some (.int v1), some (.int v2), some (.int (s0 + x1)), some (.int (v4 + (1 : Int32)))]) (pc' := 67) (v := (v4 + (1 : Int32))) dX9_share_64 rfl rfl (Nat.le_of_ble_eq_true rfl) rfl rfl ?_
  refine am_goto (pc' := 24) dX9_share_67 rfl ?_
  exact j24 v0 v1 v2 (s0 + x1) (v4 + (1 : Int32)) h hF
def F_X9_share_58 (k24 : Nat → Int32 → Int32 → Int32 → Int32 → am_H → Option Int32) (v0 : Nat) (v1 : Int32) (v2 : Int32) (v4 : Int32) (s0 : Int32) (h : am_H) : Option Int32 :=
  F_X9_share_59 k24 v0 v1 v2 v4 s0 (0 : Int32) h
theorem w_X9_share_58 {g : am_G} {l : Launch} {h0 : am_H} {x : Int32}  {k24 : Nat → Int32 → Int32 → Int32 → Int32 → am_H → Option Int32} (j24 : ∀ (v0 : Nat) (v1 : Int32) (v2 : Int32) (v3 : Int32) (v4 : Int32) (h : am_H), k24 v0 v1 v2 v3 v4 h = some x → am_W g l M_X9_share h0 (some (.int x)) h 24 [some (.ref v0), some (.int v1), some (.int v2), some (.int v3), some (.int v4)] [] h) (v0 : Nat) (v1 : Int32) (v2 : Int32) (v4 : Int32) (s0 : Int32) (h : am_H) (hF : F_X9_share_58 k24 v0 v1 v2 v4 s0 h = some x) : am_W g l M_X9_share h0 (some (.int x)) h 58 [some (.ref v0), some (.int v1), some (.int v2), none, some (.int v4)] [.int s0] h := by
  unfold F_X9_share_58 at hF
  refine am_iconst (v := (0 : Int32)) (pc' := 59) dX9_share_58 rfl rfl ?_
  exact w_X9_share_59 j24 v0 v1 v2 v4 s0 (0 : Int32) h hF
def F_X9_share_24 : Nat → Nat → Int32 → Int32 → Int32 → Int32 → am_H → Option Int32
  | 0, _, _, _, _, _, _ => none
  | n + 1, v0, v1, v2, v3, v4, h =>
  (am_gi 9 2 v0 h).bind fun x1 =>
  if x1 ≤ v4 then
    some v3
  else
    (F_X9_has v0 v1 v4 h).bind fun x3 =>
    if x3 = 0 then
      F_X9_share_58 (F_X9_share_24 n) v0 v1 v2 v4 v3 h
    else
      (F_X9_has v0 v2 v4 h).bind fun x5 =>
      if x5 = 0 then
        F_X9_share_58 (F_X9_share_24 n) v0 v1 v2 v4 v3 h
      else
        F_X9_share_59 (F_X9_share_24 n) v0 v1 v2 v4 v3 (1 : Int32) h
theorem w_X9_share_24 {g : am_G} {l : Launch} {h0 : am_H} {x : Int32}  : ∀ (n : Nat) (v0 : Nat) (v1 : Int32) (v2 : Int32) (v3 : Int32) (v4 : Int32) (h : am_H), F_X9_share_24 n v0 v1 v2 v3 v4 h = some x → am_W g l M_X9_share h0 (some (.int x)) h 24 [some (.ref v0), some (.int v1), some (.int v2), some (.int v3), some (.int v4)] [] h
  | 0, _, _, _, _, _, _, hF => by cases hF
  | n + 1, v0, v1, v2, v3, v4, h, hF => by
    rw [F_X9_share_24] at hF
    refine am_iload (pc' := 26) dX9_share_24 rfl rfl ?_
    refine am_aload_n (pc' := 27) dX9_share_26 rfl rfl ?_
    obtain ⟨x1, ex1, hF⟩ := am_bind hF
    refine am_geti (pc' := 30) dX9_share_27 fw_X9_100 ex1 rfl ?_
    rcases am_ite hF with ⟨z2, hF⟩ | ⟨z2, hF⟩
    · refine am_icmp_ge_t (pc' := 70) dX9_share_30 rfl z2 ?_
      refine am_iload_n (pc' := 71) dX9_share_70 rfl rfl ?_
      cases hF
      exact am_iret dX9_share_71 rfl rfl
    · refine am_icmp_ge_f (pc' := 33) (tgt := 70) dX9_share_30 rfl z2 rfl ?_
      refine am_iload_n (pc' := 34) dX9_share_33 rfl rfl ?_
      refine am_aload_n (pc' := 35) dX9_share_34 rfl rfl ?_
      refine am_iload_n (pc' := 36) dX9_share_35 rfl rfl ?_
      refine am_iload (pc' := 38) dX9_share_36 rfl rfl ?_
      obtain ⟨x3, ex3, hF⟩ := am_bind hF
      obtain ⟨ox3, px3⟩ := t_X9_has ex3
      refine am_callV1 (Mc := M_X9_has) (As := [.int v1, .int v4]) (st := [.int v3]) (pc' := 41) dX9_share_38 cw_X9_187 wd_5_102 sl_X9_has ⟨_, rfl, rfl⟩ (by decide) (by decide) rfl rfl (Nat.le_of_ble_eq_true rfl) px3 (c_X9_has ex3) rfl ?_
      rcases am_ite hF with ⟨z4, hF⟩ | ⟨z4, hF⟩
      · refine am_if_eq_t (pc' := 58) dX9_share_41 rfl z4 ?_
        exact am_weak [true, true, true, false, true] (w_X9_share_58 (w_X9_share_24 n) v0 v1 v2 v4 v3 h hF)
      · refine am_if_eq_f (pc' := 44) (tgt := 58) dX9_share_41 rfl z4 rfl ?_
        refine am_aload_n (pc' := 45) dX9_share_44 rfl rfl ?_
        refine am_iload_n (pc' := 46) dX9_share_45 rfl rfl ?_
        refine am_iload (pc' := 48) dX9_share_46 rfl rfl ?_
        obtain ⟨x5, ex5, hF⟩ := am_bind hF
        obtain ⟨ox5, px5⟩ := t_X9_has ex5
        refine am_callV1 (Mc := M_X9_has) (As := [.int v2, .int v4]) (st := [.int v3]) (pc' := 51) dX9_share_48 cw_X9_187 wd_5_102 sl_X9_has ⟨_, rfl, rfl⟩ (by decide) (by decide) rfl rfl (Nat.le_of_ble_eq_true rfl) px5 (c_X9_has ex5) rfl ?_
        rcases am_ite hF with ⟨z6, hF⟩ | ⟨z6, hF⟩
        · refine am_if_eq_t (pc' := 58) dX9_share_51 rfl z6 ?_
          exact am_weak [true, true, true, false, true] (w_X9_share_58 (w_X9_share_24 n) v0 v1 v2 v4 v3 h hF)
        · refine am_if_eq_f (pc' := 54) (tgt := 58) dX9_share_51 rfl z6 rfl ?_
          refine am_iconst (v := (1 : Int32)) (pc' := 55) dX9_share_54 rfl rfl ?_
          refine am_goto (pc' := 59) dX9_share_55 rfl ?_
          exact am_weak [true, true, true, false, true] (w_X9_share_59 (w_X9_share_24 n) v0 v1 v2 v4 v3 (1 : Int32) h hF)
def F_X9_share_b (v0 : Nat) (v1 : Int32) (v2 : Int32) (h : am_H) : Option Int32 :=
  (F_X9_noVersion v0 v1 h).bind fun x1 =>
  if x1 = 0 then
    (F_X9_noVersion v0 v2 h).bind fun x3 =>
    if x3 = 0 then
      F_X9_share_24 am_F v0 v1 v2 (0 : Int32) (0 : Int32) h
    else
      F_X9_share_16 h
  else
    F_X9_share_16 h
theorem w_X9_share {g : am_G} {l : Launch} {h0 : am_H} {x : Int32}  (v0 : Nat) (v1 : Int32) (v2 : Int32) (h : am_H) (hF : F_X9_share_b v0 v1 v2 h = some x) : am_W g l M_X9_share h0 (some (.int x)) h 0 [some (.ref v0), some (.int v1), some (.int v2), none, none] [] h := by
  unfold F_X9_share_b at hF
  refine am_aload_n (pc' := 1) dX9_share_0 rfl rfl ?_
  refine am_iload_n (pc' := 2) dX9_share_1 rfl rfl ?_
  obtain ⟨x1, ex1, hF⟩ := am_bind hF
  obtain ⟨ox1, px1⟩ := t_X9_noVersion ex1
  refine am_callV1 (Mc := M_X9_noVersion) (As := [.int v1]) (st := []) (pc' := 5) dX9_share_2 cw_X9_154 wd_5_37 sl_X9_noVersion ⟨_, rfl, rfl⟩ (by decide) (by decide) rfl rfl (Nat.le_of_ble_eq_true rfl) px1 (c_X9_noVersion ex1) rfl ?_
  rcases am_ite hF with ⟨z2, hF⟩ | ⟨z2, hF⟩
  · refine am_if_ne_f (pc' := 8) (tgt := 16) dX9_share_5 rfl z2 rfl ?_
    refine am_aload_n (pc' := 9) dX9_share_8 rfl rfl ?_
    refine am_iload_n (pc' := 10) dX9_share_9 rfl rfl ?_
    obtain ⟨x3, ex3, hF⟩ := am_bind hF
    obtain ⟨ox3, px3⟩ := t_X9_noVersion ex3
    refine am_callV1 (Mc := M_X9_noVersion) (As := [.int v2]) (st := []) (pc' := 13) dX9_share_10 cw_X9_154 wd_5_37 sl_X9_noVersion ⟨_, rfl, rfl⟩ (by decide) (by decide) rfl rfl (Nat.le_of_ble_eq_true rfl) px3 (c_X9_noVersion ex3) rfl ?_
    rcases am_ite hF with ⟨z4, hF⟩ | ⟨z4, hF⟩
    · refine am_if_eq_t (pc' := 19) dX9_share_13 rfl z4 ?_
      refine am_iconst (v := (0 : Int32)) (pc' := 20) dX9_share_19 rfl rfl ?_
      refine am_istore_n (ls' := [some (.ref v0), some (.int v1), some (.int v2), some (.int (0 : Int32)), none]) (pc' := 21) dX9_share_20 (Nat.le_of_ble_eq_true rfl) rfl rfl ?_
      refine am_iconst (v := (0 : Int32)) (pc' := 22) dX9_share_21 rfl rfl ?_
      refine am_istore (ls' := [some (.ref v0), some (.int v1), some (.int v2), some (.int (0 : Int32)), some (.int (0 : Int32))]) (pc' := 24) dX9_share_22 (Nat.le_of_ble_eq_true rfl) rfl rfl ?_
      exact w_X9_share_24 am_F v0 v1 v2 (0 : Int32) (0 : Int32) h hF
    · refine am_if_eq_f (pc' := 16) (tgt := 19) dX9_share_13 rfl z4 rfl ?_
      exact am_weak [false, false, false, false, false] (w_X9_share_16 h hF)
  · refine am_if_ne_t (pc' := 16) dX9_share_5 rfl z2 ?_
    exact am_weak [false, false, false, false, false] (w_X9_share_16 h hF)
def F_X9_share (v0 : Nat) (v1 : Int32) (v2 : Int32) (h : am_H) : Option Int32 := (am_obj v0 9 h).bind fun _ => F_X9_share_b v0 v1 v2 h
theorem t_X9_share {x : Int32}  {v0 : Nat} {v1 : Int32} {v2 : Int32} {h : am_H} (hF : F_X9_share v0 v1 v2 h = some x) : ∃ fs, am_obj v0 9 h = some fs := by
  obtain ⟨fs, e, _⟩ := am_bind hF
  exact ⟨fs, e⟩
theorem c_X9_share {g : am_G} {l : Launch} {x : Int32}  {v0 : Nat} {v1 : Int32} {v2 : Int32} {h : am_H} (hF : F_X9_share v0 v1 v2 h = some x) : am_Met g l M_X9_share [.ref v0, .int v1, .int v2] h (some (.int x)) h := by
  obtain ⟨fs, e0, e⟩ := am_bind hF
  exact am_met (n := 2) (by decide +kernel) rfl (Nat.le_of_ble_eq_true rfl) (w_X9_share v0 v1 v2 h e)
def F_X8_refusalOfKind_16 (h : am_H) : Option Int32 :=
  some (-100002 : Int32)
theorem w_X8_refusalOfKind_16 {g : am_G} {l : Launch} {h0 : am_H} {x : Int32}  (h : am_H) (hF : F_X8_refusalOfKind_16 h = some x) : am_W g l M_X8_refusalOfKind h0 (some (.int x)) h 16 [none, none] [] h := by
  unfold F_X8_refusalOfKind_16 at hF
  refine am_ldc (v := (-100002 : Int32)) (pc' := 18) dX8_refusalOfKind_16 wd_1_233 rfl ?_
  cases hF
  exact am_iret dX8_refusalOfKind_18 rfl rfl
def F_X8_refusalOfKind_32 (s0 : Int32) (h : am_H) : Option Int32 :=
  some s0
theorem w_X8_refusalOfKind_32 {g : am_G} {l : Launch} {h0 : am_H} {x : Int32}  (s0 : Int32) (h : am_H) (hF : F_X8_refusalOfKind_32 s0 h = some x) : am_W g l M_X8_refusalOfKind h0 (some (.int x)) h 32 [none, none] [.int s0] h := by
  unfold F_X8_refusalOfKind_32 at hF
  cases hF
  exact am_iret dX8_refusalOfKind_32 rfl rfl
def F_X8_refusalOfKind_b (v0 : Nat) (v1 : Int32) (h : am_H) : Option Int32 :=
  if v0 = 0 then
    some (-100001 : Int32)
  else
    if v1 < 0 then
      F_X8_refusalOfKind_16 h
    else
      if v1 < (5 : Int32) then
        (am_gi 0 3 v0 h).bind fun x4 =>
        if x4 = 0 then
          F_X8_refusalOfKind_32 (0 : Int32) h
        else
          F_X8_refusalOfKind_32 (-100005 : Int32) h
      else
        F_X8_refusalOfKind_16 h
theorem w_X8_refusalOfKind {g : am_G} {l : Launch} {h0 : am_H} {x : Int32}  (v0 : Nat) (v1 : Int32) (h : am_H) (hF : F_X8_refusalOfKind_b v0 v1 h = some x) : am_W g l M_X8_refusalOfKind h0 (some (.int x)) h 0 [some (.ref v0), some (.int v1)] [] h := by
  unfold F_X8_refusalOfKind_b at hF
  refine am_aload_n (pc' := 1) dX8_refusalOfKind_0 rfl rfl ?_
  rcases am_ite hF with ⟨z1, hF⟩ | ⟨z1, hF⟩
  · refine am_ifnonnull_f (pc' := 4) dX8_refusalOfKind_1 z1 rfl ?_
    refine am_ldc (v := (-100001 : Int32)) (pc' := 6) dX8_refusalOfKind_4 wd_2_137 rfl ?_
    cases hF
    exact am_iret dX8_refusalOfKind_6 rfl rfl
  · refine am_ifnonnull_t (pc' := 7) dX8_refusalOfKind_1 rfl z1 ?_
    refine am_iload_n (pc' := 8) dX8_refusalOfKind_7 rfl rfl ?_
    rcases am_ite hF with ⟨z2, hF⟩ | ⟨z2, hF⟩
    · refine am_if_lt_t (pc' := 16) dX8_refusalOfKind_8 rfl z2 ?_
      exact am_weak [false, false] (w_X8_refusalOfKind_16 h hF)
    · refine am_if_lt_f (pc' := 11) (tgt := 16) dX8_refusalOfKind_8 rfl z2 rfl ?_
      refine am_iload_n (pc' := 12) dX8_refusalOfKind_11 rfl rfl ?_
      refine am_iconst (v := (5 : Int32)) (pc' := 13) dX8_refusalOfKind_12 rfl rfl ?_
      rcases am_ite hF with ⟨z3, hF⟩ | ⟨z3, hF⟩
      · refine am_icmp_lt_t (pc' := 19) dX8_refusalOfKind_13 rfl z3 ?_
        refine am_aload_n (pc' := 20) dX8_refusalOfKind_19 rfl rfl ?_
        obtain ⟨x4, ex4, hF⟩ := am_bind hF
        refine am_geti (pc' := 23) dX8_refusalOfKind_20 fw_X8_182 ex4 rfl ?_
        rcases am_ite hF with ⟨z5, hF⟩ | ⟨z5, hF⟩
        · refine am_if_eq_t (pc' := 31) dX8_refusalOfKind_23 rfl z5 ?_
          refine am_iconst (v := (0 : Int32)) (pc' := 32) dX8_refusalOfKind_31 rfl rfl ?_
          exact am_weak [false, false] (w_X8_refusalOfKind_32 (0 : Int32) h hF)
        · refine am_if_eq_f (pc' := 26) (tgt := 31) dX8_refusalOfKind_23 rfl z5 rfl ?_
          refine am_ldc (v := (-100005 : Int32)) (pc' := 28) dX8_refusalOfKind_26 wd_2_153 rfl ?_
          refine am_goto (pc' := 32) dX8_refusalOfKind_28 rfl ?_
          exact am_weak [false, false] (w_X8_refusalOfKind_32 (-100005 : Int32) h hF)
      · refine am_icmp_lt_f (pc' := 16) (tgt := 19) dX8_refusalOfKind_13 rfl z3 rfl ?_
        exact am_weak [false, false] (w_X8_refusalOfKind_16 h hF)
def F_X8_refusalOfKind (v0 : Nat) (v1 : Int32) (h : am_H) : Option Int32 := F_X8_refusalOfKind_b v0 v1 h
theorem c_X8_refusalOfKind {g : am_G} {l : Launch} {x : Int32}  {v0 : Nat} {v1 : Int32} {h : am_H} (hF : F_X8_refusalOfKind v0 v1 h = some x) : am_Met g l M_X8_refusalOfKind [.ref v0, .int v1] h (some (.int x)) h := by
  exact am_met (n := 0) (by decide +kernel) rfl (Nat.le_of_ble_eq_true rfl) (w_X8_refusalOfKind v0 v1 h hF)
def F_J7_fill_53178_5 : Nat → Nat → Int32 → Int32 → Int32 → am_H → Option am_H
  | 0, _, _, _, _, _ => none
  | n + 1, v0, v1, v2, v3, h =>
  if v3 ≤ v2 then
    some h
  else
    (am_is 0 v0 v2 v1 h).bind fun h2 =>
    F_J7_fill_53178_5 n v0 v1 (v2 + (1 : Int32)) v3 h2
theorem w_J7_fill_53178_5 {g : am_G} {l : Launch} {h0 : am_H} {hf : am_H}  : ∀ (n : Nat) (v0 : Nat) (v1 : Int32) (v2 : Int32) (v3 : Int32) (h : am_H), F_J7_fill_53178_5 n v0 v1 v2 v3 h = some hf → am_W g l M_J7_fill_53178 h0 none hf 5 [some (.ref v0), some (.int v1), some (.int v2), some (.int v3)] [] h
  | 0, _, _, _, _, _, hF => by cases hF
  | n + 1, v0, v1, v2, v3, h, hF => by
    rw [F_J7_fill_53178_5] at hF
    refine am_iload_n (pc' := 6) dJ7_fill_53178_5 rfl rfl ?_
    refine am_iload_n (pc' := 7) dJ7_fill_53178_6 rfl rfl ?_
    rcases am_ite hF with ⟨z1, hF⟩ | ⟨z1, hF⟩
    · refine am_icmp_ge_t (pc' := 20) dJ7_fill_53178_7 rfl z1 ?_
      cases hF
      exact am_vret dJ7_fill_53178_20 rfl
    · refine am_icmp_ge_f (pc' := 10) (tgt := 20) dJ7_fill_53178_7 rfl z1 rfl ?_
      refine am_aload_n (pc' := 11) dJ7_fill_53178_10 rfl rfl ?_
      refine am_iload_n (pc' := 12) dJ7_fill_53178_11 rfl rfl ?_
      refine am_iload_n (pc' := 13) dJ7_fill_53178_12 rfl rfl ?_
      obtain ⟨h2, eh2, hF⟩ := am_bind hF
      refine am_iast (pc' := 14) dJ7_fill_53178_13 eh2 rfl ?_
      refine am_iinc (ls' := [some (.ref v0), some (.int v1), some (.int (v2 + (1 : Int32))), some (.int v3)]) (pc' := 17) (v := (v2 + (1 : Int32))) dJ7_fill_53178_14 rfl rfl (Nat.le_of_ble_eq_true rfl) rfl rfl ?_
      refine am_goto (pc' := 5) dJ7_fill_53178_17 rfl ?_
      exact w_J7_fill_53178_5 n v0 v1 (v2 + (1 : Int32)) v3 h2 hF
def F_J7_fill_53178_b (v0 : Nat) (v1 : Int32) (h : am_H) : Option am_H :=
  (am_ln v0 h).bind fun x1 =>
  F_J7_fill_53178_5 am_F v0 v1 (0 : Int32) x1 h
theorem w_J7_fill_53178 {g : am_G} {l : Launch} {h0 : am_H} {hf : am_H}  (v0 : Nat) (v1 : Int32) (h : am_H) (hF : F_J7_fill_53178_b v0 v1 h = some hf) : am_W g l M_J7_fill_53178 h0 none hf 0 [some (.ref v0), some (.int v1), none, none] [] h := by
  unfold F_J7_fill_53178_b at hF
  refine am_iconst (v := (0 : Int32)) (pc' := 1) dJ7_fill_53178_0 rfl rfl ?_
  refine am_istore_n (ls' := [some (.ref v0), some (.int v1), some (.int (0 : Int32)), none]) (pc' := 2) dJ7_fill_53178_1 (Nat.le_of_ble_eq_true rfl) rfl rfl ?_
  refine am_aload_n (pc' := 3) dJ7_fill_53178_2 rfl rfl ?_
  obtain ⟨x1, ex1, hF⟩ := am_bind hF
  refine am_alen (pc' := 4) dJ7_fill_53178_3 ex1 rfl ?_
  refine am_istore_n (ls' := [some (.ref v0), some (.int v1), some (.int (0 : Int32)), some (.int x1)]) (pc' := 5) dJ7_fill_53178_4 (Nat.le_of_ble_eq_true rfl) rfl rfl ?_
  exact w_J7_fill_53178_5 am_F v0 v1 (0 : Int32) x1 h hF
def F_J7_fill_53178 (v0 : Nat) (v1 : Int32) (h : am_H) : Option am_H := F_J7_fill_53178_b v0 v1 h
theorem c_J7_fill_53178 {g : am_G} {l : Launch} {hf : am_H}  {v0 : Nat} {v1 : Int32} {h : am_H} (hF : F_J7_fill_53178 v0 v1 h = some hf) : am_Met g l M_J7_fill_53178 [.ref v0, .int v1] h none hf := by
  exact am_met (n := 2) (by decide +kernel) rfl (Nat.le_of_ble_eq_true rfl) (w_J7_fill_53178 v0 v1 h hF)
theorem cw_X2_34 : am_cw "SignCellar$Mates" 34 M_J9_min_7cf53 2 := ⟨wd_1_3, wd_2_22, ⟨by decide, by decide, by decide⟩, Or.inl wd_3_5⟩
theorem cw_X2_56 : am_cw "SignCellar$Mates" 56 M_J7_fill_53178 2 := ⟨wd_1_12, wd_3_16, ⟨by decide, by decide, by decide⟩, Or.inl wd_3_14⟩
theorem cw_X2_62 : am_cw "SignCellar$Mates" 62 M_X4_at 1 := ⟨wd_1_2, wd_2_42, ⟨by decide, by decide, by decide⟩, Or.inl wd_3_17⟩
theorem fw_X2_18 : am_fw "SignCellar$Mates" 18 2 2 := ⟨(RX2, TX2, 4), rfl, by decide, inX2, Or.inl wd_1_54⟩
def F_X2_findNearest_84 (k16 : Nat → Nat → Int32 → Int32 → Int32 → am_H → Option am_H) (v0 : Nat) (v1 : Nat) (v2 : Int32) (v3 : Int32) (v4 : Int32) (h : am_H) : Option am_H :=
  k16 v0 v1 v2 v3 (v4 + (-1 : Int32)) h
theorem w_X2_findNearest_84 {g : am_G} {l : Launch} {h0 : am_H} {hf : am_H}  {k16 : Nat → Nat → Int32 → Int32 → Int32 → am_H → Option am_H} (j16 : ∀ (v0 : Nat) (v1 : Nat) (v2 : Int32) (v3 : Int32) (v4 : Int32) (h : am_H), k16 v0 v1 v2 v3 v4 h = some hf → am_W g l M_X2_findNearest h0 none hf 16 [some (.ref v0), some (.ref v1), some (.int v2), some (.int v3), some (.int v4), none] [] h) (v0 : Nat) (v1 : Nat) (v2 : Int32) (v3 : Int32) (v4 : Int32) (h : am_H) (hF : F_X2_findNearest_84 k16 v0 v1 v2 v3 v4 h = some hf) : am_W g l M_X2_findNearest h0 none hf 84 [some (.ref v0), some (.ref v1), some (.int v2), some (.int v3), some (.int v4), none] [] h := by
  unfold F_X2_findNearest_84 at hF
  refine am_iinc (ls' := [some (.ref v0), some (.ref v1), some (.int v2), some (.int v3), some (.int (v4 + (-1 : Int32))), none]) (pc' := 87) (v := (v4 + (-1 : Int32))) dX2_findNearest_84 rfl rfl (Nat.le_of_ble_eq_true rfl) rfl rfl ?_
  refine am_goto (pc' := 16) dX2_findNearest_87 rfl ?_
  exact j16 v0 v1 v2 v3 (v4 + (-1 : Int32)) h hF
def F_X2_findNearest_25 (k16 : Nat → Nat → Int32 → Int32 → Int32 → am_H → Option am_H) : Nat → Nat → Nat → Int32 → Int32 → Int32 → Int32 → am_H → Option am_H
  | 0, _, _, _, _, _, _, _ => none
  | n + 1, v0, v1, v2, v3, v4, v5, h =>
  if (9 : Int32) < v5 then
    F_X2_findNearest_84 k16 v0 v1 v2 v3 v4 h
  else
    if v2 < (v3 + v5) then
      F_X2_findNearest_84 k16 v0 v1 v2 v3 v4 h
    else
      (F_X4_at v1 ((v3 + v5) - (1 : Int32)) h).bind fun x3 =>
      (F_X4_at v1 (((v3 + v5) - (1 : Int32)) - v4) h).bind fun x4 =>
      if x3 = x4 then
        (am_gr 2 2 v0 h).bind fun x6 =>
        (am_is 0 x6 v5 v4 h).bind fun h7 =>
        F_X2_findNearest_25 k16 n v0 v1 v2 v3 v4 (v5 + (1 : Int32)) h7
      else
        F_X2_findNearest_84 k16 v0 v1 v2 v3 v4 h
theorem w_X2_findNearest_25 {g : am_G} {l : Launch} {h0 : am_H} {hf : am_H}  {k16 : Nat → Nat → Int32 → Int32 → Int32 → am_H → Option am_H} (j16 : ∀ (v0 : Nat) (v1 : Nat) (v2 : Int32) (v3 : Int32) (v4 : Int32) (h : am_H), k16 v0 v1 v2 v3 v4 h = some hf → am_W g l M_X2_findNearest h0 none hf 16 [some (.ref v0), some (.ref v1), some (.int v2), some (.int v3), some (.int v4), none] [] h) : ∀ (n : Nat) (v0 : Nat) (v1 : Nat) (v2 : Int32) (v3 : Int32) (v4 : Int32) (v5 : Int32) (h : am_H), F_X2_findNearest_25 k16 n v0 v1 v2 v3 v4 v5 h = some hf → am_W g l M_X2_findNearest h0 none hf 25 [some (.ref v0), some (.ref v1), some (.int v2), some (.int v3), some (.int v4), some (.int v5)] [] h
  | 0, _, _, _, _, _, _, _, hF => by cases hF
  | n + 1, v0, v1, v2, v3, v4, v5, h, hF => by
    rw [F_X2_findNearest_25] at hF
    refine am_iload (pc' := 27) dX2_findNearest_25 rfl rfl ?_
    refine am_bipush (v := (9 : Int32)) (pc' := 29) dX2_findNearest_27 rfl rfl ?_
    rcases am_ite hF with ⟨z1, hF⟩ | ⟨z1, hF⟩
    · refine am_icmp_gt_t (pc' := 84) dX2_findNearest_29 rfl z1 ?_
      exact am_weak [true, true, true, true, true, false] (w_X2_findNearest_84 j16 v0 v1 v2 v3 v4 h hF)
    · refine am_icmp_gt_f (pc' := 32) (tgt := 84) dX2_findNearest_29 rfl z1 rfl ?_
      refine am_iload_n (pc' := 33) dX2_findNearest_32 rfl rfl ?_
      refine am_iload (pc' := 35) dX2_findNearest_33 rfl rfl ?_
      refine am_iadd (pc' := 36) dX2_findNearest_35 rfl ?_
      refine am_iload_n (pc' := 37) dX2_findNearest_36 rfl rfl ?_
      rcases am_ite hF with ⟨z2, hF⟩ | ⟨z2, hF⟩
      · refine am_icmp_gt_t (pc' := 84) dX2_findNearest_37 rfl z2 ?_
        exact am_weak [true, true, true, true, true, false] (w_X2_findNearest_84 j16 v0 v1 v2 v3 v4 h hF)
      · refine am_icmp_gt_f (pc' := 40) (tgt := 84) dX2_findNearest_37 rfl z2 rfl ?_
        refine am_aload_n (pc' := 41) dX2_findNearest_40 rfl rfl ?_
        refine am_iload_n (pc' := 42) dX2_findNearest_41 rfl rfl ?_
        refine am_iload (pc' := 44) dX2_findNearest_42 rfl rfl ?_
        refine am_iadd (pc' := 45) dX2_findNearest_44 rfl ?_
        refine am_iconst (v := (1 : Int32)) (pc' := 46) dX2_findNearest_45 rfl rfl ?_
        refine am_isub (pc' := 47) dX2_findNearest_46 rfl ?_
        obtain ⟨x3, ex3, hF⟩ := am_bind hF
        obtain ⟨ox3, px3⟩ := t_X4_at ex3
        refine am_callV1 (Mc := M_X4_at) (As := [.int ((v3 + v5) - (1 : Int32))]) (st := []) (pc' := 50) dX2_findNearest_47 cw_X2_62 wd_2_40 wd_2_41 ⟨_, rfl, rfl⟩ (by decide) (by decide) rfl rfl (Nat.le_of_ble_eq_true rfl) px3 (c_X4_at ex3) rfl ?_
        refine am_aload_n (pc' := 51) dX2_findNearest_50 rfl rfl ?_
        refine am_iload_n (pc' := 52) dX2_findNearest_51 rfl rfl ?_
        refine am_iload (pc' := 54) dX2_findNearest_52 rfl rfl ?_
        refine am_iadd (pc' := 55) dX2_findNearest_54 rfl ?_
        refine am_iconst (v := (1 : Int32)) (pc' := 56) dX2_findNearest_55 rfl rfl ?_
        refine am_isub (pc' := 57) dX2_findNearest_56 rfl ?_
        refine am_iload (pc' := 59) dX2_findNearest_57 rfl rfl ?_
        refine am_isub (pc' := 60) dX2_findNearest_59 rfl ?_
        obtain ⟨x4, ex4, hF⟩ := am_bind hF
        obtain ⟨ox4, px4⟩ := t_X4_at ex4
        refine am_callV1 (Mc := M_X4_at) (As := [.int (((v3 + v5) - (1 : Int32)) - v4)]) (st := [.int x3]) (pc' := 63) dX2_findNearest_60 cw_X2_62 wd_2_40 wd_2_41 ⟨_, rfl, rfl⟩ (by decide) (by decide) rfl rfl (Nat.le_of_ble_eq_true rfl) px4 (c_X4_at ex4) rfl ?_
        rcases am_ite hF with ⟨z5, hF⟩ | ⟨z5, hF⟩
        · refine am_icmp_eq_t (pc' := 69) dX2_findNearest_63 rfl z5 ?_
          refine am_aload_n (pc' := 70) dX2_findNearest_69 rfl rfl ?_
          obtain ⟨x6, ex6, hF⟩ := am_bind hF
          refine am_getr (pc' := 73) dX2_findNearest_70 fw_X2_18 ex6 rfl ?_
          refine am_iload (pc' := 75) dX2_findNearest_73 rfl rfl ?_
          refine am_iload (pc' := 77) dX2_findNearest_75 rfl rfl ?_
          obtain ⟨h7, eh7, hF⟩ := am_bind hF
          refine am_iast (pc' := 78) dX2_findNearest_77 eh7 rfl ?_
          refine am_iinc (ls' := [some (.ref v0), some (.ref v1), some (.int v2), some (.int v3), some (.int v4), some (.int (v5 + (1 : Int32)))]) (pc' := 81) (v := (v5 + (1 : Int32))) dX2_findNearest_78 rfl rfl (Nat.le_of_ble_eq_true rfl) rfl rfl ?_
          refine am_goto (pc' := 25) dX2_findNearest_81 rfl ?_
          exact w_X2_findNearest_25 j16 n v0 v1 v2 v3 v4 (v5 + (1 : Int32)) h7 hF
        · refine am_icmp_eq_f (pc' := 66) (tgt := 69) dX2_findNearest_63 rfl z5 rfl ?_
          refine am_goto (pc' := 84) dX2_findNearest_66 rfl ?_
          exact am_weak [true, true, true, true, true, false] (w_X2_findNearest_84 j16 v0 v1 v2 v3 v4 h hF)
def F_X2_findNearest_16 : Nat → Nat → Nat → Int32 → Int32 → Int32 → am_H → Option am_H
  | 0, _, _, _, _, _, _ => none
  | n + 1, v0, v1, v2, v3, v4, h =>
  if v4 < (1 : Int32) then
    some h
  else
    F_X2_findNearest_25 (F_X2_findNearest_16 n) am_F v0 v1 v2 v3 v4 (1 : Int32) h
theorem w_X2_findNearest_16 {g : am_G} {l : Launch} {h0 : am_H} {hf : am_H}  : ∀ (n : Nat) (v0 : Nat) (v1 : Nat) (v2 : Int32) (v3 : Int32) (v4 : Int32) (h : am_H), F_X2_findNearest_16 n v0 v1 v2 v3 v4 h = some hf → am_W g l M_X2_findNearest h0 none hf 16 [some (.ref v0), some (.ref v1), some (.int v2), some (.int v3), some (.int v4), none] [] h
  | 0, _, _, _, _, _, _, hF => by cases hF
  | n + 1, v0, v1, v2, v3, v4, h, hF => by
    rw [F_X2_findNearest_16] at hF
    refine am_iload (pc' := 18) dX2_findNearest_16 rfl rfl ?_
    refine am_iconst (v := (1 : Int32)) (pc' := 19) dX2_findNearest_18 rfl rfl ?_
    rcases am_ite hF with ⟨z1, hF⟩ | ⟨z1, hF⟩
    · refine am_icmp_lt_t (pc' := 90) dX2_findNearest_19 rfl z1 ?_
      cases hF
      exact am_vret dX2_findNearest_90 rfl
    · refine am_icmp_lt_f (pc' := 22) (tgt := 90) dX2_findNearest_19 rfl z1 rfl ?_
      refine am_iconst (v := (1 : Int32)) (pc' := 23) dX2_findNearest_22 rfl rfl ?_
      refine am_istore (ls' := [some (.ref v0), some (.ref v1), some (.int v2), some (.int v3), some (.int v4), some (.int (1 : Int32))]) (pc' := 25) dX2_findNearest_23 (Nat.le_of_ble_eq_true rfl) rfl rfl ?_
      exact w_X2_findNearest_25 (w_X2_findNearest_16 n) am_F v0 v1 v2 v3 v4 (1 : Int32) h hF
def F_X2_findNearest_b (v0 : Nat) (v1 : Nat) (v2 : Int32) (v3 : Int32) (h : am_H) : Option am_H :=
  (am_gr 2 2 v0 h).bind fun x1 =>
  (F_J7_fill_53178 x1 (0 : Int32) h).bind fun h2 =>
  (F_J9_min_7cf53 v3 (15 : Int32) h2).bind fun x3 =>
  F_X2_findNearest_16 am_F v0 v1 v2 v3 x3 h2
theorem w_X2_findNearest {g : am_G} {l : Launch} {h0 : am_H} {hf : am_H}  (v0 : Nat) (v1 : Nat) (v2 : Int32) (v3 : Int32) (h : am_H) (hF : F_X2_findNearest_b v0 v1 v2 v3 h = some hf) : am_W g l M_X2_findNearest h0 none hf 0 [some (.ref v0), some (.ref v1), some (.int v2), some (.int v3), none, none] [] h := by
  unfold F_X2_findNearest_b at hF
  refine am_aload_n (pc' := 1) dX2_findNearest_0 rfl rfl ?_
  obtain ⟨x1, ex1, hF⟩ := am_bind hF
  refine am_getr (pc' := 4) dX2_findNearest_1 fw_X2_18 ex1 rfl ?_
  refine am_iconst (v := (0 : Int32)) (pc' := 5) dX2_findNearest_4 rfl rfl ?_
  obtain ⟨h2, eh2, hF⟩ := am_bind hF
  refine am_callS0 (Mc := M_J7_fill_53178) (As := [.ref x1, .int (0 : Int32)]) (st := []) (pc' := 8) dX2_findNearest_5 cw_X2_56 wd_3_15 (by decide) (by decide) rfl rfl (Nat.le_of_ble_eq_true rfl) (c_J7_fill_53178 eh2) rfl ?_
  refine am_iload_n (pc' := 9) dX2_findNearest_8 rfl rfl ?_
  refine am_bipush (v := (15 : Int32)) (pc' := 11) dX2_findNearest_9 rfl rfl ?_
  obtain ⟨x3, ex3, hF⟩ := am_bind hF
  refine am_callS1 (Mc := M_J9_min_7cf53) (As := [.int v3, .int (15 : Int32)]) (st := []) (pc' := 14) dX2_findNearest_11 cw_X2_34 wd_2_21 (by decide) (by decide) rfl rfl (Nat.le_of_ble_eq_true rfl) (c_J9_min_7cf53 ex3) rfl ?_
  refine am_istore (ls' := [some (.ref v0), some (.ref v1), some (.int v2), some (.int v3), some (.int x3), none]) (pc' := 16) dX2_findNearest_14 (Nat.le_of_ble_eq_true rfl) rfl rfl ?_
  exact w_X2_findNearest_16 am_F v0 v1 v2 v3 x3 h2 hF
def F_X2_findNearest (v0 : Nat) (v1 : Nat) (v2 : Int32) (v3 : Int32) (h : am_H) : Option am_H := (am_obj v0 2 h).bind fun _ => F_X2_findNearest_b v0 v1 v2 v3 h
theorem t_X2_findNearest {hf : am_H}  {v0 : Nat} {v1 : Nat} {v2 : Int32} {v3 : Int32} {h : am_H} (hF : F_X2_findNearest v0 v1 v2 v3 h = some hf) : ∃ fs, am_obj v0 2 h = some fs := by
  obtain ⟨fs, e, _⟩ := am_bind hF
  exact ⟨fs, e⟩
theorem c_X2_findNearest {g : am_G} {l : Launch} {hf : am_H}  {v0 : Nat} {v1 : Nat} {v2 : Int32} {v3 : Int32} {h : am_H} (hF : F_X2_findNearest v0 v1 v2 v3 h = some hf) : am_Met g l M_X2_findNearest [.ref v0, .ref v1, .int v2, .int v3] h none hf := by
  obtain ⟨fs, e0, e⟩ := am_bind hF
  exact am_met (n := 2) (by decide +kernel) rfl (Nat.le_of_ble_eq_true rfl) (w_X2_findNearest v0 v1 v2 v3 h e)
theorem cw_X2_53 : am_cw "SignCellar$Mates" 53 M_X2_findNearest 3 := ⟨wd_1_4, wd_3_13, ⟨by decide, by decide, by decide⟩, Or.inl wd_3_10⟩
theorem fw_X2_15 : am_fw "SignCellar$Mates" 15 2 1 := ⟨(RX2, TX2, 4), rfl, by decide, inX2, Or.inl wd_1_53⟩
theorem fw_X2_9 : am_fw "SignCellar$Mates" 9 2 0 := ⟨(RX2, TX2, 4), rfl, by decide, inX2, Or.inl wd_1_52⟩
theorem sl_X2_findNearest : Cond.selects (⟨"SignCellar$Mates", "findNearest", "(LSignCellar$Row;II)V"⟩ : MethodName).cls ⟨"SignCellar$Mates", "findNearest", "(LSignCellar$Row;II)V"⟩ ⟨"SignCellar$Mates", "findNearest", "(LSignCellar$Row;II)V"⟩ ∈ am_ts := am_in_p (q := (⟨"SignCellar$Mates", "findNearest", "(LSignCellar$Row;II)V"⟩, 4)) (by decide +kernel)
def F_X2_choosePiece_116 (h : am_H) : Option am_H :=
  some h
theorem w_X2_choosePiece_116 {g : am_G} {l : Launch} {h0 : am_H} {hf : am_H}  (h : am_H) (hF : F_X2_choosePiece_116 h = some hf) : am_W g l M_X2_choosePiece h0 none hf 116 [none, none, none, none, none, none] [] h := by
  unfold F_X2_choosePiece_116 at hF
  cases hF
  exact am_vret dX2_choosePiece_116 rfl
def F_X2_choosePiece_110 (k33 : Nat → Int32 → Int32 → Int32 → am_H → Option am_H) (v0 : Nat) (v2 : Int32) (v3 : Int32) (v4 : Int32) (h : am_H) : Option am_H :=
  k33 v0 v2 v3 (v4 + (1 : Int32)) h
theorem w_X2_choosePiece_110 {g : am_G} {l : Launch} {h0 : am_H} {hf : am_H}  {k33 : Nat → Int32 → Int32 → Int32 → am_H → Option am_H} (j33 : ∀ (v0 : Nat) (v2 : Int32) (v3 : Int32) (v4 : Int32) (h : am_H), k33 v0 v2 v3 v4 h = some hf → am_W g l M_X2_choosePiece h0 none hf 33 [some (.ref v0), none, some (.int v2), some (.int v3), some (.int v4), none] [] h) (v0 : Nat) (v2 : Int32) (v3 : Int32) (v4 : Int32) (h : am_H) (hF : F_X2_choosePiece_110 k33 v0 v2 v3 v4 h = some hf) : am_W g l M_X2_choosePiece h0 none hf 110 [some (.ref v0), none, some (.int v2), some (.int v3), some (.int v4), none] [] h := by
  unfold F_X2_choosePiece_110 at hF
  refine am_iinc (ls' := [some (.ref v0), none, some (.int v2), some (.int v3), some (.int (v4 + (1 : Int32))), none]) (pc' := 113) (v := (v4 + (1 : Int32))) dX2_choosePiece_110 rfl rfl (Nat.le_of_ble_eq_true rfl) rfl rfl ?_
  refine am_goto (pc' := 33) dX2_choosePiece_113 rfl ?_
  exact j33 v0 v2 v3 (v4 + (1 : Int32)) h hF
def F_X2_choosePiece_33 : Nat → Nat → Int32 → Int32 → Int32 → am_H → Option am_H
  | 0, _, _, _, _, _ => none
  | n + 1, v0, v2, v3, v4, h =>
  if (9 : Int32) < v4 then
    F_X2_choosePiece_116 h
  else
    if v2 < (v3 + v4) then
      F_X2_choosePiece_116 h
    else
      (am_gr 2 0 v0 h).bind fun x3 =>
      (am_il 0 x3 (v3 + v4) h).bind fun x4 =>
      (am_gr 2 2 v0 h).bind fun x5 =>
      (am_il 0 x5 v4 h).bind fun x6 =>
      if x6 ≤ 0 then
        F_X2_choosePiece_110 (F_X2_choosePiece_33 n) v0 v2 v3 v4 h
      else
        (am_gr 2 0 v0 h).bind fun x8 =>
        (am_il 0 x8 v3 h).bind fun x9 =>
        if x9 ≤ ((11 : Int32) + x4) then
          F_X2_choosePiece_110 (F_X2_choosePiece_33 n) v0 v2 v3 v4 h
        else
          (am_gr 2 0 v0 h).bind fun x11 =>
          (am_is 0 x11 v3 ((11 : Int32) + x4) h).bind fun h12 =>
          (am_gr 2 1 v0 h12).bind fun x13 =>
          (am_gr 2 2 v0 h12).bind fun x14 =>
          (am_il 0 x14 v4 h12).bind fun x15 =>
          (am_is 0 x13 v3 (((16 : Int32) * v4) + x15) h12).bind fun h16 =>
          F_X2_choosePiece_110 (F_X2_choosePiece_33 n) v0 v2 v3 v4 h16
theorem w_X2_choosePiece_33 {g : am_G} {l : Launch} {h0 : am_H} {hf : am_H}  : ∀ (n : Nat) (v0 : Nat) (v2 : Int32) (v3 : Int32) (v4 : Int32) (h : am_H), F_X2_choosePiece_33 n v0 v2 v3 v4 h = some hf → am_W g l M_X2_choosePiece h0 none hf 33 [some (.ref v0), none, some (.int v2), some (.int v3), some (.int v4), none] [] h
  | 0, _, _, _, _, _, hF => by cases hF
  | n + 1, v0, v2, v3, v4, h, hF => by
    rw [F_X2_choosePiece_33] at hF
    refine am_iload (pc' := 35) dX2_choosePiece_33 rfl rfl ?_
    refine am_bipush (v := (9 : Int32)) (pc' := 37) dX2_choosePiece_35 rfl rfl ?_
    rcases am_ite hF with ⟨z1, hF⟩ | ⟨z1, hF⟩
    · refine am_icmp_gt_t (pc' := 116) dX2_choosePiece_37 rfl z1 ?_
      exact am_weak [false, false, false, false, false, false] (w_X2_choosePiece_116 h hF)
    · refine am_icmp_gt_f (pc' := 40) (tgt := 116) dX2_choosePiece_37 rfl z1 rfl ?_
      refine am_iload_n (pc' := 41) dX2_choosePiece_40 rfl rfl ?_
      refine am_iload (pc' := 43) dX2_choosePiece_41 rfl rfl ?_
      refine am_iadd (pc' := 44) dX2_choosePiece_43 rfl ?_
      refine am_iload_n (pc' := 45) dX2_choosePiece_44 rfl rfl ?_
      rcases am_ite hF with ⟨z2, hF⟩ | ⟨z2, hF⟩
      · refine am_icmp_gt_t (pc' := 116) dX2_choosePiece_45 rfl z2 ?_
        exact am_weak [false, false, false, false, false, false] (w_X2_choosePiece_116 h hF)
      · refine am_icmp_gt_f (pc' := 48) (tgt := 116) dX2_choosePiece_45 rfl z2 rfl ?_
        refine am_bipush (v := (11 : Int32)) (pc' := 50) dX2_choosePiece_48 rfl rfl ?_
        refine am_aload_n (pc' := 51) dX2_choosePiece_50 rfl rfl ?_
        obtain ⟨x3, ex3, hF⟩ := am_bind hF
        refine am_getr (pc' := 54) dX2_choosePiece_51 fw_X2_9 ex3 rfl ?_
        refine am_iload_n (pc' := 55) dX2_choosePiece_54 rfl rfl ?_
        refine am_iload (pc' := 57) dX2_choosePiece_55 rfl rfl ?_
        refine am_iadd (pc' := 58) dX2_choosePiece_57 rfl ?_
        obtain ⟨x4, ex4, hF⟩ := am_bind hF
        refine am_iald (pc' := 59) dX2_choosePiece_58 ex4 rfl ?_
        refine am_iadd (pc' := 60) dX2_choosePiece_59 rfl ?_
        refine am_istore (ls' := [some (.ref v0), none, some (.int v2), some (.int v3), some (.int v4), some (.int ((11 : Int32) + x4))]) (pc' := 62) dX2_choosePiece_60 (Nat.le_of_ble_eq_true rfl) rfl rfl ?_
        refine am_aload_n (pc' := 63) dX2_choosePiece_62 rfl rfl ?_
        obtain ⟨x5, ex5, hF⟩ := am_bind hF
        refine am_getr (pc' := 66) dX2_choosePiece_63 fw_X2_18 ex5 rfl ?_
        refine am_iload (pc' := 68) dX2_choosePiece_66 rfl rfl ?_
        obtain ⟨x6, ex6, hF⟩ := am_bind hF
        refine am_iald (pc' := 69) dX2_choosePiece_68 ex6 rfl ?_
        rcases am_ite hF with ⟨z7, hF⟩ | ⟨z7, hF⟩
        · refine am_if_le_t (pc' := 110) dX2_choosePiece_69 rfl z7 ?_
          exact am_weak [true, false, true, true, true, false] (w_X2_choosePiece_110 (w_X2_choosePiece_33 n) v0 v2 v3 v4 h hF)
        · refine am_if_le_f (pc' := 72) (tgt := 110) dX2_choosePiece_69 rfl z7 rfl ?_
          refine am_iload (pc' := 74) dX2_choosePiece_72 rfl rfl ?_
          refine am_aload_n (pc' := 75) dX2_choosePiece_74 rfl rfl ?_
          obtain ⟨x8, ex8, hF⟩ := am_bind hF
          refine am_getr (pc' := 78) dX2_choosePiece_75 fw_X2_9 ex8 rfl ?_
          refine am_iload_n (pc' := 79) dX2_choosePiece_78 rfl rfl ?_
          obtain ⟨x9, ex9, hF⟩ := am_bind hF
          refine am_iald (pc' := 80) dX2_choosePiece_79 ex9 rfl ?_
          rcases am_ite hF with ⟨z10, hF⟩ | ⟨z10, hF⟩
          · refine am_icmp_ge_t (pc' := 110) dX2_choosePiece_80 rfl z10 ?_
            exact am_weak [true, false, true, true, true, false] (w_X2_choosePiece_110 (w_X2_choosePiece_33 n) v0 v2 v3 v4 h hF)
          · refine am_icmp_ge_f (pc' := 83) (tgt := 110) dX2_choosePiece_80 rfl z10 rfl ?_
            refine am_aload_n (pc' := 84) dX2_choosePiece_83 rfl rfl ?_
            obtain ⟨x11, ex11, hF⟩ := am_bind hF
            refine am_getr (pc' := 87) dX2_choosePiece_84 fw_X2_9 ex11 rfl ?_
            refine am_iload_n (pc' := 88) dX2_choosePiece_87 rfl rfl ?_
            refine am_iload (pc' := 90) dX2_choosePiece_88 rfl rfl ?_
            obtain ⟨h12, eh12, hF⟩ := am_bind hF
            refine am_iast (pc' := 91) dX2_choosePiece_90 eh12 rfl ?_
            refine am_aload_n (pc' := 92) dX2_choosePiece_91 rfl rfl ?_
            obtain ⟨x13, ex13, hF⟩ := am_bind hF
            refine am_getr (pc' := 95) dX2_choosePiece_92 fw_X2_15 ex13 rfl ?_
            refine am_iload_n (pc' := 96) dX2_choosePiece_95 rfl rfl ?_
            refine am_bipush (v := (16 : Int32)) (pc' := 98) dX2_choosePiece_96 rfl rfl ?_
            refine am_iload (pc' := 100) dX2_choosePiece_98 rfl rfl ?_
            refine am_imul (pc' := 101) dX2_choosePiece_100 rfl ?_
            refine am_aload_n (pc' := 102) dX2_choosePiece_101 rfl rfl ?_
            obtain ⟨x14, ex14, hF⟩ := am_bind hF
            refine am_getr (pc' := 105) dX2_choosePiece_102 fw_X2_18 ex14 rfl ?_
            refine am_iload (pc' := 107) dX2_choosePiece_105 rfl rfl ?_
            obtain ⟨x15, ex15, hF⟩ := am_bind hF
            refine am_iald (pc' := 108) dX2_choosePiece_107 ex15 rfl ?_
            refine am_iadd (pc' := 109) dX2_choosePiece_108 rfl ?_
            obtain ⟨h16, eh16, hF⟩ := am_bind hF
            refine am_iast (pc' := 110) dX2_choosePiece_109 eh16 rfl ?_
            exact am_weak [true, false, true, true, true, false] (w_X2_choosePiece_110 (w_X2_choosePiece_33 n) v0 v2 v3 v4 h16 hF)
def F_X2_choosePiece_b (v0 : Nat) (v1 : Nat) (v2 : Int32) (v3 : Int32) (h : am_H) : Option am_H :=
  (am_gr 2 0 v0 h).bind fun x1 =>
  (am_gr 2 0 v0 h).bind fun x2 =>
  (am_il 0 x2 (v3 + (1 : Int32)) h).bind fun x3 =>
  (am_is 0 x1 v3 ((5 : Int32) + x3) h).bind fun h4 =>
  (am_gr 2 1 v0 h4).bind fun x5 =>
  (am_is 0 x5 v3 (0 : Int32) h4).bind fun h6 =>
  (F_X2_findNearest v0 v1 v2 v3 h6).bind fun h7 =>
  F_X2_choosePiece_33 am_F v0 v2 v3 (2 : Int32) h7
theorem w_X2_choosePiece {g : am_G} {l : Launch} {h0 : am_H} {hf : am_H}  (v0 : Nat) (v1 : Nat) (v2 : Int32) (v3 : Int32) (h : am_H) (hF : F_X2_choosePiece_b v0 v1 v2 v3 h = some hf) : am_W g l M_X2_choosePiece h0 none hf 0 [some (.ref v0), some (.ref v1), some (.int v2), some (.int v3), none, none] [] h := by
  unfold F_X2_choosePiece_b at hF
  refine am_aload_n (pc' := 1) dX2_choosePiece_0 rfl rfl ?_
  obtain ⟨x1, ex1, hF⟩ := am_bind hF
  refine am_getr (pc' := 4) dX2_choosePiece_1 fw_X2_9 ex1 rfl ?_
  refine am_iload_n (pc' := 5) dX2_choosePiece_4 rfl rfl ?_
  refine am_iconst (v := (5 : Int32)) (pc' := 6) dX2_choosePiece_5 rfl rfl ?_
  refine am_aload_n (pc' := 7) dX2_choosePiece_6 rfl rfl ?_
  obtain ⟨x2, ex2, hF⟩ := am_bind hF
  refine am_getr (pc' := 10) dX2_choosePiece_7 fw_X2_9 ex2 rfl ?_
  refine am_iload_n (pc' := 11) dX2_choosePiece_10 rfl rfl ?_
  refine am_iconst (v := (1 : Int32)) (pc' := 12) dX2_choosePiece_11 rfl rfl ?_
  refine am_iadd (pc' := 13) dX2_choosePiece_12 rfl ?_
  obtain ⟨x3, ex3, hF⟩ := am_bind hF
  refine am_iald (pc' := 14) dX2_choosePiece_13 ex3 rfl ?_
  refine am_iadd (pc' := 15) dX2_choosePiece_14 rfl ?_
  obtain ⟨h4, eh4, hF⟩ := am_bind hF
  refine am_iast (pc' := 16) dX2_choosePiece_15 eh4 rfl ?_
  refine am_aload_n (pc' := 17) dX2_choosePiece_16 rfl rfl ?_
  obtain ⟨x5, ex5, hF⟩ := am_bind hF
  refine am_getr (pc' := 20) dX2_choosePiece_17 fw_X2_15 ex5 rfl ?_
  refine am_iload_n (pc' := 21) dX2_choosePiece_20 rfl rfl ?_
  refine am_iconst (v := (0 : Int32)) (pc' := 22) dX2_choosePiece_21 rfl rfl ?_
  obtain ⟨h6, eh6, hF⟩ := am_bind hF
  refine am_iast (pc' := 23) dX2_choosePiece_22 eh6 rfl ?_
  refine am_aload_n (pc' := 24) dX2_choosePiece_23 rfl rfl ?_
  refine am_aload_n (pc' := 25) dX2_choosePiece_24 rfl rfl ?_
  refine am_iload_n (pc' := 26) dX2_choosePiece_25 rfl rfl ?_
  refine am_iload_n (pc' := 27) dX2_choosePiece_26 rfl rfl ?_
  obtain ⟨h7, eh7, hF⟩ := am_bind hF
  obtain ⟨oh7, ph7⟩ := t_X2_findNearest eh7
  refine am_callV0 (Mc := M_X2_findNearest) (As := [.ref v1, .int v2, .int v3]) (st := []) (pc' := 30) dX2_choosePiece_27 cw_X2_53 wd_3_12 sl_X2_findNearest ⟨_, rfl, rfl⟩ (by decide) (by decide) rfl rfl (Nat.le_of_ble_eq_true rfl) ph7 (c_X2_findNearest eh7) rfl ?_
  refine am_iconst (v := (2 : Int32)) (pc' := 31) dX2_choosePiece_30 rfl rfl ?_
  refine am_istore (ls' := [some (.ref v0), some (.ref v1), some (.int v2), some (.int v3), some (.int (2 : Int32)), none]) (pc' := 33) dX2_choosePiece_31 (Nat.le_of_ble_eq_true rfl) rfl rfl ?_
  exact am_weak [true, false, true, true, true, false] (w_X2_choosePiece_33 am_F v0 v2 v3 (2 : Int32) h7 hF)
def F_X2_choosePiece (v0 : Nat) (v1 : Nat) (v2 : Int32) (v3 : Int32) (h : am_H) : Option am_H := (am_obj v0 2 h).bind fun _ => F_X2_choosePiece_b v0 v1 v2 v3 h
theorem t_X2_choosePiece {hf : am_H}  {v0 : Nat} {v1 : Nat} {v2 : Int32} {v3 : Int32} {h : am_H} (hF : F_X2_choosePiece v0 v1 v2 v3 h = some hf) : ∃ fs, am_obj v0 2 h = some fs := by
  obtain ⟨fs, e, _⟩ := am_bind hF
  exact ⟨fs, e⟩
theorem c_X2_choosePiece {g : am_G} {l : Launch} {hf : am_H}  {v0 : Nat} {v1 : Nat} {v2 : Int32} {v3 : Int32} {h : am_H} (hF : F_X2_choosePiece v0 v1 v2 v3 h = some hf) : am_Met g l M_X2_choosePiece [.ref v0, .ref v1, .int v2, .int v3] h none hf := by
  obtain ⟨fs, e0, e⟩ := am_bind hF
  exact am_met (n := 2) (by decide +kernel) rfl (Nat.le_of_ble_eq_true rfl) (w_X2_choosePiece v0 v1 v2 v3 h e)
theorem cw_X2_30 : am_cw "SignCellar$Mates" 30 M_X4_length 0 := ⟨wd_1_2, wd_1_237, ⟨by decide, by decide, by decide⟩, Or.inl wd_3_4⟩
theorem cw_X2_40 : am_cw "SignCellar$Mates" 40 M_X2_choosePiece 3 := ⟨wd_1_4, wd_3_9, ⟨by decide, by decide, by decide⟩, Or.inl wd_3_6⟩
theorem cw_X2_44 : am_cw "SignCellar$Mates" 44 M_X4_empty 0 := ⟨wd_1_2, wd_2_19, ⟨by decide, by decide, by decide⟩, Or.inl wd_3_18⟩
theorem cw_X2_47 : am_cw "SignCellar$Mates" 47 M_X4_add 1 := ⟨wd_1_2, wd_2_2, ⟨by decide, by decide, by decide⟩, Or.inl wd_3_19⟩
theorem cw_X2_50 : am_cw "SignCellar$Mates" 50 M_J9_max_7cf53 2 := ⟨wd_1_3, wd_1_29, ⟨by decide, by decide, by decide⟩, Or.inl wd_3_20⟩
theorem fw_X2_26 : am_fw "SignCellar$Mates" 26 2 3 := ⟨(RX2, TX2, 4), rfl, by decide, inX2, Or.inl wd_1_55⟩
theorem sl_X2_choosePiece : Cond.selects (⟨"SignCellar$Mates", "choosePiece", "(LSignCellar$Row;II)V"⟩ : MethodName).cls ⟨"SignCellar$Mates", "choosePiece", "(LSignCellar$Row;II)V"⟩ ⟨"SignCellar$Mates", "choosePiece", "(LSignCellar$Row;II)V"⟩ ∈ am_ts := am_in_p (q := (⟨"SignCellar$Mates", "choosePiece", "(LSignCellar$Row;II)V"⟩, 4)) (by decide +kernel)
def F_X2_squeeze_47 : Nat → Nat → Int32 → Int32 → am_H → Option am_H
  | 0, _, _, _, _ => none
  | n + 1, v0, v2, v3, h =>
  if v2 ≤ v3 then
    some h
  else
    (am_gr 2 3 v0 h).bind fun x2 =>
    (am_gr 2 1 v0 h).bind fun x3 =>
    (am_il 0 x3 v3 h).bind fun x4 =>
    (F_X4_add x2 x4 h).bind fun h5 =>
    (am_gr 2 1 v0 h5).bind fun x6 =>
    (am_il 0 x6 v3 h5).bind fun x7 =>
    (F_J9_max_7cf53 (1 : Int32) (x7 / (16 : Int32)) h5).bind fun x8 =>
    F_X2_squeeze_47 n v0 v2 (v3 + x8) h5
theorem w_X2_squeeze_47 {g : am_G} {l : Launch} {h0 : am_H} {hf : am_H}  : ∀ (n : Nat) (v0 : Nat) (v2 : Int32) (v3 : Int32) (h : am_H), F_X2_squeeze_47 n v0 v2 v3 h = some hf → am_W g l M_X2_squeeze h0 none hf 47 [some (.ref v0), none, some (.int v2), some (.int v3)] [] h
  | 0, _, _, _, _, hF => by cases hF
  | n + 1, v0, v2, v3, h, hF => by
    rw [F_X2_squeeze_47] at hF
    refine am_iload_n (pc' := 48) dX2_squeeze_47 rfl rfl ?_
    refine am_iload_n (pc' := 49) dX2_squeeze_48 rfl rfl ?_
    rcases am_ite hF with ⟨z1, hF⟩ | ⟨z1, hF⟩
    · refine am_icmp_ge_t (pc' := 84) dX2_squeeze_49 rfl z1 ?_
      cases hF
      exact am_vret dX2_squeeze_84 rfl
    · refine am_icmp_ge_f (pc' := 52) (tgt := 84) dX2_squeeze_49 rfl z1 rfl ?_
      refine am_aload_n (pc' := 53) dX2_squeeze_52 rfl rfl ?_
      obtain ⟨x2, ex2, hF⟩ := am_bind hF
      refine am_getr (pc' := 56) dX2_squeeze_53 fw_X2_26 ex2 rfl ?_
      refine am_aload_n (pc' := 57) dX2_squeeze_56 rfl rfl ?_
      obtain ⟨x3, ex3, hF⟩ := am_bind hF
      refine am_getr (pc' := 60) dX2_squeeze_57 fw_X2_15 ex3 rfl ?_
      refine am_iload_n (pc' := 61) dX2_squeeze_60 rfl rfl ?_
      obtain ⟨x4, ex4, hF⟩ := am_bind hF
      refine am_iald (pc' := 62) dX2_squeeze_61 ex4 rfl ?_
      obtain ⟨h5, eh5, hF⟩ := am_bind hF
      obtain ⟨oh5, ph5⟩ := t_X4_add eh5
      refine am_callV0 (Mc := M_X4_add) (As := [.int x4]) (st := []) (pc' := 65) dX2_squeeze_62 cw_X2_47 wd_2_0 wd_2_1 ⟨_, rfl, rfl⟩ (by decide) (by decide) rfl rfl (Nat.le_of_ble_eq_true rfl) ph5 (c_X4_add eh5) rfl ?_
      refine am_iload_n (pc' := 66) dX2_squeeze_65 rfl rfl ?_
      refine am_iconst (v := (1 : Int32)) (pc' := 67) dX2_squeeze_66 rfl rfl ?_
      refine am_aload_n (pc' := 68) dX2_squeeze_67 rfl rfl ?_
      obtain ⟨x6, ex6, hF⟩ := am_bind hF
      refine am_getr (pc' := 71) dX2_squeeze_68 fw_X2_15 ex6 rfl ?_
      refine am_iload_n (pc' := 72) dX2_squeeze_71 rfl rfl ?_
      obtain ⟨x7, ex7, hF⟩ := am_bind hF
      refine am_iald (pc' := 73) dX2_squeeze_72 ex7 rfl ?_
      refine am_bipush (v := (16 : Int32)) (pc' := 75) dX2_squeeze_73 rfl rfl ?_
      refine am_idiv (pc' := 76) dX2_squeeze_75 (by decide) rfl ?_
      obtain ⟨x8, ex8, hF⟩ := am_bind hF
      refine am_callS1 (Mc := M_J9_max_7cf53) (As := [.int (1 : Int32), .int (x7 / (16 : Int32))]) (st := [.int v3]) (pc' := 79) dX2_squeeze_76 cw_X2_50 wd_1_28 (by decide) (by decide) rfl rfl (Nat.le_of_ble_eq_true rfl) (c_J9_max_7cf53 ex8) rfl ?_
      refine am_iadd (pc' := 80) dX2_squeeze_79 rfl ?_
      refine am_istore_n (ls' := [some (.ref v0), none, some (.int v2), some (.int (v3 + x8))]) (pc' := 81) dX2_squeeze_80 (Nat.le_of_ble_eq_true rfl) rfl rfl ?_
      refine am_goto (pc' := 47) dX2_squeeze_81 rfl ?_
      exact w_X2_squeeze_47 n v0 v2 (v3 + x8) h5 hF
def F_X2_squeeze_21 : Nat → Nat → Nat → Int32 → Int32 → am_H → Option am_H
  | 0, _, _, _, _, _ => none
  | n + 1, v0, v1, v2, v3, h =>
  if v3 < 0 then
    (am_gr 2 3 v0 h).bind fun x2 =>
    (F_X4_empty x2 h).bind fun h3 =>
    F_X2_squeeze_47 am_F v0 v2 (0 : Int32) h3
  else
    (F_X2_choosePiece v0 v1 v2 v3 h).bind fun h4 =>
    F_X2_squeeze_21 n v0 v1 v2 (v3 + (-1 : Int32)) h4
theorem w_X2_squeeze_21 {g : am_G} {l : Launch} {h0 : am_H} {hf : am_H}  : ∀ (n : Nat) (v0 : Nat) (v1 : Nat) (v2 : Int32) (v3 : Int32) (h : am_H), F_X2_squeeze_21 n v0 v1 v2 v3 h = some hf → am_W g l M_X2_squeeze h0 none hf 21 [some (.ref v0), some (.ref v1), some (.int v2), some (.int v3)] [] h
  | 0, _, _, _, _, _, hF => by cases hF
  | n + 1, v0, v1, v2, v3, h, hF => by
    rw [F_X2_squeeze_21] at hF
    refine am_iload_n (pc' := 22) dX2_squeeze_21 rfl rfl ?_
    rcases am_ite hF with ⟨z1, hF⟩ | ⟨z1, hF⟩
    · refine am_if_lt_t (pc' := 38) dX2_squeeze_22 rfl z1 ?_
      refine am_aload_n (pc' := 39) dX2_squeeze_38 rfl rfl ?_
      obtain ⟨x2, ex2, hF⟩ := am_bind hF
      refine am_getr (pc' := 42) dX2_squeeze_39 fw_X2_26 ex2 rfl ?_
      obtain ⟨h3, eh3, hF⟩ := am_bind hF
      obtain ⟨oh3, ph3⟩ := t_X4_empty eh3
      refine am_callV0 (Mc := M_X4_empty) (As := []) (st := []) (pc' := 45) dX2_squeeze_42 cw_X2_44 wd_2_17 wd_2_18 ⟨_, rfl, rfl⟩ (by decide) (by decide) rfl rfl (Nat.le_of_ble_eq_true rfl) ph3 (c_X4_empty eh3) rfl ?_
      refine am_iconst (v := (0 : Int32)) (pc' := 46) dX2_squeeze_45 rfl rfl ?_
      refine am_istore_n (ls' := [some (.ref v0), some (.ref v1), some (.int v2), some (.int (0 : Int32))]) (pc' := 47) dX2_squeeze_46 (Nat.le_of_ble_eq_true rfl) rfl rfl ?_
      exact am_weak [true, false, true, true] (w_X2_squeeze_47 am_F v0 v2 (0 : Int32) h3 hF)
    · refine am_if_lt_f (pc' := 25) (tgt := 38) dX2_squeeze_22 rfl z1 rfl ?_
      refine am_aload_n (pc' := 26) dX2_squeeze_25 rfl rfl ?_
      refine am_aload_n (pc' := 27) dX2_squeeze_26 rfl rfl ?_
      refine am_iload_n (pc' := 28) dX2_squeeze_27 rfl rfl ?_
      refine am_iload_n (pc' := 29) dX2_squeeze_28 rfl rfl ?_
      obtain ⟨h4, eh4, hF⟩ := am_bind hF
      obtain ⟨oh4, ph4⟩ := t_X2_choosePiece eh4
      refine am_callV0 (Mc := M_X2_choosePiece) (As := [.ref v1, .int v2, .int v3]) (st := []) (pc' := 32) dX2_squeeze_29 cw_X2_40 wd_3_8 sl_X2_choosePiece ⟨_, rfl, rfl⟩ (by decide) (by decide) rfl rfl (Nat.le_of_ble_eq_true rfl) ph4 (c_X2_choosePiece eh4) rfl ?_
      refine am_iinc (ls' := [some (.ref v0), some (.ref v1), some (.int v2), some (.int (v3 + (-1 : Int32)))]) (pc' := 35) (v := (v3 + (-1 : Int32))) dX2_squeeze_32 rfl rfl (Nat.le_of_ble_eq_true rfl) rfl rfl ?_
      refine am_goto (pc' := 21) dX2_squeeze_35 rfl ?_
      exact w_X2_squeeze_21 n v0 v1 v2 (v3 + (-1 : Int32)) h4 hF
def F_X2_squeeze_b (v0 : Nat) (v1 : Nat) (h : am_H) : Option am_H :=
  (F_X4_length v1 h).bind fun x1 =>
  (F_J9_min_7cf53 x1 (24 : Int32) h).bind fun x2 =>
  (am_gr 2 0 v0 h).bind fun x3 =>
  (am_is 0 x3 x2 (0 : Int32) h).bind fun h4 =>
  F_X2_squeeze_21 am_F v0 v1 x2 (x2 - (1 : Int32)) h4
theorem w_X2_squeeze {g : am_G} {l : Launch} {h0 : am_H} {hf : am_H}  (v0 : Nat) (v1 : Nat) (h : am_H) (hF : F_X2_squeeze_b v0 v1 h = some hf) : am_W g l M_X2_squeeze h0 none hf 0 [some (.ref v0), some (.ref v1), none, none] [] h := by
  unfold F_X2_squeeze_b at hF
  refine am_aload_n (pc' := 1) dX2_squeeze_0 rfl rfl ?_
  obtain ⟨x1, ex1, hF⟩ := am_bind hF
  obtain ⟨ox1, px1⟩ := t_X4_length ex1
  refine am_callV1 (Mc := M_X4_length) (As := []) (st := []) (pc' := 4) dX2_squeeze_1 cw_X2_30 wd_1_235 wd_1_236 ⟨_, rfl, rfl⟩ (by decide) (by decide) rfl rfl (Nat.le_of_ble_eq_true rfl) px1 (c_X4_length ex1) rfl ?_
  refine am_bipush (v := (24 : Int32)) (pc' := 6) dX2_squeeze_4 rfl rfl ?_
  obtain ⟨x2, ex2, hF⟩ := am_bind hF
  refine am_callS1 (Mc := M_J9_min_7cf53) (As := [.int x1, .int (24 : Int32)]) (st := []) (pc' := 9) dX2_squeeze_6 cw_X2_34 wd_2_21 (by decide) (by decide) rfl rfl (Nat.le_of_ble_eq_true rfl) (c_J9_min_7cf53 ex2) rfl ?_
  refine am_istore_n (ls' := [some (.ref v0), some (.ref v1), some (.int x2), none]) (pc' := 10) dX2_squeeze_9 (Nat.le_of_ble_eq_true rfl) rfl rfl ?_
  refine am_aload_n (pc' := 11) dX2_squeeze_10 rfl rfl ?_
  obtain ⟨x3, ex3, hF⟩ := am_bind hF
  refine am_getr (pc' := 14) dX2_squeeze_11 fw_X2_9 ex3 rfl ?_
  refine am_iload_n (pc' := 15) dX2_squeeze_14 rfl rfl ?_
  refine am_iconst (v := (0 : Int32)) (pc' := 16) dX2_squeeze_15 rfl rfl ?_
  obtain ⟨h4, eh4, hF⟩ := am_bind hF
  refine am_iast (pc' := 17) dX2_squeeze_16 eh4 rfl ?_
  refine am_iload_n (pc' := 18) dX2_squeeze_17 rfl rfl ?_
  refine am_iconst (v := (1 : Int32)) (pc' := 19) dX2_squeeze_18 rfl rfl ?_
  refine am_isub (pc' := 20) dX2_squeeze_19 rfl ?_
  refine am_istore_n (ls' := [some (.ref v0), some (.ref v1), some (.int x2), some (.int (x2 - (1 : Int32)))]) (pc' := 21) dX2_squeeze_20 (Nat.le_of_ble_eq_true rfl) rfl rfl ?_
  exact w_X2_squeeze_21 am_F v0 v1 x2 (x2 - (1 : Int32)) h4 hF
def F_X2_squeeze (v0 : Nat) (v1 : Nat) (h : am_H) : Option am_H := (am_obj v0 2 h).bind fun _ => F_X2_squeeze_b v0 v1 h
theorem t_X2_squeeze {hf : am_H}  {v0 : Nat} {v1 : Nat} {h : am_H} (hF : F_X2_squeeze v0 v1 h = some hf) : ∃ fs, am_obj v0 2 h = some fs := by
  obtain ⟨fs, e, _⟩ := am_bind hF
  exact ⟨fs, e⟩
theorem c_X2_squeeze {g : am_G} {l : Launch} {hf : am_H}  {v0 : Nat} {v1 : Nat} {h : am_H} (hF : F_X2_squeeze v0 v1 h = some hf) : am_Met g l M_X2_squeeze [.ref v0, .ref v1] h none hf := by
  obtain ⟨fs, e0, e⟩ := am_bind hF
  exact am_met (n := 2) (by decide +kernel) rfl (Nat.le_of_ble_eq_true rfl) (w_X2_squeeze v0 v1 h e)
