abbrev M_X9_standsTwice : am_M := ((⟨"SignCellarModel", "standsTwice", "(II)I"⟩ : MethodName), prog_11_method_37_code, 6, (some .int), 1, 20)
theorem dX9_standsTwice_0 : decode prog_11_method_37_code 0 = .ok (.iconst 0, 1) := by decide +kernel
theorem dX9_standsTwice_1 : decode prog_11_method_37_code 1 = .ok (.istore_n 3, 1) := by decide +kernel
theorem dX9_standsTwice_2 : decode prog_11_method_37_code 2 = .ok (.iconst 0, 1) := by decide +kernel
theorem dX9_standsTwice_3 : decode prog_11_method_37_code 3 = .ok (.istore 4, 2) := by decide +kernel
theorem dX9_standsTwice_5 : decode prog_11_method_37_code 5 = .ok (.iload 4, 2) := by decide +kernel
theorem dX9_standsTwice_7 : decode prog_11_method_37_code 7 = .ok (.iconst 1, 1) := by decide +kernel
theorem dX9_standsTwice_8 : decode prog_11_method_37_code 8 = .ok (.iadd, 1) := by decide +kernel
theorem dX9_standsTwice_9 : decode prog_11_method_37_code 9 = .ok (.aload_n 0, 1) := by decide +kernel
theorem dX9_standsTwice_10 : decode prog_11_method_37_code 10 = .ok (.getfield 207, 3) := by decide +kernel
theorem dX9_standsTwice_13 : decode prog_11_method_37_code 13 = .ok (.if_icmp .ge 60, 3) := by decide +kernel
theorem dX9_standsTwice_16 : decode prog_11_method_37_code 16 = .ok (.aload_n 0, 1) := by decide +kernel
theorem dX9_standsTwice_17 : decode prog_11_method_37_code 17 = .ok (.getfield 53, 3) := by decide +kernel
theorem dX9_standsTwice_20 : decode prog_11_method_37_code 20 = .ok (.iload 4, 2) := by decide +kernel
theorem dX9_standsTwice_22 : decode prog_11_method_37_code 22 = .ok (.iaload, 1) := by decide +kernel
theorem dX9_standsTwice_23 : decode prog_11_method_37_code 23 = .ok (.iload_n 1, 1) := by decide +kernel
theorem dX9_standsTwice_24 : decode prog_11_method_37_code 24 = .ok (.if_icmp .ne 20, 3) := by decide +kernel
theorem dX9_standsTwice_27 : decode prog_11_method_37_code 27 = .ok (.aload_n 0, 1) := by decide +kernel
theorem dX9_standsTwice_28 : decode prog_11_method_37_code 28 = .ok (.getfield 53, 3) := by decide +kernel
theorem dX9_standsTwice_31 : decode prog_11_method_37_code 31 = .ok (.iload 4, 2) := by decide +kernel
theorem dX9_standsTwice_33 : decode prog_11_method_37_code 33 = .ok (.iconst 1, 1) := by decide +kernel
theorem dX9_standsTwice_34 : decode prog_11_method_37_code 34 = .ok (.iadd, 1) := by decide +kernel
theorem dX9_standsTwice_35 : decode prog_11_method_37_code 35 = .ok (.iaload, 1) := by decide +kernel
theorem dX9_standsTwice_36 : decode prog_11_method_37_code 36 = .ok (.iload_n 2, 1) := by decide +kernel
theorem dX9_standsTwice_37 : decode prog_11_method_37_code 37 = .ok (.if_icmp .ne 7, 3) := by decide +kernel
theorem dX9_standsTwice_40 : decode prog_11_method_37_code 40 = .ok (.iconst 1, 1) := by decide +kernel
theorem dX9_standsTwice_41 : decode prog_11_method_37_code 41 = .ok (.goto 4, 3) := by decide +kernel
theorem dX9_standsTwice_44 : decode prog_11_method_37_code 44 = .ok (.iconst 0, 1) := by decide +kernel
theorem dX9_standsTwice_45 : decode prog_11_method_37_code 45 = .ok (.istore 5, 2) := by decide +kernel
theorem dX9_standsTwice_47 : decode prog_11_method_37_code 47 = .ok (.iload_n 3, 1) := by decide +kernel
theorem dX9_standsTwice_48 : decode prog_11_method_37_code 48 = .ok (.iload 5, 2) := by decide +kernel
theorem dX9_standsTwice_50 : decode prog_11_method_37_code 50 = .ok (.invokestatic 150, 3) := by decide +kernel
theorem dX9_standsTwice_53 : decode prog_11_method_37_code 53 = .ok (.iadd, 1) := by decide +kernel
theorem dX9_standsTwice_54 : decode prog_11_method_37_code 54 = .ok (.istore_n 3, 1) := by decide +kernel
theorem dX9_standsTwice_55 : decode prog_11_method_37_code 55 = .ok (.iload 4, 2) := by decide +kernel
theorem dX9_standsTwice_57 : decode prog_11_method_37_code 57 = .ok (.iload 5, 2) := by decide +kernel
theorem dX9_standsTwice_59 : decode prog_11_method_37_code 59 = .ok (.ifCond .eq 7, 3) := by decide +kernel
theorem dX9_standsTwice_62 : decode prog_11_method_37_code 62 = .ok (.iconst 2, 1) := by decide +kernel
theorem dX9_standsTwice_63 : decode prog_11_method_37_code 63 = .ok (.goto 4, 3) := by decide +kernel
theorem dX9_standsTwice_66 : decode prog_11_method_37_code 66 = .ok (.iconst 1, 1) := by decide +kernel
theorem dX9_standsTwice_67 : decode prog_11_method_37_code 67 = .ok (.iadd, 1) := by decide +kernel
theorem dX9_standsTwice_68 : decode prog_11_method_37_code 68 = .ok (.istore 4, 2) := by decide +kernel
theorem dX9_standsTwice_70 : decode prog_11_method_37_code 70 = .ok (.goto (-65), 3) := by decide +kernel
theorem dX9_standsTwice_73 : decode prog_11_method_37_code 73 = .ok (.iload_n 3, 1) := by decide +kernel
theorem dX9_standsTwice_74 : decode prog_11_method_37_code 74 = .ok (.ireturn, 1) := by decide +kernel
abbrev M_X9_growRule : am_M := ((⟨"SignCellarModel", "growRule", "(II)V"⟩ : MethodName), prog_11_method_38_code, 7, none, 0, 0)
theorem dX9_growRule_0 : decode prog_11_method_38_code 0 = .ok (.aload_n 0, 1) := by decide +kernel
theorem dX9_growRule_1 : decode prog_11_method_38_code 1 = .ok (.getfield 210, 3) := by decide +kernel
theorem dX9_growRule_4 : decode prog_11_method_38_code 4 = .ok (.istore_n 3, 1) := by decide +kernel
theorem dX9_growRule_5 : decode prog_11_method_38_code 5 = .ok (.aload_n 0, 1) := by decide +kernel
theorem dX9_growRule_6 : decode prog_11_method_38_code 6 = .ok (.dup, 1) := by decide +kernel
theorem dX9_growRule_7 : decode prog_11_method_38_code 7 = .ok (.getfield 210, 3) := by decide +kernel
theorem dX9_growRule_10 : decode prog_11_method_38_code 10 = .ok (.iconst 1, 1) := by decide +kernel
theorem dX9_growRule_11 : decode prog_11_method_38_code 11 = .ok (.iadd, 1) := by decide +kernel
theorem dX9_growRule_12 : decode prog_11_method_38_code 12 = .ok (.putfield 210, 3) := by decide +kernel
theorem dX9_growRule_15 : decode prog_11_method_38_code 15 = .ok (.aload_n 0, 1) := by decide +kernel
theorem dX9_growRule_16 : decode prog_11_method_38_code 16 = .ok (.getfield 56, 3) := by decide +kernel
theorem dX9_growRule_19 : decode prog_11_method_38_code 19 = .ok (.iload_n 3, 1) := by decide +kernel
theorem dX9_growRule_20 : decode prog_11_method_38_code 20 = .ok (.iconst 2, 1) := by decide +kernel
theorem dX9_growRule_21 : decode prog_11_method_38_code 21 = .ok (.iastore, 1) := by decide +kernel
theorem dX9_growRule_22 : decode prog_11_method_38_code 22 = .ok (.aload_n 0, 1) := by decide +kernel
theorem dX9_growRule_23 : decode prog_11_method_38_code 23 = .ok (.getfield 59, 3) := by decide +kernel
theorem dX9_growRule_26 : decode prog_11_method_38_code 26 = .ok (.bipush 24, 2) := by decide +kernel
theorem dX9_growRule_28 : decode prog_11_method_38_code 28 = .ok (.iload_n 3, 1) := by decide +kernel
theorem dX9_growRule_29 : decode prog_11_method_38_code 29 = .ok (.imul, 1) := by decide +kernel
theorem dX9_growRule_30 : decode prog_11_method_38_code 30 = .ok (.iload_n 1, 1) := by decide +kernel
theorem dX9_growRule_31 : decode prog_11_method_38_code 31 = .ok (.iastore, 1) := by decide +kernel
theorem dX9_growRule_32 : decode prog_11_method_38_code 32 = .ok (.aload_n 0, 1) := by decide +kernel
theorem dX9_growRule_33 : decode prog_11_method_38_code 33 = .ok (.getfield 59, 3) := by decide +kernel
theorem dX9_growRule_36 : decode prog_11_method_38_code 36 = .ok (.bipush 24, 2) := by decide +kernel
theorem dX9_growRule_38 : decode prog_11_method_38_code 38 = .ok (.iload_n 3, 1) := by decide +kernel
theorem dX9_growRule_39 : decode prog_11_method_38_code 39 = .ok (.imul, 1) := by decide +kernel
theorem dX9_growRule_40 : decode prog_11_method_38_code 40 = .ok (.iconst 1, 1) := by decide +kernel
theorem dX9_growRule_41 : decode prog_11_method_38_code 41 = .ok (.iadd, 1) := by decide +kernel
theorem dX9_growRule_42 : decode prog_11_method_38_code 42 = .ok (.iload_n 2, 1) := by decide +kernel
theorem dX9_growRule_43 : decode prog_11_method_38_code 43 = .ok (.iastore, 1) := by decide +kernel
theorem dX9_growRule_44 : decode prog_11_method_38_code 44 = .ok (.iconst 0, 1) := by decide +kernel
theorem dX9_growRule_45 : decode prog_11_method_38_code 45 = .ok (.istore 4, 2) := by decide +kernel
theorem dX9_growRule_47 : decode prog_11_method_38_code 47 = .ok (.iconst 0, 1) := by decide +kernel
theorem dX9_growRule_48 : decode prog_11_method_38_code 48 = .ok (.istore 5, 2) := by decide +kernel
theorem dX9_growRule_50 : decode prog_11_method_38_code 50 = .ok (.iload 5, 2) := by decide +kernel
theorem dX9_growRule_52 : decode prog_11_method_38_code 52 = .ok (.aload_n 0, 1) := by decide +kernel
theorem dX9_growRule_53 : decode prog_11_method_38_code 53 = .ok (.getfield 207, 3) := by decide +kernel
theorem dX9_growRule_56 : decode prog_11_method_38_code 56 = .ok (.if_icmp .ge 92, 3) := by decide +kernel
theorem dX9_growRule_59 : decode prog_11_method_38_code 59 = .ok (.iload 5, 2) := by decide +kernel
theorem dX9_growRule_61 : decode prog_11_method_38_code 61 = .ok (.iconst 1, 1) := by decide +kernel
theorem dX9_growRule_62 : decode prog_11_method_38_code 62 = .ok (.iadd, 1) := by decide +kernel
theorem dX9_growRule_63 : decode prog_11_method_38_code 63 = .ok (.aload_n 0, 1) := by decide +kernel
theorem dX9_growRule_64 : decode prog_11_method_38_code 64 = .ok (.getfield 207, 3) := by decide +kernel
theorem dX9_growRule_67 : decode prog_11_method_38_code 67 = .ok (.if_icmp .ge 31, 3) := by decide +kernel
theorem dX9_growRule_70 : decode prog_11_method_38_code 70 = .ok (.aload_n 0, 1) := by decide +kernel
theorem dX9_growRule_71 : decode prog_11_method_38_code 71 = .ok (.getfield 53, 3) := by decide +kernel
theorem dX9_growRule_74 : decode prog_11_method_38_code 74 = .ok (.iload 5, 2) := by decide +kernel
theorem dX9_growRule_76 : decode prog_11_method_38_code 76 = .ok (.iaload, 1) := by decide +kernel
theorem dX9_growRule_77 : decode prog_11_method_38_code 77 = .ok (.iload_n 1, 1) := by decide +kernel
theorem dX9_growRule_78 : decode prog_11_method_38_code 78 = .ok (.if_icmp .ne 20, 3) := by decide +kernel
theorem dX9_growRule_81 : decode prog_11_method_38_code 81 = .ok (.aload_n 0, 1) := by decide +kernel
theorem dX9_growRule_82 : decode prog_11_method_38_code 82 = .ok (.getfield 53, 3) := by decide +kernel
theorem dX9_growRule_85 : decode prog_11_method_38_code 85 = .ok (.iload 5, 2) := by decide +kernel
theorem dX9_growRule_87 : decode prog_11_method_38_code 87 = .ok (.iconst 1, 1) := by decide +kernel
theorem dX9_growRule_88 : decode prog_11_method_38_code 88 = .ok (.iadd, 1) := by decide +kernel
theorem dX9_growRule_89 : decode prog_11_method_38_code 89 = .ok (.iaload, 1) := by decide +kernel
theorem dX9_growRule_90 : decode prog_11_method_38_code 90 = .ok (.iload_n 2, 1) := by decide +kernel
theorem dX9_growRule_91 : decode prog_11_method_38_code 91 = .ok (.if_icmp .ne 7, 3) := by decide +kernel
theorem dX9_growRule_94 : decode prog_11_method_38_code 94 = .ok (.iconst 1, 1) := by decide +kernel
theorem dX9_growRule_95 : decode prog_11_method_38_code 95 = .ok (.goto 4, 3) := by decide +kernel
theorem dX9_growRule_98 : decode prog_11_method_38_code 98 = .ok (.iconst 0, 1) := by decide +kernel
theorem dX9_growRule_99 : decode prog_11_method_38_code 99 = .ok (.istore 6, 2) := by decide +kernel
theorem dX9_growRule_101 : decode prog_11_method_38_code 101 = .ok (.aload_n 0, 1) := by decide +kernel
theorem dX9_growRule_102 : decode prog_11_method_38_code 102 = .ok (.getfield 53, 3) := by decide +kernel
theorem dX9_growRule_105 : decode prog_11_method_38_code 105 = .ok (.iload 4, 2) := by decide +kernel
theorem dX9_growRule_107 : decode prog_11_method_38_code 107 = .ok (.iload 6, 2) := by decide +kernel
theorem dX9_growRule_109 : decode prog_11_method_38_code 109 = .ok (.ifCond .eq 10, 3) := by decide +kernel
theorem dX9_growRule_112 : decode prog_11_method_38_code 112 = .ok (.bipush 16, 2) := by decide +kernel
theorem dX9_growRule_114 : decode prog_11_method_38_code 114 = .ok (.iload_n 3, 1) := by decide +kernel
theorem dX9_growRule_115 : decode prog_11_method_38_code 115 = .ok (.iadd, 1) := by decide +kernel
theorem dX9_growRule_116 : decode prog_11_method_38_code 116 = .ok (.goto 10, 3) := by decide +kernel
theorem dX9_growRule_119 : decode prog_11_method_38_code 119 = .ok (.aload_n 0, 1) := by decide +kernel
theorem dX9_growRule_120 : decode prog_11_method_38_code 120 = .ok (.getfield 53, 3) := by decide +kernel
theorem dX9_growRule_123 : decode prog_11_method_38_code 123 = .ok (.iload 5, 2) := by decide +kernel
theorem dX9_growRule_125 : decode prog_11_method_38_code 125 = .ok (.iaload, 1) := by decide +kernel
theorem dX9_growRule_126 : decode prog_11_method_38_code 126 = .ok (.iastore, 1) := by decide +kernel
theorem dX9_growRule_127 : decode prog_11_method_38_code 127 = .ok (.iinc 4 1, 3) := by decide +kernel
theorem dX9_growRule_130 : decode prog_11_method_38_code 130 = .ok (.iload 5, 2) := by decide +kernel
theorem dX9_growRule_132 : decode prog_11_method_38_code 132 = .ok (.iload 6, 2) := by decide +kernel
theorem dX9_growRule_134 : decode prog_11_method_38_code 134 = .ok (.ifCond .eq 7, 3) := by decide +kernel
theorem dX9_growRule_137 : decode prog_11_method_38_code 137 = .ok (.iconst 2, 1) := by decide +kernel
theorem dX9_growRule_138 : decode prog_11_method_38_code 138 = .ok (.goto 4, 3) := by decide +kernel
theorem dX9_growRule_141 : decode prog_11_method_38_code 141 = .ok (.iconst 1, 1) := by decide +kernel
theorem dX9_growRule_142 : decode prog_11_method_38_code 142 = .ok (.iadd, 1) := by decide +kernel
theorem dX9_growRule_143 : decode prog_11_method_38_code 143 = .ok (.istore 5, 2) := by decide +kernel
theorem dX9_growRule_145 : decode prog_11_method_38_code 145 = .ok (.goto (-95), 3) := by decide +kernel
theorem dX9_growRule_148 : decode prog_11_method_38_code 148 = .ok (.aload_n 0, 1) := by decide +kernel
theorem dX9_growRule_149 : decode prog_11_method_38_code 149 = .ok (.iload 4, 2) := by decide +kernel
theorem dX9_growRule_151 : decode prog_11_method_38_code 151 = .ok (.putfield 207, 3) := by decide +kernel
theorem dX9_growRule_154 : decode prog_11_method_38_code 154 = .ok (.return_, 1) := by decide +kernel
abbrev M_X9_standing : am_M := ((⟨"SignCellarModel", "standing", "(I)I"⟩ : MethodName), prog_11_method_39_code, 5, (some .int), 1, 20)
theorem dX9_standing_0 : decode prog_11_method_39_code 0 = .ok (.iconst 0, 1) := by decide +kernel
theorem dX9_standing_1 : decode prog_11_method_39_code 1 = .ok (.istore_n 2, 1) := by decide +kernel
theorem dX9_standing_2 : decode prog_11_method_39_code 2 = .ok (.iconst 0, 1) := by decide +kernel
theorem dX9_standing_3 : decode prog_11_method_39_code 3 = .ok (.istore_n 3, 1) := by decide +kernel
theorem dX9_standing_4 : decode prog_11_method_39_code 4 = .ok (.iload_n 3, 1) := by decide +kernel
theorem dX9_standing_5 : decode prog_11_method_39_code 5 = .ok (.aload_n 0, 1) := by decide +kernel
theorem dX9_standing_6 : decode prog_11_method_39_code 6 = .ok (.getfield 207, 3) := by decide +kernel
theorem dX9_standing_9 : decode prog_11_method_39_code 9 = .ok (.if_icmp .ge 33, 3) := by decide +kernel
theorem dX9_standing_12 : decode prog_11_method_39_code 12 = .ok (.iload_n 2, 1) := by decide +kernel
theorem dX9_standing_13 : decode prog_11_method_39_code 13 = .ok (.aload_n 0, 1) := by decide +kernel
theorem dX9_standing_14 : decode prog_11_method_39_code 14 = .ok (.getfield 53, 3) := by decide +kernel
theorem dX9_standing_17 : decode prog_11_method_39_code 17 = .ok (.iload_n 3, 1) := by decide +kernel
theorem dX9_standing_18 : decode prog_11_method_39_code 18 = .ok (.iaload, 1) := by decide +kernel
theorem dX9_standing_19 : decode prog_11_method_39_code 19 = .ok (.bipush 16, 2) := by decide +kernel
theorem dX9_standing_21 : decode prog_11_method_39_code 21 = .ok (.iload_n 1, 1) := by decide +kernel
theorem dX9_standing_22 : decode prog_11_method_39_code 22 = .ok (.iadd, 1) := by decide +kernel
theorem dX9_standing_23 : decode prog_11_method_39_code 23 = .ok (.if_icmp .ne 7, 3) := by decide +kernel
theorem dX9_standing_26 : decode prog_11_method_39_code 26 = .ok (.iconst 1, 1) := by decide +kernel
theorem dX9_standing_27 : decode prog_11_method_39_code 27 = .ok (.goto 4, 3) := by decide +kernel
theorem dX9_standing_30 : decode prog_11_method_39_code 30 = .ok (.iconst 0, 1) := by decide +kernel
theorem dX9_standing_31 : decode prog_11_method_39_code 31 = .ok (.invokestatic 150, 3) := by decide +kernel
theorem dX9_standing_34 : decode prog_11_method_39_code 34 = .ok (.iadd, 1) := by decide +kernel
theorem dX9_standing_35 : decode prog_11_method_39_code 35 = .ok (.istore_n 2, 1) := by decide +kernel
theorem dX9_standing_36 : decode prog_11_method_39_code 36 = .ok (.iinc 3 1, 3) := by decide +kernel
theorem dX9_standing_39 : decode prog_11_method_39_code 39 = .ok (.goto (-35), 3) := by decide +kernel
theorem dX9_standing_42 : decode prog_11_method_39_code 42 = .ok (.iconst 0, 1) := by decide +kernel
theorem dX9_standing_43 : decode prog_11_method_39_code 43 = .ok (.istore_n 3, 1) := by decide +kernel
theorem dX9_standing_44 : decode prog_11_method_39_code 44 = .ok (.iload_n 3, 1) := by decide +kernel
theorem dX9_standing_45 : decode prog_11_method_39_code 45 = .ok (.aload_n 0, 1) := by decide +kernel
theorem dX9_standing_46 : decode prog_11_method_39_code 46 = .ok (.getfield 210, 3) := by decide +kernel
theorem dX9_standing_49 : decode prog_11_method_39_code 49 = .ok (.if_icmp .ge 59, 3) := by decide +kernel
theorem dX9_standing_52 : decode prog_11_method_39_code 52 = .ok (.iconst 0, 1) := by decide +kernel
theorem dX9_standing_53 : decode prog_11_method_39_code 53 = .ok (.istore 4, 2) := by decide +kernel
theorem dX9_standing_55 : decode prog_11_method_39_code 55 = .ok (.iload 4, 2) := by decide +kernel
theorem dX9_standing_57 : decode prog_11_method_39_code 57 = .ok (.aload_n 0, 1) := by decide +kernel
theorem dX9_standing_58 : decode prog_11_method_39_code 58 = .ok (.getfield 56, 3) := by decide +kernel
theorem dX9_standing_61 : decode prog_11_method_39_code 61 = .ok (.iload_n 3, 1) := by decide +kernel
theorem dX9_standing_62 : decode prog_11_method_39_code 62 = .ok (.iaload, 1) := by decide +kernel
theorem dX9_standing_63 : decode prog_11_method_39_code 63 = .ok (.if_icmp .ge 39, 3) := by decide +kernel
theorem dX9_standing_66 : decode prog_11_method_39_code 66 = .ok (.iload_n 2, 1) := by decide +kernel
theorem dX9_standing_67 : decode prog_11_method_39_code 67 = .ok (.aload_n 0, 1) := by decide +kernel
theorem dX9_standing_68 : decode prog_11_method_39_code 68 = .ok (.getfield 59, 3) := by decide +kernel
theorem dX9_standing_71 : decode prog_11_method_39_code 71 = .ok (.bipush 24, 2) := by decide +kernel
theorem dX9_standing_73 : decode prog_11_method_39_code 73 = .ok (.iload_n 3, 1) := by decide +kernel
theorem dX9_standing_74 : decode prog_11_method_39_code 74 = .ok (.imul, 1) := by decide +kernel
theorem dX9_standing_75 : decode prog_11_method_39_code 75 = .ok (.iload 4, 2) := by decide +kernel
theorem dX9_standing_77 : decode prog_11_method_39_code 77 = .ok (.iadd, 1) := by decide +kernel
theorem dX9_standing_78 : decode prog_11_method_39_code 78 = .ok (.iaload, 1) := by decide +kernel
theorem dX9_standing_79 : decode prog_11_method_39_code 79 = .ok (.bipush 16, 2) := by decide +kernel
theorem dX9_standing_81 : decode prog_11_method_39_code 81 = .ok (.iload_n 1, 1) := by decide +kernel
theorem dX9_standing_82 : decode prog_11_method_39_code 82 = .ok (.iadd, 1) := by decide +kernel
theorem dX9_standing_83 : decode prog_11_method_39_code 83 = .ok (.if_icmp .ne 7, 3) := by decide +kernel
theorem dX9_standing_86 : decode prog_11_method_39_code 86 = .ok (.iconst 1, 1) := by decide +kernel
theorem dX9_standing_87 : decode prog_11_method_39_code 87 = .ok (.goto 4, 3) := by decide +kernel
theorem dX9_standing_90 : decode prog_11_method_39_code 90 = .ok (.iconst 0, 1) := by decide +kernel
theorem dX9_standing_91 : decode prog_11_method_39_code 91 = .ok (.invokestatic 150, 3) := by decide +kernel
theorem dX9_standing_94 : decode prog_11_method_39_code 94 = .ok (.iadd, 1) := by decide +kernel
theorem dX9_standing_95 : decode prog_11_method_39_code 95 = .ok (.istore_n 2, 1) := by decide +kernel
theorem dX9_standing_96 : decode prog_11_method_39_code 96 = .ok (.iinc 4 1, 3) := by decide +kernel
theorem dX9_standing_99 : decode prog_11_method_39_code 99 = .ok (.goto (-44), 3) := by decide +kernel
theorem dX9_standing_102 : decode prog_11_method_39_code 102 = .ok (.iinc 3 1, 3) := by decide +kernel
theorem dX9_standing_105 : decode prog_11_method_39_code 105 = .ok (.goto (-61), 3) := by decide +kernel
theorem dX9_standing_108 : decode prog_11_method_39_code 108 = .ok (.iload_n 2, 1) := by decide +kernel
theorem dX9_standing_109 : decode prog_11_method_39_code 109 = .ok (.ireturn, 1) := by decide +kernel
abbrev M_X9_putBackInRow : am_M := ((⟨"SignCellarModel", "putBackInRow", "(I)V"⟩ : MethodName), prog_11_method_40_code, 5, none, 0, 0)
theorem dX9_putBackInRow_0 : decode prog_11_method_40_code 0 = .ok (.iconst 0, 1) := by decide +kernel
theorem dX9_putBackInRow_1 : decode prog_11_method_40_code 1 = .ok (.istore_n 2, 1) := by decide +kernel
theorem dX9_putBackInRow_2 : decode prog_11_method_40_code 2 = .ok (.iload_n 2, 1) := by decide +kernel
theorem dX9_putBackInRow_3 : decode prog_11_method_40_code 3 = .ok (.aload_n 0, 1) := by decide +kernel
theorem dX9_putBackInRow_4 : decode prog_11_method_40_code 4 = .ok (.getfield 207, 3) := by decide +kernel
theorem dX9_putBackInRow_7 : decode prog_11_method_40_code 7 = .ok (.if_icmp .ge 113, 3) := by decide +kernel
theorem dX9_putBackInRow_10 : decode prog_11_method_40_code 10 = .ok (.aload_n 0, 1) := by decide +kernel
theorem dX9_putBackInRow_11 : decode prog_11_method_40_code 11 = .ok (.getfield 53, 3) := by decide +kernel
theorem dX9_putBackInRow_14 : decode prog_11_method_40_code 14 = .ok (.iload_n 2, 1) := by decide +kernel
theorem dX9_putBackInRow_15 : decode prog_11_method_40_code 15 = .ok (.iaload, 1) := by decide +kernel
theorem dX9_putBackInRow_16 : decode prog_11_method_40_code 16 = .ok (.bipush 16, 2) := by decide +kernel
theorem dX9_putBackInRow_18 : decode prog_11_method_40_code 18 = .ok (.iload_n 1, 1) := by decide +kernel
theorem dX9_putBackInRow_19 : decode prog_11_method_40_code 19 = .ok (.iadd, 1) := by decide +kernel
theorem dX9_putBackInRow_20 : decode prog_11_method_40_code 20 = .ok (.if_icmp .ne 94, 3) := by decide +kernel
theorem dX9_putBackInRow_23 : decode prog_11_method_40_code 23 = .ok (.aload_n 0, 1) := by decide +kernel
theorem dX9_putBackInRow_24 : decode prog_11_method_40_code 24 = .ok (.getfield 56, 3) := by decide +kernel
theorem dX9_putBackInRow_27 : decode prog_11_method_40_code 27 = .ok (.iload_n 1, 1) := by decide +kernel
theorem dX9_putBackInRow_28 : decode prog_11_method_40_code 28 = .ok (.iaload, 1) := by decide +kernel
theorem dX9_putBackInRow_29 : decode prog_11_method_40_code 29 = .ok (.iconst 1, 1) := by decide +kernel
theorem dX9_putBackInRow_30 : decode prog_11_method_40_code 30 = .ok (.isub, 1) := by decide +kernel
theorem dX9_putBackInRow_31 : decode prog_11_method_40_code 31 = .ok (.istore_n 3, 1) := by decide +kernel
theorem dX9_putBackInRow_32 : decode prog_11_method_40_code 32 = .ok (.aload_n 0, 1) := by decide +kernel
theorem dX9_putBackInRow_33 : decode prog_11_method_40_code 33 = .ok (.getfield 207, 3) := by decide +kernel
theorem dX9_putBackInRow_36 : decode prog_11_method_40_code 36 = .ok (.iconst 1, 1) := by decide +kernel
theorem dX9_putBackInRow_37 : decode prog_11_method_40_code 37 = .ok (.isub, 1) := by decide +kernel
theorem dX9_putBackInRow_38 : decode prog_11_method_40_code 38 = .ok (.istore 4, 2) := by decide +kernel
theorem dX9_putBackInRow_40 : decode prog_11_method_40_code 40 = .ok (.iload 4, 2) := by decide +kernel
theorem dX9_putBackInRow_42 : decode prog_11_method_40_code 42 = .ok (.iload_n 2, 1) := by decide +kernel
theorem dX9_putBackInRow_43 : decode prog_11_method_40_code 43 = .ok (.if_icmp .le 25, 3) := by decide +kernel
theorem dX9_putBackInRow_46 : decode prog_11_method_40_code 46 = .ok (.aload_n 0, 1) := by decide +kernel
theorem dX9_putBackInRow_47 : decode prog_11_method_40_code 47 = .ok (.getfield 53, 3) := by decide +kernel
theorem dX9_putBackInRow_50 : decode prog_11_method_40_code 50 = .ok (.iload 4, 2) := by decide +kernel
theorem dX9_putBackInRow_52 : decode prog_11_method_40_code 52 = .ok (.iload_n 3, 1) := by decide +kernel
theorem dX9_putBackInRow_53 : decode prog_11_method_40_code 53 = .ok (.iadd, 1) := by decide +kernel
theorem dX9_putBackInRow_54 : decode prog_11_method_40_code 54 = .ok (.aload_n 0, 1) := by decide +kernel
theorem dX9_putBackInRow_55 : decode prog_11_method_40_code 55 = .ok (.getfield 53, 3) := by decide +kernel
theorem dX9_putBackInRow_58 : decode prog_11_method_40_code 58 = .ok (.iload 4, 2) := by decide +kernel
theorem dX9_putBackInRow_60 : decode prog_11_method_40_code 60 = .ok (.iaload, 1) := by decide +kernel
theorem dX9_putBackInRow_61 : decode prog_11_method_40_code 61 = .ok (.iastore, 1) := by decide +kernel
theorem dX9_putBackInRow_62 : decode prog_11_method_40_code 62 = .ok (.iinc 4 (-1), 3) := by decide +kernel
theorem dX9_putBackInRow_65 : decode prog_11_method_40_code 65 = .ok (.goto (-25), 3) := by decide +kernel
theorem dX9_putBackInRow_68 : decode prog_11_method_40_code 68 = .ok (.iconst 0, 1) := by decide +kernel
theorem dX9_putBackInRow_69 : decode prog_11_method_40_code 69 = .ok (.istore 4, 2) := by decide +kernel
theorem dX9_putBackInRow_71 : decode prog_11_method_40_code 71 = .ok (.iload 4, 2) := by decide +kernel
theorem dX9_putBackInRow_73 : decode prog_11_method_40_code 73 = .ok (.iload_n 3, 1) := by decide +kernel
theorem dX9_putBackInRow_74 : decode prog_11_method_40_code 74 = .ok (.if_icmp .gt 30, 3) := by decide +kernel
theorem dX9_putBackInRow_77 : decode prog_11_method_40_code 77 = .ok (.aload_n 0, 1) := by decide +kernel
theorem dX9_putBackInRow_78 : decode prog_11_method_40_code 78 = .ok (.getfield 53, 3) := by decide +kernel
theorem dX9_putBackInRow_81 : decode prog_11_method_40_code 81 = .ok (.iload_n 2, 1) := by decide +kernel
theorem dX9_putBackInRow_82 : decode prog_11_method_40_code 82 = .ok (.iload 4, 2) := by decide +kernel
theorem dX9_putBackInRow_84 : decode prog_11_method_40_code 84 = .ok (.iadd, 1) := by decide +kernel
theorem dX9_putBackInRow_85 : decode prog_11_method_40_code 85 = .ok (.aload_n 0, 1) := by decide +kernel
theorem dX9_putBackInRow_86 : decode prog_11_method_40_code 86 = .ok (.getfield 59, 3) := by decide +kernel
theorem dX9_putBackInRow_89 : decode prog_11_method_40_code 89 = .ok (.bipush 24, 2) := by decide +kernel
theorem dX9_putBackInRow_91 : decode prog_11_method_40_code 91 = .ok (.iload_n 1, 1) := by decide +kernel
theorem dX9_putBackInRow_92 : decode prog_11_method_40_code 92 = .ok (.imul, 1) := by decide +kernel
theorem dX9_putBackInRow_93 : decode prog_11_method_40_code 93 = .ok (.iload 4, 2) := by decide +kernel
theorem dX9_putBackInRow_95 : decode prog_11_method_40_code 95 = .ok (.iadd, 1) := by decide +kernel
theorem dX9_putBackInRow_96 : decode prog_11_method_40_code 96 = .ok (.iaload, 1) := by decide +kernel
theorem dX9_putBackInRow_97 : decode prog_11_method_40_code 97 = .ok (.iastore, 1) := by decide +kernel
theorem dX9_putBackInRow_98 : decode prog_11_method_40_code 98 = .ok (.iinc 4 1, 3) := by decide +kernel
theorem dX9_putBackInRow_101 : decode prog_11_method_40_code 101 = .ok (.goto (-30), 3) := by decide +kernel
theorem dX9_putBackInRow_104 : decode prog_11_method_40_code 104 = .ok (.aload_n 0, 1) := by decide +kernel
theorem dX9_putBackInRow_105 : decode prog_11_method_40_code 105 = .ok (.dup, 1) := by decide +kernel
theorem dX9_putBackInRow_106 : decode prog_11_method_40_code 106 = .ok (.getfield 207, 3) := by decide +kernel
theorem dX9_putBackInRow_109 : decode prog_11_method_40_code 109 = .ok (.iload_n 3, 1) := by decide +kernel
theorem dX9_putBackInRow_110 : decode prog_11_method_40_code 110 = .ok (.iadd, 1) := by decide +kernel
theorem dX9_putBackInRow_111 : decode prog_11_method_40_code 111 = .ok (.putfield 207, 3) := by decide +kernel
theorem dX9_putBackInRow_114 : decode prog_11_method_40_code 114 = .ok (.iinc 2 1, 3) := by decide +kernel
theorem dX9_putBackInRow_117 : decode prog_11_method_40_code 117 = .ok (.goto (-115), 3) := by decide +kernel
theorem dX9_putBackInRow_120 : decode prog_11_method_40_code 120 = .ok (.return_, 1) := by decide +kernel
abbrev M_X9_putBackIn : am_M := ((⟨"SignCellarModel", "putBackIn", "(II)V"⟩ : MethodName), prog_11_method_41_code, 6, none, 0, 0)
theorem dX9_putBackIn_0 : decode prog_11_method_41_code 0 = .ok (.iconst 0, 1) := by decide +kernel
theorem dX9_putBackIn_1 : decode prog_11_method_41_code 1 = .ok (.istore_n 3, 1) := by decide +kernel
theorem dX9_putBackIn_2 : decode prog_11_method_41_code 2 = .ok (.iload_n 3, 1) := by decide +kernel
theorem dX9_putBackIn_3 : decode prog_11_method_41_code 3 = .ok (.aload_n 0, 1) := by decide +kernel
theorem dX9_putBackIn_4 : decode prog_11_method_41_code 4 = .ok (.getfield 56, 3) := by decide +kernel
theorem dX9_putBackIn_7 : decode prog_11_method_41_code 7 = .ok (.iload_n 1, 1) := by decide +kernel
theorem dX9_putBackIn_8 : decode prog_11_method_41_code 8 = .ok (.iaload, 1) := by decide +kernel
theorem dX9_putBackIn_9 : decode prog_11_method_41_code 9 = .ok (.if_icmp .ge 139, 3) := by decide +kernel
theorem dX9_putBackIn_12 : decode prog_11_method_41_code 12 = .ok (.aload_n 0, 1) := by decide +kernel
theorem dX9_putBackIn_13 : decode prog_11_method_41_code 13 = .ok (.getfield 59, 3) := by decide +kernel
theorem dX9_putBackIn_16 : decode prog_11_method_41_code 16 = .ok (.bipush 24, 2) := by decide +kernel
theorem dX9_putBackIn_18 : decode prog_11_method_41_code 18 = .ok (.iload_n 1, 1) := by decide +kernel
theorem dX9_putBackIn_19 : decode prog_11_method_41_code 19 = .ok (.imul, 1) := by decide +kernel
theorem dX9_putBackIn_20 : decode prog_11_method_41_code 20 = .ok (.iload_n 3, 1) := by decide +kernel
theorem dX9_putBackIn_21 : decode prog_11_method_41_code 21 = .ok (.iadd, 1) := by decide +kernel
theorem dX9_putBackIn_22 : decode prog_11_method_41_code 22 = .ok (.iaload, 1) := by decide +kernel
theorem dX9_putBackIn_23 : decode prog_11_method_41_code 23 = .ok (.bipush 16, 2) := by decide +kernel
theorem dX9_putBackIn_25 : decode prog_11_method_41_code 25 = .ok (.iload_n 2, 1) := by decide +kernel
theorem dX9_putBackIn_26 : decode prog_11_method_41_code 26 = .ok (.iadd, 1) := by decide +kernel
theorem dX9_putBackIn_27 : decode prog_11_method_41_code 27 = .ok (.if_icmp .ne 115, 3) := by decide +kernel
theorem dX9_putBackIn_30 : decode prog_11_method_41_code 30 = .ok (.aload_n 0, 1) := by decide +kernel
theorem dX9_putBackIn_31 : decode prog_11_method_41_code 31 = .ok (.getfield 56, 3) := by decide +kernel
theorem dX9_putBackIn_34 : decode prog_11_method_41_code 34 = .ok (.iload_n 2, 1) := by decide +kernel
theorem dX9_putBackIn_35 : decode prog_11_method_41_code 35 = .ok (.iaload, 1) := by decide +kernel
theorem dX9_putBackIn_36 : decode prog_11_method_41_code 36 = .ok (.iconst 1, 1) := by decide +kernel
theorem dX9_putBackIn_37 : decode prog_11_method_41_code 37 = .ok (.isub, 1) := by decide +kernel
theorem dX9_putBackIn_38 : decode prog_11_method_41_code 38 = .ok (.istore 4, 2) := by decide +kernel
theorem dX9_putBackIn_40 : decode prog_11_method_41_code 40 = .ok (.aload_n 0, 1) := by decide +kernel
theorem dX9_putBackIn_41 : decode prog_11_method_41_code 41 = .ok (.getfield 56, 3) := by decide +kernel
theorem dX9_putBackIn_44 : decode prog_11_method_41_code 44 = .ok (.iload_n 1, 1) := by decide +kernel
theorem dX9_putBackIn_45 : decode prog_11_method_41_code 45 = .ok (.iaload, 1) := by decide +kernel
theorem dX9_putBackIn_46 : decode prog_11_method_41_code 46 = .ok (.iconst 1, 1) := by decide +kernel
theorem dX9_putBackIn_47 : decode prog_11_method_41_code 47 = .ok (.isub, 1) := by decide +kernel
theorem dX9_putBackIn_48 : decode prog_11_method_41_code 48 = .ok (.istore 5, 2) := by decide +kernel
theorem dX9_putBackIn_50 : decode prog_11_method_41_code 50 = .ok (.iload 5, 2) := by decide +kernel
theorem dX9_putBackIn_52 : decode prog_11_method_41_code 52 = .ok (.iload_n 3, 1) := by decide +kernel
theorem dX9_putBackIn_53 : decode prog_11_method_41_code 53 = .ok (.if_icmp .le 36, 3) := by decide +kernel
theorem dX9_putBackIn_56 : decode prog_11_method_41_code 56 = .ok (.aload_n 0, 1) := by decide +kernel
theorem dX9_putBackIn_57 : decode prog_11_method_41_code 57 = .ok (.getfield 59, 3) := by decide +kernel
theorem dX9_putBackIn_60 : decode prog_11_method_41_code 60 = .ok (.bipush 24, 2) := by decide +kernel
theorem dX9_putBackIn_62 : decode prog_11_method_41_code 62 = .ok (.iload_n 1, 1) := by decide +kernel
theorem dX9_putBackIn_63 : decode prog_11_method_41_code 63 = .ok (.imul, 1) := by decide +kernel
theorem dX9_putBackIn_64 : decode prog_11_method_41_code 64 = .ok (.iload 5, 2) := by decide +kernel
theorem dX9_putBackIn_66 : decode prog_11_method_41_code 66 = .ok (.iadd, 1) := by decide +kernel
theorem dX9_putBackIn_67 : decode prog_11_method_41_code 67 = .ok (.iload 4, 2) := by decide +kernel
theorem dX9_putBackIn_69 : decode prog_11_method_41_code 69 = .ok (.iadd, 1) := by decide +kernel
theorem dX9_putBackIn_70 : decode prog_11_method_41_code 70 = .ok (.aload_n 0, 1) := by decide +kernel
theorem dX9_putBackIn_71 : decode prog_11_method_41_code 71 = .ok (.getfield 59, 3) := by decide +kernel
theorem dX9_putBackIn_74 : decode prog_11_method_41_code 74 = .ok (.bipush 24, 2) := by decide +kernel
theorem dX9_putBackIn_76 : decode prog_11_method_41_code 76 = .ok (.iload_n 1, 1) := by decide +kernel
theorem dX9_putBackIn_77 : decode prog_11_method_41_code 77 = .ok (.imul, 1) := by decide +kernel
theorem dX9_putBackIn_78 : decode prog_11_method_41_code 78 = .ok (.iload 5, 2) := by decide +kernel
theorem dX9_putBackIn_80 : decode prog_11_method_41_code 80 = .ok (.iadd, 1) := by decide +kernel
theorem dX9_putBackIn_81 : decode prog_11_method_41_code 81 = .ok (.iaload, 1) := by decide +kernel
theorem dX9_putBackIn_82 : decode prog_11_method_41_code 82 = .ok (.iastore, 1) := by decide +kernel
theorem dX9_putBackIn_83 : decode prog_11_method_41_code 83 = .ok (.iinc 5 (-1), 3) := by decide +kernel
theorem dX9_putBackIn_86 : decode prog_11_method_41_code 86 = .ok (.goto (-36), 3) := by decide +kernel
theorem dX9_putBackIn_89 : decode prog_11_method_41_code 89 = .ok (.iconst 0, 1) := by decide +kernel
theorem dX9_putBackIn_90 : decode prog_11_method_41_code 90 = .ok (.istore 5, 2) := by decide +kernel
theorem dX9_putBackIn_92 : decode prog_11_method_41_code 92 = .ok (.iload 5, 2) := by decide +kernel
theorem dX9_putBackIn_94 : decode prog_11_method_41_code 94 = .ok (.iload 4, 2) := by decide +kernel
theorem dX9_putBackIn_96 : decode prog_11_method_41_code 96 = .ok (.if_icmp .gt 35, 3) := by decide +kernel
theorem dX9_putBackIn_99 : decode prog_11_method_41_code 99 = .ok (.aload_n 0, 1) := by decide +kernel
theorem dX9_putBackIn_100 : decode prog_11_method_41_code 100 = .ok (.getfield 59, 3) := by decide +kernel
theorem dX9_putBackIn_103 : decode prog_11_method_41_code 103 = .ok (.bipush 24, 2) := by decide +kernel
theorem dX9_putBackIn_105 : decode prog_11_method_41_code 105 = .ok (.iload_n 1, 1) := by decide +kernel
theorem dX9_putBackIn_106 : decode prog_11_method_41_code 106 = .ok (.imul, 1) := by decide +kernel
theorem dX9_putBackIn_107 : decode prog_11_method_41_code 107 = .ok (.iload_n 3, 1) := by decide +kernel
theorem dX9_putBackIn_108 : decode prog_11_method_41_code 108 = .ok (.iadd, 1) := by decide +kernel
theorem dX9_putBackIn_109 : decode prog_11_method_41_code 109 = .ok (.iload 5, 2) := by decide +kernel
theorem dX9_putBackIn_111 : decode prog_11_method_41_code 111 = .ok (.iadd, 1) := by decide +kernel
theorem dX9_putBackIn_112 : decode prog_11_method_41_code 112 = .ok (.aload_n 0, 1) := by decide +kernel
theorem dX9_putBackIn_113 : decode prog_11_method_41_code 113 = .ok (.getfield 59, 3) := by decide +kernel
theorem dX9_putBackIn_116 : decode prog_11_method_41_code 116 = .ok (.bipush 24, 2) := by decide +kernel
theorem dX9_putBackIn_118 : decode prog_11_method_41_code 118 = .ok (.iload_n 2, 1) := by decide +kernel
theorem dX9_putBackIn_119 : decode prog_11_method_41_code 119 = .ok (.imul, 1) := by decide +kernel
theorem dX9_putBackIn_120 : decode prog_11_method_41_code 120 = .ok (.iload 5, 2) := by decide +kernel
theorem dX9_putBackIn_122 : decode prog_11_method_41_code 122 = .ok (.iadd, 1) := by decide +kernel
theorem dX9_putBackIn_123 : decode prog_11_method_41_code 123 = .ok (.iaload, 1) := by decide +kernel
theorem dX9_putBackIn_124 : decode prog_11_method_41_code 124 = .ok (.iastore, 1) := by decide +kernel
theorem dX9_putBackIn_125 : decode prog_11_method_41_code 125 = .ok (.iinc 5 1, 3) := by decide +kernel
theorem dX9_putBackIn_128 : decode prog_11_method_41_code 128 = .ok (.goto (-36), 3) := by decide +kernel
theorem dX9_putBackIn_131 : decode prog_11_method_41_code 131 = .ok (.aload_n 0, 1) := by decide +kernel
theorem dX9_putBackIn_132 : decode prog_11_method_41_code 132 = .ok (.getfield 56, 3) := by decide +kernel
theorem dX9_putBackIn_135 : decode prog_11_method_41_code 135 = .ok (.iload_n 1, 1) := by decide +kernel
theorem dX9_putBackIn_136 : decode prog_11_method_41_code 136 = .ok (.dup2, 1) := by decide +kernel
theorem dX9_putBackIn_137 : decode prog_11_method_41_code 137 = .ok (.iaload, 1) := by decide +kernel
theorem dX9_putBackIn_138 : decode prog_11_method_41_code 138 = .ok (.iload 4, 2) := by decide +kernel
theorem dX9_putBackIn_140 : decode prog_11_method_41_code 140 = .ok (.iadd, 1) := by decide +kernel
theorem dX9_putBackIn_141 : decode prog_11_method_41_code 141 = .ok (.iastore, 1) := by decide +kernel
theorem dX9_putBackIn_142 : decode prog_11_method_41_code 142 = .ok (.iinc 3 1, 3) := by decide +kernel
theorem dX9_putBackIn_145 : decode prog_11_method_41_code 145 = .ok (.goto (-143), 3) := by decide +kernel
theorem dX9_putBackIn_148 : decode prog_11_method_41_code 148 = .ok (.return_, 1) := by decide +kernel
theorem fw_X9_207 : am_fw "SignCellarModel" 207 9 24 := ⟨(RX9, TX9, 42), rfl, by decide, inX9, Or.inl wd_4_124⟩
theorem fw_X9_53 : am_fw "SignCellarModel" 53 9 23 := ⟨(RX9, TX9, 42), rfl, by decide, inX9, Or.inl wd_4_123⟩
def F_X9_standsTwice_67 (k5 : Nat → Int32 → Int32 → Int32 → Int32 → am_H → Option Int32) (v0 : Nat) (v1 : Int32) (v2 : Int32) (v3 : Int32) (s0 : Int32) (s1 : Int32) (h : am_H) : Option Int32 :=
  k5 v0 v1 v2 v3 (s0 + s1) h
theorem w_X9_standsTwice_67 {g : am_G} {l : Launch} {h0 : am_H} {x : Int32}  {k5 : Nat → Int32 → Int32 → Int32 → Int32 → am_H → Option Int32} (j5 : ∀ (v0 : Nat) (v1 : Int32) (v2 : Int32) (v3 : Int32) (v4 : Int32) (h : am_H), k5 v0 v1 v2 v3 v4 h = some x → am_W g l M_X9_standsTwice h0 (some (.int x)) h 5 [some (.ref v0), some (.int v1), some (.int v2), some (.int v3), some (.int v4), none] [] h) (v0 : Nat) (v1 : Int32) (v2 : Int32) (v3 : Int32) (s0 : Int32) (s1 : Int32) (h : am_H) (hF : F_X9_standsTwice_67 k5 v0 v1 v2 v3 s0 s1 h = some x) : am_W g l M_X9_standsTwice h0 (some (.int x)) h 67 [some (.ref v0), some (.int v1), some (.int v2), some (.int v3), none, none] [.int s1, .int s0] h := by
  unfold F_X9_standsTwice_67 at hF
  refine am_iadd (pc' := 68) dX9_standsTwice_67 rfl ?_
  refine am_istore (ls' := [some (.ref v0), some (.int v1), some (.int v2), some (.int v3), some (.int (s0 + s1)), none]) (pc' := 70) dX9_standsTwice_68 (Nat.le_of_ble_eq_true rfl) rfl rfl ?_
  refine am_goto (pc' := 5) dX9_standsTwice_70 rfl ?_
  exact j5 v0 v1 v2 v3 (s0 + s1) h hF
def F_X9_standsTwice_45 (k5 : Nat → Int32 → Int32 → Int32 → Int32 → am_H → Option Int32) (v0 : Nat) (v1 : Int32) (v2 : Int32) (v3 : Int32) (v4 : Int32) (s0 : Int32) (h : am_H) : Option Int32 :=
  (F_X9_one s0 h).bind fun x1 =>
  if s0 = 0 then
    F_X9_standsTwice_67 k5 v0 v1 v2 (v3 + x1) v4 (1 : Int32) h
  else
    F_X9_standsTwice_67 k5 v0 v1 v2 (v3 + x1) v4 (2 : Int32) h
theorem w_X9_standsTwice_45 {g : am_G} {l : Launch} {h0 : am_H} {x : Int32}  {k5 : Nat → Int32 → Int32 → Int32 → Int32 → am_H → Option Int32} (j5 : ∀ (v0 : Nat) (v1 : Int32) (v2 : Int32) (v3 : Int32) (v4 : Int32) (h : am_H), k5 v0 v1 v2 v3 v4 h = some x → am_W g l M_X9_standsTwice h0 (some (.int x)) h 5 [some (.ref v0), some (.int v1), some (.int v2), some (.int v3), some (.int v4), none] [] h) (v0 : Nat) (v1 : Int32) (v2 : Int32) (v3 : Int32) (v4 : Int32) (s0 : Int32) (h : am_H) (hF : F_X9_standsTwice_45 k5 v0 v1 v2 v3 v4 s0 h = some x) : am_W g l M_X9_standsTwice h0 (some (.int x)) h 45 [some (.ref v0), some (.int v1), some (.int v2), some (.int v3), some (.int v4), none] [.int s0] h := by
  unfold F_X9_standsTwice_45 at hF
  refine am_istore (ls' := [some (.ref v0), some (.int v1), some (.int v2), some (.int v3), some (.int v4), some (.int s0)]) (pc' := 47) dX9_standsTwice_45 (Nat.le_of_ble_eq_true rfl) rfl rfl ?_
  refine am_iload_n (pc' := 48) dX9_standsTwice_47 rfl rfl ?_
  refine am_iload (pc' := 50) dX9_standsTwice_48 rfl rfl ?_
  obtain ⟨x1, ex1, hF⟩ := am_bind hF
  refine am_callS1 (Mc := M_X9_one) (As := [.int s0]) (st := [.int v3]) (pc' := 53) dX9_standsTwice_50 cw_X9_150 wd_5_53 (by decide) (by decide) rfl rfl (Nat.le_of_ble_eq_true rfl) (c_X9_one ex1) rfl ?_
  refine am_iadd (pc' := 54) dX9_standsTwice_53 rfl ?_
  refine am_istore_n (ls' := [some (.ref v0), some (.int v1), some (.int v2), some (.int (v3 + x1)), some (.int v4), some (.int s0)]) (pc' := 55) dX9_standsTwice_54 (Nat.le_of_ble_eq_true rfl) rfl rfl ?_
  refine am_iload (pc' := 57) dX9_standsTwice_55 rfl rfl ?_
  refine am_iload (pc' := 59) dX9_standsTwice_57 rfl rfl ?_
  rcases am_ite hF with ⟨z2, hF⟩ | ⟨z2, hF⟩
  · refine am_if_eq_t (pc' := 66) dX9_standsTwice_59 rfl z2 ?_
    refine am_iconst (v := (1 : Int32)) (pc' := 67) dX9_standsTwice_66 rfl rfl ?_
    exact am_weak [true, true, true, true, false, false] (w_X9_standsTwice_67 j5 v0 v1 v2 (v3 + x1) v4 (1 : Int32) h hF)
  · refine am_if_eq_f (pc' := 62) (tgt := 66) dX9_standsTwice_59 rfl z2 rfl ?_
    refine am_iconst (v := (2 : Int32)) (pc' := 63) dX9_standsTwice_62 rfl rfl ?_
    refine am_goto (pc' := 67) dX9_standsTwice_63 rfl ?_
    exact am_weak [true, true, true, true, false, false] (w_X9_standsTwice_67 j5 v0 v1 v2 (v3 + x1) v4 (2 : Int32) h hF)
def F_X9_standsTwice_44 (k5 : Nat → Int32 → Int32 → Int32 → Int32 → am_H → Option Int32) (v0 : Nat) (v1 : Int32) (v2 : Int32) (v3 : Int32) (v4 : Int32) (h : am_H) : Option Int32 :=
  F_X9_standsTwice_45 k5 v0 v1 v2 v3 v4 (0 : Int32) h
theorem w_X9_standsTwice_44 {g : am_G} {l : Launch} {h0 : am_H} {x : Int32}  {k5 : Nat → Int32 → Int32 → Int32 → Int32 → am_H → Option Int32} (j5 : ∀ (v0 : Nat) (v1 : Int32) (v2 : Int32) (v3 : Int32) (v4 : Int32) (h : am_H), k5 v0 v1 v2 v3 v4 h = some x → am_W g l M_X9_standsTwice h0 (some (.int x)) h 5 [some (.ref v0), some (.int v1), some (.int v2), some (.int v3), some (.int v4), none] [] h) (v0 : Nat) (v1 : Int32) (v2 : Int32) (v3 : Int32) (v4 : Int32) (h : am_H) (hF : F_X9_standsTwice_44 k5 v0 v1 v2 v3 v4 h = some x) : am_W g l M_X9_standsTwice h0 (some (.int x)) h 44 [some (.ref v0), some (.int v1), some (.int v2), some (.int v3), some (.int v4), none] [] h := by
  unfold F_X9_standsTwice_44 at hF
  refine am_iconst (v := (0 : Int32)) (pc' := 45) dX9_standsTwice_44 rfl rfl ?_
  exact w_X9_standsTwice_45 j5 v0 v1 v2 v3 v4 (0 : Int32) h hF
def F_X9_standsTwice_5 : Nat → Nat → Int32 → Int32 → Int32 → Int32 → am_H → Option Int32
  | 0, _, _, _, _, _, _ => none
  | n + 1, v0, v1, v2, v3, v4, h =>
  (am_gi 9 24 v0 h).bind fun x1 =>
  if x1 ≤ (v4 + (1 : Int32)) then
    some v3
  else
    (am_gr 9 23 v0 h).bind fun x3 =>
    (am_il 0 x3 v4 h).bind fun x4 =>
    if x4 = v1 then
      (am_gr 9 23 v0 h).bind fun x6 =>
      (am_il 0 x6 (v4 + (1 : Int32)) h).bind fun x7 =>
      if x7 = v2 then
        F_X9_standsTwice_45 (F_X9_standsTwice_5 n) v0 v1 v2 v3 v4 (1 : Int32) h
      else
        F_X9_standsTwice_44 (F_X9_standsTwice_5 n) v0 v1 v2 v3 v4 h
    else
      F_X9_standsTwice_44 (F_X9_standsTwice_5 n) v0 v1 v2 v3 v4 h
theorem w_X9_standsTwice_5 {g : am_G} {l : Launch} {h0 : am_H} {x : Int32}  : ∀ (n : Nat) (v0 : Nat) (v1 : Int32) (v2 : Int32) (v3 : Int32) (v4 : Int32) (h : am_H), F_X9_standsTwice_5 n v0 v1 v2 v3 v4 h = some x → am_W g l M_X9_standsTwice h0 (some (.int x)) h 5 [some (.ref v0), some (.int v1), some (.int v2), some (.int v3), some (.int v4), none] [] h
  | 0, _, _, _, _, _, _, hF => by cases hF
  | n + 1, v0, v1, v2, v3, v4, h, hF => by
    rw [F_X9_standsTwice_5] at hF
    refine am_iload (pc' := 7) dX9_standsTwice_5 rfl rfl ?_
    refine am_iconst (v := (1 : Int32)) (pc' := 8) dX9_standsTwice_7 rfl rfl ?_
    refine am_iadd (pc' := 9) dX9_standsTwice_8 rfl ?_
    refine am_aload_n (pc' := 10) dX9_standsTwice_9 rfl rfl ?_
    obtain ⟨x1, ex1, hF⟩ := am_bind hF
    refine am_geti (pc' := 13) dX9_standsTwice_10 fw_X9_207 ex1 rfl ?_
    rcases am_ite hF with ⟨z2, hF⟩ | ⟨z2, hF⟩
    · refine am_icmp_ge_t (pc' := 73) dX9_standsTwice_13 rfl z2 ?_
      refine am_iload_n (pc' := 74) dX9_standsTwice_73 rfl rfl ?_
      cases hF
      exact am_iret dX9_standsTwice_74 rfl rfl
    · refine am_icmp_ge_f (pc' := 16) (tgt := 73) dX9_standsTwice_13 rfl z2 rfl ?_
      refine am_aload_n (pc' := 17) dX9_standsTwice_16 rfl rfl ?_
      obtain ⟨x3, ex3, hF⟩ := am_bind hF
      refine am_getr (pc' := 20) dX9_standsTwice_17 fw_X9_53 ex3 rfl ?_
      refine am_iload (pc' := 22) dX9_standsTwice_20 rfl rfl ?_
      obtain ⟨x4, ex4, hF⟩ := am_bind hF
      refine am_iald (pc' := 23) dX9_standsTwice_22 ex4 rfl ?_
      refine am_iload_n (pc' := 24) dX9_standsTwice_23 rfl rfl ?_
      rcases am_ite hF with ⟨z5, hF⟩ | ⟨z5, hF⟩
      · refine am_icmp_ne_f (pc' := 27) (tgt := 44) dX9_standsTwice_24 rfl z5 rfl ?_
        refine am_aload_n (pc' := 28) dX9_standsTwice_27 rfl rfl ?_
        obtain ⟨x6, ex6, hF⟩ := am_bind hF
        refine am_getr (pc' := 31) dX9_standsTwice_28 fw_X9_53 ex6 rfl ?_
        refine am_iload (pc' := 33) dX9_standsTwice_31 rfl rfl ?_
        refine am_iconst (v := (1 : Int32)) (pc' := 34) dX9_standsTwice_33 rfl rfl ?_
        refine am_iadd (pc' := 35) dX9_standsTwice_34 rfl ?_
        obtain ⟨x7, ex7, hF⟩ := am_bind hF
        refine am_iald (pc' := 36) dX9_standsTwice_35 ex7 rfl ?_
        refine am_iload_n (pc' := 37) dX9_standsTwice_36 rfl rfl ?_
        rcases am_ite hF with ⟨z8, hF⟩ | ⟨z8, hF⟩
        · refine am_icmp_ne_f (pc' := 40) (tgt := 44) dX9_standsTwice_37 rfl z8 rfl ?_
          refine am_iconst (v := (1 : Int32)) (pc' := 41) dX9_standsTwice_40 rfl rfl ?_
          refine am_goto (pc' := 45) dX9_standsTwice_41 rfl ?_
          exact w_X9_standsTwice_45 (w_X9_standsTwice_5 n) v0 v1 v2 v3 v4 (1 : Int32) h hF
        · refine am_icmp_ne_t (pc' := 44) dX9_standsTwice_37 rfl z8 ?_
          exact w_X9_standsTwice_44 (w_X9_standsTwice_5 n) v0 v1 v2 v3 v4 h hF
      · refine am_icmp_ne_t (pc' := 44) dX9_standsTwice_24 rfl z5 ?_
        exact w_X9_standsTwice_44 (w_X9_standsTwice_5 n) v0 v1 v2 v3 v4 h hF
def F_X9_standsTwice_b (v0 : Nat) (v1 : Int32) (v2 : Int32) (h : am_H) : Option Int32 :=
  F_X9_standsTwice_5 am_F v0 v1 v2 (0 : Int32) (0 : Int32) h
theorem w_X9_standsTwice {g : am_G} {l : Launch} {h0 : am_H} {x : Int32}  (v0 : Nat) (v1 : Int32) (v2 : Int32) (h : am_H) (hF : F_X9_standsTwice_b v0 v1 v2 h = some x) : am_W g l M_X9_standsTwice h0 (some (.int x)) h 0 [some (.ref v0), some (.int v1), some (.int v2), none, none, none] [] h := by
  unfold F_X9_standsTwice_b at hF
  refine am_iconst (v := (0 : Int32)) (pc' := 1) dX9_standsTwice_0 rfl rfl ?_
  refine am_istore_n (ls' := [some (.ref v0), some (.int v1), some (.int v2), some (.int (0 : Int32)), none, none]) (pc' := 2) dX9_standsTwice_1 (Nat.le_of_ble_eq_true rfl) rfl rfl ?_
  refine am_iconst (v := (0 : Int32)) (pc' := 3) dX9_standsTwice_2 rfl rfl ?_
  refine am_istore (ls' := [some (.ref v0), some (.int v1), some (.int v2), some (.int (0 : Int32)), some (.int (0 : Int32)), none]) (pc' := 5) dX9_standsTwice_3 (Nat.le_of_ble_eq_true rfl) rfl rfl ?_
  exact w_X9_standsTwice_5 am_F v0 v1 v2 (0 : Int32) (0 : Int32) h hF
def F_X9_standsTwice (v0 : Nat) (v1 : Int32) (v2 : Int32) (h : am_H) : Option Int32 := (am_obj v0 9 h).bind fun _ => F_X9_standsTwice_b v0 v1 v2 h
theorem t_X9_standsTwice {x : Int32}  {v0 : Nat} {v1 : Int32} {v2 : Int32} {h : am_H} (hF : F_X9_standsTwice v0 v1 v2 h = some x) : ∃ fs, am_obj v0 9 h = some fs := by
  obtain ⟨fs, e, _⟩ := am_bind hF
  exact ⟨fs, e⟩
theorem c_X9_standsTwice {g : am_G} {l : Launch} {x : Int32}  {v0 : Nat} {v1 : Int32} {v2 : Int32} {h : am_H} (hF : F_X9_standsTwice v0 v1 v2 h = some x) : am_Met g l M_X9_standsTwice [.ref v0, .int v1, .int v2] h (some (.int x)) h := by
  obtain ⟨fs, e0, e⟩ := am_bind hF
  exact am_met (n := 3) (by decide +kernel) rfl (Nat.le_of_ble_eq_true rfl) (w_X9_standsTwice v0 v1 v2 h e)
theorem fw_X9_210 : am_fw "SignCellarModel" 210 9 25 := ⟨(RX9, TX9, 42), rfl, by decide, inX9, Or.inl wd_4_125⟩
theorem fw_X9_56 : am_fw "SignCellarModel" 56 9 26 := ⟨(RX9, TX9, 42), rfl, by decide, inX9, Or.inl wd_4_126⟩
theorem fw_X9_59 : am_fw "SignCellarModel" 59 9 27 := ⟨(RX9, TX9, 42), rfl, by decide, inX9, Or.inl wd_4_127⟩
theorem fx_X9_207 {nm : String} : am_fx "SignCellarModel" 207 9 24 .int nm := ⟨(RX9, TX9, 42), tyX9, rfl, by decide, inX9, tyX9_ok, nmX9, rfl, Or.inl ⟨wd_4_124, Or.inl rfl⟩⟩
theorem fx_X9_210 {nm : String} : am_fx "SignCellarModel" 210 9 25 .int nm := ⟨(RX9, TX9, 42), tyX9, rfl, by decide, inX9, tyX9_ok, nmX9, rfl, Or.inl ⟨wd_4_125, Or.inl rfl⟩⟩
def F_X9_growRule_142 (k50 : Nat → Int32 → Int32 → Int32 → Int32 → Int32 → am_H → Option am_H) (v0 : Nat) (v1 : Int32) (v2 : Int32) (v3 : Int32) (v4 : Int32) (s0 : Int32) (s1 : Int32) (h : am_H) : Option am_H :=
  k50 v0 v1 v2 v3 v4 (s0 + s1) h
theorem w_X9_growRule_142 {g : am_G} {l : Launch} {h0 : am_H} {hf : am_H}  {k50 : Nat → Int32 → Int32 → Int32 → Int32 → Int32 → am_H → Option am_H} (j50 : ∀ (v0 : Nat) (v1 : Int32) (v2 : Int32) (v3 : Int32) (v4 : Int32) (v5 : Int32) (h : am_H), k50 v0 v1 v2 v3 v4 v5 h = some hf → am_W g l M_X9_growRule h0 none hf 50 [some (.ref v0), some (.int v1), some (.int v2), some (.int v3), some (.int v4), some (.int v5), none] [] h) (v0 : Nat) (v1 : Int32) (v2 : Int32) (v3 : Int32) (v4 : Int32) (s0 : Int32) (s1 : Int32) (h : am_H) (hF : F_X9_growRule_142 k50 v0 v1 v2 v3 v4 s0 s1 h = some hf) : am_W g l M_X9_growRule h0 none hf 142 [some (.ref v0), some (.int v1), some (.int v2), some (.int v3), some (.int v4), none, none] [.int s1, .int s0] h := by
  unfold F_X9_growRule_142 at hF
  refine am_iadd (pc' := 143) dX9_growRule_142 rfl ?_
  refine am_istore (ls' := [some (.ref v0), some (.int v1), some (.int v2), some (.int v3), some (.int v4), some (.int (s0 + s1)), none]) (pc' := 145) dX9_growRule_143 (Nat.le_of_ble_eq_true rfl) rfl rfl ?_
  refine am_goto (pc' := 50) dX9_growRule_145 rfl ?_
  exact j50 v0 v1 v2 v3 v4 (s0 + s1) h hF
def F_X9_growRule_126 (k50 : Nat → Int32 → Int32 → Int32 → Int32 → Int32 → am_H → Option am_H) (v0 : Nat) (v1 : Int32) (v2 : Int32) (v3 : Int32) (v4 : Int32) (v5 : Int32) (v6 : Int32) (s0 : Nat) (s1 : Int32) (s2 : Int32) (h : am_H) : Option am_H :=
  (am_is 0 s0 s1 s2 h).bind fun h1 =>
  if v6 = 0 then
    F_X9_growRule_142 k50 v0 v1 v2 v3 (v4 + (1 : Int32)) v5 (1 : Int32) h1
  else
    F_X9_growRule_142 k50 v0 v1 v2 v3 (v4 + (1 : Int32)) v5 (2 : Int32) h1
theorem w_X9_growRule_126 {g : am_G} {l : Launch} {h0 : am_H} {hf : am_H}  {k50 : Nat → Int32 → Int32 → Int32 → Int32 → Int32 → am_H → Option am_H} (j50 : ∀ (v0 : Nat) (v1 : Int32) (v2 : Int32) (v3 : Int32) (v4 : Int32) (v5 : Int32) (h : am_H), k50 v0 v1 v2 v3 v4 v5 h = some hf → am_W g l M_X9_growRule h0 none hf 50 [some (.ref v0), some (.int v1), some (.int v2), some (.int v3), some (.int v4), some (.int v5), none] [] h) (v0 : Nat) (v1 : Int32) (v2 : Int32) (v3 : Int32) (v4 : Int32) (v5 : Int32) (v6 : Int32) (s0 : Nat) (s1 : Int32) (s2 : Int32) (h : am_H) (hF : F_X9_growRule_126 k50 v0 v1 v2 v3 v4 v5 v6 s0 s1 s2 h = some hf) : am_W g l M_X9_growRule h0 none hf 126 [some (.ref v0), some (.int v1), some (.int v2), some (.int v3), some (.int v4), some (.int v5), some (.int v6)] [.int s2, .int s1, .ref s0] h := by
  unfold F_X9_growRule_126 at hF
  obtain ⟨h1, eh1, hF⟩ := am_bind hF
  refine am_iast (pc' := 127) dX9_growRule_126 eh1 rfl ?_
  refine am_iinc (ls' := [some (.ref v0), some (.int v1), some (.int v2), some (.int v3), some (.int (v4 + (1 : Int32))), some (.int v5), some (.int v6)]) (pc' := 130) (v := (v4 + (1 : Int32))) dX9_growRule_127 rfl rfl (Nat.le_of_ble_eq_true rfl) rfl rfl ?_
  refine am_iload (pc' := 132) dX9_growRule_130 rfl rfl ?_
  refine am_iload (pc' := 134) dX9_growRule_132 rfl rfl ?_
  rcases am_ite hF with ⟨z2, hF⟩ | ⟨z2, hF⟩
  · refine am_if_eq_t (pc' := 141) dX9_growRule_134 rfl z2 ?_
    refine am_iconst (v := (1 : Int32)) (pc' := 142) dX9_growRule_141 rfl rfl ?_
    exact am_weak [true, true, true, true, true, false, false] (w_X9_growRule_142 j50 v0 v1 v2 v3 (v4 + (1 : Int32)) v5 (1 : Int32) h1 hF)
  · refine am_if_eq_f (pc' := 137) (tgt := 141) dX9_growRule_134 rfl z2 rfl ?_
    refine am_iconst (v := (2 : Int32)) (pc' := 138) dX9_growRule_137 rfl rfl ?_
    refine am_goto (pc' := 142) dX9_growRule_138 rfl ?_
    exact am_weak [true, true, true, true, true, false, false] (w_X9_growRule_142 j50 v0 v1 v2 v3 (v4 + (1 : Int32)) v5 (2 : Int32) h1 hF)
def F_X9_growRule_99 (k50 : Nat → Int32 → Int32 → Int32 → Int32 → Int32 → am_H → Option am_H) (v0 : Nat) (v1 : Int32) (v2 : Int32) (v3 : Int32) (v4 : Int32) (v5 : Int32) (s0 : Int32) (h : am_H) : Option am_H :=
  (am_gr 9 23 v0 h).bind fun x1 =>
  if s0 = 0 then
    (am_gr 9 23 v0 h).bind fun x3 =>
    (am_il 0 x3 v5 h).bind fun x4 =>
    F_X9_growRule_126 k50 v0 v1 v2 v3 v4 v5 s0 x1 v4 x4 h
  else
    F_X9_growRule_126 k50 v0 v1 v2 v3 v4 v5 s0 x1 v4 ((16 : Int32) + v3) h
theorem w_X9_growRule_99 {g : am_G} {l : Launch} {h0 : am_H} {hf : am_H}  {k50 : Nat → Int32 → Int32 → Int32 → Int32 → Int32 → am_H → Option am_H} (j50 : ∀ (v0 : Nat) (v1 : Int32) (v2 : Int32) (v3 : Int32) (v4 : Int32) (v5 : Int32) (h : am_H), k50 v0 v1 v2 v3 v4 v5 h = some hf → am_W g l M_X9_growRule h0 none hf 50 [some (.ref v0), some (.int v1), some (.int v2), some (.int v3), some (.int v4), some (.int v5), none] [] h) (v0 : Nat) (v1 : Int32) (v2 : Int32) (v3 : Int32) (v4 : Int32) (v5 : Int32) (s0 : Int32) (h : am_H) (hF : F_X9_growRule_99 k50 v0 v1 v2 v3 v4 v5 s0 h = some hf) : am_W g l M_X9_growRule h0 none hf 99 [some (.ref v0), some (.int v1), some (.int v2), some (.int v3), some (.int v4), some (.int v5), none] [.int s0] h := by
  unfold F_X9_growRule_99 at hF
  refine am_istore (ls' := [some (.ref v0), some (.int v1), some (.int v2), some (.int v3), some (.int v4), some (.int v5), some (.int s0)]) (pc' := 101) dX9_growRule_99 (Nat.le_of_ble_eq_true rfl) rfl rfl ?_
  refine am_aload_n (pc' := 102) dX9_growRule_101 rfl rfl ?_
  obtain ⟨x1, ex1, hF⟩ := am_bind hF
  refine am_getr (pc' := 105) dX9_growRule_102 fw_X9_53 ex1 rfl ?_
  refine am_iload (pc' := 107) dX9_growRule_105 rfl rfl ?_
  refine am_iload (pc' := 109) dX9_growRule_107 rfl rfl ?_
  rcases am_ite hF with ⟨z2, hF⟩ | ⟨z2, hF⟩
  · refine am_if_eq_t (pc' := 119) dX9_growRule_109 rfl z2 ?_
    refine am_aload_n (pc' := 120) dX9_growRule_119 rfl rfl ?_
    obtain ⟨x3, ex3, hF⟩ := am_bind hF
    refine am_getr (pc' := 123) dX9_growRule_120 fw_X9_53 ex3 rfl ?_
    refine am_iload (pc' := 125) dX9_growRule_123 rfl rfl ?_
    obtain ⟨x4, ex4, hF⟩ := am_bind hF
    refine am_iald (pc' := 126) dX9_growRule_125 ex4 rfl ?_
    exact w_X9_growRule_126 j50 v0 v1 v2 v3 v4 v5 s0 x1 v4 x4 h hF
  · refine am_if_eq_f (pc' := 112) (tgt := 119) dX9_growRule_109 rfl z2 rfl ?_
    refine am_bipush (v := (16 : Int32)) (pc' := 114) dX9_growRule_112 rfl rfl ?_
    refine am_iload_n (pc' := 115) dX9_growRule_114 rfl rfl ?_
    refine am_iadd (pc' := 116) dX9_growRule_115 rfl ?_
    refine am_goto (pc' := 126) dX9_growRule_116 rfl ?_
    exact w_X9_growRule_126 j50 v0 v1 v2 v3 v4 v5 s0 x1 v4 ((16 : Int32) + v3) h hF
def F_X9_growRule_98 (k50 : Nat → Int32 → Int32 → Int32 → Int32 → Int32 → am_H → Option am_H) (v0 : Nat) (v1 : Int32) (v2 : Int32) (v3 : Int32) (v4 : Int32) (v5 : Int32) (h : am_H) : Option am_H :=
  F_X9_growRule_99 k50 v0 v1 v2 v3 v4 v5 (0 : Int32) h
theorem w_X9_growRule_98 {g : am_G} {l : Launch} {h0 : am_H} {hf : am_H}  {k50 : Nat → Int32 → Int32 → Int32 → Int32 → Int32 → am_H → Option am_H} (j50 : ∀ (v0 : Nat) (v1 : Int32) (v2 : Int32) (v3 : Int32) (v4 : Int32) (v5 : Int32) (h : am_H), k50 v0 v1 v2 v3 v4 v5 h = some hf → am_W g l M_X9_growRule h0 none hf 50 [some (.ref v0), some (.int v1), some (.int v2), some (.int v3), some (.int v4), some (.int v5), none] [] h) (v0 : Nat) (v1 : Int32) (v2 : Int32) (v3 : Int32) (v4 : Int32) (v5 : Int32) (h : am_H) (hF : F_X9_growRule_98 k50 v0 v1 v2 v3 v4 v5 h = some hf) : am_W g l M_X9_growRule h0 none hf 98 [some (.ref v0), some (.int v1), some (.int v2), some (.int v3), some (.int v4), some (.int v5), none] [] h := by
  unfold F_X9_growRule_98 at hF
  refine am_iconst (v := (0 : Int32)) (pc' := 99) dX9_growRule_98 rfl rfl ?_
  exact w_X9_growRule_99 j50 v0 v1 v2 v3 v4 v5 (0 : Int32) h hF
def F_X9_growRule_50 : Nat → Nat → Int32 → Int32 → Int32 → Int32 → Int32 → am_H → Option am_H
  | 0, _, _, _, _, _, _, _ => none
  | n + 1, v0, v1, v2, v3, v4, v5, h =>
  (am_gi 9 24 v0 h).bind fun x1 =>
  if x1 ≤ v5 then
    (am_pi 9 24 v0 v4 h).bind fun h3 =>
    some h3
  else
    (am_gi 9 24 v0 h).bind fun x4 =>
    if x4 ≤ (v5 + (1 : Int32)) then
      F_X9_growRule_98 (F_X9_growRule_50 n) v0 v1 v2 v3 v4 v5 h
    else
      (am_gr 9 23 v0 h).bind fun x6 =>
      (am_il 0 x6 v5 h).bind fun x7 =>
      if x7 = v1 then
        (am_gr 9 23 v0 h).bind fun x9 =>
        (am_il 0 x9 (v5 + (1 : Int32)) h).bind fun x10 =>
        if x10 = v2 then
          F_X9_growRule_99 (F_X9_growRule_50 n) v0 v1 v2 v3 v4 v5 (1 : Int32) h
        else
          F_X9_growRule_98 (F_X9_growRule_50 n) v0 v1 v2 v3 v4 v5 h
      else
        F_X9_growRule_98 (F_X9_growRule_50 n) v0 v1 v2 v3 v4 v5 h
theorem w_X9_growRule_50 {g : am_G} {l : Launch} {h0 : am_H} {hf : am_H}  : ∀ (n : Nat) (v0 : Nat) (v1 : Int32) (v2 : Int32) (v3 : Int32) (v4 : Int32) (v5 : Int32) (h : am_H), F_X9_growRule_50 n v0 v1 v2 v3 v4 v5 h = some hf → am_W g l M_X9_growRule h0 none hf 50 [some (.ref v0), some (.int v1), some (.int v2), some (.int v3), some (.int v4), some (.int v5), none] [] h
  | 0, _, _, _, _, _, _, _, hF => by cases hF
  | n + 1, v0, v1, v2, v3, v4, v5, h, hF => by
    rw [F_X9_growRule_50] at hF
    refine am_iload (pc' := 52) dX9_growRule_50 rfl rfl ?_
    refine am_aload_n (pc' := 53) dX9_growRule_52 rfl rfl ?_
    obtain ⟨x1, ex1, hF⟩ := am_bind hF
    refine am_geti (pc' := 56) dX9_growRule_53 fw_X9_207 ex1 rfl ?_
    rcases am_ite hF with ⟨z2, hF⟩ | ⟨z2, hF⟩
    · refine am_icmp_ge_t (pc' := 148) dX9_growRule_56 rfl z2 ?_
      refine am_aload_n (pc' := 149) dX9_growRule_148 rfl rfl ?_
      refine am_iload (pc' := 151) dX9_growRule_149 rfl rfl ?_
      obtain ⟨h3, eh3, hF⟩ := am_bind hF
      refine am_puti (pc' := 154) dX9_growRule_151 fx_X9_207 eh3 rfl ?_
      cases hF
      exact am_vret dX9_growRule_154 rfl
    · refine am_icmp_ge_f (pc' := 59) (tgt := 148) dX9_growRule_56 rfl z2 rfl ?_
      refine am_iload (pc' := 61) dX9_growRule_59 rfl rfl ?_
      refine am_iconst (v := (1 : Int32)) (pc' := 62) dX9_growRule_61 rfl rfl ?_
      refine am_iadd (pc' := 63) dX9_growRule_62 rfl ?_
      refine am_aload_n (pc' := 64) dX9_growRule_63 rfl rfl ?_
      obtain ⟨x4, ex4, hF⟩ := am_bind hF
      refine am_geti (pc' := 67) dX9_growRule_64 fw_X9_207 ex4 rfl ?_
      rcases am_ite hF with ⟨z5, hF⟩ | ⟨z5, hF⟩
      · refine am_icmp_ge_t (pc' := 98) dX9_growRule_67 rfl z5 ?_
        exact w_X9_growRule_98 (w_X9_growRule_50 n) v0 v1 v2 v3 v4 v5 h hF
      · refine am_icmp_ge_f (pc' := 70) (tgt := 98) dX9_growRule_67 rfl z5 rfl ?_
        refine am_aload_n (pc' := 71) dX9_growRule_70 rfl rfl ?_
        obtain ⟨x6, ex6, hF⟩ := am_bind hF
        refine am_getr (pc' := 74) dX9_growRule_71 fw_X9_53 ex6 rfl ?_
        refine am_iload (pc' := 76) dX9_growRule_74 rfl rfl ?_
        obtain ⟨x7, ex7, hF⟩ := am_bind hF
        refine am_iald (pc' := 77) dX9_growRule_76 ex7 rfl ?_
        refine am_iload_n (pc' := 78) dX9_growRule_77 rfl rfl ?_
        rcases am_ite hF with ⟨z8, hF⟩ | ⟨z8, hF⟩
        · refine am_icmp_ne_f (pc' := 81) (tgt := 98) dX9_growRule_78 rfl z8 rfl ?_
          refine am_aload_n (pc' := 82) dX9_growRule_81 rfl rfl ?_
          obtain ⟨x9, ex9, hF⟩ := am_bind hF
          refine am_getr (pc' := 85) dX9_growRule_82 fw_X9_53 ex9 rfl ?_
          refine am_iload (pc' := 87) dX9_growRule_85 rfl rfl ?_
          refine am_iconst (v := (1 : Int32)) (pc' := 88) dX9_growRule_87 rfl rfl ?_
          refine am_iadd (pc' := 89) dX9_growRule_88 rfl ?_
          obtain ⟨x10, ex10, hF⟩ := am_bind hF
          refine am_iald (pc' := 90) dX9_growRule_89 ex10 rfl ?_
          refine am_iload_n (pc' := 91) dX9_growRule_90 rfl rfl ?_
          rcases am_ite hF with ⟨z11, hF⟩ | ⟨z11, hF⟩
          · refine am_icmp_ne_f (pc' := 94) (tgt := 98) dX9_growRule_91 rfl z11 rfl ?_
            refine am_iconst (v := (1 : Int32)) (pc' := 95) dX9_growRule_94 rfl rfl ?_
            refine am_goto (pc' := 99) dX9_growRule_95 rfl ?_
            exact w_X9_growRule_99 (w_X9_growRule_50 n) v0 v1 v2 v3 v4 v5 (1 : Int32) h hF
          · refine am_icmp_ne_t (pc' := 98) dX9_growRule_91 rfl z11 ?_
            exact w_X9_growRule_98 (w_X9_growRule_50 n) v0 v1 v2 v3 v4 v5 h hF
        · refine am_icmp_ne_t (pc' := 98) dX9_growRule_78 rfl z8 ?_
          exact w_X9_growRule_98 (w_X9_growRule_50 n) v0 v1 v2 v3 v4 v5 h hF
def F_X9_growRule_b (v0 : Nat) (v1 : Int32) (v2 : Int32) (h : am_H) : Option am_H :=
  (am_gi 9 25 v0 h).bind fun x1 =>
  (am_gi 9 25 v0 h).bind fun x2 =>
  (am_pi 9 25 v0 (x2 + (1 : Int32)) h).bind fun h3 =>
  (am_gr 9 26 v0 h3).bind fun x4 =>
  (am_is 0 x4 x1 (2 : Int32) h3).bind fun h5 =>
  (am_gr 9 27 v0 h5).bind fun x6 =>
  (am_is 0 x6 ((24 : Int32) * x1) v1 h5).bind fun h7 =>
  (am_gr 9 27 v0 h7).bind fun x8 =>
  (am_is 0 x8 (((24 : Int32) * x1) + (1 : Int32)) v2 h7).bind fun h9 =>
  F_X9_growRule_50 am_F v0 v1 v2 x1 (0 : Int32) (0 : Int32) h9
theorem w_X9_growRule {g : am_G} {l : Launch} {h0 : am_H} {hf : am_H}  (v0 : Nat) (v1 : Int32) (v2 : Int32) (h : am_H) (hF : F_X9_growRule_b v0 v1 v2 h = some hf) : am_W g l M_X9_growRule h0 none hf 0 [some (.ref v0), some (.int v1), some (.int v2), none, none, none, none] [] h := by
  unfold F_X9_growRule_b at hF
  refine am_aload_n (pc' := 1) dX9_growRule_0 rfl rfl ?_
  obtain ⟨x1, ex1, hF⟩ := am_bind hF
  refine am_geti (pc' := 4) dX9_growRule_1 fw_X9_210 ex1 rfl ?_
  refine am_istore_n (ls' := [some (.ref v0), some (.int v1), some (.int v2), some (.int x1), none, none, none]) (pc' := 5) dX9_growRule_4 (Nat.le_of_ble_eq_true rfl) rfl rfl ?_
  refine am_aload_n (pc' := 6) dX9_growRule_5 rfl rfl ?_
  refine am_dup (pc' := 7) dX9_growRule_6 rfl rfl ?_
  obtain ⟨x2, ex2, hF⟩ := am_bind hF
  refine am_geti (pc' := 10) dX9_growRule_7 fw_X9_210 ex2 rfl ?_
  refine am_iconst (v := (1 : Int32)) (pc' := 11) dX9_growRule_10 rfl rfl ?_
  refine am_iadd (pc' := 12) dX9_growRule_11 rfl ?_
  obtain ⟨h3, eh3, hF⟩ := am_bind hF
  refine am_puti (pc' := 15) dX9_growRule_12 fx_X9_210 eh3 rfl ?_
  refine am_aload_n (pc' := 16) dX9_growRule_15 rfl rfl ?_
  obtain ⟨x4, ex4, hF⟩ := am_bind hF
  refine am_getr (pc' := 19) dX9_growRule_16 fw_X9_56 ex4 rfl ?_
  refine am_iload_n (pc' := 20) dX9_growRule_19 rfl rfl ?_
  refine am_iconst (v := (2 : Int32)) (pc' := 21) dX9_growRule_20 rfl rfl ?_
  obtain ⟨h5, eh5, hF⟩ := am_bind hF
  refine am_iast (pc' := 22) dX9_growRule_21 eh5 rfl ?_
  refine am_aload_n (pc' := 23) dX9_growRule_22 rfl rfl ?_
  obtain ⟨x6, ex6, hF⟩ := am_bind hF
  refine am_getr (pc' := 26) dX9_growRule_23 fw_X9_59 ex6 rfl ?_
  refine am_bipush (v := (24 : Int32)) (pc' := 28) dX9_growRule_26 rfl rfl ?_
  refine am_iload_n (pc' := 29) dX9_growRule_28 rfl rfl ?_
  refine am_imul (pc' := 30) dX9_growRule_29 rfl ?_
  refine am_iload_n (pc' := 31) dX9_growRule_30 rfl rfl ?_
  obtain ⟨h7, eh7, hF⟩ := am_bind hF
  refine am_iast (pc' := 32) dX9_growRule_31 eh7 rfl ?_
  refine am_aload_n (pc' := 33) dX9_growRule_32 rfl rfl ?_
  obtain ⟨x8, ex8, hF⟩ := am_bind hF
  refine am_getr (pc' := 36) dX9_growRule_33 fw_X9_59 ex8 rfl ?_
  refine am_bipush (v := (24 : Int32)) (pc' := 38) dX9_growRule_36 rfl rfl ?_
  refine am_iload_n (pc' := 39) dX9_growRule_38 rfl rfl ?_
  refine am_imul (pc' := 40) dX9_growRule_39 rfl ?_
  refine am_iconst (v := (1 : Int32)) (pc' := 41) dX9_growRule_40 rfl rfl ?_
  refine am_iadd (pc' := 42) dX9_growRule_41 rfl ?_
  refine am_iload_n (pc' := 43) dX9_growRule_42 rfl rfl ?_
  obtain ⟨h9, eh9, hF⟩ := am_bind hF
  refine am_iast (pc' := 44) dX9_growRule_43 eh9 rfl ?_
  refine am_iconst (v := (0 : Int32)) (pc' := 45) dX9_growRule_44 rfl rfl ?_
  refine am_istore (ls' := [some (.ref v0), some (.int v1), some (.int v2), some (.int x1), some (.int (0 : Int32)), none, none]) (pc' := 47) dX9_growRule_45 (Nat.le_of_ble_eq_true rfl) rfl rfl ?_
  refine am_iconst (v := (0 : Int32)) (pc' := 48) dX9_growRule_47 rfl rfl ?_
  refine am_istore (ls' := [some (.ref v0), some (.int v1), some (.int v2), some (.int x1), some (.int (0 : Int32)), some (.int (0 : Int32)), none]) (pc' := 50) dX9_growRule_48 (Nat.le_of_ble_eq_true rfl) rfl rfl ?_
  exact w_X9_growRule_50 am_F v0 v1 v2 x1 (0 : Int32) (0 : Int32) h9 hF
def F_X9_growRule (v0 : Nat) (v1 : Int32) (v2 : Int32) (h : am_H) : Option am_H := (am_obj v0 9 h).bind fun _ => F_X9_growRule_b v0 v1 v2 h
theorem t_X9_growRule {hf : am_H}  {v0 : Nat} {v1 : Int32} {v2 : Int32} {h : am_H} (hF : F_X9_growRule v0 v1 v2 h = some hf) : ∃ fs, am_obj v0 9 h = some fs := by
  obtain ⟨fs, e, _⟩ := am_bind hF
  exact ⟨fs, e⟩
theorem c_X9_growRule {g : am_G} {l : Launch} {hf : am_H}  {v0 : Nat} {v1 : Int32} {v2 : Int32} {h : am_H} (hF : F_X9_growRule v0 v1 v2 h = some hf) : am_Met g l M_X9_growRule [.ref v0, .int v1, .int v2] h none hf := by
  obtain ⟨fs, e0, e⟩ := am_bind hF
  exact am_met (n := 4) (by decide +kernel) rfl (Nat.le_of_ble_eq_true rfl) (w_X9_growRule v0 v1 v2 h e)
def F_X9_standing_31 (k4 : Nat → Int32 → Int32 → Int32 → am_H → Option Int32) (v0 : Nat) (v1 : Int32) (v3 : Int32) (s0 : Int32) (s1 : Int32) (h : am_H) : Option Int32 :=
  (F_X9_one s1 h).bind fun x1 =>
  k4 v0 v1 (s0 + x1) (v3 + (1 : Int32)) h
theorem w_X9_standing_31 {g : am_G} {l : Launch} {h0 : am_H} {x : Int32}  {k4 : Nat → Int32 → Int32 → Int32 → am_H → Option Int32} (j4 : ∀ (v0 : Nat) (v1 : Int32) (v2 : Int32) (v3 : Int32) (h : am_H), k4 v0 v1 v2 v3 h = some x → am_W g l M_X9_standing h0 (some (.int x)) h 4 [some (.ref v0), some (.int v1), some (.int v2), some (.int v3), none] [] h) (v0 : Nat) (v1 : Int32) (v3 : Int32) (s0 : Int32) (s1 : Int32) (h : am_H) (hF : F_X9_standing_31 k4 v0 v1 v3 s0 s1 h = some x) : am_W g l M_X9_standing h0 (some (.int x)) h 31 [some (.ref v0), some (.int v1), none, some (.int v3), none] [.int s1, .int s0] h := by
  unfold F_X9_standing_31 at hF
  obtain ⟨x1, ex1, hF⟩ := am_bind hF
  refine am_callS1 (Mc := M_X9_one) (As := [.int s1]) (st := [.int s0]) (pc' := 34) dX9_standing_31 cw_X9_150 wd_5_53 (by decide) (by decide) rfl rfl (Nat.le_of_ble_eq_true rfl) (c_X9_one ex1) rfl ?_
  refine am_iadd (pc' := 35) dX9_standing_34 rfl ?_
  refine am_istore_n (ls' := [some (.ref v0), some (.int v1), some (.int (s0 + x1)), some (.int v3), none]) (pc' := 36) dX9_standing_35 (Nat.le_of_ble_eq_true rfl) rfl rfl ?_
  refine am_iinc (ls' := [some (.ref v0), some (.int v1), some (.int (s0 + x1)), some (.int (v3 + (1 : Int32))), none]) (pc' := 39) (v := (v3 + (1 : Int32))) dX9_standing_36 rfl rfl (Nat.le_of_ble_eq_true rfl) rfl rfl ?_
  refine am_goto (pc' := 4) dX9_standing_39 rfl ?_
  exact j4 v0 v1 (s0 + x1) (v3 + (1 : Int32)) h hF
def F_X9_standing_91 (k44 : Nat → Int32 → Int32 → Int32 → am_H → Option Int32) (k55 : Nat → Int32 → Int32 → Int32 → Int32 → am_H → Option Int32) (v0 : Nat) (v1 : Int32) (v3 : Int32) (v4 : Int32) (s0 : Int32) (s1 : Int32) (h : am_H) : Option Int32 :=
  (F_X9_one s1 h).bind fun x1 =>
  k55 v0 v1 (s0 + x1) v3 (v4 + (1 : Int32)) h
theorem w_X9_standing_91 {g : am_G} {l : Launch} {h0 : am_H} {x : Int32}  {k44 : Nat → Int32 → Int32 → Int32 → am_H → Option Int32} {k55 : Nat → Int32 → Int32 → Int32 → Int32 → am_H → Option Int32} (j44 : ∀ (v0 : Nat) (v1 : Int32) (v2 : Int32) (v3 : Int32) (h : am_H), k44 v0 v1 v2 v3 h = some x → am_W g l M_X9_standing h0 (some (.int x)) h 44 [some (.ref v0), some (.int v1), some (.int v2), some (.int v3), none] [] h) (j55 : ∀ (v0 : Nat) (v1 : Int32) (v2 : Int32) (v3 : Int32) (v4 : Int32) (h : am_H), k55 v0 v1 v2 v3 v4 h = some x → am_W g l M_X9_standing h0 (some (.int x)) h 55 [some (.ref v0), some (.int v1), some (.int v2), some (.int v3), some (.int v4)] [] h) (v0 : Nat) (v1 : Int32) (v3 : Int32) (v4 : Int32) (s0 : Int32) (s1 : Int32) (h : am_H) (hF : F_X9_standing_91 k44 k55 v0 v1 v3 v4 s0 s1 h = some x) : am_W g l M_X9_standing h0 (some (.int x)) h 91 [some (.ref v0), some (.int v1), none, some (.int v3), some (.int v4)] [.int s1, .int s0] h := by
  unfold F_X9_standing_91 at hF
  obtain ⟨x1, ex1, hF⟩ := am_bind hF
  refine am_callS1 (Mc := M_X9_one) (As := [.int s1]) (st := [.int s0]) (pc' := 94) dX9_standing_91 cw_X9_150 wd_5_53 (by decide) (by decide) rfl rfl (Nat.le_of_ble_eq_true rfl) (c_X9_one ex1) rfl ?_
  refine am_iadd (pc' := 95) dX9_standing_94 rfl ?_
  refine am_istore_n (ls' := [some (.ref v0), some (.int v1), some (.int (s0 + x1)), some (.int v3), some (.int v4)]) (pc' := 96) dX9_standing_95 (Nat.le_of_ble_eq_true rfl) rfl rfl ?_
  refine am_iinc (ls' := [some (.ref v0), some (.int v1), some (.int (s0 + x1)), some (.int v3), some (.int (v4 + (1 : Int32)))]) (pc' := 99) (v := (v4 + (1 : Int32))) dX9_standing_96 rfl rfl (Nat.le_of_ble_eq_true rfl) rfl rfl ?_
  refine am_goto (pc' := 55) dX9_standing_99 rfl ?_
  exact j55 v0 v1 (s0 + x1) v3 (v4 + (1 : Int32)) h hF
def F_X9_standing_55 (k44 : Nat → Int32 → Int32 → Int32 → am_H → Option Int32) : Nat → Nat → Int32 → Int32 → Int32 → Int32 → am_H → Option Int32
  | 0, _, _, _, _, _, _ => none
  | n + 1, v0, v1, v2, v3, v4, h =>
  (am_gr 9 26 v0 h).bind fun x1 =>
  (am_il 0 x1 v3 h).bind fun x2 =>
  if x2 ≤ v4 then
    k44 v0 v1 v2 (v3 + (1 : Int32)) h
  else
    (am_gr 9 27 v0 h).bind fun x4 =>
    (am_il 0 x4 (((24 : Int32) * v3) + v4) h).bind fun x5 =>
    if x5 = ((16 : Int32) + v1) then
      F_X9_standing_91 k44 (F_X9_standing_55 k44 n) v0 v1 v3 v4 v2 (1 : Int32) h
    else
      F_X9_standing_91 k44 (F_X9_standing_55 k44 n) v0 v1 v3 v4 v2 (0 : Int32) h
theorem w_X9_standing_55 {g : am_G} {l : Launch} {h0 : am_H} {x : Int32}  {k44 : Nat → Int32 → Int32 → Int32 → am_H → Option Int32} (j44 : ∀ (v0 : Nat) (v1 : Int32) (v2 : Int32) (v3 : Int32) (h : am_H), k44 v0 v1 v2 v3 h = some x → am_W g l M_X9_standing h0 (some (.int x)) h 44 [some (.ref v0), some (.int v1), some (.int v2), some (.int v3), none] [] h) : ∀ (n : Nat) (v0 : Nat) (v1 : Int32) (v2 : Int32) (v3 : Int32) (v4 : Int32) (h : am_H), F_X9_standing_55 k44 n v0 v1 v2 v3 v4 h = some x → am_W g l M_X9_standing h0 (some (.int x)) h 55 [some (.ref v0), some (.int v1), some (.int v2), some (.int v3), some (.int v4)] [] h
  | 0, _, _, _, _, _, _, hF => by cases hF
  | n + 1, v0, v1, v2, v3, v4, h, hF => by
    rw [F_X9_standing_55] at hF
    refine am_iload (pc' := 57) dX9_standing_55 rfl rfl ?_
    refine am_aload_n (pc' := 58) dX9_standing_57 rfl rfl ?_
    obtain ⟨x1, ex1, hF⟩ := am_bind hF
    refine am_getr (pc' := 61) dX9_standing_58 fw_X9_56 ex1 rfl ?_
    refine am_iload_n (pc' := 62) dX9_standing_61 rfl rfl ?_
    obtain ⟨x2, ex2, hF⟩ := am_bind hF
    refine am_iald (pc' := 63) dX9_standing_62 ex2 rfl ?_
    rcases am_ite hF with ⟨z3, hF⟩ | ⟨z3, hF⟩
    · refine am_icmp_ge_t (pc' := 102) dX9_standing_63 rfl z3 ?_
      refine am_iinc (ls' := [some (.ref v0), some (.int v1), some (.int v2), some (.int (v3 + (1 : Int32))), some (.int v4)]) (pc' := 105) (v := (v3 + (1 : Int32))) dX9_standing_102 rfl rfl (Nat.le_of_ble_eq_true rfl) rfl rfl ?_
      refine am_goto (pc' := 44) dX9_standing_105 rfl ?_
      exact am_weak [true, true, true, true, false] (j44 v0 v1 v2 (v3 + (1 : Int32)) h hF)
    · refine am_icmp_ge_f (pc' := 66) (tgt := 102) dX9_standing_63 rfl z3 rfl ?_
      refine am_iload_n (pc' := 67) dX9_standing_66 rfl rfl ?_
      refine am_aload_n (pc' := 68) dX9_standing_67 rfl rfl ?_
      obtain ⟨x4, ex4, hF⟩ := am_bind hF
      refine am_getr (pc' := 71) dX9_standing_68 fw_X9_59 ex4 rfl ?_
      refine am_bipush (v := (24 : Int32)) (pc' := 73) dX9_standing_71 rfl rfl ?_
      refine am_iload_n (pc' := 74) dX9_standing_73 rfl rfl ?_
      refine am_imul (pc' := 75) dX9_standing_74 rfl ?_
      refine am_iload (pc' := 77) dX9_standing_75 rfl rfl ?_
      refine am_iadd (pc' := 78) dX9_standing_77 rfl ?_
      obtain ⟨x5, ex5, hF⟩ := am_bind hF
      refine am_iald (pc' := 79) dX9_standing_78 ex5 rfl ?_
      refine am_bipush (v := (16 : Int32)) (pc' := 81) dX9_standing_79 rfl rfl ?_
      refine am_iload_n (pc' := 82) dX9_standing_81 rfl rfl ?_
      refine am_iadd (pc' := 83) dX9_standing_82 rfl ?_
      rcases am_ite hF with ⟨z6, hF⟩ | ⟨z6, hF⟩
      · refine am_icmp_ne_f (pc' := 86) (tgt := 90) dX9_standing_83 rfl z6 rfl ?_
        refine am_iconst (v := (1 : Int32)) (pc' := 87) dX9_standing_86 rfl rfl ?_
        refine am_goto (pc' := 91) dX9_standing_87 rfl ?_
        exact am_weak [true, true, false, true, true] (w_X9_standing_91 j44 (w_X9_standing_55 j44 n) v0 v1 v3 v4 v2 (1 : Int32) h hF)
      · refine am_icmp_ne_t (pc' := 90) dX9_standing_83 rfl z6 ?_
        refine am_iconst (v := (0 : Int32)) (pc' := 91) dX9_standing_90 rfl rfl ?_
        exact am_weak [true, true, false, true, true] (w_X9_standing_91 j44 (w_X9_standing_55 j44 n) v0 v1 v3 v4 v2 (0 : Int32) h hF)
def F_X9_standing_44 : Nat → Nat → Int32 → Int32 → Int32 → am_H → Option Int32
  | 0, _, _, _, _, _ => none
  | n + 1, v0, v1, v2, v3, h =>
  (am_gi 9 25 v0 h).bind fun x1 =>
  if x1 ≤ v3 then
    some v2
  else
    F_X9_standing_55 (F_X9_standing_44 n) am_F v0 v1 v2 v3 (0 : Int32) h
theorem w_X9_standing_44 {g : am_G} {l : Launch} {h0 : am_H} {x : Int32}  : ∀ (n : Nat) (v0 : Nat) (v1 : Int32) (v2 : Int32) (v3 : Int32) (h : am_H), F_X9_standing_44 n v0 v1 v2 v3 h = some x → am_W g l M_X9_standing h0 (some (.int x)) h 44 [some (.ref v0), some (.int v1), some (.int v2), some (.int v3), none] [] h
  | 0, _, _, _, _, _, hF => by cases hF
  | n + 1, v0, v1, v2, v3, h, hF => by
    rw [F_X9_standing_44] at hF
    refine am_iload_n (pc' := 45) dX9_standing_44 rfl rfl ?_
    refine am_aload_n (pc' := 46) dX9_standing_45 rfl rfl ?_
    obtain ⟨x1, ex1, hF⟩ := am_bind hF
    refine am_geti (pc' := 49) dX9_standing_46 fw_X9_210 ex1 rfl ?_
    rcases am_ite hF with ⟨z2, hF⟩ | ⟨z2, hF⟩
    · refine am_icmp_ge_t (pc' := 108) dX9_standing_49 rfl z2 ?_
      refine am_iload_n (pc' := 109) dX9_standing_108 rfl rfl ?_
      cases hF
      exact am_iret dX9_standing_109 rfl rfl
    · refine am_icmp_ge_f (pc' := 52) (tgt := 108) dX9_standing_49 rfl z2 rfl ?_
      refine am_iconst (v := (0 : Int32)) (pc' := 53) dX9_standing_52 rfl rfl ?_
      refine am_istore (ls' := [some (.ref v0), some (.int v1), some (.int v2), some (.int v3), some (.int (0 : Int32))]) (pc' := 55) dX9_standing_53 (Nat.le_of_ble_eq_true rfl) rfl rfl ?_
      exact w_X9_standing_55 (w_X9_standing_44 n) am_F v0 v1 v2 v3 (0 : Int32) h hF
def F_X9_standing_4 : Nat → Nat → Int32 → Int32 → Int32 → am_H → Option Int32
  | 0, _, _, _, _, _ => none
  | n + 1, v0, v1, v2, v3, h =>
  (am_gi 9 24 v0 h).bind fun x1 =>
  if x1 ≤ v3 then
    F_X9_standing_44 am_F v0 v1 v2 (0 : Int32) h
  else
    (am_gr 9 23 v0 h).bind fun x3 =>
    (am_il 0 x3 v3 h).bind fun x4 =>
    if x4 = ((16 : Int32) + v1) then
      F_X9_standing_31 (F_X9_standing_4 n) v0 v1 v3 v2 (1 : Int32) h
    else
      F_X9_standing_31 (F_X9_standing_4 n) v0 v1 v3 v2 (0 : Int32) h
theorem w_X9_standing_4 {g : am_G} {l : Launch} {h0 : am_H} {x : Int32}  : ∀ (n : Nat) (v0 : Nat) (v1 : Int32) (v2 : Int32) (v3 : Int32) (h : am_H), F_X9_standing_4 n v0 v1 v2 v3 h = some x → am_W g l M_X9_standing h0 (some (.int x)) h 4 [some (.ref v0), some (.int v1), some (.int v2), some (.int v3), none] [] h
  | 0, _, _, _, _, _, hF => by cases hF
  | n + 1, v0, v1, v2, v3, h, hF => by
    rw [F_X9_standing_4] at hF
    refine am_iload_n (pc' := 5) dX9_standing_4 rfl rfl ?_
    refine am_aload_n (pc' := 6) dX9_standing_5 rfl rfl ?_
    obtain ⟨x1, ex1, hF⟩ := am_bind hF
    refine am_geti (pc' := 9) dX9_standing_6 fw_X9_207 ex1 rfl ?_
    rcases am_ite hF with ⟨z2, hF⟩ | ⟨z2, hF⟩
    · refine am_icmp_ge_t (pc' := 42) dX9_standing_9 rfl z2 ?_
      refine am_iconst (v := (0 : Int32)) (pc' := 43) dX9_standing_42 rfl rfl ?_
      refine am_istore_n (ls' := [some (.ref v0), some (.int v1), some (.int v2), some (.int (0 : Int32)), none]) (pc' := 44) dX9_standing_43 (Nat.le_of_ble_eq_true rfl) rfl rfl ?_
      exact w_X9_standing_44 am_F v0 v1 v2 (0 : Int32) h hF
    · refine am_icmp_ge_f (pc' := 12) (tgt := 42) dX9_standing_9 rfl z2 rfl ?_
      refine am_iload_n (pc' := 13) dX9_standing_12 rfl rfl ?_
      refine am_aload_n (pc' := 14) dX9_standing_13 rfl rfl ?_
      obtain ⟨x3, ex3, hF⟩ := am_bind hF
      refine am_getr (pc' := 17) dX9_standing_14 fw_X9_53 ex3 rfl ?_
      refine am_iload_n (pc' := 18) dX9_standing_17 rfl rfl ?_
      obtain ⟨x4, ex4, hF⟩ := am_bind hF
      refine am_iald (pc' := 19) dX9_standing_18 ex4 rfl ?_
      refine am_bipush (v := (16 : Int32)) (pc' := 21) dX9_standing_19 rfl rfl ?_
      refine am_iload_n (pc' := 22) dX9_standing_21 rfl rfl ?_
      refine am_iadd (pc' := 23) dX9_standing_22 rfl ?_
      rcases am_ite hF with ⟨z5, hF⟩ | ⟨z5, hF⟩
      · refine am_icmp_ne_f (pc' := 26) (tgt := 30) dX9_standing_23 rfl z5 rfl ?_
        refine am_iconst (v := (1 : Int32)) (pc' := 27) dX9_standing_26 rfl rfl ?_
        refine am_goto (pc' := 31) dX9_standing_27 rfl ?_
        exact am_weak [true, true, false, true, false] (w_X9_standing_31 (w_X9_standing_4 n) v0 v1 v3 v2 (1 : Int32) h hF)
      · refine am_icmp_ne_t (pc' := 30) dX9_standing_23 rfl z5 ?_
        refine am_iconst (v := (0 : Int32)) (pc' := 31) dX9_standing_30 rfl rfl ?_
        exact am_weak [true, true, false, true, false] (w_X9_standing_31 (w_X9_standing_4 n) v0 v1 v3 v2 (0 : Int32) h hF)
def F_X9_standing_b (v0 : Nat) (v1 : Int32) (h : am_H) : Option Int32 :=
  F_X9_standing_4 am_F v0 v1 (0 : Int32) (0 : Int32) h
theorem w_X9_standing {g : am_G} {l : Launch} {h0 : am_H} {x : Int32}  (v0 : Nat) (v1 : Int32) (h : am_H) (hF : F_X9_standing_b v0 v1 h = some x) : am_W g l M_X9_standing h0 (some (.int x)) h 0 [some (.ref v0), some (.int v1), none, none, none] [] h := by
  unfold F_X9_standing_b at hF
  refine am_iconst (v := (0 : Int32)) (pc' := 1) dX9_standing_0 rfl rfl ?_
  refine am_istore_n (ls' := [some (.ref v0), some (.int v1), some (.int (0 : Int32)), none, none]) (pc' := 2) dX9_standing_1 (Nat.le_of_ble_eq_true rfl) rfl rfl ?_
  refine am_iconst (v := (0 : Int32)) (pc' := 3) dX9_standing_2 rfl rfl ?_
  refine am_istore_n (ls' := [some (.ref v0), some (.int v1), some (.int (0 : Int32)), some (.int (0 : Int32)), none]) (pc' := 4) dX9_standing_3 (Nat.le_of_ble_eq_true rfl) rfl rfl ?_
  exact w_X9_standing_4 am_F v0 v1 (0 : Int32) (0 : Int32) h hF
def F_X9_standing (v0 : Nat) (v1 : Int32) (h : am_H) : Option Int32 := (am_obj v0 9 h).bind fun _ => F_X9_standing_b v0 v1 h
theorem t_X9_standing {x : Int32}  {v0 : Nat} {v1 : Int32} {h : am_H} (hF : F_X9_standing v0 v1 h = some x) : ∃ fs, am_obj v0 9 h = some fs := by
  obtain ⟨fs, e, _⟩ := am_bind hF
  exact ⟨fs, e⟩
theorem c_X9_standing {g : am_G} {l : Launch} {x : Int32}  {v0 : Nat} {v1 : Int32} {h : am_H} (hF : F_X9_standing v0 v1 h = some x) : am_Met g l M_X9_standing [.ref v0, .int v1] h (some (.int x)) h := by
  obtain ⟨fs, e0, e⟩ := am_bind hF
  exact am_met (n := 3) (by decide +kernel) rfl (Nat.le_of_ble_eq_true rfl) (w_X9_standing v0 v1 h e)
def F_X9_putBackInRow_114 (k2 : Nat → Int32 → Int32 → am_H → Option am_H) (v0 : Nat) (v1 : Int32) (v2 : Int32) (h : am_H) : Option am_H :=
  k2 v0 v1 (v2 + (1 : Int32)) h
theorem w_X9_putBackInRow_114 {g : am_G} {l : Launch} {h0 : am_H} {hf : am_H}  {k2 : Nat → Int32 → Int32 → am_H → Option am_H} (j2 : ∀ (v0 : Nat) (v1 : Int32) (v2 : Int32) (h : am_H), k2 v0 v1 v2 h = some hf → am_W g l M_X9_putBackInRow h0 none hf 2 [some (.ref v0), some (.int v1), some (.int v2), none, none] [] h) (v0 : Nat) (v1 : Int32) (v2 : Int32) (h : am_H) (hF : F_X9_putBackInRow_114 k2 v0 v1 v2 h = some hf) : am_W g l M_X9_putBackInRow h0 none hf 114 [some (.ref v0), some (.int v1), some (.int v2), none, none] [] h := by
  unfold F_X9_putBackInRow_114 at hF
  refine am_iinc (ls' := [some (.ref v0), some (.int v1), some (.int (v2 + (1 : Int32))), none, none]) (pc' := 117) (v := (v2 + (1 : Int32))) dX9_putBackInRow_114 rfl rfl (Nat.le_of_ble_eq_true rfl) rfl rfl ?_
  refine am_goto (pc' := 2) dX9_putBackInRow_117 rfl ?_
  exact j2 v0 v1 (v2 + (1 : Int32)) h hF
def F_X9_putBackInRow_71 (k2 : Nat → Int32 → Int32 → am_H → Option am_H) : Nat → Nat → Int32 → Int32 → Int32 → Int32 → am_H → Option am_H
  | 0, _, _, _, _, _, _ => none
  | n + 1, v0, v1, v2, v3, v4, h =>
  if v3 < v4 then
    (am_gi 9 24 v0 h).bind fun x2 =>
    (am_pi 9 24 v0 (x2 + v3) h).bind fun h3 =>
    F_X9_putBackInRow_114 k2 v0 v1 v2 h3
  else
    (am_gr 9 23 v0 h).bind fun x4 =>
    (am_gr 9 27 v0 h).bind fun x5 =>
    (am_il 0 x5 (((24 : Int32) * v1) + v4) h).bind fun x6 =>
    (am_is 0 x4 (v2 + v4) x6 h).bind fun h7 =>
    F_X9_putBackInRow_71 k2 n v0 v1 v2 v3 (v4 + (1 : Int32)) h7
theorem w_X9_putBackInRow_71 {g : am_G} {l : Launch} {h0 : am_H} {hf : am_H}  {k2 : Nat → Int32 → Int32 → am_H → Option am_H} (j2 : ∀ (v0 : Nat) (v1 : Int32) (v2 : Int32) (h : am_H), k2 v0 v1 v2 h = some hf → am_W g l M_X9_putBackInRow h0 none hf 2 [some (.ref v0), some (.int v1), some (.int v2), none, none] [] h) : ∀ (n : Nat) (v0 : Nat) (v1 : Int32) (v2 : Int32) (v3 : Int32) (v4 : Int32) (h : am_H), F_X9_putBackInRow_71 k2 n v0 v1 v2 v3 v4 h = some hf → am_W g l M_X9_putBackInRow h0 none hf 71 [some (.ref v0), some (.int v1), some (.int v2), some (.int v3), some (.int v4)] [] h
  | 0, _, _, _, _, _, _, hF => by cases hF
  | n + 1, v0, v1, v2, v3, v4, h, hF => by
    rw [F_X9_putBackInRow_71] at hF
    refine am_iload (pc' := 73) dX9_putBackInRow_71 rfl rfl ?_
    refine am_iload_n (pc' := 74) dX9_putBackInRow_73 rfl rfl ?_
    rcases am_ite hF with ⟨z1, hF⟩ | ⟨z1, hF⟩
    · refine am_icmp_gt_t (pc' := 104) dX9_putBackInRow_74 rfl z1 ?_
      refine am_aload_n (pc' := 105) dX9_putBackInRow_104 rfl rfl ?_
      refine am_dup (pc' := 106) dX9_putBackInRow_105 rfl rfl ?_
      obtain ⟨x2, ex2, hF⟩ := am_bind hF
      refine am_geti (pc' := 109) dX9_putBackInRow_106 fw_X9_207 ex2 rfl ?_
      refine am_iload_n (pc' := 110) dX9_putBackInRow_109 rfl rfl ?_
      refine am_iadd (pc' := 111) dX9_putBackInRow_110 rfl ?_
      obtain ⟨h3, eh3, hF⟩ := am_bind hF
      refine am_puti (pc' := 114) dX9_putBackInRow_111 fx_X9_207 eh3 rfl ?_
      exact am_weak [true, true, true, false, false] (w_X9_putBackInRow_114 j2 v0 v1 v2 h3 hF)
    · refine am_icmp_gt_f (pc' := 77) (tgt := 104) dX9_putBackInRow_74 rfl z1 rfl ?_
      refine am_aload_n (pc' := 78) dX9_putBackInRow_77 rfl rfl ?_
      obtain ⟨x4, ex4, hF⟩ := am_bind hF
      refine am_getr (pc' := 81) dX9_putBackInRow_78 fw_X9_53 ex4 rfl ?_
      refine am_iload_n (pc' := 82) dX9_putBackInRow_81 rfl rfl ?_
      refine am_iload (pc' := 84) dX9_putBackInRow_82 rfl rfl ?_
      refine am_iadd (pc' := 85) dX9_putBackInRow_84 rfl ?_
      refine am_aload_n (pc' := 86) dX9_putBackInRow_85 rfl rfl ?_
      obtain ⟨x5, ex5, hF⟩ := am_bind hF
      refine am_getr (pc' := 89) dX9_putBackInRow_86 fw_X9_59 ex5 rfl ?_
      refine am_bipush (v := (24 : Int32)) (pc' := 91) dX9_putBackInRow_89 rfl rfl ?_
      refine am_iload_n (pc' := 92) dX9_putBackInRow_91 rfl rfl ?_
      refine am_imul (pc' := 93) dX9_putBackInRow_92 rfl ?_
      refine am_iload (pc' := 95) dX9_putBackInRow_93 rfl rfl ?_
      refine am_iadd (pc' := 96) dX9_putBackInRow_95 rfl ?_
      obtain ⟨x6, ex6, hF⟩ := am_bind hF
      refine am_iald (pc' := 97) dX9_putBackInRow_96 ex6 rfl ?_
      obtain ⟨h7, eh7, hF⟩ := am_bind hF
      refine am_iast (pc' := 98) dX9_putBackInRow_97 eh7 rfl ?_
      refine am_iinc (ls' := [some (.ref v0), some (.int v1), some (.int v2), some (.int v3), some (.int (v4 + (1 : Int32)))]) (pc' := 101) (v := (v4 + (1 : Int32))) dX9_putBackInRow_98 rfl rfl (Nat.le_of_ble_eq_true rfl) rfl rfl ?_
      refine am_goto (pc' := 71) dX9_putBackInRow_101 rfl ?_
      exact w_X9_putBackInRow_71 j2 n v0 v1 v2 v3 (v4 + (1 : Int32)) h7 hF
def F_X9_putBackInRow_40 (k2 : Nat → Int32 → Int32 → am_H → Option am_H) : Nat → Nat → Int32 → Int32 → Int32 → Int32 → am_H → Option am_H
  | 0, _, _, _, _, _, _ => none
  | n + 1, v0, v1, v2, v3, v4, h =>
  if v4 ≤ v2 then
    F_X9_putBackInRow_71 k2 am_F v0 v1 v2 v3 (0 : Int32) h
  else
    (am_gr 9 23 v0 h).bind fun x2 =>
    (am_gr 9 23 v0 h).bind fun x3 =>
    (am_il 0 x3 v4 h).bind fun x4 =>
    (am_is 0 x2 (v4 + v3) x4 h).bind fun h5 =>
    F_X9_putBackInRow_40 k2 n v0 v1 v2 v3 (v4 + (-1 : Int32)) h5
theorem w_X9_putBackInRow_40 {g : am_G} {l : Launch} {h0 : am_H} {hf : am_H}  {k2 : Nat → Int32 → Int32 → am_H → Option am_H} (j2 : ∀ (v0 : Nat) (v1 : Int32) (v2 : Int32) (h : am_H), k2 v0 v1 v2 h = some hf → am_W g l M_X9_putBackInRow h0 none hf 2 [some (.ref v0), some (.int v1), some (.int v2), none, none] [] h) : ∀ (n : Nat) (v0 : Nat) (v1 : Int32) (v2 : Int32) (v3 : Int32) (v4 : Int32) (h : am_H), F_X9_putBackInRow_40 k2 n v0 v1 v2 v3 v4 h = some hf → am_W g l M_X9_putBackInRow h0 none hf 40 [some (.ref v0), some (.int v1), some (.int v2), some (.int v3), some (.int v4)] [] h
  | 0, _, _, _, _, _, _, hF => by cases hF
  | n + 1, v0, v1, v2, v3, v4, h, hF => by
    rw [F_X9_putBackInRow_40] at hF
    refine am_iload (pc' := 42) dX9_putBackInRow_40 rfl rfl ?_
    refine am_iload_n (pc' := 43) dX9_putBackInRow_42 rfl rfl ?_
    rcases am_ite hF with ⟨z1, hF⟩ | ⟨z1, hF⟩
    · refine am_icmp_le_t (pc' := 68) dX9_putBackInRow_43 rfl z1 ?_
      refine am_iconst (v := (0 : Int32)) (pc' := 69) dX9_putBackInRow_68 rfl rfl ?_
      refine am_istore (ls' := [some (.ref v0), some (.int v1), some (.int v2), some (.int v3), some (.int (0 : Int32))]) (pc' := 71) dX9_putBackInRow_69 (Nat.le_of_ble_eq_true rfl) rfl rfl ?_
      exact w_X9_putBackInRow_71 j2 am_F v0 v1 v2 v3 (0 : Int32) h hF
    · refine am_icmp_le_f (pc' := 46) (tgt := 68) dX9_putBackInRow_43 rfl z1 rfl ?_
      refine am_aload_n (pc' := 47) dX9_putBackInRow_46 rfl rfl ?_
      obtain ⟨x2, ex2, hF⟩ := am_bind hF
      refine am_getr (pc' := 50) dX9_putBackInRow_47 fw_X9_53 ex2 rfl ?_
      refine am_iload (pc' := 52) dX9_putBackInRow_50 rfl rfl ?_
      refine am_iload_n (pc' := 53) dX9_putBackInRow_52 rfl rfl ?_
      refine am_iadd (pc' := 54) dX9_putBackInRow_53 rfl ?_
      refine am_aload_n (pc' := 55) dX9_putBackInRow_54 rfl rfl ?_
      obtain ⟨x3, ex3, hF⟩ := am_bind hF
      refine am_getr (pc' := 58) dX9_putBackInRow_55 fw_X9_53 ex3 rfl ?_
      refine am_iload (pc' := 60) dX9_putBackInRow_58 rfl rfl ?_
      obtain ⟨x4, ex4, hF⟩ := am_bind hF
      refine am_iald (pc' := 61) dX9_putBackInRow_60 ex4 rfl ?_
      obtain ⟨h5, eh5, hF⟩ := am_bind hF
      refine am_iast (pc' := 62) dX9_putBackInRow_61 eh5 rfl ?_
      refine am_iinc (ls' := [some (.ref v0), some (.int v1), some (.int v2), some (.int v3), some (.int (v4 + (-1 : Int32)))]) (pc' := 65) (v := (v4 + (-1 : Int32))) dX9_putBackInRow_62 rfl rfl (Nat.le_of_ble_eq_true rfl) rfl rfl ?_
      refine am_goto (pc' := 40) dX9_putBackInRow_65 rfl ?_
      exact w_X9_putBackInRow_40 j2 n v0 v1 v2 v3 (v4 + (-1 : Int32)) h5 hF
def F_X9_putBackInRow_2 : Nat → Nat → Int32 → Int32 → am_H → Option am_H
  | 0, _, _, _, _ => none
  | n + 1, v0, v1, v2, h =>
  (am_gi 9 24 v0 h).bind fun x1 =>
  if x1 ≤ v2 then
    some h
  else
    (am_gr 9 23 v0 h).bind fun x3 =>
    (am_il 0 x3 v2 h).bind fun x4 =>
    if x4 = ((16 : Int32) + v1) then
      (am_gr 9 26 v0 h).bind fun x6 =>
      (am_il 0 x6 v1 h).bind fun x7 =>
      (am_gi 9 24 v0 h).bind fun x8 =>
      F_X9_putBackInRow_40 (F_X9_putBackInRow_2 n) am_F v0 v1 v2 (x7 - (1 : Int32)) (x8 - (1 : Int32)) h
    else
      F_X9_putBackInRow_114 (F_X9_putBackInRow_2 n) v0 v1 v2 h
theorem w_X9_putBackInRow_2 {g : am_G} {l : Launch} {h0 : am_H} {hf : am_H}  : ∀ (n : Nat) (v0 : Nat) (v1 : Int32) (v2 : Int32) (h : am_H), F_X9_putBackInRow_2 n v0 v1 v2 h = some hf → am_W g l M_X9_putBackInRow h0 none hf 2 [some (.ref v0), some (.int v1), some (.int v2), none, none] [] h
  | 0, _, _, _, _, hF => by cases hF
  | n + 1, v0, v1, v2, h, hF => by
    rw [F_X9_putBackInRow_2] at hF
    refine am_iload_n (pc' := 3) dX9_putBackInRow_2 rfl rfl ?_
    refine am_aload_n (pc' := 4) dX9_putBackInRow_3 rfl rfl ?_
    obtain ⟨x1, ex1, hF⟩ := am_bind hF
    refine am_geti (pc' := 7) dX9_putBackInRow_4 fw_X9_207 ex1 rfl ?_
    rcases am_ite hF with ⟨z2, hF⟩ | ⟨z2, hF⟩
    · refine am_icmp_ge_t (pc' := 120) dX9_putBackInRow_7 rfl z2 ?_
      cases hF
      exact am_vret dX9_putBackInRow_120 rfl
    · refine am_icmp_ge_f (pc' := 10) (tgt := 120) dX9_putBackInRow_7 rfl z2 rfl ?_
      refine am_aload_n (pc' := 11) dX9_putBackInRow_10 rfl rfl ?_
      obtain ⟨x3, ex3, hF⟩ := am_bind hF
      refine am_getr (pc' := 14) dX9_putBackInRow_11 fw_X9_53 ex3 rfl ?_
      refine am_iload_n (pc' := 15) dX9_putBackInRow_14 rfl rfl ?_
      obtain ⟨x4, ex4, hF⟩ := am_bind hF
      refine am_iald (pc' := 16) dX9_putBackInRow_15 ex4 rfl ?_
      refine am_bipush (v := (16 : Int32)) (pc' := 18) dX9_putBackInRow_16 rfl rfl ?_
      refine am_iload_n (pc' := 19) dX9_putBackInRow_18 rfl rfl ?_
      refine am_iadd (pc' := 20) dX9_putBackInRow_19 rfl ?_
      rcases am_ite hF with ⟨z5, hF⟩ | ⟨z5, hF⟩
      · refine am_icmp_ne_f (pc' := 23) (tgt := 114) dX9_putBackInRow_20 rfl z5 rfl ?_
        refine am_aload_n (pc' := 24) dX9_putBackInRow_23 rfl rfl ?_
        obtain ⟨x6, ex6, hF⟩ := am_bind hF
        refine am_getr (pc' := 27) dX9_putBackInRow_24 fw_X9_56 ex6 rfl ?_
        refine am_iload_n (pc' := 28) dX9_putBackInRow_27 rfl rfl ?_
        obtain ⟨x7, ex7, hF⟩ := am_bind hF
        refine am_iald (pc' := 29) dX9_putBackInRow_28 ex7 rfl ?_
        refine am_iconst (v := (1 : Int32)) (pc' := 30) dX9_putBackInRow_29 rfl rfl ?_
        refine am_isub (pc' := 31) dX9_putBackInRow_30 rfl ?_
        refine am_istore_n (ls' := [some (.ref v0), some (.int v1), some (.int v2), some (.int (x7 - (1 : Int32))), none]) (pc' := 32) dX9_putBackInRow_31 (Nat.le_of_ble_eq_true rfl) rfl rfl ?_
        refine am_aload_n (pc' := 33) dX9_putBackInRow_32 rfl rfl ?_
        obtain ⟨x8, ex8, hF⟩ := am_bind hF
        refine am_geti (pc' := 36) dX9_putBackInRow_33 fw_X9_207 ex8 rfl ?_
        refine am_iconst (v := (1 : Int32)) (pc' := 37) dX9_putBackInRow_36 rfl rfl ?_
        refine am_isub (pc' := 38) dX9_putBackInRow_37 rfl ?_
        refine am_istore (ls' := [some (.ref v0), some (.int v1), some (.int v2), some (.int (x7 - (1 : Int32))), some (.int (x8 - (1 : Int32)))]) (pc' := 40) dX9_putBackInRow_38 (Nat.le_of_ble_eq_true rfl) rfl rfl ?_
        exact w_X9_putBackInRow_40 (w_X9_putBackInRow_2 n) am_F v0 v1 v2 (x7 - (1 : Int32)) (x8 - (1 : Int32)) h hF
      · refine am_icmp_ne_t (pc' := 114) dX9_putBackInRow_20 rfl z5 ?_
        exact w_X9_putBackInRow_114 (w_X9_putBackInRow_2 n) v0 v1 v2 h hF
def F_X9_putBackInRow_b (v0 : Nat) (v1 : Int32) (h : am_H) : Option am_H :=
  F_X9_putBackInRow_2 am_F v0 v1 (0 : Int32) h
theorem w_X9_putBackInRow {g : am_G} {l : Launch} {h0 : am_H} {hf : am_H}  (v0 : Nat) (v1 : Int32) (h : am_H) (hF : F_X9_putBackInRow_b v0 v1 h = some hf) : am_W g l M_X9_putBackInRow h0 none hf 0 [some (.ref v0), some (.int v1), none, none, none] [] h := by
  unfold F_X9_putBackInRow_b at hF
  refine am_iconst (v := (0 : Int32)) (pc' := 1) dX9_putBackInRow_0 rfl rfl ?_
  refine am_istore_n (ls' := [some (.ref v0), some (.int v1), some (.int (0 : Int32)), none, none]) (pc' := 2) dX9_putBackInRow_1 (Nat.le_of_ble_eq_true rfl) rfl rfl ?_
  exact w_X9_putBackInRow_2 am_F v0 v1 (0 : Int32) h hF
def F_X9_putBackInRow (v0 : Nat) (v1 : Int32) (h : am_H) : Option am_H := (am_obj v0 9 h).bind fun _ => F_X9_putBackInRow_b v0 v1 h
theorem t_X9_putBackInRow {hf : am_H}  {v0 : Nat} {v1 : Int32} {h : am_H} (hF : F_X9_putBackInRow v0 v1 h = some hf) : ∃ fs, am_obj v0 9 h = some fs := by
  obtain ⟨fs, e, _⟩ := am_bind hF
  exact ⟨fs, e⟩
theorem c_X9_putBackInRow {g : am_G} {l : Launch} {hf : am_H}  {v0 : Nat} {v1 : Int32} {h : am_H} (hF : F_X9_putBackInRow v0 v1 h = some hf) : am_Met g l M_X9_putBackInRow [.ref v0, .int v1] h none hf := by
  obtain ⟨fs, e0, e⟩ := am_bind hF
  exact am_met (n := 3) (by decide +kernel) rfl (Nat.le_of_ble_eq_true rfl) (w_X9_putBackInRow v0 v1 h e)
def F_X9_putBackIn_142 (k2 : Nat → Int32 → Int32 → Int32 → am_H → Option am_H) (v0 : Nat) (v1 : Int32) (v2 : Int32) (v3 : Int32) (h : am_H) : Option am_H :=
  k2 v0 v1 v2 (v3 + (1 : Int32)) h
theorem w_X9_putBackIn_142 {g : am_G} {l : Launch} {h0 : am_H} {hf : am_H}  {k2 : Nat → Int32 → Int32 → Int32 → am_H → Option am_H} (j2 : ∀ (v0 : Nat) (v1 : Int32) (v2 : Int32) (v3 : Int32) (h : am_H), k2 v0 v1 v2 v3 h = some hf → am_W g l M_X9_putBackIn h0 none hf 2 [some (.ref v0), some (.int v1), some (.int v2), some (.int v3), none, none] [] h) (v0 : Nat) (v1 : Int32) (v2 : Int32) (v3 : Int32) (h : am_H) (hF : F_X9_putBackIn_142 k2 v0 v1 v2 v3 h = some hf) : am_W g l M_X9_putBackIn h0 none hf 142 [some (.ref v0), some (.int v1), some (.int v2), some (.int v3), none, none] [] h := by
  unfold F_X9_putBackIn_142 at hF
  refine am_iinc (ls' := [some (.ref v0), some (.int v1), some (.int v2), some (.int (v3 + (1 : Int32))), none, none]) (pc' := 145) (v := (v3 + (1 : Int32))) dX9_putBackIn_142 rfl rfl (Nat.le_of_ble_eq_true rfl) rfl rfl ?_
  refine am_goto (pc' := 2) dX9_putBackIn_145 rfl ?_
  exact j2 v0 v1 v2 (v3 + (1 : Int32)) h hF
def F_X9_putBackIn_92 (k2 : Nat → Int32 → Int32 → Int32 → am_H → Option am_H) : Nat → Nat → Int32 → Int32 → Int32 → Int32 → Int32 → am_H → Option am_H
  | 0, _, _, _, _, _, _, _ => none
  | n + 1, v0, v1, v2, v3, v4, v5, h =>
  if v4 < v5 then
    (am_gr 9 26 v0 h).bind fun x2 =>
    (am_il 0 x2 v1 h).bind fun x3 =>
    (am_is 0 x2 v1 (x3 + v4) h).bind fun h4 =>
    F_X9_putBackIn_142 k2 v0 v1 v2 v3 h4
  else
    (am_gr 9 27 v0 h).bind fun x5 =>
    (am_gr 9 27 v0 h).bind fun x6 =>
    (am_il 0 x6 (((24 : Int32) * v2) + v5) h).bind fun x7 =>
    (am_is 0 x5 ((((24 : Int32) * v1) + v3) + v5) x7 h).bind fun h8 =>
    F_X9_putBackIn_92 k2 n v0 v1 v2 v3 v4 (v5 + (1 : Int32)) h8
theorem w_X9_putBackIn_92 {g : am_G} {l : Launch} {h0 : am_H} {hf : am_H}  {k2 : Nat → Int32 → Int32 → Int32 → am_H → Option am_H} (j2 : ∀ (v0 : Nat) (v1 : Int32) (v2 : Int32) (v3 : Int32) (h : am_H), k2 v0 v1 v2 v3 h = some hf → am_W g l M_X9_putBackIn h0 none hf 2 [some (.ref v0), some (.int v1), some (.int v2), some (.int v3), none, none] [] h) : ∀ (n : Nat) (v0 : Nat) (v1 : Int32) (v2 : Int32) (v3 : Int32) (v4 : Int32) (v5 : Int32) (h : am_H), F_X9_putBackIn_92 k2 n v0 v1 v2 v3 v4 v5 h = some hf → am_W g l M_X9_putBackIn h0 none hf 92 [some (.ref v0), some (.int v1), some (.int v2), some (.int v3), some (.int v4), some (.int v5)] [] h
  | 0, _, _, _, _, _, _, _, hF => by cases hF
  | n + 1, v0, v1, v2, v3, v4, v5, h, hF => by
    rw [F_X9_putBackIn_92] at hF
    refine am_iload (pc' := 94) dX9_putBackIn_92 rfl rfl ?_
    refine am_iload (pc' := 96) dX9_putBackIn_94 rfl rfl ?_
    rcases am_ite hF with ⟨z1, hF⟩ | ⟨z1, hF⟩
    · refine am_icmp_gt_t (pc' := 131) dX9_putBackIn_96 rfl z1 ?_
      refine am_aload_n (pc' := 132) dX9_putBackIn_131 rfl rfl ?_
      obtain ⟨x2, ex2, hF⟩ := am_bind hF
      refine am_getr (pc' := 135) dX9_putBackIn_132 fw_X9_56 ex2 rfl ?_
      refine am_iload_n (pc' := 136) dX9_putBackIn_135 rfl rfl ?_
      refine am_dup2 (pc' := 137) dX9_putBackIn_136 rfl rfl rfl ?_
      obtain ⟨x3, ex3, hF⟩ := am_bind hF
      refine am_iald (pc' := 138) dX9_putBackIn_137 ex3 rfl ?_
      refine am_iload (pc' := 140) dX9_putBackIn_138 rfl rfl ?_
      refine am_iadd (pc' := 141) dX9_putBackIn_140 rfl ?_
      obtain ⟨h4, eh4, hF⟩ := am_bind hF
      refine am_iast (pc' := 142) dX9_putBackIn_141 eh4 rfl ?_
      exact am_weak [true, true, true, true, false, false] (w_X9_putBackIn_142 j2 v0 v1 v2 v3 h4 hF)
    · refine am_icmp_gt_f (pc' := 99) (tgt := 131) dX9_putBackIn_96 rfl z1 rfl ?_
      refine am_aload_n (pc' := 100) dX9_putBackIn_99 rfl rfl ?_
      obtain ⟨x5, ex5, hF⟩ := am_bind hF
      refine am_getr (pc' := 103) dX9_putBackIn_100 fw_X9_59 ex5 rfl ?_
      refine am_bipush (v := (24 : Int32)) (pc' := 105) dX9_putBackIn_103 rfl rfl ?_
      refine am_iload_n (pc' := 106) dX9_putBackIn_105 rfl rfl ?_
      refine am_imul (pc' := 107) dX9_putBackIn_106 rfl ?_
      refine am_iload_n (pc' := 108) dX9_putBackIn_107 rfl rfl ?_
      refine am_iadd (pc' := 109) dX9_putBackIn_108 rfl ?_
      refine am_iload (pc' := 111) dX9_putBackIn_109 rfl rfl ?_
      refine am_iadd (pc' := 112) dX9_putBackIn_111 rfl ?_
      refine am_aload_n (pc' := 113) dX9_putBackIn_112 rfl rfl ?_
      obtain ⟨x6, ex6, hF⟩ := am_bind hF
      refine am_getr (pc' := 116) dX9_putBackIn_113 fw_X9_59 ex6 rfl ?_
      refine am_bipush (v := (24 : Int32)) (pc' := 118) dX9_putBackIn_116 rfl rfl ?_
      refine am_iload_n (pc' := 119) dX9_putBackIn_118 rfl rfl ?_
      refine am_imul (pc' := 120) dX9_putBackIn_119 rfl ?_
      refine am_iload (pc' := 122) dX9_putBackIn_120 rfl rfl ?_
      refine am_iadd (pc' := 123) dX9_putBackIn_122 rfl ?_
      obtain ⟨x7, ex7, hF⟩ := am_bind hF
      refine am_iald (pc' := 124) dX9_putBackIn_123 ex7 rfl ?_
      obtain ⟨h8, eh8, hF⟩ := am_bind hF
      refine am_iast (pc' := 125) dX9_putBackIn_124 eh8 rfl ?_
      refine am_iinc (ls' := [some (.ref v0), some (.int v1), some (.int v2), some (.int v3), some (.int v4), some (.int (v5 + (1 : Int32)))]) (pc' := 128) (v := (v5 + (1 : Int32))) dX9_putBackIn_125 rfl rfl (Nat.le_of_ble_eq_true rfl) rfl rfl ?_
      refine am_goto (pc' := 92) dX9_putBackIn_128 rfl ?_
      exact w_X9_putBackIn_92 j2 n v0 v1 v2 v3 v4 (v5 + (1 : Int32)) h8 hF
def F_X9_putBackIn_50 (k2 : Nat → Int32 → Int32 → Int32 → am_H → Option am_H) : Nat → Nat → Int32 → Int32 → Int32 → Int32 → Int32 → am_H → Option am_H
  | 0, _, _, _, _, _, _, _ => none
  | n + 1, v0, v1, v2, v3, v4, v5, h =>
  if v5 ≤ v3 then
    F_X9_putBackIn_92 k2 am_F v0 v1 v2 v3 v4 (0 : Int32) h
  else
    (am_gr 9 27 v0 h).bind fun x2 =>
    (am_gr 9 27 v0 h).bind fun x3 =>
    (am_il 0 x3 (((24 : Int32) * v1) + v5) h).bind fun x4 =>
    (am_is 0 x2 ((((24 : Int32) * v1) + v5) + v4) x4 h).bind fun h5 =>
    F_X9_putBackIn_50 k2 n v0 v1 v2 v3 v4 (v5 + (-1 : Int32)) h5
theorem w_X9_putBackIn_50 {g : am_G} {l : Launch} {h0 : am_H} {hf : am_H}  {k2 : Nat → Int32 → Int32 → Int32 → am_H → Option am_H} (j2 : ∀ (v0 : Nat) (v1 : Int32) (v2 : Int32) (v3 : Int32) (h : am_H), k2 v0 v1 v2 v3 h = some hf → am_W g l M_X9_putBackIn h0 none hf 2 [some (.ref v0), some (.int v1), some (.int v2), some (.int v3), none, none] [] h) : ∀ (n : Nat) (v0 : Nat) (v1 : Int32) (v2 : Int32) (v3 : Int32) (v4 : Int32) (v5 : Int32) (h : am_H), F_X9_putBackIn_50 k2 n v0 v1 v2 v3 v4 v5 h = some hf → am_W g l M_X9_putBackIn h0 none hf 50 [some (.ref v0), some (.int v1), some (.int v2), some (.int v3), some (.int v4), some (.int v5)] [] h
  | 0, _, _, _, _, _, _, _, hF => by cases hF
  | n + 1, v0, v1, v2, v3, v4, v5, h, hF => by
    rw [F_X9_putBackIn_50] at hF
    refine am_iload (pc' := 52) dX9_putBackIn_50 rfl rfl ?_
    refine am_iload_n (pc' := 53) dX9_putBackIn_52 rfl rfl ?_
    rcases am_ite hF with ⟨z1, hF⟩ | ⟨z1, hF⟩
    · refine am_icmp_le_t (pc' := 89) dX9_putBackIn_53 rfl z1 ?_
      refine am_iconst (v := (0 : Int32)) (pc' := 90) dX9_putBackIn_89 rfl rfl ?_
      refine am_istore (ls' := [some (.ref v0), some (.int v1), some (.int v2), some (.int v3), some (.int v4), some (.int (0 : Int32))]) (pc' := 92) dX9_putBackIn_90 (Nat.le_of_ble_eq_true rfl) rfl rfl ?_
      exact w_X9_putBackIn_92 j2 am_F v0 v1 v2 v3 v4 (0 : Int32) h hF
    · refine am_icmp_le_f (pc' := 56) (tgt := 89) dX9_putBackIn_53 rfl z1 rfl ?_
      refine am_aload_n (pc' := 57) dX9_putBackIn_56 rfl rfl ?_
      obtain ⟨x2, ex2, hF⟩ := am_bind hF
      refine am_getr (pc' := 60) dX9_putBackIn_57 fw_X9_59 ex2 rfl ?_
      refine am_bipush (v := (24 : Int32)) (pc' := 62) dX9_putBackIn_60 rfl rfl ?_
      refine am_iload_n (pc' := 63) dX9_putBackIn_62 rfl rfl ?_
      refine am_imul (pc' := 64) dX9_putBackIn_63 rfl ?_
      refine am_iload (pc' := 66) dX9_putBackIn_64 rfl rfl ?_
      refine am_iadd (pc' := 67) dX9_putBackIn_66 rfl ?_
      refine am_iload (pc' := 69) dX9_putBackIn_67 rfl rfl ?_
      refine am_iadd (pc' := 70) dX9_putBackIn_69 rfl ?_
      refine am_aload_n (pc' := 71) dX9_putBackIn_70 rfl rfl ?_
      obtain ⟨x3, ex3, hF⟩ := am_bind hF
      refine am_getr (pc' := 74) dX9_putBackIn_71 fw_X9_59 ex3 rfl ?_
      refine am_bipush (v := (24 : Int32)) (pc' := 76) dX9_putBackIn_74 rfl rfl ?_
      refine am_iload_n (pc' := 77) dX9_putBackIn_76 rfl rfl ?_
      refine am_imul (pc' := 78) dX9_putBackIn_77 rfl ?_
      refine am_iload (pc' := 80) dX9_putBackIn_78 rfl rfl ?_
      refine am_iadd (pc' := 81) dX9_putBackIn_80 rfl ?_
      obtain ⟨x4, ex4, hF⟩ := am_bind hF
      refine am_iald (pc' := 82) dX9_putBackIn_81 ex4 rfl ?_
      obtain ⟨h5, eh5, hF⟩ := am_bind hF
      refine am_iast (pc' := 83) dX9_putBackIn_82 eh5 rfl ?_
      refine am_iinc (ls' := [some (.ref v0), some (.int v1), some (.int v2), some (.int v3), some (.int v4), some (.int (v5 + (-1 : Int32)))]) (pc' := 86) (v := (v5 + (-1 : Int32))) dX9_putBackIn_83 rfl rfl (Nat.le_of_ble_eq_true rfl) rfl rfl ?_
      refine am_goto (pc' := 50) dX9_putBackIn_86 rfl ?_
      exact w_X9_putBackIn_50 j2 n v0 v1 v2 v3 v4 (v5 + (-1 : Int32)) h5 hF
def F_X9_putBackIn_2 : Nat → Nat → Int32 → Int32 → Int32 → am_H → Option am_H
  | 0, _, _, _, _, _ => none
  | n + 1, v0, v1, v2, v3, h =>
  (am_gr 9 26 v0 h).bind fun x1 =>
  (am_il 0 x1 v1 h).bind fun x2 =>
  if x2 ≤ v3 then
    some h
  else
    (am_gr 9 27 v0 h).bind fun x4 =>
    (am_il 0 x4 (((24 : Int32) * v1) + v3) h).bind fun x5 =>
    if x5 = ((16 : Int32) + v2) then
      (am_gr 9 26 v0 h).bind fun x7 =>
      (am_il 0 x7 v2 h).bind fun x8 =>
      (am_gr 9 26 v0 h).bind fun x9 =>
      (am_il 0 x9 v1 h).bind fun x10 =>
      F_X9_putBackIn_50 (F_X9_putBackIn_2 n) am_F v0 v1 v2 v3 (x8 - (1 : Int32)) (x10 - (1 : Int32)) h
    else
      F_X9_putBackIn_142 (F_X9_putBackIn_2 n) v0 v1 v2 v3 h
theorem w_X9_putBackIn_2 {g : am_G} {l : Launch} {h0 : am_H} {hf : am_H}  : ∀ (n : Nat) (v0 : Nat) (v1 : Int32) (v2 : Int32) (v3 : Int32) (h : am_H), F_X9_putBackIn_2 n v0 v1 v2 v3 h = some hf → am_W g l M_X9_putBackIn h0 none hf 2 [some (.ref v0), some (.int v1), some (.int v2), some (.int v3), none, none] [] h
  | 0, _, _, _, _, _, hF => by cases hF
  | n + 1, v0, v1, v2, v3, h, hF => by
    rw [F_X9_putBackIn_2] at hF
    refine am_iload_n (pc' := 3) dX9_putBackIn_2 rfl rfl ?_
    refine am_aload_n (pc' := 4) dX9_putBackIn_3 rfl rfl ?_
    obtain ⟨x1, ex1, hF⟩ := am_bind hF
    refine am_getr (pc' := 7) dX9_putBackIn_4 fw_X9_56 ex1 rfl ?_
    refine am_iload_n (pc' := 8) dX9_putBackIn_7 rfl rfl ?_
    obtain ⟨x2, ex2, hF⟩ := am_bind hF
    refine am_iald (pc' := 9) dX9_putBackIn_8 ex2 rfl ?_
    rcases am_ite hF with ⟨z3, hF⟩ | ⟨z3, hF⟩
    · refine am_icmp_ge_t (pc' := 148) dX9_putBackIn_9 rfl z3 ?_
      cases hF
      exact am_vret dX9_putBackIn_148 rfl
    · refine am_icmp_ge_f (pc' := 12) (tgt := 148) dX9_putBackIn_9 rfl z3 rfl ?_
      refine am_aload_n (pc' := 13) dX9_putBackIn_12 rfl rfl ?_
      obtain ⟨x4, ex4, hF⟩ := am_bind hF
      refine am_getr (pc' := 16) dX9_putBackIn_13 fw_X9_59 ex4 rfl ?_
      refine am_bipush (v := (24 : Int32)) (pc' := 18) dX9_putBackIn_16 rfl rfl ?_
      refine am_iload_n (pc' := 19) dX9_putBackIn_18 rfl rfl ?_
      refine am_imul (pc' := 20) dX9_putBackIn_19 rfl ?_
      refine am_iload_n (pc' := 21) dX9_putBackIn_20 rfl rfl ?_
      refine am_iadd (pc' := 22) dX9_putBackIn_21 rfl ?_
      obtain ⟨x5, ex5, hF⟩ := am_bind hF
      refine am_iald (pc' := 23) dX9_putBackIn_22 ex5 rfl ?_
      refine am_bipush (v := (16 : Int32)) (pc' := 25) dX9_putBackIn_23 rfl rfl ?_
      refine am_iload_n (pc' := 26) dX9_putBackIn_25 rfl rfl ?_
      refine am_iadd (pc' := 27) dX9_putBackIn_26 rfl ?_
      rcases am_ite hF with ⟨z6, hF⟩ | ⟨z6, hF⟩
      · refine am_icmp_ne_f (pc' := 30) (tgt := 142) dX9_putBackIn_27 rfl z6 rfl ?_
        refine am_aload_n (pc' := 31) dX9_putBackIn_30 rfl rfl ?_
        obtain ⟨x7, ex7, hF⟩ := am_bind hF
        refine am_getr (pc' := 34) dX9_putBackIn_31 fw_X9_56 ex7 rfl ?_
        refine am_iload_n (pc' := 35) dX9_putBackIn_34 rfl rfl ?_
        obtain ⟨x8, ex8, hF⟩ := am_bind hF
        refine am_iald (pc' := 36) dX9_putBackIn_35 ex8 rfl ?_
        refine am_iconst (v := (1 : Int32)) (pc' := 37) dX9_putBackIn_36 rfl rfl ?_
        refine am_isub (pc' := 38) dX9_putBackIn_37 rfl ?_
        refine am_istore (ls' := [some (.ref v0), some (.int v1), some (.int v2), some (.int v3), some (.int (x8 - (1 : Int32))), none]) (pc' := 40) dX9_putBackIn_38 (Nat.le_of_ble_eq_true rfl) rfl rfl ?_
        refine am_aload_n (pc' := 41) dX9_putBackIn_40 rfl rfl ?_
        obtain ⟨x9, ex9, hF⟩ := am_bind hF
        refine am_getr (pc' := 44) dX9_putBackIn_41 fw_X9_56 ex9 rfl ?_
        refine am_iload_n (pc' := 45) dX9_putBackIn_44 rfl rfl ?_
        obtain ⟨x10, ex10, hF⟩ := am_bind hF
        refine am_iald (pc' := 46) dX9_putBackIn_45 ex10 rfl ?_
        refine am_iconst (v := (1 : Int32)) (pc' := 47) dX9_putBackIn_46 rfl rfl ?_
        refine am_isub (pc' := 48) dX9_putBackIn_47 rfl ?_
        refine am_istore (ls' := [some (.ref v0), some (.int v1), some (.int v2), some (.int v3), some (.int (x8 - (1 : Int32))), some (.int (x10 - (1 : Int32)))]) (pc' := 50) dX9_putBackIn_48 (Nat.le_of_ble_eq_true rfl) rfl rfl ?_
        exact w_X9_putBackIn_50 (w_X9_putBackIn_2 n) am_F v0 v1 v2 v3 (x8 - (1 : Int32)) (x10 - (1 : Int32)) h hF
      · refine am_icmp_ne_t (pc' := 142) dX9_putBackIn_27 rfl z6 ?_
        exact w_X9_putBackIn_142 (w_X9_putBackIn_2 n) v0 v1 v2 v3 h hF
def F_X9_putBackIn_b (v0 : Nat) (v1 : Int32) (v2 : Int32) (h : am_H) : Option am_H :=
  F_X9_putBackIn_2 am_F v0 v1 v2 (0 : Int32) h
theorem w_X9_putBackIn {g : am_G} {l : Launch} {h0 : am_H} {hf : am_H}  (v0 : Nat) (v1 : Int32) (v2 : Int32) (h : am_H) (hF : F_X9_putBackIn_b v0 v1 v2 h = some hf) : am_W g l M_X9_putBackIn h0 none hf 0 [some (.ref v0), some (.int v1), some (.int v2), none, none, none] [] h := by
  unfold F_X9_putBackIn_b at hF
  refine am_iconst (v := (0 : Int32)) (pc' := 1) dX9_putBackIn_0 rfl rfl ?_
  refine am_istore_n (ls' := [some (.ref v0), some (.int v1), some (.int v2), some (.int (0 : Int32)), none, none]) (pc' := 2) dX9_putBackIn_1 (Nat.le_of_ble_eq_true rfl) rfl rfl ?_
  exact w_X9_putBackIn_2 am_F v0 v1 v2 (0 : Int32) h hF
def F_X9_putBackIn (v0 : Nat) (v1 : Int32) (v2 : Int32) (h : am_H) : Option am_H := (am_obj v0 9 h).bind fun _ => F_X9_putBackIn_b v0 v1 v2 h
theorem t_X9_putBackIn {hf : am_H}  {v0 : Nat} {v1 : Int32} {v2 : Int32} {h : am_H} (hF : F_X9_putBackIn v0 v1 v2 h = some hf) : ∃ fs, am_obj v0 9 h = some fs := by
  obtain ⟨fs, e, _⟩ := am_bind hF
  exact ⟨fs, e⟩
theorem c_X9_putBackIn {g : am_G} {l : Launch} {hf : am_H}  {v0 : Nat} {v1 : Int32} {v2 : Int32} {h : am_H} (hF : F_X9_putBackIn v0 v1 v2 h = some hf) : am_Met g l M_X9_putBackIn [.ref v0, .int v1, .int v2] h none hf := by
  obtain ⟨fs, e0, e⟩ := am_bind hF
  exact am_met (n := 3) (by decide +kernel) rfl (Nat.le_of_ble_eq_true rfl) (w_X9_putBackIn v0 v1 v2 h e)
