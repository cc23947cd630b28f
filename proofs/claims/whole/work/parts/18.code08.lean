abbrev M_X3_narrow : am_M := ((⟨"SignCellar$Odds", "narrow", "(I)V"⟩ : MethodName), prog_5_method_4_code, 6, none, 0, 0)
theorem dX3_narrow_0 : decode prog_5_method_4_code 0 = .ok (.iconst 0, 1) := by decide +kernel
theorem dX3_narrow_1 : decode prog_5_method_4_code 1 = .ok (.istore_n 2, 1) := by decide +kernel
theorem dX3_narrow_2 : decode prog_5_method_4_code 2 = .ok (.iconst 0, 1) := by decide +kernel
theorem dX3_narrow_3 : decode prog_5_method_4_code 3 = .ok (.istore_n 3, 1) := by decide +kernel
theorem dX3_narrow_4 : decode prog_5_method_4_code 4 = .ok (.iconst 0, 1) := by decide +kernel
theorem dX3_narrow_5 : decode prog_5_method_4_code 5 = .ok (.istore 4, 2) := by decide +kernel
theorem dX3_narrow_7 : decode prog_5_method_4_code 7 = .ok (.iconst 0, 1) := by decide +kernel
theorem dX3_narrow_8 : decode prog_5_method_4_code 8 = .ok (.istore 5, 2) := by decide +kernel
theorem dX3_narrow_10 : decode prog_5_method_4_code 10 = .ok (.iload 5, 2) := by decide +kernel
theorem dX3_narrow_12 : decode prog_5_method_4_code 12 = .ok (.aload_n 0, 1) := by decide +kernel
theorem dX3_narrow_13 : decode prog_5_method_4_code 13 = .ok (.getfield 9, 3) := by decide +kernel
theorem dX3_narrow_16 : decode prog_5_method_4_code 16 = .ok (.arraylength, 1) := by decide +kernel
theorem dX3_narrow_17 : decode prog_5_method_4_code 17 = .ok (.if_icmp .ge 53, 3) := by decide +kernel
theorem dX3_narrow_20 : decode prog_5_method_4_code 20 = .ok (.iload_n 2, 1) := by decide +kernel
theorem dX3_narrow_21 : decode prog_5_method_4_code 21 = .ok (.aload_n 0, 1) := by decide +kernel
theorem dX3_narrow_22 : decode prog_5_method_4_code 22 = .ok (.getfield 9, 3) := by decide +kernel
theorem dX3_narrow_25 : decode prog_5_method_4_code 25 = .ok (.iload 5, 2) := by decide +kernel
theorem dX3_narrow_27 : decode prog_5_method_4_code 27 = .ok (.iaload, 1) := by decide +kernel
theorem dX3_narrow_28 : decode prog_5_method_4_code 28 = .ok (.iadd, 1) := by decide +kernel
theorem dX3_narrow_29 : decode prog_5_method_4_code 29 = .ok (.istore_n 2, 1) := by decide +kernel
theorem dX3_narrow_30 : decode prog_5_method_4_code 30 = .ok (.iload 5, 2) := by decide +kernel
theorem dX3_narrow_32 : decode prog_5_method_4_code 32 = .ok (.iload_n 1, 1) := by decide +kernel
theorem dX3_narrow_33 : decode prog_5_method_4_code 33 = .ok (.if_icmp .ge 16, 3) := by decide +kernel
theorem dX3_narrow_36 : decode prog_5_method_4_code 36 = .ok (.iload_n 3, 1) := by decide +kernel
theorem dX3_narrow_37 : decode prog_5_method_4_code 37 = .ok (.aload_n 0, 1) := by decide +kernel
theorem dX3_narrow_38 : decode prog_5_method_4_code 38 = .ok (.getfield 9, 3) := by decide +kernel
theorem dX3_narrow_41 : decode prog_5_method_4_code 41 = .ok (.iload 5, 2) := by decide +kernel
theorem dX3_narrow_43 : decode prog_5_method_4_code 43 = .ok (.iaload, 1) := by decide +kernel
theorem dX3_narrow_44 : decode prog_5_method_4_code 44 = .ok (.iadd, 1) := by decide +kernel
theorem dX3_narrow_45 : decode prog_5_method_4_code 45 = .ok (.istore_n 3, 1) := by decide +kernel
theorem dX3_narrow_46 : decode prog_5_method_4_code 46 = .ok (.goto 18, 3) := by decide +kernel
theorem dX3_narrow_49 : decode prog_5_method_4_code 49 = .ok (.iload 5, 2) := by decide +kernel
theorem dX3_narrow_51 : decode prog_5_method_4_code 51 = .ok (.iload_n 1, 1) := by decide +kernel
theorem dX3_narrow_52 : decode prog_5_method_4_code 52 = .ok (.if_icmp .ne 12, 3) := by decide +kernel
theorem dX3_narrow_55 : decode prog_5_method_4_code 55 = .ok (.aload_n 0, 1) := by decide +kernel
theorem dX3_narrow_56 : decode prog_5_method_4_code 56 = .ok (.getfield 9, 3) := by decide +kernel
theorem dX3_narrow_59 : decode prog_5_method_4_code 59 = .ok (.iload 5, 2) := by decide +kernel
theorem dX3_narrow_61 : decode prog_5_method_4_code 61 = .ok (.iaload, 1) := by decide +kernel
theorem dX3_narrow_62 : decode prog_5_method_4_code 62 = .ok (.istore 4, 2) := by decide +kernel
theorem dX3_narrow_64 : decode prog_5_method_4_code 64 = .ok (.iinc 5 1, 3) := by decide +kernel
theorem dX3_narrow_67 : decode prog_5_method_4_code 67 = .ok (.goto (-57), 3) := by decide +kernel
theorem dX3_narrow_70 : decode prog_5_method_4_code 70 = .ok (.iload_n 2, 1) := by decide +kernel
theorem dX3_narrow_71 : decode prog_5_method_4_code 71 = .ok (.iconst 1, 1) := by decide +kernel
theorem dX3_narrow_72 : decode prog_5_method_4_code 72 = .ok (.if_icmp .ge 4, 3) := by decide +kernel
theorem dX3_narrow_75 : decode prog_5_method_4_code 75 = .ok (.return_, 1) := by decide +kernel
theorem dX3_narrow_76 : decode prog_5_method_4_code 76 = .ok (.aload_n 0, 1) := by decide +kernel
theorem dX3_narrow_77 : decode prog_5_method_4_code 77 = .ok (.getfield 29, 3) := by decide +kernel
theorem dX3_narrow_80 : decode prog_5_method_4_code 80 = .ok (.aload_n 0, 1) := by decide +kernel
theorem dX3_narrow_81 : decode prog_5_method_4_code 81 = .ok (.getfield 24, 3) := by decide +kernel
theorem dX3_narrow_84 : decode prog_5_method_4_code 84 = .ok (.isub, 1) := by decide +kernel
theorem dX3_narrow_85 : decode prog_5_method_4_code 85 = .ok (.iconst 1, 1) := by decide +kernel
theorem dX3_narrow_86 : decode prog_5_method_4_code 86 = .ok (.iadd, 1) := by decide +kernel
theorem dX3_narrow_87 : decode prog_5_method_4_code 87 = .ok (.istore 5, 2) := by decide +kernel
theorem dX3_narrow_89 : decode prog_5_method_4_code 89 = .ok (.aload_n 0, 1) := by decide +kernel
theorem dX3_narrow_90 : decode prog_5_method_4_code 90 = .ok (.aload_n 0, 1) := by decide +kernel
theorem dX3_narrow_91 : decode prog_5_method_4_code 91 = .ok (.getfield 24, 3) := by decide +kernel
theorem dX3_narrow_94 : decode prog_5_method_4_code 94 = .ok (.iload 5, 2) := by decide +kernel
theorem dX3_narrow_96 : decode prog_5_method_4_code 96 = .ok (.iload_n 3, 1) := by decide +kernel
theorem dX3_narrow_97 : decode prog_5_method_4_code 97 = .ok (.iload 4, 2) := by decide +kernel
theorem dX3_narrow_99 : decode prog_5_method_4_code 99 = .ok (.iadd, 1) := by decide +kernel
theorem dX3_narrow_100 : decode prog_5_method_4_code 100 = .ok (.imul, 1) := by decide +kernel
theorem dX3_narrow_101 : decode prog_5_method_4_code 101 = .ok (.iload_n 2, 1) := by decide +kernel
theorem dX3_narrow_102 : decode prog_5_method_4_code 102 = .ok (.idiv, 1) := by decide +kernel
theorem dX3_narrow_103 : decode prog_5_method_4_code 103 = .ok (.iadd, 1) := by decide +kernel
theorem dX3_narrow_104 : decode prog_5_method_4_code 104 = .ok (.iconst 1, 1) := by decide +kernel
theorem dX3_narrow_105 : decode prog_5_method_4_code 105 = .ok (.isub, 1) := by decide +kernel
theorem dX3_narrow_106 : decode prog_5_method_4_code 106 = .ok (.putfield 29, 3) := by decide +kernel
theorem dX3_narrow_109 : decode prog_5_method_4_code 109 = .ok (.aload_n 0, 1) := by decide +kernel
theorem dX3_narrow_110 : decode prog_5_method_4_code 110 = .ok (.aload_n 0, 1) := by decide +kernel
theorem dX3_narrow_111 : decode prog_5_method_4_code 111 = .ok (.getfield 24, 3) := by decide +kernel
theorem dX3_narrow_114 : decode prog_5_method_4_code 114 = .ok (.iload 5, 2) := by decide +kernel
theorem dX3_narrow_116 : decode prog_5_method_4_code 116 = .ok (.iload_n 3, 1) := by decide +kernel
theorem dX3_narrow_117 : decode prog_5_method_4_code 117 = .ok (.imul, 1) := by decide +kernel
theorem dX3_narrow_118 : decode prog_5_method_4_code 118 = .ok (.iload_n 2, 1) := by decide +kernel
theorem dX3_narrow_119 : decode prog_5_method_4_code 119 = .ok (.idiv, 1) := by decide +kernel
theorem dX3_narrow_120 : decode prog_5_method_4_code 120 = .ok (.iadd, 1) := by decide +kernel
theorem dX3_narrow_121 : decode prog_5_method_4_code 121 = .ok (.putfield 24, 3) := by decide +kernel
theorem dX3_narrow_124 : decode prog_5_method_4_code 124 = .ok (.return_, 1) := by decide +kernel
abbrev M_X3_emit : am_M := ((⟨"SignCellar$Odds", "emit", "(I)V"⟩ : MethodName), prog_5_method_6_code, 3, none, 1, 21)
theorem dX3_emit_0 : decode prog_5_method_6_code 0 = .ok (.aload_n 0, 1) := by decide +kernel
theorem dX3_emit_1 : decode prog_5_method_6_code 1 = .ok (.getfield 20, 3) := by decide +kernel
theorem dX3_emit_4 : decode prog_5_method_6_code 4 = .ok (.iload_n 1, 1) := by decide +kernel
theorem dX3_emit_5 : decode prog_5_method_6_code 5 = .ok (.invokevirtual 67, 3) := by decide +kernel
theorem dX3_emit_8 : decode prog_5_method_6_code 8 = .ok (.iconst 0, 1) := by decide +kernel
theorem dX3_emit_9 : decode prog_5_method_6_code 9 = .ok (.istore_n 2, 1) := by decide +kernel
theorem dX3_emit_10 : decode prog_5_method_6_code 10 = .ok (.iload_n 2, 1) := by decide +kernel
theorem dX3_emit_11 : decode prog_5_method_6_code 11 = .ok (.aload_n 0, 1) := by decide +kernel
theorem dX3_emit_12 : decode prog_5_method_6_code 12 = .ok (.getfield 32, 3) := by decide +kernel
theorem dX3_emit_15 : decode prog_5_method_6_code 15 = .ok (.if_icmp .ge 19, 3) := by decide +kernel
theorem dX3_emit_18 : decode prog_5_method_6_code 18 = .ok (.aload_n 0, 1) := by decide +kernel
theorem dX3_emit_19 : decode prog_5_method_6_code 19 = .ok (.getfield 20, 3) := by decide +kernel
theorem dX3_emit_22 : decode prog_5_method_6_code 22 = .ok (.iconst 1, 1) := by decide +kernel
theorem dX3_emit_23 : decode prog_5_method_6_code 23 = .ok (.iload_n 1, 1) := by decide +kernel
theorem dX3_emit_24 : decode prog_5_method_6_code 24 = .ok (.isub, 1) := by decide +kernel
theorem dX3_emit_25 : decode prog_5_method_6_code 25 = .ok (.invokevirtual 67, 3) := by decide +kernel
theorem dX3_emit_28 : decode prog_5_method_6_code 28 = .ok (.iinc 2 1, 3) := by decide +kernel
theorem dX3_emit_31 : decode prog_5_method_6_code 31 = .ok (.goto (-21), 3) := by decide +kernel
theorem dX3_emit_34 : decode prog_5_method_6_code 34 = .ok (.aload_n 0, 1) := by decide +kernel
theorem dX3_emit_35 : decode prog_5_method_6_code 35 = .ok (.iconst 0, 1) := by decide +kernel
theorem dX3_emit_36 : decode prog_5_method_6_code 36 = .ok (.putfield 32, 3) := by decide +kernel
theorem dX3_emit_39 : decode prog_5_method_6_code 39 = .ok (.return_, 1) := by decide +kernel
abbrev M_X3_widen : am_M := ((⟨"SignCellar$Odds", "widen", "()V"⟩ : MethodName), prog_5_method_5_code, 3, none, 2, 43)
theorem dX3_widen_0 : decode prog_5_method_5_code 0 = .ok (.iconst 0, 1) := by decide +kernel
theorem dX3_widen_1 : decode prog_5_method_5_code 1 = .ok (.istore_n 1, 1) := by decide +kernel
theorem dX3_widen_2 : decode prog_5_method_5_code 2 = .ok (.iload_n 1, 1) := by decide +kernel
theorem dX3_widen_3 : decode prog_5_method_5_code 3 = .ok (.bipush 64, 2) := by decide +kernel
theorem dX3_widen_5 : decode prog_5_method_5_code 5 = .ok (.if_icmp .ge 111, 3) := by decide +kernel
theorem dX3_widen_8 : decode prog_5_method_5_code 8 = .ok (.iconst 0, 1) := by decide +kernel
theorem dX3_widen_9 : decode prog_5_method_5_code 9 = .ok (.istore_n 2, 1) := by decide +kernel
theorem dX3_widen_10 : decode prog_5_method_5_code 10 = .ok (.aload_n 0, 1) := by decide +kernel
theorem dX3_widen_11 : decode prog_5_method_5_code 11 = .ok (.getfield 29, 3) := by decide +kernel
theorem dX3_widen_14 : decode prog_5_method_5_code 14 = .ok (.ldc 65, 2) := by decide +kernel
theorem dX3_widen_16 : decode prog_5_method_5_code 16 = .ok (.if_icmp .ge 11, 3) := by decide +kernel
theorem dX3_widen_19 : decode prog_5_method_5_code 19 = .ok (.aload_n 0, 1) := by decide +kernel
theorem dX3_widen_20 : decode prog_5_method_5_code 20 = .ok (.iconst 0, 1) := by decide +kernel
theorem dX3_widen_21 : decode prog_5_method_5_code 21 = .ok (.invokevirtual 56, 3) := by decide +kernel
theorem dX3_widen_24 : decode prog_5_method_5_code 24 = .ok (.goto 60, 3) := by decide +kernel
theorem dX3_widen_27 : decode prog_5_method_5_code 27 = .ok (.aload_n 0, 1) := by decide +kernel
theorem dX3_widen_28 : decode prog_5_method_5_code 28 = .ok (.getfield 24, 3) := by decide +kernel
theorem dX3_widen_31 : decode prog_5_method_5_code 31 = .ok (.ldc 65, 2) := by decide +kernel
theorem dX3_widen_33 : decode prog_5_method_5_code 33 = .ok (.if_icmp .lt 14, 3) := by decide +kernel
theorem dX3_widen_36 : decode prog_5_method_5_code 36 = .ok (.aload_n 0, 1) := by decide +kernel
theorem dX3_widen_37 : decode prog_5_method_5_code 37 = .ok (.iconst 1, 1) := by decide +kernel
theorem dX3_widen_38 : decode prog_5_method_5_code 38 = .ok (.invokevirtual 56, 3) := by decide +kernel
theorem dX3_widen_41 : decode prog_5_method_5_code 41 = .ok (.ldc 65, 2) := by decide +kernel
theorem dX3_widen_43 : decode prog_5_method_5_code 43 = .ok (.istore_n 2, 1) := by decide +kernel
theorem dX3_widen_44 : decode prog_5_method_5_code 44 = .ok (.goto 40, 3) := by decide +kernel
theorem dX3_widen_47 : decode prog_5_method_5_code 47 = .ok (.aload_n 0, 1) := by decide +kernel
theorem dX3_widen_48 : decode prog_5_method_5_code 48 = .ok (.getfield 24, 3) := by decide +kernel
theorem dX3_widen_51 : decode prog_5_method_5_code 51 = .ok (.sipush 16384, 3) := by decide +kernel
theorem dX3_widen_54 : decode prog_5_method_5_code 54 = .ok (.if_icmp .lt 29, 3) := by decide +kernel
theorem dX3_widen_57 : decode prog_5_method_5_code 57 = .ok (.aload_n 0, 1) := by decide +kernel
theorem dX3_widen_58 : decode prog_5_method_5_code 58 = .ok (.getfield 29, 3) := by decide +kernel
theorem dX3_widen_61 : decode prog_5_method_5_code 61 = .ok (.ldc 66, 2) := by decide +kernel
theorem dX3_widen_63 : decode prog_5_method_5_code 63 = .ok (.if_icmp .ge 20, 3) := by decide +kernel
theorem dX3_widen_66 : decode prog_5_method_5_code 66 = .ok (.aload_n 0, 1) := by decide +kernel
theorem dX3_widen_67 : decode prog_5_method_5_code 67 = .ok (.dup, 1) := by decide +kernel
theorem dX3_widen_68 : decode prog_5_method_5_code 68 = .ok (.getfield 32, 3) := by decide +kernel
theorem dX3_widen_71 : decode prog_5_method_5_code 71 = .ok (.iconst 1, 1) := by decide +kernel
theorem dX3_widen_72 : decode prog_5_method_5_code 72 = .ok (.iadd, 1) := by decide +kernel
theorem dX3_widen_73 : decode prog_5_method_5_code 73 = .ok (.putfield 32, 3) := by decide +kernel
theorem dX3_widen_76 : decode prog_5_method_5_code 76 = .ok (.sipush 16384, 3) := by decide +kernel
theorem dX3_widen_79 : decode prog_5_method_5_code 79 = .ok (.istore_n 2, 1) := by decide +kernel
theorem dX3_widen_80 : decode prog_5_method_5_code 80 = .ok (.goto 4, 3) := by decide +kernel
theorem dX3_widen_83 : decode prog_5_method_5_code 83 = .ok (.return_, 1) := by decide +kernel
theorem dX3_widen_84 : decode prog_5_method_5_code 84 = .ok (.aload_n 0, 1) := by decide +kernel
theorem dX3_widen_85 : decode prog_5_method_5_code 85 = .ok (.iconst 2, 1) := by decide +kernel
theorem dX3_widen_86 : decode prog_5_method_5_code 86 = .ok (.aload_n 0, 1) := by decide +kernel
theorem dX3_widen_87 : decode prog_5_method_5_code 87 = .ok (.getfield 24, 3) := by decide +kernel
theorem dX3_widen_90 : decode prog_5_method_5_code 90 = .ok (.iload_n 2, 1) := by decide +kernel
theorem dX3_widen_91 : decode prog_5_method_5_code 91 = .ok (.isub, 1) := by decide +kernel
theorem dX3_widen_92 : decode prog_5_method_5_code 92 = .ok (.imul, 1) := by decide +kernel
theorem dX3_widen_93 : decode prog_5_method_5_code 93 = .ok (.putfield 24, 3) := by decide +kernel
theorem dX3_widen_96 : decode prog_5_method_5_code 96 = .ok (.aload_n 0, 1) := by decide +kernel
theorem dX3_widen_97 : decode prog_5_method_5_code 97 = .ok (.iconst 2, 1) := by decide +kernel
theorem dX3_widen_98 : decode prog_5_method_5_code 98 = .ok (.aload_n 0, 1) := by decide +kernel
theorem dX3_widen_99 : decode prog_5_method_5_code 99 = .ok (.getfield 29, 3) := by decide +kernel
theorem dX3_widen_102 : decode prog_5_method_5_code 102 = .ok (.iload_n 2, 1) := by decide +kernel
theorem dX3_widen_103 : decode prog_5_method_5_code 103 = .ok (.isub, 1) := by decide +kernel
theorem dX3_widen_104 : decode prog_5_method_5_code 104 = .ok (.imul, 1) := by decide +kernel
theorem dX3_widen_105 : decode prog_5_method_5_code 105 = .ok (.iconst 1, 1) := by decide +kernel
theorem dX3_widen_106 : decode prog_5_method_5_code 106 = .ok (.iadd, 1) := by decide +kernel
theorem dX3_widen_107 : decode prog_5_method_5_code 107 = .ok (.putfield 29, 3) := by decide +kernel
theorem dX3_widen_110 : decode prog_5_method_5_code 110 = .ok (.iinc 1 1, 3) := by decide +kernel
theorem dX3_widen_113 : decode prog_5_method_5_code 113 = .ok (.goto (-111), 3) := by decide +kernel
theorem dX3_widen_116 : decode prog_5_method_5_code 116 = .ok (.return_, 1) := by decide +kernel
abbrev M_X3_squeeze : am_M := ((⟨"SignCellar$Odds", "squeeze", "(LSignCellar$Row;)V"⟩ : MethodName), prog_5_method_2_code, 3, none, 3, 65)
theorem dX3_squeeze_0 : decode prog_5_method_2_code 0 = .ok (.aload_n 0, 1) := by decide +kernel
theorem dX3_squeeze_1 : decode prog_5_method_2_code 1 = .ok (.getfield 20, 3) := by decide +kernel
theorem dX3_squeeze_4 : decode prog_5_method_2_code 4 = .ok (.invokevirtual 35, 3) := by decide +kernel
theorem dX3_squeeze_7 : decode prog_5_method_2_code 7 = .ok (.aload_n 0, 1) := by decide +kernel
theorem dX3_squeeze_8 : decode prog_5_method_2_code 8 = .ok (.iconst 0, 1) := by decide +kernel
theorem dX3_squeeze_9 : decode prog_5_method_2_code 9 = .ok (.putfield 24, 3) := by decide +kernel
theorem dX3_squeeze_12 : decode prog_5_method_2_code 12 = .ok (.aload_n 0, 1) := by decide +kernel
theorem dX3_squeeze_13 : decode prog_5_method_2_code 13 = .ok (.ldc 28, 2) := by decide +kernel
theorem dX3_squeeze_15 : decode prog_5_method_2_code 15 = .ok (.putfield 29, 3) := by decide +kernel
theorem dX3_squeeze_18 : decode prog_5_method_2_code 18 = .ok (.aload_n 0, 1) := by decide +kernel
theorem dX3_squeeze_19 : decode prog_5_method_2_code 19 = .ok (.iconst 0, 1) := by decide +kernel
theorem dX3_squeeze_20 : decode prog_5_method_2_code 20 = .ok (.putfield 32, 3) := by decide +kernel
theorem dX3_squeeze_23 : decode prog_5_method_2_code 23 = .ok (.iconst 0, 1) := by decide +kernel
theorem dX3_squeeze_24 : decode prog_5_method_2_code 24 = .ok (.istore_n 2, 1) := by decide +kernel
theorem dX3_squeeze_25 : decode prog_5_method_2_code 25 = .ok (.iload_n 2, 1) := by decide +kernel
theorem dX3_squeeze_26 : decode prog_5_method_2_code 26 = .ok (.aload_n 1, 1) := by decide +kernel
theorem dX3_squeeze_27 : decode prog_5_method_2_code 27 = .ok (.invokevirtual 38, 3) := by decide +kernel
theorem dX3_squeeze_30 : decode prog_5_method_2_code 30 = .ok (.if_icmp .ge 28, 3) := by decide +kernel
theorem dX3_squeeze_33 : decode prog_5_method_2_code 33 = .ok (.aload_n 0, 1) := by decide +kernel
theorem dX3_squeeze_34 : decode prog_5_method_2_code 34 = .ok (.aload_n 1, 1) := by decide +kernel
theorem dX3_squeeze_35 : decode prog_5_method_2_code 35 = .ok (.iload_n 2, 1) := by decide +kernel
theorem dX3_squeeze_36 : decode prog_5_method_2_code 36 = .ok (.invokevirtual 42, 3) := by decide +kernel
theorem dX3_squeeze_39 : decode prog_5_method_2_code 39 = .ok (.aload_n 0, 1) := by decide +kernel
theorem dX3_squeeze_40 : decode prog_5_method_2_code 40 = .ok (.aload_n 1, 1) := by decide +kernel
theorem dX3_squeeze_41 : decode prog_5_method_2_code 41 = .ok (.iload_n 2, 1) := by decide +kernel
theorem dX3_squeeze_42 : decode prog_5_method_2_code 42 = .ok (.invokevirtual 46, 3) := by decide +kernel
theorem dX3_squeeze_45 : decode prog_5_method_2_code 45 = .ok (.invokevirtual 50, 3) := by decide +kernel
theorem dX3_squeeze_48 : decode prog_5_method_2_code 48 = .ok (.aload_n 0, 1) := by decide +kernel
theorem dX3_squeeze_49 : decode prog_5_method_2_code 49 = .ok (.invokevirtual 53, 3) := by decide +kernel
theorem dX3_squeeze_52 : decode prog_5_method_2_code 52 = .ok (.iinc 2 1, 3) := by decide +kernel
theorem dX3_squeeze_55 : decode prog_5_method_2_code 55 = .ok (.goto (-30), 3) := by decide +kernel
theorem dX3_squeeze_58 : decode prog_5_method_2_code 58 = .ok (.aload_n 0, 1) := by decide +kernel
theorem dX3_squeeze_59 : decode prog_5_method_2_code 59 = .ok (.dup, 1) := by decide +kernel
theorem dX3_squeeze_60 : decode prog_5_method_2_code 60 = .ok (.getfield 32, 3) := by decide +kernel
theorem dX3_squeeze_63 : decode prog_5_method_2_code 63 = .ok (.iconst 1, 1) := by decide +kernel
theorem dX3_squeeze_64 : decode prog_5_method_2_code 64 = .ok (.iadd, 1) := by decide +kernel
theorem dX3_squeeze_65 : decode prog_5_method_2_code 65 = .ok (.putfield 32, 3) := by decide +kernel
theorem dX3_squeeze_68 : decode prog_5_method_2_code 68 = .ok (.aload_n 0, 1) := by decide +kernel
theorem dX3_squeeze_69 : decode prog_5_method_2_code 69 = .ok (.aload_n 0, 1) := by decide +kernel
theorem dX3_squeeze_70 : decode prog_5_method_2_code 70 = .ok (.getfield 24, 3) := by decide +kernel
theorem dX3_squeeze_73 : decode prog_5_method_2_code 73 = .ok (.sipush 16384, 3) := by decide +kernel
theorem dX3_squeeze_76 : decode prog_5_method_2_code 76 = .ok (.if_icmp .ge 7, 3) := by decide +kernel
theorem dX3_squeeze_79 : decode prog_5_method_2_code 79 = .ok (.iconst 0, 1) := by decide +kernel
theorem dX3_squeeze_80 : decode prog_5_method_2_code 80 = .ok (.goto 4, 3) := by decide +kernel
theorem dX3_squeeze_83 : decode prog_5_method_2_code 83 = .ok (.iconst 1, 1) := by decide +kernel
theorem dX3_squeeze_84 : decode prog_5_method_2_code 84 = .ok (.invokevirtual 56, 3) := by decide +kernel
theorem dX3_squeeze_87 : decode prog_5_method_2_code 87 = .ok (.return_, 1) := by decide +kernel
abbrev M_X6_isAhead : am_M := ((⟨"SignCellar$Turns", "isAhead", "(LSignCellar$Row;II)Z"⟩ : MethodName), prog_8_method_6_code, 6, (some .boolean), 1, 21)
theorem dX6_isAhead_0 : decode prog_8_method_6_code 0 = .ok (.iconst 0, 1) := by decide +kernel
theorem dX6_isAhead_1 : decode prog_8_method_6_code 1 = .ok (.istore_n 3, 1) := by decide +kernel
theorem dX6_isAhead_2 : decode prog_8_method_6_code 2 = .ok (.iload_n 3, 1) := by decide +kernel
theorem dX6_isAhead_3 : decode prog_8_method_6_code 3 = .ok (.aload_n 0, 1) := by decide +kernel
theorem dX6_isAhead_4 : decode prog_8_method_6_code 4 = .ok (.invokevirtual 34, 3) := by decide +kernel
theorem dX6_isAhead_7 : decode prog_8_method_6_code 7 = .ok (.if_icmp .gt 47, 3) := by decide +kernel
theorem dX6_isAhead_10 : decode prog_8_method_6_code 10 = .ok (.aload_n 0, 1) := by decide +kernel
theorem dX6_isAhead_11 : decode prog_8_method_6_code 11 = .ok (.iload_n 1, 1) := by decide +kernel
theorem dX6_isAhead_12 : decode prog_8_method_6_code 12 = .ok (.iload_n 3, 1) := by decide +kernel
theorem dX6_isAhead_13 : decode prog_8_method_6_code 13 = .ok (.iadd, 1) := by decide +kernel
theorem dX6_isAhead_14 : decode prog_8_method_6_code 14 = .ok (.invokevirtual 51, 3) := by decide +kernel
theorem dX6_isAhead_17 : decode prog_8_method_6_code 17 = .ok (.istore 4, 2) := by decide +kernel
theorem dX6_isAhead_19 : decode prog_8_method_6_code 19 = .ok (.aload_n 0, 1) := by decide +kernel
theorem dX6_isAhead_20 : decode prog_8_method_6_code 20 = .ok (.iload_n 2, 1) := by decide +kernel
theorem dX6_isAhead_21 : decode prog_8_method_6_code 21 = .ok (.iload_n 3, 1) := by decide +kernel
theorem dX6_isAhead_22 : decode prog_8_method_6_code 22 = .ok (.iadd, 1) := by decide +kernel
theorem dX6_isAhead_23 : decode prog_8_method_6_code 23 = .ok (.invokevirtual 51, 3) := by decide +kernel
theorem dX6_isAhead_26 : decode prog_8_method_6_code 26 = .ok (.istore 5, 2) := by decide +kernel
theorem dX6_isAhead_28 : decode prog_8_method_6_code 28 = .ok (.iload 4, 2) := by decide +kernel
theorem dX6_isAhead_30 : decode prog_8_method_6_code 30 = .ok (.iload 5, 2) := by decide +kernel
theorem dX6_isAhead_32 : decode prog_8_method_6_code 32 = .ok (.if_icmp .eq 16, 3) := by decide +kernel
theorem dX6_isAhead_35 : decode prog_8_method_6_code 35 = .ok (.iload 4, 2) := by decide +kernel
theorem dX6_isAhead_37 : decode prog_8_method_6_code 37 = .ok (.iload 5, 2) := by decide +kernel
theorem dX6_isAhead_39 : decode prog_8_method_6_code 39 = .ok (.if_icmp .ge 7, 3) := by decide +kernel
theorem dX6_isAhead_42 : decode prog_8_method_6_code 42 = .ok (.iconst 1, 1) := by decide +kernel
theorem dX6_isAhead_43 : decode prog_8_method_6_code 43 = .ok (.goto 4, 3) := by decide +kernel
theorem dX6_isAhead_46 : decode prog_8_method_6_code 46 = .ok (.iconst 0, 1) := by decide +kernel
theorem dX6_isAhead_47 : decode prog_8_method_6_code 47 = .ok (.ireturn, 1) := by decide +kernel
theorem dX6_isAhead_48 : decode prog_8_method_6_code 48 = .ok (.iinc 3 1, 3) := by decide +kernel
theorem dX6_isAhead_51 : decode prog_8_method_6_code 51 = .ok (.goto (-49), 3) := by decide +kernel
theorem dX6_isAhead_54 : decode prog_8_method_6_code 54 = .ok (.iconst 0, 1) := by decide +kernel
theorem dX6_isAhead_55 : decode prog_8_method_6_code 55 = .ok (.ireturn, 1) := by decide +kernel
abbrev M_X6_sort : am_M := ((⟨"SignCellar$Turns", "sort", "(LSignCellar$Row;I)V"⟩ : MethodName), prog_8_method_5_code, 5, none, 2, 46)
theorem dX6_sort_0 : decode prog_8_method_5_code 0 = .ok (.iconst 0, 1) := by decide +kernel
theorem dX6_sort_1 : decode prog_8_method_5_code 1 = .ok (.istore_n 3, 1) := by decide +kernel
theorem dX6_sort_2 : decode prog_8_method_5_code 2 = .ok (.iload_n 3, 1) := by decide +kernel
theorem dX6_sort_3 : decode prog_8_method_5_code 3 = .ok (.iload_n 2, 1) := by decide +kernel
theorem dX6_sort_4 : decode prog_8_method_5_code 4 = .ok (.if_icmp .gt 64, 3) := by decide +kernel
theorem dX6_sort_7 : decode prog_8_method_5_code 7 = .ok (.iload_n 3, 1) := by decide +kernel
theorem dX6_sort_8 : decode prog_8_method_5_code 8 = .ok (.istore 4, 2) := by decide +kernel
theorem dX6_sort_10 : decode prog_8_method_5_code 10 = .ok (.iload 4, 2) := by decide +kernel
theorem dX6_sort_12 : decode prog_8_method_5_code 12 = .ok (.ifCond .le 42, 3) := by decide +kernel
theorem dX6_sort_15 : decode prog_8_method_5_code 15 = .ok (.aload_n 1, 1) := by decide +kernel
theorem dX6_sort_16 : decode prog_8_method_5_code 16 = .ok (.iload_n 3, 1) := by decide +kernel
theorem dX6_sort_17 : decode prog_8_method_5_code 17 = .ok (.aload_n 0, 1) := by decide +kernel
theorem dX6_sort_18 : decode prog_8_method_5_code 18 = .ok (.getfield 9, 3) := by decide +kernel
theorem dX6_sort_21 : decode prog_8_method_5_code 21 = .ok (.iload 4, 2) := by decide +kernel
theorem dX6_sort_23 : decode prog_8_method_5_code 23 = .ok (.iconst 1, 1) := by decide +kernel
theorem dX6_sort_24 : decode prog_8_method_5_code 24 = .ok (.isub, 1) := by decide +kernel
theorem dX6_sort_25 : decode prog_8_method_5_code 25 = .ok (.iaload, 1) := by decide +kernel
theorem dX6_sort_26 : decode prog_8_method_5_code 26 = .ok (.invokestatic 64, 3) := by decide +kernel
theorem dX6_sort_29 : decode prog_8_method_5_code 29 = .ok (.ifCond .eq 25, 3) := by decide +kernel
theorem dX6_sort_32 : decode prog_8_method_5_code 32 = .ok (.aload_n 0, 1) := by decide +kernel
theorem dX6_sort_33 : decode prog_8_method_5_code 33 = .ok (.getfield 9, 3) := by decide +kernel
theorem dX6_sort_36 : decode prog_8_method_5_code 36 = .ok (.iload 4, 2) := by decide +kernel
theorem dX6_sort_38 : decode prog_8_method_5_code 38 = .ok (.aload_n 0, 1) := by decide +kernel
theorem dX6_sort_39 : decode prog_8_method_5_code 39 = .ok (.getfield 9, 3) := by decide +kernel
theorem dX6_sort_42 : decode prog_8_method_5_code 42 = .ok (.iload 4, 2) := by decide +kernel
theorem dX6_sort_44 : decode prog_8_method_5_code 44 = .ok (.iconst 1, 1) := by decide +kernel
theorem dX6_sort_45 : decode prog_8_method_5_code 45 = .ok (.isub, 1) := by decide +kernel
theorem dX6_sort_46 : decode prog_8_method_5_code 46 = .ok (.iaload, 1) := by decide +kernel
theorem dX6_sort_47 : decode prog_8_method_5_code 47 = .ok (.iastore, 1) := by decide +kernel
theorem dX6_sort_48 : decode prog_8_method_5_code 48 = .ok (.iinc 4 (-1), 3) := by decide +kernel
theorem dX6_sort_51 : decode prog_8_method_5_code 51 = .ok (.goto (-41), 3) := by decide +kernel
theorem dX6_sort_54 : decode prog_8_method_5_code 54 = .ok (.aload_n 0, 1) := by decide +kernel
theorem dX6_sort_55 : decode prog_8_method_5_code 55 = .ok (.getfield 9, 3) := by decide +kernel
theorem dX6_sort_58 : decode prog_8_method_5_code 58 = .ok (.iload 4, 2) := by decide +kernel
theorem dX6_sort_60 : decode prog_8_method_5_code 60 = .ok (.iload_n 3, 1) := by decide +kernel
theorem dX6_sort_61 : decode prog_8_method_5_code 61 = .ok (.iastore, 1) := by decide +kernel
theorem dX6_sort_62 : decode prog_8_method_5_code 62 = .ok (.iinc 3 1, 3) := by decide +kernel
theorem dX6_sort_65 : decode prog_8_method_5_code 65 = .ok (.goto (-63), 3) := by decide +kernel
theorem dX6_sort_68 : decode prog_8_method_5_code 68 = .ok (.return_, 1) := by decide +kernel
abbrev M_X6_toFront : am_M := ((⟨"SignCellar$Turns", "toFront", "(I)I"⟩ : MethodName), prog_8_method_8_code, 4, (some .int), 0, 0)
theorem dX6_toFront_0 : decode prog_8_method_8_code 0 = .ok (.iconst 0, 1) := by decide +kernel
theorem dX6_toFront_1 : decode prog_8_method_8_code 1 = .ok (.istore_n 2, 1) := by decide +kernel
theorem dX6_toFront_2 : decode prog_8_method_8_code 2 = .ok (.iload_n 2, 1) := by decide +kernel
theorem dX6_toFront_3 : decode prog_8_method_8_code 3 = .ok (.aload_n 0, 1) := by decide +kernel
theorem dX6_toFront_4 : decode prog_8_method_8_code 4 = .ok (.getfield 15, 3) := by decide +kernel
theorem dX6_toFront_7 : decode prog_8_method_8_code 7 = .ok (.arraylength, 1) := by decide +kernel
theorem dX6_toFront_8 : decode prog_8_method_8_code 8 = .ok (.iconst 1, 1) := by decide +kernel
theorem dX6_toFront_9 : decode prog_8_method_8_code 9 = .ok (.isub, 1) := by decide +kernel
theorem dX6_toFront_10 : decode prog_8_method_8_code 10 = .ok (.if_icmp .ge 19, 3) := by decide +kernel
theorem dX6_toFront_13 : decode prog_8_method_8_code 13 = .ok (.aload_n 0, 1) := by decide +kernel
theorem dX6_toFront_14 : decode prog_8_method_8_code 14 = .ok (.getfield 15, 3) := by decide +kernel
theorem dX6_toFront_17 : decode prog_8_method_8_code 17 = .ok (.iload_n 2, 1) := by decide +kernel
theorem dX6_toFront_18 : decode prog_8_method_8_code 18 = .ok (.iaload, 1) := by decide +kernel
theorem dX6_toFront_19 : decode prog_8_method_8_code 19 = .ok (.iload_n 1, 1) := by decide +kernel
theorem dX6_toFront_20 : decode prog_8_method_8_code 20 = .ok (.if_icmp .eq 9, 3) := by decide +kernel
theorem dX6_toFront_23 : decode prog_8_method_8_code 23 = .ok (.iinc 2 1, 3) := by decide +kernel
theorem dX6_toFront_26 : decode prog_8_method_8_code 26 = .ok (.goto (-24), 3) := by decide +kernel
theorem dX6_toFront_29 : decode prog_8_method_8_code 29 = .ok (.iload_n 2, 1) := by decide +kernel
theorem dX6_toFront_30 : decode prog_8_method_8_code 30 = .ok (.istore_n 3, 1) := by decide +kernel
theorem dX6_toFront_31 : decode prog_8_method_8_code 31 = .ok (.iload_n 3, 1) := by decide +kernel
theorem dX6_toFront_32 : decode prog_8_method_8_code 32 = .ok (.ifCond .le 23, 3) := by decide +kernel
theorem dX6_toFront_35 : decode prog_8_method_8_code 35 = .ok (.aload_n 0, 1) := by decide +kernel
theorem dX6_toFront_36 : decode prog_8_method_8_code 36 = .ok (.getfield 15, 3) := by decide +kernel
theorem dX6_toFront_39 : decode prog_8_method_8_code 39 = .ok (.iload_n 3, 1) := by decide +kernel
theorem dX6_toFront_40 : decode prog_8_method_8_code 40 = .ok (.aload_n 0, 1) := by decide +kernel
theorem dX6_toFront_41 : decode prog_8_method_8_code 41 = .ok (.getfield 15, 3) := by decide +kernel
theorem dX6_toFront_44 : decode prog_8_method_8_code 44 = .ok (.iload_n 3, 1) := by decide +kernel
theorem dX6_toFront_45 : decode prog_8_method_8_code 45 = .ok (.iconst 1, 1) := by decide +kernel
theorem dX6_toFront_46 : decode prog_8_method_8_code 46 = .ok (.isub, 1) := by decide +kernel
theorem dX6_toFront_47 : decode prog_8_method_8_code 47 = .ok (.iaload, 1) := by decide +kernel
theorem dX6_toFront_48 : decode prog_8_method_8_code 48 = .ok (.iastore, 1) := by decide +kernel
theorem dX6_toFront_49 : decode prog_8_method_8_code 49 = .ok (.iinc 3 (-1), 3) := by decide +kernel
theorem dX6_toFront_52 : decode prog_8_method_8_code 52 = .ok (.goto (-21), 3) := by decide +kernel
theorem dX6_toFront_55 : decode prog_8_method_8_code 55 = .ok (.aload_n 0, 1) := by decide +kernel
theorem dX6_toFront_56 : decode prog_8_method_8_code 56 = .ok (.getfield 15, 3) := by decide +kernel
theorem dX6_toFront_59 : decode prog_8_method_8_code 59 = .ok (.iconst 0, 1) := by decide +kernel
theorem dX6_toFront_60 : decode prog_8_method_8_code 60 = .ok (.iload_n 1, 1) := by decide +kernel
theorem dX6_toFront_61 : decode prog_8_method_8_code 61 = .ok (.iastore, 1) := by decide +kernel
theorem dX6_toFront_62 : decode prog_8_method_8_code 62 = .ok (.iload_n 2, 1) := by decide +kernel
theorem dX6_toFront_63 : decode prog_8_method_8_code 63 = .ok (.ireturn, 1) := by decide +kernel
abbrev M_X6_findPlaces : am_M := ((⟨"SignCellar$Turns", "findPlaces", "()V"⟩ : MethodName), prog_8_method_7_code, 2, none, 1, 23)
theorem dX6_findPlaces_0 : decode prog_8_method_7_code 0 = .ok (.iconst 0, 1) := by decide +kernel
theorem dX6_findPlaces_1 : decode prog_8_method_7_code 1 = .ok (.istore_n 1, 1) := by decide +kernel
theorem dX6_findPlaces_2 : decode prog_8_method_7_code 2 = .ok (.iload_n 1, 1) := by decide +kernel
theorem dX6_findPlaces_3 : decode prog_8_method_7_code 3 = .ok (.aload_n 0, 1) := by decide +kernel
theorem dX6_findPlaces_4 : decode prog_8_method_7_code 4 = .ok (.getfield 15, 3) := by decide +kernel
theorem dX6_findPlaces_7 : decode prog_8_method_7_code 7 = .ok (.arraylength, 1) := by decide +kernel
theorem dX6_findPlaces_8 : decode prog_8_method_7_code 8 = .ok (.if_icmp .ge 16, 3) := by decide +kernel
theorem dX6_findPlaces_11 : decode prog_8_method_7_code 11 = .ok (.aload_n 0, 1) := by decide +kernel
theorem dX6_findPlaces_12 : decode prog_8_method_7_code 12 = .ok (.getfield 15, 3) := by decide +kernel
theorem dX6_findPlaces_15 : decode prog_8_method_7_code 15 = .ok (.iload_n 1, 1) := by decide +kernel
theorem dX6_findPlaces_16 : decode prog_8_method_7_code 16 = .ok (.iload_n 1, 1) := by decide +kernel
theorem dX6_findPlaces_17 : decode prog_8_method_7_code 17 = .ok (.iastore, 1) := by decide +kernel
theorem dX6_findPlaces_18 : decode prog_8_method_7_code 18 = .ok (.iinc 1 1, 3) := by decide +kernel
theorem dX6_findPlaces_21 : decode prog_8_method_7_code 21 = .ok (.goto (-19), 3) := by decide +kernel
theorem dX6_findPlaces_24 : decode prog_8_method_7_code 24 = .ok (.aload_n 0, 1) := by decide +kernel
theorem dX6_findPlaces_25 : decode prog_8_method_7_code 25 = .ok (.getfield 27, 3) := by decide +kernel
theorem dX6_findPlaces_28 : decode prog_8_method_7_code 28 = .ok (.invokevirtual 48, 3) := by decide +kernel
theorem dX6_findPlaces_31 : decode prog_8_method_7_code 31 = .ok (.iconst 0, 1) := by decide +kernel
theorem dX6_findPlaces_32 : decode prog_8_method_7_code 32 = .ok (.istore_n 1, 1) := by decide +kernel
theorem dX6_findPlaces_33 : decode prog_8_method_7_code 33 = .ok (.iload_n 1, 1) := by decide +kernel
theorem dX6_findPlaces_34 : decode prog_8_method_7_code 34 = .ok (.aload_n 0, 1) := by decide +kernel
theorem dX6_findPlaces_35 : decode prog_8_method_7_code 35 = .ok (.getfield 23, 3) := by decide +kernel
theorem dX6_findPlaces_38 : decode prog_8_method_7_code 38 = .ok (.invokevirtual 34, 3) := by decide +kernel
theorem dX6_findPlaces_41 : decode prog_8_method_7_code 41 = .ok (.if_icmp .ge 28, 3) := by decide +kernel
theorem dX6_findPlaces_44 : decode prog_8_method_7_code 44 = .ok (.aload_n 0, 1) := by decide +kernel
theorem dX6_findPlaces_45 : decode prog_8_method_7_code 45 = .ok (.getfield 27, 3) := by decide +kernel
theorem dX6_findPlaces_48 : decode prog_8_method_7_code 48 = .ok (.aload_n 0, 1) := by decide +kernel
theorem dX6_findPlaces_49 : decode prog_8_method_7_code 49 = .ok (.aload_n 0, 1) := by decide +kernel
theorem dX6_findPlaces_50 : decode prog_8_method_7_code 50 = .ok (.getfield 23, 3) := by decide +kernel
theorem dX6_findPlaces_53 : decode prog_8_method_7_code 53 = .ok (.iload_n 1, 1) := by decide +kernel
theorem dX6_findPlaces_54 : decode prog_8_method_7_code 54 = .ok (.invokevirtual 51, 3) := by decide +kernel
theorem dX6_findPlaces_57 : decode prog_8_method_7_code 57 = .ok (.invokevirtual 68, 3) := by decide +kernel
theorem dX6_findPlaces_60 : decode prog_8_method_7_code 60 = .ok (.invokevirtual 55, 3) := by decide +kernel
theorem dX6_findPlaces_63 : decode prog_8_method_7_code 63 = .ok (.iinc 1 1, 3) := by decide +kernel
theorem dX6_findPlaces_66 : decode prog_8_method_7_code 66 = .ok (.goto (-33), 3) := by decide +kernel
theorem dX6_findPlaces_69 : decode prog_8_method_7_code 69 = .ok (.return_, 1) := by decide +kernel
abbrev M_X6_squeeze : am_M := ((⟨"SignCellar$Turns", "squeeze", "(LSignCellar$Row;)V"⟩ : MethodName), prog_8_method_2_code, 4, none, 3, 70)
theorem dX6_squeeze_0 : decode prog_8_method_2_code 0 = .ok (.aload_n 1, 1) := by decide +kernel
theorem dX6_squeeze_1 : decode prog_8_method_2_code 1 = .ok (.invokevirtual 34, 3) := by decide +kernel
theorem dX6_squeeze_4 : decode prog_8_method_2_code 4 = .ok (.bipush 24, 2) := by decide +kernel
theorem dX6_squeeze_6 : decode prog_8_method_2_code 6 = .ok (.invokestatic 38, 3) := by decide +kernel
theorem dX6_squeeze_9 : decode prog_8_method_2_code 9 = .ok (.istore_n 2, 1) := by decide +kernel
theorem dX6_squeeze_10 : decode prog_8_method_2_code 10 = .ok (.aload_n 0, 1) := by decide +kernel
theorem dX6_squeeze_11 : decode prog_8_method_2_code 11 = .ok (.aload_n 1, 1) := by decide +kernel
theorem dX6_squeeze_12 : decode prog_8_method_2_code 12 = .ok (.iload_n 2, 1) := by decide +kernel
theorem dX6_squeeze_13 : decode prog_8_method_2_code 13 = .ok (.invokevirtual 44, 3) := by decide +kernel
theorem dX6_squeeze_16 : decode prog_8_method_2_code 16 = .ok (.aload_n 0, 1) := by decide +kernel
theorem dX6_squeeze_17 : decode prog_8_method_2_code 17 = .ok (.getfield 23, 3) := by decide +kernel
theorem dX6_squeeze_20 : decode prog_8_method_2_code 20 = .ok (.invokevirtual 48, 3) := by decide +kernel
theorem dX6_squeeze_23 : decode prog_8_method_2_code 23 = .ok (.iconst 0, 1) := by decide +kernel
theorem dX6_squeeze_24 : decode prog_8_method_2_code 24 = .ok (.istore_n 3, 1) := by decide +kernel
theorem dX6_squeeze_25 : decode prog_8_method_2_code 25 = .ok (.iload_n 3, 1) := by decide +kernel
theorem dX6_squeeze_26 : decode prog_8_method_2_code 26 = .ok (.iload_n 2, 1) := by decide +kernel
theorem dX6_squeeze_27 : decode prog_8_method_2_code 27 = .ok (.if_icmp .gt 45, 3) := by decide +kernel
theorem dX6_squeeze_30 : decode prog_8_method_2_code 30 = .ok (.aload_n 0, 1) := by decide +kernel
theorem dX6_squeeze_31 : decode prog_8_method_2_code 31 = .ok (.getfield 9, 3) := by decide +kernel
theorem dX6_squeeze_34 : decode prog_8_method_2_code 34 = .ok (.iload_n 3, 1) := by decide +kernel
theorem dX6_squeeze_35 : decode prog_8_method_2_code 35 = .ok (.iaload, 1) := by decide +kernel
theorem dX6_squeeze_36 : decode prog_8_method_2_code 36 = .ok (.ifCond .ne 11, 3) := by decide +kernel
theorem dX6_squeeze_39 : decode prog_8_method_2_code 39 = .ok (.aload_n 0, 1) := by decide +kernel
theorem dX6_squeeze_40 : decode prog_8_method_2_code 40 = .ok (.iload_n 3, 1) := by decide +kernel
theorem dX6_squeeze_41 : decode prog_8_method_2_code 41 = .ok (.putfield 30, 3) := by decide +kernel
theorem dX6_squeeze_44 : decode prog_8_method_2_code 44 = .ok (.goto 22, 3) := by decide +kernel
theorem dX6_squeeze_47 : decode prog_8_method_2_code 47 = .ok (.aload_n 0, 1) := by decide +kernel
theorem dX6_squeeze_48 : decode prog_8_method_2_code 48 = .ok (.getfield 23, 3) := by decide +kernel
theorem dX6_squeeze_51 : decode prog_8_method_2_code 51 = .ok (.aload_n 1, 1) := by decide +kernel
theorem dX6_squeeze_52 : decode prog_8_method_2_code 52 = .ok (.aload_n 0, 1) := by decide +kernel
theorem dX6_squeeze_53 : decode prog_8_method_2_code 53 = .ok (.getfield 9, 3) := by decide +kernel
theorem dX6_squeeze_56 : decode prog_8_method_2_code 56 = .ok (.iload_n 3, 1) := by decide +kernel
theorem dX6_squeeze_57 : decode prog_8_method_2_code 57 = .ok (.iaload, 1) := by decide +kernel
theorem dX6_squeeze_58 : decode prog_8_method_2_code 58 = .ok (.iconst 1, 1) := by decide +kernel
theorem dX6_squeeze_59 : decode prog_8_method_2_code 59 = .ok (.isub, 1) := by decide +kernel
theorem dX6_squeeze_60 : decode prog_8_method_2_code 60 = .ok (.invokevirtual 51, 3) := by decide +kernel
theorem dX6_squeeze_63 : decode prog_8_method_2_code 63 = .ok (.invokevirtual 55, 3) := by decide +kernel
theorem dX6_squeeze_66 : decode prog_8_method_2_code 66 = .ok (.iinc 3 1, 3) := by decide +kernel
theorem dX6_squeeze_69 : decode prog_8_method_2_code 69 = .ok (.goto (-44), 3) := by decide +kernel
theorem dX6_squeeze_72 : decode prog_8_method_2_code 72 = .ok (.aload_n 0, 1) := by decide +kernel
theorem dX6_squeeze_73 : decode prog_8_method_2_code 73 = .ok (.invokevirtual 58, 3) := by decide +kernel
theorem dX6_squeeze_76 : decode prog_8_method_2_code 76 = .ok (.return_, 1) := by decide +kernel
abbrev M_X0_addWeight : am_M := ((⟨"SignCellar$Block", "addWeight", "(II)V"⟩ : MethodName), prog_2_method_2_code, 3, none, 1, 21)
theorem dX0_addWeight_0 : decode prog_2_method_2_code 0 = .ok (.aload_n 0, 1) := by decide +kernel
theorem dX0_addWeight_1 : decode prog_2_method_2_code 1 = .ok (.getfield 14, 3) := by decide +kernel
theorem dX0_addWeight_4 : decode prog_2_method_2_code 4 = .ok (.iload_n 1, 1) := by decide +kernel
theorem dX0_addWeight_5 : decode prog_2_method_2_code 5 = .ok (.invokevirtual 34, 3) := by decide +kernel
theorem dX0_addWeight_8 : decode prog_2_method_2_code 8 = .ok (.aload_n 0, 1) := by decide +kernel
theorem dX0_addWeight_9 : decode prog_2_method_2_code 9 = .ok (.getfield 20, 3) := by decide +kernel
theorem dX0_addWeight_12 : decode prog_2_method_2_code 12 = .ok (.iload_n 2, 1) := by decide +kernel
theorem dX0_addWeight_13 : decode prog_2_method_2_code 13 = .ok (.invokevirtual 34, 3) := by decide +kernel
theorem dX0_addWeight_16 : decode prog_2_method_2_code 16 = .ok (.return_, 1) := by decide +kernel
abbrev M_X2_price : am_M := ((⟨"SignCellar$Mates", "price", "()I"⟩ : MethodName), prog_4_method_3_code, 1, (some .int), 0, 0)
theorem dX2_price_0 : decode prog_4_method_3_code 0 = .ok (.aload_n 0, 1) := by decide +kernel
theorem dX2_price_1 : decode prog_4_method_3_code 1 = .ok (.getfield 9, 3) := by decide +kernel
theorem dX2_price_4 : decode prog_4_method_3_code 4 = .ok (.iconst 0, 1) := by decide +kernel
theorem dX2_price_5 : decode prog_4_method_3_code 5 = .ok (.iaload, 1) := by decide +kernel
theorem dX2_price_6 : decode prog_4_method_3_code 6 = .ok (.ireturn, 1) := by decide +kernel
abbrev M_X5_lengthOf : am_M := ((⟨"SignCellar$Rules", "lengthOf", "(I)I"⟩ : MethodName), prog_7_method_5_code, 2, (some .int), 1, 20)
theorem dX5_lengthOf_0 : decode prog_7_method_5_code 0 = .ok (.iload_n 1, 1) := by decide +kernel
theorem dX5_lengthOf_1 : decode prog_7_method_5_code 1 = .ok (.ifCond .lt 32, 3) := by decide +kernel
theorem dX5_lengthOf_4 : decode prog_7_method_5_code 4 = .ok (.iload_n 1, 1) := by decide +kernel
theorem dX5_lengthOf_5 : decode prog_7_method_5_code 5 = .ok (.aload_n 0, 1) := by decide +kernel
theorem dX5_lengthOf_6 : decode prog_7_method_5_code 6 = .ok (.getfield 27, 3) := by decide +kernel
theorem dX5_lengthOf_9 : decode prog_7_method_5_code 9 = .ok (.if_icmp .ge 24, 3) := by decide +kernel
theorem dX5_lengthOf_12 : decode prog_7_method_5_code 12 = .ok (.iload_n 1, 1) := by decide +kernel
theorem dX5_lengthOf_13 : decode prog_7_method_5_code 13 = .ok (.aload_n 0, 1) := by decide +kernel
theorem dX5_lengthOf_14 : decode prog_7_method_5_code 14 = .ok (.getfield 20, 3) := by decide +kernel
theorem dX5_lengthOf_17 : decode prog_7_method_5_code 17 = .ok (.arraylength, 1) := by decide +kernel
theorem dX5_lengthOf_18 : decode prog_7_method_5_code 18 = .ok (.if_icmp .ge 15, 3) := by decide +kernel
theorem dX5_lengthOf_21 : decode prog_7_method_5_code 21 = .ok (.aload_n 0, 1) := by decide +kernel
theorem dX5_lengthOf_22 : decode prog_7_method_5_code 22 = .ok (.getfield 20, 3) := by decide +kernel
theorem dX5_lengthOf_25 : decode prog_7_method_5_code 25 = .ok (.iload_n 1, 1) := by decide +kernel
theorem dX5_lengthOf_26 : decode prog_7_method_5_code 26 = .ok (.aaload, 1) := by decide +kernel
theorem dX5_lengthOf_27 : decode prog_7_method_5_code 27 = .ok (.invokevirtual 64, 3) := by decide +kernel
theorem dX5_lengthOf_30 : decode prog_7_method_5_code 30 = .ok (.goto 4, 3) := by decide +kernel
theorem dX5_lengthOf_33 : decode prog_7_method_5_code 33 = .ok (.iconst (-1), 1) := by decide +kernel
theorem dX5_lengthOf_34 : decode prog_7_method_5_code 34 = .ok (.ireturn, 1) := by decide +kernel
abbrev M_X5_left : am_M := ((⟨"SignCellar$Rules", "left", "()I"⟩ : MethodName), prog_7_method_3_code, 3, (some .int), 2, 41)
theorem dX5_left_0 : decode prog_7_method_3_code 0 = .ok (.iconst 0, 1) := by decide +kernel
theorem dX5_left_1 : decode prog_7_method_3_code 1 = .ok (.istore_n 1, 1) := by decide +kernel
theorem dX5_left_2 : decode prog_7_method_3_code 2 = .ok (.iconst 0, 1) := by decide +kernel
theorem dX5_left_3 : decode prog_7_method_3_code 3 = .ok (.istore_n 2, 1) := by decide +kernel
theorem dX5_left_4 : decode prog_7_method_3_code 4 = .ok (.iload_n 2, 1) := by decide +kernel
theorem dX5_left_5 : decode prog_7_method_3_code 5 = .ok (.aload_n 0, 1) := by decide +kernel
theorem dX5_left_6 : decode prog_7_method_3_code 6 = .ok (.getfield 27, 3) := by decide +kernel
theorem dX5_left_9 : decode prog_7_method_3_code 9 = .ok (.if_icmp .ge 20, 3) := by decide +kernel
theorem dX5_left_12 : decode prog_7_method_3_code 12 = .ok (.aload_n 0, 1) := by decide +kernel
theorem dX5_left_13 : decode prog_7_method_3_code 13 = .ok (.iload_n 2, 1) := by decide +kernel
theorem dX5_left_14 : decode prog_7_method_3_code 14 = .ok (.invokevirtual 61, 3) := by decide +kernel
theorem dX5_left_17 : decode prog_7_method_3_code 17 = .ok (.ifCond .le 6, 3) := by decide +kernel
theorem dX5_left_20 : decode prog_7_method_3_code 20 = .ok (.iinc 1 1, 3) := by decide +kernel
theorem dX5_left_23 : decode prog_7_method_3_code 23 = .ok (.iinc 2 1, 3) := by decide +kernel
theorem dX5_left_26 : decode prog_7_method_3_code 26 = .ok (.goto (-22), 3) := by decide +kernel
theorem dX5_left_29 : decode prog_7_method_3_code 29 = .ok (.iload_n 1, 1) := by decide +kernel
theorem dX5_left_30 : decode prog_7_method_3_code 30 = .ok (.ireturn, 1) := by decide +kernel
theorem fw_X3_24 : am_fw "SignCellar$Odds" 24 3 2 := ⟨(RX3, TX3, 5), rfl, by decide, inX3, Or.inl wd_1_108⟩
theorem fw_X3_29 : am_fw "SignCellar$Odds" 29 3 3 := ⟨(RX3, TX3, 5), rfl, by decide, inX3, Or.inl wd_1_109⟩
theorem fx_X3_24 {nm : String} : am_fx "SignCellar$Odds" 24 3 2 .int nm := ⟨(RX3, TX3, 5), tyX3, rfl, by decide, inX3, tyX3_ok, nmX3, rfl, Or.inl ⟨wd_1_108, Or.inl rfl⟩⟩
theorem fx_X3_29 {nm : String} : am_fx "SignCellar$Odds" 29 3 3 .int nm := ⟨(RX3, TX3, 5), tyX3, rfl, by decide, inX3, tyX3_ok, nmX3, rfl, Or.inl ⟨wd_1_109, Or.inl rfl⟩⟩
def F_X3_narrow_64 (k10 : Nat → Int32 → Int32 → Int32 → Int32 → Int32 → am_H → Option am_H) (v0 : Nat) (v1 : Int32) (v2 : Int32) (v3 : Int32) (v4 : Int32) (v5 : Int32) (h : am_H) : Option am_H :=
  k10 v0 v1 v2 v3 v4 (v5 + (1 : Int32)) h
theorem w_X3_narrow_64 {g : am_G} {l : Launch} {h0 : am_H} {hf : am_H}  {k10 : Nat → Int32 → Int32 → Int32 → Int32 → Int32 → am_H → Option am_H} (j10 : ∀ (v0 : Nat) (v1 : Int32) (v2 : Int32) (v3 : Int32) (v4 : Int32) (v5 : Int32) (h : am_H), k10 v0 v1 v2 v3 v4 v5 h = some hf → am_W g l M_X3_narrow h0 none hf 10 [some (.ref v0), some (.int v1), some (.int v2), some (.int v3), some (.int v4), some (.int v5)] [] h) (v0 : Nat) (v1 : Int32) (v2 : Int32) (v3 : Int32) (v4 : Int32) (v5 : Int32) (h : am_H) (hF : F_X3_narrow_64 k10 v0 v1 v2 v3 v4 v5 h = some hf) : am_W g l M_X3_narrow h0 none hf 64 [some (.ref v0), some (.int v1), some (.int v2), some (.int v3), some (.int v4), some (.int v5)] [] h := by
  unfold F_X3_narrow_64 at hF
  refine am_iinc (ls' := [some (.ref v0), some (.int v1), some (.int v2), some (.int v3), some (.int v4), some (.int (v5 + (1 : Int32)))]) (pc' := 67) (v := (v5 + (1 : Int32))) dX3_narrow_64 rfl rfl (Nat.le_of_ble_eq_true rfl) rfl rfl ?_
  refine am_goto (pc' := 10) dX3_narrow_67 rfl ?_
  exact j10 v0 v1 v2 v3 v4 (v5 + (1 : Int32)) h hF
def F_X3_narrow_10 : Nat → Nat → Int32 → Int32 → Int32 → Int32 → Int32 → am_H → Option am_H
  | 0, _, _, _, _, _, _, _ => none
  | n + 1, v0, v1, v2, v3, v4, v5, h =>
  (am_gr 3 0 v0 h).bind fun x1 =>
  (am_ln x1 h).bind fun x2 =>
  if x2 ≤ v5 then
    if (1 : Int32) ≤ v2 then
      (am_gi 3 3 v0 h).bind fun x5 =>
      (am_gi 3 2 v0 h).bind fun x6 =>
      (am_gi 3 2 v0 h).bind fun x7 =>
      if v2 = 0 then none else
      (am_pi 3 3 v0 ((x7 + ((((x5 - x6) + (1 : Int32)) * (v3 + v4)) / v2)) - (1 : Int32)) h).bind fun h9 =>
      (am_gi 3 2 v0 h9).bind fun x10 =>
      if v2 = 0 then none else
      (am_pi 3 2 v0 (x10 + ((((x5 - x6) + (1 : Int32)) * v3) / v2)) h9).bind fun h12 =>
      some h12
    else
      some h
  else
    (am_gr 3 0 v0 h).bind fun x13 =>
    (am_il 0 x13 v5 h).bind fun x14 =>
    if v1 ≤ v5 then
      if v5 = v1 then
        (am_gr 3 0 v0 h).bind fun x17 =>
        (am_il 0 x17 v5 h).bind fun x18 =>
        F_X3_narrow_64 (F_X3_narrow_10 n) v0 v1 (v2 + x14) v3 x18 v5 h
      else
        F_X3_narrow_64 (F_X3_narrow_10 n) v0 v1 (v2 + x14) v3 v4 v5 h
    else
      (am_gr 3 0 v0 h).bind fun x19 =>
      (am_il 0 x19 v5 h).bind fun x20 =>
      F_X3_narrow_64 (F_X3_narrow_10 n) v0 v1 (v2 + x14) (v3 + x20) v4 v5 h
theorem w_X3_narrow_10 {g : am_G} {l : Launch} {h0 : am_H} {hf : am_H}  : ∀ (n : Nat) (v0 : Nat) (v1 : Int32) (v2 : Int32) (v3 : Int32) (v4 : Int32) (v5 : Int32) (h : am_H), F_X3_narrow_10 n v0 v1 v2 v3 v4 v5 h = some hf → am_W g l M_X3_narrow h0 none hf 10 [some (.ref v0), some (.int v1), some (.int v2), some (.int v3), some (.int v4), some (.int v5)] [] h
  | 0, _, _, _, _, _, _, _, hF => by cases hF
  | n + 1, v0, v1, v2, v3, v4, v5, h, hF => by
    rw [F_X3_narrow_10] at hF
    refine am_iload (pc' := 12) dX3_narrow_10 rfl rfl ?_
    refine am_aload_n (pc' := 13) dX3_narrow_12 rfl rfl ?_
    obtain ⟨x1, ex1, hF⟩ := am_bind hF
    refine am_getr (pc' := 16) dX3_narrow_13 fw_X3_9 ex1 rfl ?_
    obtain ⟨x2, ex2, hF⟩ := am_bind hF
    refine am_alen (pc' := 17) dX3_narrow_16 ex2 rfl ?_
    rcases am_ite hF with ⟨z3, hF⟩ | ⟨z3, hF⟩
    · refine am_icmp_ge_t (pc' := 70) dX3_narrow_17 rfl z3 ?_
      refine am_iload_n (pc' := 71) dX3_narrow_70 rfl rfl ?_
      refine am_iconst (v := (1 : Int32)) (pc' := 72) dX3_narrow_71 rfl rfl ?_
      rcases am_ite hF with ⟨z4, hF⟩ | ⟨z4, hF⟩
      · refine am_icmp_ge_t (pc' := 76) dX3_narrow_72 rfl z4 ?_
        refine am_aload_n (pc' := 77) dX3_narrow_76 rfl rfl ?_
        obtain ⟨x5, ex5, hF⟩ := am_bind hF
        refine am_geti (pc' := 80) dX3_narrow_77 fw_X3_29 ex5 rfl ?_
        refine am_aload_n (pc' := 81) dX3_narrow_80 rfl rfl ?_
        obtain ⟨x6, ex6, hF⟩ := am_bind hF
        refine am_geti (pc' := 84) dX3_narrow_81 fw_X3_24 ex6 rfl ?_
        refine am_isub (pc' := 85) dX3_narrow_84 rfl ?_
        refine am_iconst (v := (1 : Int32)) (pc' := 86) dX3_narrow_85 rfl rfl ?_
        refine am_iadd (pc' := 87) dX3_narrow_86 rfl ?_
        refine am_istore (ls' := [some (.ref v0), some (.int v1), some (.int v2), some (.int v3), some (.int v4), some (.int ((x5 - x6) + (1 : Int32)))]) (pc' := 89) dX3_narrow_87 (Nat.le_of_ble_eq_true rfl) rfl rfl ?_
        refine am_aload_n (pc' := 90) dX3_narrow_89 rfl rfl ?_
        refine am_aload_n (pc' := 91) dX3_narrow_90 rfl rfl ?_
        obtain ⟨x7, ex7, hF⟩ := am_bind hF
        refine am_geti (pc' := 94) dX3_narrow_91 fw_X3_24 ex7 rfl ?_
        refine am_iload (pc' := 96) dX3_narrow_94 rfl rfl ?_
        refine am_iload_n (pc' := 97) dX3_narrow_96 rfl rfl ?_
        refine am_iload (pc' := 99) dX3_narrow_97 rfl rfl ?_
        refine am_iadd (pc' := 100) dX3_narrow_99 rfl ?_
        refine am_imul (pc' := 101) dX3_narrow_100 rfl ?_
        refine am_iload_n (pc' := 102) dX3_narrow_101 rfl rfl ?_
        rcases am_ite hF with ⟨z8, hF⟩ | ⟨z8, hF⟩
        · cases hF
        refine am_idiv (pc' := 103) dX3_narrow_102 z8 rfl ?_
        refine am_iadd (pc' := 104) dX3_narrow_103 rfl ?_
        refine am_iconst (v := (1 : Int32)) (pc' := 105) dX3_narrow_104 rfl rfl ?_
        refine am_isub (pc' := 106) dX3_narrow_105 rfl ?_
        obtain ⟨h9, eh9, hF⟩ := am_bind hF
        refine am_puti (pc' := 109) dX3_narrow_106 fx_X3_29 eh9 rfl ?_
        refine am_aload_n (pc' := 110) dX3_narrow_109 rfl rfl ?_
        refine am_aload_n (pc' := 111) dX3_narrow_110 rfl rfl ?_
        obtain ⟨x10, ex10, hF⟩ := am_bind hF
        refine am_geti (pc' := 114) dX3_narrow_111 fw_X3_24 ex10 rfl ?_
        refine am_iload (pc' := 116) dX3_narrow_114 rfl rfl ?_
        refine am_iload_n (pc' := 117) dX3_narrow_116 rfl rfl ?_
        refine am_imul (pc' := 118) dX3_narrow_117 rfl ?_
        refine am_iload_n (pc' := 119) dX3_narrow_118 rfl rfl ?_
        rcases am_ite hF with ⟨z11, hF⟩ | ⟨z11, hF⟩
        · cases hF
        refine am_idiv (pc' := 120) dX3_narrow_119 z11 rfl ?_
        refine am_iadd (pc' := 121) dX3_narrow_120 rfl ?_
        obtain ⟨h12, eh12, hF⟩ := am_bind hF
        refine am_puti (pc' := 124) dX3_narrow_121 fx_X3_24 eh12 rfl ?_
        cases hF
        exact am_vret dX3_narrow_124 rfl
      · refine am_icmp_ge_f (pc' := 75) (tgt := 76) dX3_narrow_72 rfl z4 rfl ?_
        cases hF
        exact am_vret dX3_narrow_75 rfl
    · refine am_icmp_ge_f (pc' := 20) (tgt := 70) dX3_narrow_17 rfl z3 rfl ?_
      refine am_iload_n (pc' := 21) dX3_narrow_20 rfl rfl ?_
      refine am_aload_n (pc' := 22) dX3_narrow_21 rfl rfl ?_
      obtain ⟨x13, ex13, hF⟩ := am_bind hF
      refine am_getr (pc' := 25) dX3_narrow_22 fw_X3_9 ex13 rfl ?_
      refine am_iload (pc' := 27) dX3_narrow_25 rfl rfl ?_
      obtain ⟨x14, ex14, hF⟩ := am_bind hF
      refine am_iald (pc' := 28) dX3_narrow_27 ex14 rfl ?_
      refine am_iadd (pc' := 29) dX3_narrow_28 rfl ?_
      refine am_istore_n (ls' := [some (.ref v0), some (.int v1), some (.int (v2 + x14)), some (.int v3), some (.int v4), some (.int v5)]) (pc' := 30) dX3_narrow_29 (Nat.le_of_ble_eq_true rfl) rfl rfl ?_
      refine am_iload (pc' := 32) dX3_narrow_30 rfl rfl ?_
      refine am_iload_n (pc' := 33) dX3_narrow_32 rfl rfl ?_
      rcases am_ite hF with ⟨z15, hF⟩ | ⟨z15, hF⟩
      · refine am_icmp_ge_t (pc' := 49) dX3_narrow_33 rfl z15 ?_
        refine am_iload (pc' := 51) dX3_narrow_49 rfl rfl ?_
        refine am_iload_n (pc' := 52) dX3_narrow_51 rfl rfl ?_
        rcases am_ite hF with ⟨z16, hF⟩ | ⟨z16, hF⟩
        · refine am_icmp_ne_f (pc' := 55) (tgt := 64) dX3_narrow_52 rfl z16 rfl ?_
          refine am_aload_n (pc' := 56) dX3_narrow_55 rfl rfl ?_
          obtain ⟨x17, ex17, hF⟩ := am_bind hF
          refine am_getr (pc' := 59) dX3_narrow_56 fw_X3_9 ex17 rfl ?_
          refine am_iload (pc' := 61) dX3_narrow_59 rfl rfl ?_
          obtain ⟨x18, ex18, hF⟩ := am_bind hF
          refine am_iald (pc' := 62) dX3_narrow_61 ex18 rfl ?_
          refine am_istore (ls' := [some (.ref v0), some (.int v1), some (.int (v2 + x14)), some (.int v3), some (.int x18), some (.int v5)]) (pc' := 64) dX3_narrow_62 (Nat.le_of_ble_eq_true rfl) rfl rfl ?_
          exact w_X3_narrow_64 (w_X3_narrow_10 n) v0 v1 (v2 + x14) v3 x18 v5 h hF
        · refine am_icmp_ne_t (pc' := 64) dX3_narrow_52 rfl z16 ?_
          exact w_X3_narrow_64 (w_X3_narrow_10 n) v0 v1 (v2 + x14) v3 v4 v5 h hF
      · refine am_icmp_ge_f (pc' := 36) (tgt := 49) dX3_narrow_33 rfl z15 rfl ?_
        refine am_iload_n (pc' := 37) dX3_narrow_36 rfl rfl ?_
        refine am_aload_n (pc' := 38) dX3_narrow_37 rfl rfl ?_
        obtain ⟨x19, ex19, hF⟩ := am_bind hF
        refine am_getr (pc' := 41) dX3_narrow_38 fw_X3_9 ex19 rfl ?_
        refine am_iload (pc' := 43) dX3_narrow_41 rfl rfl ?_
        obtain ⟨x20, ex20, hF⟩ := am_bind hF
        refine am_iald (pc' := 44) dX3_narrow_43 ex20 rfl ?_
        refine am_iadd (pc' := 45) dX3_narrow_44 rfl ?_
        refine am_istore_n (ls' := [some (.ref v0), some (.int v1), some (.int (v2 + x14)), some (.int (v3 + x20)), some (.int v4), some (.int v5)]) (pc' := 46) dX3_narrow_45 (Nat.le_of_ble_eq_true rfl) rfl rfl ?_
        refine am_goto (pc' := 64) dX3_narrow_46 rfl ?_
        exact w_X3_narrow_64 (w_X3_narrow_10 n) v0 v1 (v2 + x14) (v3 + x20) v4 v5 h hF
def F_X3_narrow_b (v0 : Nat) (v1 : Int32) (h : am_H) : Option am_H :=
  F_X3_narrow_10 am_F v0 v1 (0 : Int32) (0 : Int32) (0 : Int32) (0 : Int32) h
theorem w_X3_narrow {g : am_G} {l : Launch} {h0 : am_H} {hf : am_H}  (v0 : Nat) (v1 : Int32) (h : am_H) (hF : F_X3_narrow_b v0 v1 h = some hf) : am_W g l M_X3_narrow h0 none hf 0 [some (.ref v0), some (.int v1), none, none, none, none] [] h := by
  unfold F_X3_narrow_b at hF
  refine am_iconst (v := (0 : Int32)) (pc' := 1) dX3_narrow_0 rfl rfl ?_
  refine am_istore_n (ls' := [some (.ref v0), some (.int v1), some (.int (0 : Int32)), none, none, none]) (pc' := 2) dX3_narrow_1 (Nat.le_of_ble_eq_true rfl) rfl rfl ?_
  refine am_iconst (v := (0 : Int32)) (pc' := 3) dX3_narrow_2 rfl rfl ?_
  refine am_istore_n (ls' := [some (.ref v0), some (.int v1), some (.int (0 : Int32)), some (.int (0 : Int32)), none, none]) (pc' := 4) dX3_narrow_3 (Nat.le_of_ble_eq_true rfl) rfl rfl ?_
  refine am_iconst (v := (0 : Int32)) (pc' := 5) dX3_narrow_4 rfl rfl ?_
  refine am_istore (ls' := [some (.ref v0), some (.int v1), some (.int (0 : Int32)), some (.int (0 : Int32)), some (.int (0 : Int32)), none]) (pc' := 7) dX3_narrow_5 (Nat.le_of_ble_eq_true rfl) rfl rfl ?_
  refine am_iconst (v := (0 : Int32)) (pc' := 8) dX3_narrow_7 rfl rfl ?_
  refine am_istore (ls' := [some (.ref v0), some (.int v1), some (.int (0 : Int32)), some (.int (0 : Int32)), some (.int (0 : Int32)), some (.int (0 : Int32))]) (pc' := 10) dX3_narrow_8 (Nat.le_of_ble_eq_true rfl) rfl rfl ?_
  exact w_X3_narrow_10 am_F v0 v1 (0 : Int32) (0 : Int32) (0 : Int32) (0 : Int32) h hF
def F_X3_narrow (v0 : Nat) (v1 : Int32) (h : am_H) : Option am_H := (am_obj v0 3 h).bind fun _ => F_X3_narrow_b v0 v1 h
theorem t_X3_narrow {hf : am_H}  {v0 : Nat} {v1 : Int32} {h : am_H} (hF : F_X3_narrow v0 v1 h = some hf) : ∃ fs, am_obj v0 3 h = some fs := by
  obtain ⟨fs, e, _⟩ := am_bind hF
  exact ⟨fs, e⟩
theorem c_X3_narrow {g : am_G} {l : Launch} {hf : am_H}  {v0 : Nat} {v1 : Int32} {h : am_H} (hF : F_X3_narrow v0 v1 h = some hf) : am_Met g l M_X3_narrow [.ref v0, .int v1] h none hf := by
  obtain ⟨fs, e0, e⟩ := am_bind hF
  exact am_met (n := 4) (by decide +kernel) rfl (Nat.le_of_ble_eq_true rfl) (w_X3_narrow v0 v1 h e)
theorem cw_X3_67 : am_cw "SignCellar$Odds" 67 M_X4_add 1 := ⟨wd_1_2, wd_2_2, ⟨by decide, by decide, by decide⟩, Or.inl wd_3_93⟩
theorem fw_X3_20 : am_fw "SignCellar$Odds" 20 3 1 := ⟨(RX3, TX3, 5), rfl, by decide, inX3, Or.inl wd_1_106⟩
theorem fw_X3_32 : am_fw "SignCellar$Odds" 32 3 4 := ⟨(RX3, TX3, 5), rfl, by decide, inX3, Or.inl wd_1_110⟩
theorem fx_X3_32 {nm : String} : am_fx "SignCellar$Odds" 32 3 4 .int nm := ⟨(RX3, TX3, 5), tyX3, rfl, by decide, inX3, tyX3_ok, nmX3, rfl, Or.inl ⟨wd_1_110, Or.inl rfl⟩⟩
def F_X3_emit_10 : Nat → Nat → Int32 → Int32 → am_H → Option am_H
  | 0, _, _, _, _ => none
  | n + 1, v0, v1, v2, h =>
  (am_gi 3 4 v0 h).bind fun x1 =>
  if x1 ≤ v2 then
    (am_pi 3 4 v0 (0 : Int32) h).bind fun h3 =>
    some h3
  else
    (am_gr 3 1 v0 h).bind fun x4 =>
    (F_X4_add x4 ((1 : Int32) - v1) h).bind fun h5 =>
    F_X3_emit_10 n v0 v1 (v2 + (1 : Int32)) h5
theorem w_X3_emit_10 {g : am_G} {l : Launch} {h0 : am_H} {hf : am_H}  : ∀ (n : Nat) (v0 : Nat) (v1 : Int32) (v2 : Int32) (h : am_H), F_X3_emit_10 n v0 v1 v2 h = some hf → am_W g l M_X3_emit h0 none hf 10 [some (.ref v0), some (.int v1), some (.int v2)] [] h
  | 0, _, _, _, _, hF => by cases hF
  | n + 1, v0, v1, v2, h, hF => by
    rw [F_X3_emit_10] at hF
    refine am_iload_n (pc' := 11) dX3_emit_10 rfl rfl ?_
    refine am_aload_n (pc' := 12) dX3_emit_11 rfl rfl ?_
    obtain ⟨x1, ex1, hF⟩ := am_bind hF
    refine am_geti (pc' := 15) dX3_emit_12 fw_X3_32 ex1 rfl ?_
    rcases am_ite hF with ⟨z2, hF⟩ | ⟨z2, hF⟩
    · refine am_icmp_ge_t (pc' := 34) dX3_emit_15 rfl z2 ?_
      refine am_aload_n (pc' := 35) dX3_emit_34 rfl rfl ?_
      refine am_iconst (v := (0 : Int32)) (pc' := 36) dX3_emit_35 rfl rfl ?_
      obtain ⟨h3, eh3, hF⟩ := am_bind hF
      refine am_puti (pc' := 39) dX3_emit_36 fx_X3_32 eh3 rfl ?_
      cases hF
      exact am_vret dX3_emit_39 rfl
    · refine am_icmp_ge_f (pc' := 18) (tgt := 34) dX3_emit_15 rfl z2 rfl ?_
      refine am_aload_n (pc' := 19) dX3_emit_18 rfl rfl ?_
      obtain ⟨x4, ex4, hF⟩ := am_bind hF
      refine am_getr (pc' := 22) dX3_emit_19 fw_X3_20 ex4 rfl ?_
      refine am_iconst (v := (1 : Int32)) (pc' := 23) dX3_emit_22 rfl rfl ?_
      refine am_iload_n (pc' := 24) dX3_emit_23 rfl rfl ?_
      refine am_isub (pc' := 25) dX3_emit_24 rfl ?_
      obtain ⟨h5, eh5, hF⟩ := am_bind hF
      obtain ⟨oh5, ph5⟩ := t_X4_add eh5
      refine am_callV0 (Mc := M_X4_add) (As := [.int ((1 : Int32) - v1)]) (st := []) (pc' := 28) dX3_emit_25 cw_X3_67 wd_2_0 wd_2_1 ⟨_, rfl, rfl⟩ (by decide) (by decide) rfl rfl (Nat.le_of_ble_eq_true rfl) ph5 (c_X4_add eh5) rfl ?_
      refine am_iinc (ls' := [some (.ref v0), some (.int v1), some (.int (v2 + (1 : Int32)))]) (pc' := 31) (v := (v2 + (1 : Int32))) dX3_emit_28 rfl rfl (Nat.le_of_ble_eq_true rfl) rfl rfl ?_
      refine am_goto (pc' := 10) dX3_emit_31 rfl ?_
      exact w_X3_emit_10 n v0 v1 (v2 + (1 : Int32)) h5 hF
def F_X3_emit_b (v0 : Nat) (v1 : Int32) (h : am_H) : Option am_H :=
  (am_gr 3 1 v0 h).bind fun x1 =>
  (F_X4_add x1 v1 h).bind fun h2 =>
  F_X3_emit_10 am_F v0 v1 (0 : Int32) h2
theorem w_X3_emit {g : am_G} {l : Launch} {h0 : am_H} {hf : am_H}  (v0 : Nat) (v1 : Int32) (h : am_H) (hF : F_X3_emit_b v0 v1 h = some hf) : am_W g l M_X3_emit h0 none hf 0 [some (.ref v0), some (.int v1), none] [] h := by
  unfold F_X3_emit_b at hF
  refine am_aload_n (pc' := 1) dX3_emit_0 rfl rfl ?_
  obtain ⟨x1, ex1, hF⟩ := am_bind hF
  refine am_getr (pc' := 4) dX3_emit_1 fw_X3_20 ex1 rfl ?_
  refine am_iload_n (pc' := 5) dX3_emit_4 rfl rfl ?_
  obtain ⟨h2, eh2, hF⟩ := am_bind hF
  obtain ⟨oh2, ph2⟩ := t_X4_add eh2
  refine am_callV0 (Mc := M_X4_add) (As := [.int v1]) (st := []) (pc' := 8) dX3_emit_5 cw_X3_67 wd_2_0 wd_2_1 ⟨_, rfl, rfl⟩ (by decide) (by decide) rfl rfl (Nat.le_of_ble_eq_true rfl) ph2 (c_X4_add eh2) rfl ?_
  refine am_iconst (v := (0 : Int32)) (pc' := 9) dX3_emit_8 rfl rfl ?_
  refine am_istore_n (ls' := [some (.ref v0), some (.int v1), some (.int (0 : Int32))]) (pc' := 10) dX3_emit_9 (Nat.le_of_ble_eq_true rfl) rfl rfl ?_
  exact w_X3_emit_10 am_F v0 v1 (0 : Int32) h2 hF
def F_X3_emit (v0 : Nat) (v1 : Int32) (h : am_H) : Option am_H := (am_obj v0 3 h).bind fun _ => F_X3_emit_b v0 v1 h
theorem t_X3_emit {hf : am_H}  {v0 : Nat} {v1 : Int32} {h : am_H} (hF : F_X3_emit v0 v1 h = some hf) : ∃ fs, am_obj v0 3 h = some fs := by
  obtain ⟨fs, e, _⟩ := am_bind hF
  exact ⟨fs, e⟩
theorem c_X3_emit {g : am_G} {l : Launch} {hf : am_H}  {v0 : Nat} {v1 : Int32} {h : am_H} (hF : F_X3_emit v0 v1 h = some hf) : am_Met g l M_X3_emit [.ref v0, .int v1] h none hf := by
  obtain ⟨fs, e0, e⟩ := am_bind hF
  exact am_met (n := 1) (by decide +kernel) rfl (Nat.le_of_ble_eq_true rfl) (w_X3_emit v0 v1 h e)
theorem cw_X3_56 : am_cw "SignCellar$Odds" 56 M_X3_emit 1 := ⟨wd_1_6, wd_3_92, ⟨by decide, by decide, by decide⟩, Or.inl wd_3_89⟩
theorem sl_X3_emit : Cond.selects (⟨"SignCellar$Odds", "emit", "(I)V"⟩ : MethodName).cls ⟨"SignCellar$Odds", "emit", "(I)V"⟩ ⟨"SignCellar$Odds", "emit", "(I)V"⟩ ∈ am_ts := am_in_p (q := (⟨"SignCellar$Odds", "emit", "(I)V"⟩, 5)) (by decide +kernel)
def F_X3_widen_84 (k2 : Nat → Int32 → am_H → Option am_H) (v0 : Nat) (v1 : Int32) (v2 : Int32) (h : am_H) : Option am_H :=
  (am_gi 3 2 v0 h).bind fun x1 =>
  (am_pi 3 2 v0 ((2 : Int32) * (x1 - v2)) h).bind fun h2 =>
  (am_gi 3 3 v0 h2).bind fun x3 =>
  (am_pi 3 3 v0 (((2 : Int32) * (x3 - v2)) + (1 : Int32)) h2).bind fun h4 =>
  k2 v0 (v1 + (1 : Int32)) h4
theorem w_X3_widen_84 {g : am_G} {l : Launch} {h0 : am_H} {hf : am_H}  {k2 : Nat → Int32 → am_H → Option am_H} (j2 : ∀ (v0 : Nat) (v1 : Int32) (h : am_H), k2 v0 v1 h = some hf → am_W g l M_X3_widen h0 none hf 2 [some (.ref v0), some (.int v1), none] [] h) (v0 : Nat) (v1 : Int32) (v2 : Int32) (h : am_H) (hF : F_X3_widen_84 k2 v0 v1 v2 h = some hf) : am_W g l M_X3_widen h0 none hf 84 [some (.ref v0), some (.int v1), some (.int v2)] [] h := by
  unfold F_X3_widen_84 at hF
  refine am_aload_n (pc' := 85) dX3_widen_84 rfl rfl ?_
  refine am_iconst (v := (2 : Int32)) (pc' := 86) dX3_widen_85 rfl rfl ?_
  refine am_aload_n (pc' := 87) dX3_widen_86 rfl rfl ?_
  obtain ⟨x1, ex1, hF⟩ := am_bind hF
  refine am_geti (pc' := 90) dX3_widen_87 fw_X3_24 ex1 rfl ?_
  refine am_iload_n (pc' := 91) dX3_widen_90 rfl rfl ?_
  refine am_isub (pc' := 92) dX3_widen_91 rfl ?_
  refine am_imul (pc' := 93) dX3_widen_92 rfl ?_
  obtain ⟨h2, eh2, hF⟩ := am_bind hF
  refine am_puti (pc' := 96) dX3_widen_93 fx_X3_24 eh2 rfl ?_
  refine am_aload_n (pc' := 97) dX3_widen_96 rfl rfl ?_
  refine am_iconst (v := (2 : Int32)) (pc' := 98) dX3_widen_97 rfl rfl ?_
  refine am_aload_n (pc' := 99) dX3_widen_98 rfl rfl ?_
  obtain ⟨x3, ex3, hF⟩ := am_bind hF
  refine am_geti (pc' := 102) dX3_widen_99 fw_X3_29 ex3 rfl ?_
  refine am_iload_n (pc' := 103) dX3_widen_102 rfl rfl ?_
  refine am_isub (pc' := 104) dX3_widen_103 rfl ?_
  refine am_imul (pc' := 105) dX3_widen_104 rfl ?_
  refine am_iconst (v := (1 : Int32)) (pc' := 106) dX3_widen_105 rfl rfl ?_
  refine am_iadd (pc' := 107) dX3_widen_106 rfl ?_
  obtain ⟨h4, eh4, hF⟩ := am_bind hF
  refine am_puti (pc' := 110) dX3_widen_107 fx_X3_29 eh4 rfl ?_
  refine am_iinc (ls' := [some (.ref v0), some (.int (v1 + (1 : Int32))), some (.int v2)]) (pc' := 113) (v := (v1 + (1 : Int32))) dX3_widen_110 rfl rfl (Nat.le_of_ble_eq_true rfl) rfl rfl ?_
  refine am_goto (pc' := 2) dX3_widen_113 rfl ?_
  exact am_weak [true, true, false] (j2 v0 (v1 + (1 : Int32)) h4 hF)
def F_X3_widen_83 (h : am_H) : Option am_H :=
  some h
theorem w_X3_widen_83 {g : am_G} {l : Launch} {h0 : am_H} {hf : am_H}  (h : am_H) (hF : F_X3_widen_83 h = some hf) : am_W g l M_X3_widen h0 none hf 83 [none, none, none] [] h := by
  unfold F_X3_widen_83 at hF
  cases hF
  exact am_vret dX3_widen_83 rfl
def F_X3_widen_2 : Nat → Nat → Int32 → am_H → Option am_H
  | 0, _, _, _ => none
  | n + 1, v0, v1, h =>
  if (64 : Int32) ≤ v1 then
    some h
  else
    (am_gi 3 3 v0 h).bind fun x2 =>
    if (32768 : Int32) ≤ x2 then
      (am_gi 3 2 v0 h).bind fun x4 =>
      if x4 < (32768 : Int32) then
        (am_gi 3 2 v0 h).bind fun x6 =>
        if x6 < (16384 : Int32) then
          F_X3_widen_83 h
        else
          (am_gi 3 3 v0 h).bind fun x8 =>
          if (49152 : Int32) ≤ x8 then
            F_X3_widen_83 h
          else
            (am_gi 3 4 v0 h).bind fun x10 =>
            (am_pi 3 4 v0 (x10 + (1 : Int32)) h).bind fun h11 =>
            F_X3_widen_84 (F_X3_widen_2 n) v0 v1 (16384 : Int32) h11
      else
        (F_X3_emit v0 (1 : Int32) h).bind fun h12 =>
        F_X3_widen_84 (F_X3_widen_2 n) v0 v1 (32768 : Int32) h12
    else
      (F_X3_emit v0 (0 : Int32) h).bind fun h13 =>
      F_X3_widen_84 (F_X3_widen_2 n) v0 v1 (0 : Int32) h13
theorem w_X3_widen_2 {g : am_G} {l : Launch} {h0 : am_H} {hf : am_H}  : ∀ (n : Nat) (v0 : Nat) (v1 : Int32) (h : am_H), F_X3_widen_2 n v0 v1 h = some hf → am_W g l M_X3_widen h0 none hf 2 [some (.ref v0), some (.int v1), none] [] h
  | 0, _, _, _, hF => by cases hF
  | n + 1, v0, v1, h, hF => by
    rw [F_X3_widen_2] at hF
    refine am_iload_n (pc' := 3) dX3_widen_2 rfl rfl ?_
    refine am_bipush (v := (64 : Int32)) (pc' := 5) dX3_widen_3 rfl rfl ?_
    rcases am_ite hF with ⟨z1, hF⟩ | ⟨z1, hF⟩
    · refine am_icmp_ge_t (pc' := 116) dX3_widen_5 rfl z1 ?_
      cases hF
      exact am_vret dX3_widen_116 rfl
    · refine am_icmp_ge_f (pc' := 8) (tgt := 116) dX3_widen_5 rfl z1 rfl ?_
      refine am_iconst (v := (0 : Int32)) (pc' := 9) dX3_widen_8 rfl rfl ?_
      refine am_istore_n (ls' := [some (.ref v0), some (.int v1), some (.int (0 : Int32))]) (pc' := 10) dX3_widen_9 (Nat.le_of_ble_eq_true rfl) rfl rfl ?_
      refine am_aload_n (pc' := 11) dX3_widen_10 rfl rfl ?_
      obtain ⟨x2, ex2, hF⟩ := am_bind hF
      refine am_geti (pc' := 14) dX3_widen_11 fw_X3_29 ex2 rfl ?_
      refine am_ldc (v := (32768 : Int32)) (pc' := 16) dX3_widen_14 wd_3_88 rfl ?_
      rcases am_ite hF with ⟨z3, hF⟩ | ⟨z3, hF⟩
      · refine am_icmp_ge_t (pc' := 27) dX3_widen_16 rfl z3 ?_
        refine am_aload_n (pc' := 28) dX3_widen_27 rfl rfl ?_
        obtain ⟨x4, ex4, hF⟩ := am_bind hF
        refine am_geti (pc' := 31) dX3_widen_28 fw_X3_24 ex4 rfl ?_
        refine am_ldc (v := (32768 : Int32)) (pc' := 33) dX3_widen_31 wd_3_88 rfl ?_
        rcases am_ite hF with ⟨z5, hF⟩ | ⟨z5, hF⟩
        · refine am_icmp_lt_t (pc' := 47) dX3_widen_33 rfl z5 ?_
          refine am_aload_n (pc' := 48) dX3_widen_47 rfl rfl ?_
          obtain ⟨x6, ex6, hF⟩ := am_bind hF
          refine am_geti (pc' := 51) dX3_widen_48 fw_X3_24 ex6 rfl ?_
          refine am_sipush (v := (16384 : Int32)) (pc' := 54) dX3_widen_51 rfl rfl ?_
          rcases am_ite hF with ⟨z7, hF⟩ | ⟨z7, hF⟩
          · refine am_icmp_lt_t (pc' := 83) dX3_widen_54 rfl z7 ?_
            exact am_weak [false, false, false] (w_X3_widen_83 h hF)
          · refine am_icmp_lt_f (pc' := 57) (tgt := 83) dX3_widen_54 rfl z7 rfl ?_
            refine am_aload_n (pc' := 58) dX3_widen_57 rfl rfl ?_
            obtain ⟨x8, ex8, hF⟩ := am_bind hF
            refine am_geti (pc' := 61) dX3_widen_58 fw_X3_29 ex8 rfl ?_
            refine am_ldc (v := (49152 : Int32)) (pc' := 63) dX3_widen_61 wd_3_94 rfl ?_
            rcases am_ite hF with ⟨z9, hF⟩ | ⟨z9, hF⟩
            · refine am_icmp_ge_t (pc' := 83) dX3_widen_63 rfl z9 ?_
              exact am_weak [false, false, false] (w_X3_widen_83 h hF)
            · refine am_icmp_ge_f (pc' := 66) (tgt := 83) dX3_widen_63 rfl z9 rfl ?_
              refine am_aload_n (pc' := 67) dX3_widen_66 rfl rfl ?_
              refine am_dup (pc' := 68) dX3_widen_67 rfl rfl ?_
              obtain ⟨x10, ex10, hF⟩ := am_bind hF
              refine am_geti (pc' := 71) dX3_widen_68 fw_X3_32 ex10 rfl ?_
              refine am_iconst (v := (1 : Int32)) (pc' := 72) dX3_widen_71 rfl rfl ?_
              refine am_iadd (pc' := 73) dX3_widen_72 rfl ?_
              obtain ⟨h11, eh11, hF⟩ := am_bind hF
              refine am_puti (pc' := 76) dX3_widen_73 fx_X3_32 eh11 rfl ?_
              refine am_sipush (v := (16384 : Int32)) (pc' := 79) dX3_widen_76 rfl rfl ?_
              refine am_istore_n (ls' := [some (.ref v0), some (.int v1), some (.int (16384 : Int32))]) (pc' := 80) dX3_widen_79 (Nat.le_of_ble_eq_true rfl) rfl rfl ?_
              refine am_goto (pc' := 84) dX3_widen_80 rfl ?_
              exact w_X3_widen_84 (w_X3_widen_2 n) v0 v1 (16384 : Int32) h11 hF
        · refine am_icmp_lt_f (pc' := 36) (tgt := 47) dX3_widen_33 rfl z5 rfl ?_
          refine am_aload_n (pc' := 37) dX3_widen_36 rfl rfl ?_
          refine am_iconst (v := (1 : Int32)) (pc' := 38) dX3_widen_37 rfl rfl ?_
          obtain ⟨h12, eh12, hF⟩ := am_bind hF
          obtain ⟨oh12, ph12⟩ := t_X3_emit eh12
          refine am_callV0 (Mc := M_X3_emit) (As := [.int (1 : Int32)]) (st := []) (pc' := 41) dX3_widen_38 cw_X3_56 wd_3_91 sl_X3_emit ⟨_, rfl, rfl⟩ (by decide) (by decide) rfl rfl (Nat.le_of_ble_eq_true rfl) ph12 (c_X3_emit eh12) rfl ?_
          refine am_ldc (v := (32768 : Int32)) (pc' := 43) dX3_widen_41 wd_3_88 rfl ?_
          refine am_istore_n (ls' := [some (.ref v0), some (.int v1), some (.int (32768 : Int32))]) (pc' := 44) dX3_widen_43 (Nat.le_of_ble_eq_true rfl) rfl rfl ?_
          refine am_goto (pc' := 84) dX3_widen_44 rfl ?_
          exact w_X3_widen_84 (w_X3_widen_2 n) v0 v1 (32768 : Int32) h12 hF
      · refine am_icmp_ge_f (pc' := 19) (tgt := 27) dX3_widen_16 rfl z3 rfl ?_
        refine am_aload_n (pc' := 20) dX3_widen_19 rfl rfl ?_
        refine am_iconst (v := (0 : Int32)) (pc' := 21) dX3_widen_20 rfl rfl ?_
        obtain ⟨h13, eh13, hF⟩ := am_bind hF
        obtain ⟨oh13, ph13⟩ := t_X3_emit eh13
        refine am_callV0 (Mc := M_X3_emit) (As := [.int (0 : Int32)]) (st := []) (pc' := 24) dX3_widen_21 cw_X3_56 wd_3_91 sl_X3_emit ⟨_, rfl, rfl⟩ (by decide) (by decide) rfl rfl (Nat.le_of_ble_eq_true rfl) ph13 (c_X3_emit eh13) rfl ?_
        refine am_goto (pc' := 84) dX3_widen_24 rfl ?_
        exact w_X3_widen_84 (w_X3_widen_2 n) v0 v1 (0 : Int32) h13 hF
def F_X3_widen_b (v0 : Nat) (h : am_H) : Option am_H :=
  F_X3_widen_2 am_F v0 (0 : Int32) h
theorem w_X3_widen {g : am_G} {l : Launch} {h0 : am_H} {hf : am_H}  (v0 : Nat) (h : am_H) (hF : F_X3_widen_b v0 h = some hf) : am_W g l M_X3_widen h0 none hf 0 [some (.ref v0), none, none] [] h := by
  unfold F_X3_widen_b at hF
  refine am_iconst (v := (0 : Int32)) (pc' := 1) dX3_widen_0 rfl rfl ?_
  refine am_istore_n (ls' := [some (.ref v0), some (.int (0 : Int32)), none]) (pc' := 2) dX3_widen_1 (Nat.le_of_ble_eq_true rfl) rfl rfl ?_
  exact w_X3_widen_2 am_F v0 (0 : Int32) h hF
def F_X3_widen (v0 : Nat) (h : am_H) : Option am_H := (am_obj v0 3 h).bind fun _ => F_X3_widen_b v0 h
theorem t_X3_widen {hf : am_H}  {v0 : Nat} {h : am_H} (hF : F_X3_widen v0 h = some hf) : ∃ fs, am_obj v0 3 h = some fs := by
  obtain ⟨fs, e, _⟩ := am_bind hF
  exact ⟨fs, e⟩
theorem c_X3_widen {g : am_G} {l : Launch} {hf : am_H}  {v0 : Nat} {h : am_H} (hF : F_X3_widen v0 h = some hf) : am_Met g l M_X3_widen [.ref v0] h none hf := by
  obtain ⟨fs, e0, e⟩ := am_bind hF
  exact am_met (n := 2) (by decide +kernel) rfl (Nat.le_of_ble_eq_true rfl) (w_X3_widen v0 h e)
theorem cw_X3_35 : am_cw "SignCellar$Odds" 35 M_X4_empty 0 := ⟨wd_1_2, wd_2_19, ⟨by decide, by decide, by decide⟩, Or.inl wd_3_72⟩
theorem cw_X3_38 : am_cw "SignCellar$Odds" 38 M_X4_length 0 := ⟨wd_1_2, wd_1_237, ⟨by decide, by decide, by decide⟩, Or.inl wd_3_73⟩
theorem cw_X3_42 : am_cw "SignCellar$Odds" 42 M_X3_learn 2 := ⟨wd_1_6, wd_3_77, ⟨by decide, by decide, by decide⟩, Or.inl wd_3_74⟩
theorem cw_X3_50 : am_cw "SignCellar$Odds" 50 M_X3_narrow 1 := ⟨wd_1_6, wd_3_83, ⟨by decide, by decide, by decide⟩, Or.inl wd_3_80⟩
theorem cw_X3_53 : am_cw "SignCellar$Odds" 53 M_X3_widen 0 := ⟨wd_1_6, wd_3_87, ⟨by decide, by decide, by decide⟩, Or.inl wd_3_84⟩
theorem sl_X3_learn : Cond.selects (⟨"SignCellar$Odds", "learn", "(LSignCellar$Row;I)V"⟩ : MethodName).cls ⟨"SignCellar$Odds", "learn", "(LSignCellar$Row;I)V"⟩ ⟨"SignCellar$Odds", "learn", "(LSignCellar$Row;I)V"⟩ ∈ am_ts := am_in_p (q := (⟨"SignCellar$Odds", "learn", "(LSignCellar$Row;I)V"⟩, 5)) (by decide +kernel)
theorem sl_X3_narrow : Cond.selects (⟨"SignCellar$Odds", "narrow", "(I)V"⟩ : MethodName).cls ⟨"SignCellar$Odds", "narrow", "(I)V"⟩ ⟨"SignCellar$Odds", "narrow", "(I)V"⟩ ∈ am_ts := am_in_p (q := (⟨"SignCellar$Odds", "narrow", "(I)V"⟩, 5)) (by decide +kernel)
theorem sl_X3_widen : Cond.selects (⟨"SignCellar$Odds", "widen", "()V"⟩ : MethodName).cls ⟨"SignCellar$Odds", "widen", "()V"⟩ ⟨"SignCellar$Odds", "widen", "()V"⟩ ∈ am_ts := am_in_p (q := (⟨"SignCellar$Odds", "widen", "()V"⟩, 5)) (by decide +kernel)
def F_X3_squeeze_84 (s0 : Nat) (s1 : Int32) (h : am_H) : Option am_H :=
  (F_X3_emit s0 s1 h).bind fun h1 =>
  some h1
theorem w_X3_squeeze_84 {g : am_G} {l : Launch} {h0 : am_H} {hf : am_H}  (s0 : Nat) (s1 : Int32) (h : am_H) (hF : F_X3_squeeze_84 s0 s1 h = some hf) : am_W g l M_X3_squeeze h0 none hf 84 [none, none, none] [.int s1, .ref s0] h := by
  unfold F_X3_squeeze_84 at hF
  obtain ⟨h1, eh1, hF⟩ := am_bind hF
  obtain ⟨oh1, ph1⟩ := t_X3_emit eh1
  refine am_callV0 (Mc := M_X3_emit) (As := [.int s1]) (st := []) (pc' := 87) dX3_squeeze_84 cw_X3_56 wd_3_91 sl_X3_emit ⟨_, rfl, rfl⟩ (by decide) (by decide) rfl rfl (Nat.le_of_ble_eq_true rfl) ph1 (c_X3_emit eh1) rfl ?_
  cases hF
  exact am_vret dX3_squeeze_87 rfl
def F_X3_squeeze_25 : Nat → Nat → Nat → Int32 → am_H → Option am_H
  | 0, _, _, _, _ => none
  | n + 1, v0, v1, v2, h =>
  (F_X4_length v1 h).bind fun x1 =>
  if x1 ≤ v2 then
    (am_gi 3 4 v0 h).bind fun x3 =>
    (am_pi 3 4 v0 (x3 + (1 : Int32)) h).bind fun h4 =>
    (am_gi 3 2 v0 h4).bind fun x5 =>
    if (16384 : Int32) ≤ x5 then
      F_X3_squeeze_84 v0 (1 : Int32) h4
    else
      F_X3_squeeze_84 v0 (0 : Int32) h4
  else
    (F_X3_learn v0 v1 v2 h).bind fun h7 =>
    (F_X4_at v1 v2 h7).bind fun x8 =>
    (F_X3_narrow v0 x8 h7).bind fun h9 =>
    (F_X3_widen v0 h9).bind fun h10 =>
    F_X3_squeeze_25 n v0 v1 (v2 + (1 : Int32)) h10
theorem w_X3_squeeze_25 {g : am_G} {l : Launch} {h0 : am_H} {hf : am_H}  : ∀ (n : Nat) (v0 : Nat) (v1 : Nat) (v2 : Int32) (h : am_H), F_X3_squeeze_25 n v0 v1 v2 h = some hf → am_W g l M_X3_squeeze h0 none hf 25 [some (.ref v0), some (.ref v1), some (.int v2)] [] h
  | 0, _, _, _, _, hF => by cases hF
  | n + 1, v0, v1, v2, h, hF => by
    rw [F_X3_squeeze_25] at hF
    refine am_iload_n (pc' := 26) dX3_squeeze_25 rfl rfl ?_
    refine am_aload_n (pc' := 27) dX3_squeeze_26 rfl rfl ?_
    obtain ⟨x1, ex1, hF⟩ := am_bind hF
    obtain ⟨ox1, px1⟩ := t_X4_length ex1
    refine am_callV1 (Mc := M_X4_length) (As := []) (st := [.int v2]) (pc' := 30) dX3_squeeze_27 cw_X3_38 wd_1_235 wd_1_236 ⟨_, rfl, rfl⟩ (by decide) (by decide) rfl rfl (Nat.le_of_ble_eq_true rfl) px1 (c_X4_length ex1) rfl ?_
    rcases am_ite hF with ⟨z2, hF⟩ | ⟨z2, hF⟩
    · refine am_icmp_ge_t (pc' := 58) dX3_squeeze_30 rfl z2 ?_
      refine am_aload_n (pc' := 59) dX3_squeeze_58 rfl rfl ?_
      refine am_dup (pc' := 60) dX3_squeeze_59 rfl rfl ?_
      obtain ⟨x3, ex3, hF⟩ := am_bind hF
      refine am_geti (pc' := 63) dX3_squeeze_60 fw_X3_32 ex3 rfl ?_
      refine am_iconst (v := (1 : Int32)) (pc' := 64) dX3_squeeze_63 rfl rfl ?_
      refine am_iadd (pc' := 65) dX3_squeeze_64 rfl ?_
      obtain ⟨h4, eh4, hF⟩ := am_bind hF
      refine am_puti (pc' := 68) dX3_squeeze_65 fx_X3_32 eh4 rfl ?_
      refine am_aload_n (pc' := 69) dX3_squeeze_68 rfl rfl ?_
      refine am_aload_n (pc' := 70) dX3_squeeze_69 rfl rfl ?_
      obtain ⟨x5, ex5, hF⟩ := am_bind hF
      refine am_geti (pc' := 73) dX3_squeeze_70 fw_X3_24 ex5 rfl ?_
      refine am_sipush (v := (16384 : Int32)) (pc' := 76) dX3_squeeze_73 rfl rfl ?_
      rcases am_ite hF with ⟨z6, hF⟩ | ⟨z6, hF⟩
      · refine am_icmp_ge_t (pc' := 83) dX3_squeeze_76 rfl z6 ?_
        refine am_iconst (v := (1 : Int32)) (pc' := 84) dX3_squeeze_83 rfl rfl ?_
        exact am_weak [false, false, false] (w_X3_squeeze_84 v0 (1 : Int32) h4 hF)
      · refine am_icmp_ge_f (pc' := 79) (tgt := 83) dX3_squeeze_76 rfl z6 rfl ?_
        refine am_iconst (v := (0 : Int32)) (pc' := 80) dX3_squeeze_79 rfl rfl ?_
        refine am_goto (pc' := 84) dX3_squeeze_80 rfl ?_
        exact am_weak [false, false, false] (w_X3_squeeze_84 v0 (0 : Int32) h4 hF)
    · refine am_icmp_ge_f (pc' := 33) (tgt := 58) dX3_squeeze_30 rfl z2 rfl ?_
      refine am_aload_n (pc' := 34) dX3_squeeze_33 rfl rfl ?_
      refine am_aload_n (pc' := 35) dX3_squeeze_34 rfl rfl ?_
      refine am_iload_n (pc' := 36) dX3_squeeze_35 rfl rfl ?_
      obtain ⟨h7, eh7, hF⟩ := am_bind hF
      obtain ⟨oh7, ph7⟩ := t_X3_learn eh7
      refine am_callV0 (Mc := M_X3_learn) (As := [.ref v1, .int v2]) (st := []) (pc' := 39) dX3_squeeze_36 cw_X3_42 wd_3_76 sl_X3_learn ⟨_, rfl, rfl⟩ (by decide) (by decide) rfl rfl (Nat.le_of_ble_eq_true rfl) ph7 (c_X3_learn eh7) rfl ?_
      refine am_aload_n (pc' := 40) dX3_squeeze_39 rfl rfl ?_
      refine am_aload_n (pc' := 41) dX3_squeeze_40 rfl rfl ?_
      refine am_iload_n (pc' := 42) dX3_squeeze_41 rfl rfl ?_
      obtain ⟨x8, ex8, hF⟩ := am_bind hF
      obtain ⟨ox8, px8⟩ := t_X4_at ex8
      refine am_callV1 (Mc := M_X4_at) (As := [.int v2]) (st := [.ref v0]) (pc' := 45) dX3_squeeze_42 cw_X3_46 wd_2_40 wd_2_41 ⟨_, rfl, rfl⟩ (by decide) (by decide) rfl rfl (Nat.le_of_ble_eq_true rfl) px8 (c_X4_at ex8) rfl ?_
      obtain ⟨h9, eh9, hF⟩ := am_bind hF
      obtain ⟨oh9, ph9⟩ := t_X3_narrow eh9
      refine am_callV0 (Mc := M_X3_narrow) (As := [.int x8]) (st := []) (pc' := 48) dX3_squeeze_45 cw_X3_50 wd_3_82 sl_X3_narrow ⟨_, rfl, rfl⟩ (by decide) (by decide) rfl rfl (Nat.le_of_ble_eq_true rfl) ph9 (c_X3_narrow eh9) rfl ?_
      refine am_aload_n (pc' := 49) dX3_squeeze_48 rfl rfl ?_
      obtain ⟨h10, eh10, hF⟩ := am_bind hF
      obtain ⟨oh10, ph10⟩ := t_X3_widen eh10
      refine am_callV0 (Mc := M_X3_widen) (As := []) (st := []) (pc' := 52) dX3_squeeze_49 cw_X3_53 wd_3_86 sl_X3_widen ⟨_, rfl, rfl⟩ (by decide) (by decide) rfl rfl (Nat.le_of_ble_eq_true rfl) ph10 (c_X3_widen eh10) rfl ?_
      refine am_iinc (ls' := [some (.ref v0), some (.ref v1), some (.int (v2 + (1 : Int32)))]) (pc' := 55) (v := (v2 + (1 : Int32))) dX3_squeeze_52 rfl rfl (Nat.le_of_ble_eq_true rfl) rfl rfl ?_
      refine am_goto (pc' := 25) dX3_squeeze_55 rfl ?_
      exact w_X3_squeeze_25 n v0 v1 (v2 + (1 : Int32)) h10 hF
def F_X3_squeeze_b (v0 : Nat) (v1 : Nat) (h : am_H) : Option am_H :=
  (am_gr 3 1 v0 h).bind fun x1 =>
  (F_X4_empty x1 h).bind fun h2 =>
  (am_pi 3 2 v0 (0 : Int32) h2).bind fun h3 =>
  (am_pi 3 3 v0 (65535 : Int32) h3).bind fun h4 =>
  (am_pi 3 4 v0 (0 : Int32) h4).bind fun h5 =>
  F_X3_squeeze_25 am_F v0 v1 (0 : Int32) h5
theorem w_X3_squeeze {g : am_G} {l : Launch} {h0 : am_H} {hf : am_H}  (v0 : Nat) (v1 : Nat) (h : am_H) (hF : F_X3_squeeze_b v0 v1 h = some hf) : am_W g l M_X3_squeeze h0 none hf 0 [some (.ref v0), some (.ref v1), none] [] h := by
  unfold F_X3_squeeze_b at hF
  refine am_aload_n (pc' := 1) dX3_squeeze_0 rfl rfl ?_
  obtain ⟨x1, ex1, hF⟩ := am_bind hF
  refine am_getr (pc' := 4) dX3_squeeze_1 fw_X3_20 ex1 rfl ?_
  obtain ⟨h2, eh2, hF⟩ := am_bind hF
  obtain ⟨oh2, ph2⟩ := t_X4_empty eh2
  refine am_callV0 (Mc := M_X4_empty) (As := []) (st := []) (pc' := 7) dX3_squeeze_4 cw_X3_35 wd_2_17 wd_2_18 ⟨_, rfl, rfl⟩ (by decide) (by decide) rfl rfl (Nat.le_of_ble_eq_true rfl) ph2 (c_X4_empty eh2) rfl ?_
  refine am_aload_n (pc' := 8) dX3_squeeze_7 rfl rfl ?_
  refine am_iconst (v := (0 : Int32)) (pc' := 9) dX3_squeeze_8 rfl rfl ?_
  obtain ⟨h3, eh3, hF⟩ := am_bind hF
  refine am_puti (pc' := 12) dX3_squeeze_9 fx_X3_24 eh3 rfl ?_
  refine am_aload_n (pc' := 13) dX3_squeeze_12 rfl rfl ?_
  refine am_ldc (v := (65535 : Int32)) (pc' := 15) dX3_squeeze_13 wd_1_104 rfl ?_
  obtain ⟨h4, eh4, hF⟩ := am_bind hF
  refine am_puti (pc' := 18) dX3_squeeze_15 fx_X3_29 eh4 rfl ?_
  refine am_aload_n (pc' := 19) dX3_squeeze_18 rfl rfl ?_
  refine am_iconst (v := (0 : Int32)) (pc' := 20) dX3_squeeze_19 rfl rfl ?_
  obtain ⟨h5, eh5, hF⟩ := am_bind hF
  refine am_puti (pc' := 23) dX3_squeeze_20 fx_X3_32 eh5 rfl ?_
  refine am_iconst (v := (0 : Int32)) (pc' := 24) dX3_squeeze_23 rfl rfl ?_
  refine am_istore_n (ls' := [some (.ref v0), some (.ref v1), some (.int (0 : Int32))]) (pc' := 25) dX3_squeeze_24 (Nat.le_of_ble_eq_true rfl) rfl rfl ?_
  exact w_X3_squeeze_25 am_F v0 v1 (0 : Int32) h5 hF
def F_X3_squeeze (v0 : Nat) (v1 : Nat) (h : am_H) : Option am_H := (am_obj v0 3 h).bind fun _ => F_X3_squeeze_b v0 v1 h
theorem t_X3_squeeze {hf : am_H}  {v0 : Nat} {v1 : Nat} {h : am_H} (hF : F_X3_squeeze v0 v1 h = some hf) : ∃ fs, am_obj v0 3 h = some fs := by
  obtain ⟨fs, e, _⟩ := am_bind hF
  exact ⟨fs, e⟩
theorem c_X3_squeeze {g : am_G} {l : Launch} {hf : am_H}  {v0 : Nat} {v1 : Nat} {h : am_H} (hF : F_X3_squeeze v0 v1 h = some hf) : am_Met g l M_X3_squeeze [.ref v0, .ref v1] h none hf := by
  obtain ⟨fs, e0, e⟩ := am_bind hF
  exact am_met (n := 1) (by decide +kernel) rfl (Nat.le_of_ble_eq_true rfl) (w_X3_squeeze v0 v1 h e)
theorem cw_X6_34 : am_cw "SignCellar$Turns" 34 M_X4_length 0 := ⟨wd_1_2, wd_1_237, ⟨by decide, by decide, by decide⟩, Or.inl wd_3_99⟩
theorem cw_X6_51 : am_cw "SignCellar$Turns" 51 M_X4_at 1 := ⟨wd_1_2, wd_2_42, ⟨by decide, by decide, by decide⟩, Or.inl wd_3_108⟩
def F_X6_isAhead_47 (s0 : Int32) (h : am_H) : Option Int32 :=
  am_z s0
theorem w_X6_isAhead_47 {g : am_G} {l : Launch} {h0 : am_H} {x : Int32}  (s0 : Int32) (h : am_H) (hF : F_X6_isAhead_47 s0 h = some x) : am_W g l M_X6_isAhead h0 (some (.int x)) h 47 [none, none, none, none, none, none] [.int s0] h := by
  unfold F_X6_isAhead_47 at hF
  exact am_zret dX6_isAhead_47 rfl hF
def F_X6_isAhead_2 : Nat → Nat → Int32 → Int32 → Int32 → am_H → Option Int32
  | 0, _, _, _, _, _ => none
  | n + 1, v0, v1, v2, v3, h =>
  (F_X4_length v0 h).bind fun x1 =>
  if x1 < v3 then
    some (0 : Int32)
  else
    (F_X4_at v0 (v1 + v3) h).bind fun x3 =>
    (F_X4_at v0 (v2 + v3) h).bind fun x4 =>
    if x3 = x4 then
      F_X6_isAhead_2 n v0 v1 v2 (v3 + (1 : Int32)) h
    else
      if x4 ≤ x3 then
        F_X6_isAhead_47 (0 : Int32) h
      else
        F_X6_isAhead_47 (1 : Int32) h
theorem w_X6_isAhead_2 {g : am_G} {l : Launch} {h0 : am_H} {x : Int32}  : ∀ (n : Nat) (v0 : Nat) (v1 : Int32) (v2 : Int32) (v3 : Int32) (h : am_H), F_X6_isAhead_2 n v0 v1 v2 v3 h = some x → am_W g l M_X6_isAhead h0 (some (.int x)) h 2 [some (.ref v0), some (.int v1), some (.int v2), some (.int v3), none, none] [] h
  | 0, _, _, _, _, _, hF => by cases hF
  | n + 1, v0, v1, v2, v3, h, hF => by
    rw [F_X6_isAhead_2] at hF
    refine am_iload_n (pc' := 3) dX6_isAhead_2 rfl rfl ?_
    refine am_aload_n (pc' := 4) dX6_isAhead_3 rfl rfl ?_
    obtain ⟨x1, ex1, hF⟩ := am_bind hF
    obtain ⟨ox1, px1⟩ := t_X4_length ex1
    refine am_callV1 (Mc := M_X4_length) (As := []) (st := [.int v3]) (pc' := 7) dX6_isAhead_4 cw_X6_34 wd_1_235 wd_1_236 ⟨_, rfl, rfl⟩ (by decide) (by decide) rfl rfl (Nat.le_of_ble_eq_true rfl) px1 (c_X4_length ex1) rfl ?_
    rcases am_ite hF with ⟨z2, hF⟩ | ⟨z2, hF⟩
    · refine am_icmp_gt_t (pc' := 54) dX6_isAhead_7 rfl z2 ?_
      refine am_iconst (v := (0 : Int32)) (pc' := 55) dX6_isAhead_54 rfl rfl ?_
      cases hF
      exact am_iret dX6_isAhead_55 rfl rfl
    · refine am_icmp_gt_f (pc' := 10) (tgt := 54) dX6_isAhead_7 rfl z2 rfl ?_
      refine am_aload_n (pc' := 11) dX6_isAhead_10 rfl rfl ?_
      refine am_iload_n (pc' := 12) dX6_isAhead_11 rfl rfl ?_
      refine am_iload_n (pc' := 13) dX6_isAhead_12 rfl rfl ?_
      refine am_iadd (pc' := 14) dX6_isAhead_13 rfl ?_
      obtain ⟨x3, ex3, hF⟩ := am_bind hF
      obtain ⟨ox3, px3⟩ := t_X4_at ex3
      refine am_callV1 (Mc := M_X4_at) (As := [.int (v1 + v3)]) (st := []) (pc' := 17) dX6_isAhead_14 cw_X6_51 wd_2_40 wd_2_41 ⟨_, rfl, rfl⟩ (by decide) (by decide) rfl rfl (Nat.le_of_ble_eq_true rfl) px3 (c_X4_at ex3) rfl ?_
      refine am_istore (ls' := [some (.ref v0), some (.int v1), some (.int v2), some (.int v3), some (.int x3), none]) (pc' := 19) dX6_isAhead_17 (Nat.le_of_ble_eq_true rfl) rfl rfl ?_
      refine am_aload_n (pc' := 20) dX6_isAhead_19 rfl rfl ?_
      refine am_iload_n (pc' := 21) dX6_isAhead_20 rfl rfl ?_
      refine am_iload_n (pc' := 22) dX6_isAhead_21 rfl rfl ?_
      refine am_iadd (pc' := 23) dX6_isAhead_22 rfl ?_
      obtain ⟨x4, ex4, hF⟩ := am_bind hF
      obtain ⟨ox4, px4⟩ := t_X4_at ex4
      refine am_callV1 (Mc := M_X4_at) (As := [.int (v2 + v3)]) (st := []) (pc' := 26) dX6_isAhead_23 cw_X6_51 wd_2_40 wd_2_41 ⟨_, rfl, rfl⟩ (by decide) (by decide) rfl rfl (Nat.le_of_ble_eq_true rfl) px4 (c_X4_at ex4) rfl ?_
      refine am_istore (ls' := [some (.ref v0), some (.int v1), some (.int v2), some (.int v3), some (.int x3), some (.int x4)]) (pc' := 28) dX6_isAhead_26 (Nat.le_of_ble_eq_true rfl) rfl rfl ?_
      refine am_iload (pc' := 30) dX6_isAhead_28 rfl rfl ?_
      refine am_iload (pc' := 32) dX6_isAhead_30 rfl rfl ?_
      rcases am_ite hF with ⟨z5, hF⟩ | ⟨z5, hF⟩
      · refine am_icmp_eq_t (pc' := 48) dX6_isAhead_32 rfl z5 ?_
        refine am_iinc (ls' := [some (.ref v0), some (.int v1), some (.int v2), some (.int (v3 + (1 : Int32))), some (.int x3), some (.int x4)]) (pc' := 51) (v := (v3 + (1 : Int32))) dX6_isAhead_48 rfl rfl (Nat.le_of_ble_eq_true rfl) rfl rfl ?_
        refine am_goto (pc' := 2) dX6_isAhead_51 rfl ?_
        exact am_weak [true, true, true, true, false, false] (w_X6_isAhead_2 n v0 v1 v2 (v3 + (1 : Int32)) h hF)
      · refine am_icmp_eq_f (pc' := 35) (tgt := 48) dX6_isAhead_32 rfl z5 rfl ?_
        refine am_iload (pc' := 37) dX6_isAhead_35 rfl rfl ?_
        refine am_iload (pc' := 39) dX6_isAhead_37 rfl rfl ?_
        rcases am_ite hF with ⟨z6, hF⟩ | ⟨z6, hF⟩
        · refine am_icmp_ge_t (pc' := 46) dX6_isAhead_39 rfl z6 ?_
          refine am_iconst (v := (0 : Int32)) (pc' := 47) dX6_isAhead_46 rfl rfl ?_
          exact am_weak [false, false, false, false, false, false] (w_X6_isAhead_47 (0 : Int32) h hF)
        · refine am_icmp_ge_f (pc' := 42) (tgt := 46) dX6_isAhead_39 rfl z6 rfl ?_
          refine am_iconst (v := (1 : Int32)) (pc' := 43) dX6_isAhead_42 rfl rfl ?_
          refine am_goto (pc' := 47) dX6_isAhead_43 rfl ?_
          exact am_weak [false, false, false, false, false, false] (w_X6_isAhead_47 (1 : Int32) h hF)
def F_X6_isAhead_b (v0 : Nat) (v1 : Int32) (v2 : Int32) (h : am_H) : Option Int32 :=
  F_X6_isAhead_2 am_F v0 v1 v2 (0 : Int32) h
theorem w_X6_isAhead {g : am_G} {l : Launch} {h0 : am_H} {x : Int32}  (v0 : Nat) (v1 : Int32) (v2 : Int32) (h : am_H) (hF : F_X6_isAhead_b v0 v1 v2 h = some x) : am_W g l M_X6_isAhead h0 (some (.int x)) h 0 [some (.ref v0), some (.int v1), some (.int v2), none, none, none] [] h := by
  unfold F_X6_isAhead_b at hF
  refine am_iconst (v := (0 : Int32)) (pc' := 1) dX6_isAhead_0 rfl rfl ?_
  refine am_istore_n (ls' := [some (.ref v0), some (.int v1), some (.int v2), some (.int (0 : Int32)), none, none]) (pc' := 2) dX6_isAhead_1 (Nat.le_of_ble_eq_true rfl) rfl rfl ?_
  exact w_X6_isAhead_2 am_F v0 v1 v2 (0 : Int32) h hF
def F_X6_isAhead (v0 : Nat) (v1 : Int32) (v2 : Int32) (h : am_H) : Option Int32 := F_X6_isAhead_b v0 v1 v2 h
theorem c_X6_isAhead {g : am_G} {l : Launch} {x : Int32}  {v0 : Nat} {v1 : Int32} {v2 : Int32} {h : am_H} (hF : F_X6_isAhead v0 v1 v2 h = some x) : am_Met g l M_X6_isAhead [.ref v0, .int v1, .int v2] h (some (.int x)) h := by
  exact am_met (n := 3) (by decide +kernel) rfl (Nat.le_of_ble_eq_true rfl) (w_X6_isAhead v0 v1 v2 h hF)
theorem cw_X6_64 : am_cw "SignCellar$Turns" 64 M_X6_isAhead 3 := ⟨wd_1_7, wd_3_107, ⟨by decide, by decide, by decide⟩, Or.inl wd_3_105⟩
theorem fw_X6_9 : am_fw "SignCellar$Turns" 9 6 0 := ⟨(RX6, TX6, 5), rfl, by decide, inX6, Or.inl wd_1_130⟩
def F_X6_sort_54 (k2 : Nat → Nat → Int32 → Int32 → am_H → Option am_H) (v0 : Nat) (v1 : Nat) (v2 : Int32) (v3 : Int32) (v4 : Int32) (h : am_H) : Option am_H :=
  (am_gr 6 0 v0 h).bind fun x1 =>
  (am_is 0 x1 v4 v3 h).bind fun h2 =>
  k2 v0 v1 v2 (v3 + (1 : Int32)) h2
theorem w_X6_sort_54 {g : am_G} {l : Launch} {h0 : am_H} {hf : am_H}  {k2 : Nat → Nat → Int32 → Int32 → am_H → Option am_H} (j2 : ∀ (v0 : Nat) (v1 : Nat) (v2 : Int32) (v3 : Int32) (h : am_H), k2 v0 v1 v2 v3 h = some hf → am_W g l M_X6_sort h0 none hf 2 [some (.ref v0), some (.ref v1), some (.int v2), some (.int v3), none] [] h) (v0 : Nat) (v1 : Nat) (v2 : Int32) (v3 : Int32) (v4 : Int32) (h : am_H) (hF : F_X6_sort_54 k2 v0 v1 v2 v3 v4 h = some hf) : am_W g l M_X6_sort h0 none hf 54 [some (.ref v0), some (.ref v1), some (.int v2), some (.int v3), some (.int v4)] [] h := by
  unfold F_X6_sort_54 at hF
  refine am_aload_n (pc' := 55) dX6_sort_54 rfl rfl ?_
  obtain ⟨x1, ex1, hF⟩ := am_bind hF
  refine am_getr (pc' := 58) dX6_sort_55 fw_X6_9 ex1 rfl ?_
  refine am_iload (pc' := 60) dX6_sort_58 rfl rfl ?_
  refine am_iload_n (pc' := 61) dX6_sort_60 rfl rfl ?_
  obtain ⟨h2, eh2, hF⟩ := am_bind hF
  refine am_iast (pc' := 62) dX6_sort_61 eh2 rfl ?_
  refine am_iinc (ls' := [some (.ref v0), some (.ref v1), some (.int v2), some (.int (v3 + (1 : Int32))), some (.int v4)]) (pc' := 65) (v := (v3 + (1 : Int32))) dX6_sort_62 rfl rfl (Nat.le_of_ble_eq_true rfl) rfl rfl ?_
  refine am_goto (pc' := 2) dX6_sort_65 rfl ?_
  exact am_weak [true, true, true, true, false] (j2 v0 v1 v2 (v3 + (1 : Int32)) h2 hF)
def F_X6_sort_10 (k2 : Nat → Nat → Int32 → Int32 → am_H → Option am_H) : Nat → Nat → Nat → Int32 → Int32 → Int32 → am_H → Option am_H
  | 0, _, _, _, _, _, _ => none
  | n + 1, v0, v1, v2, v3, v4, h =>
  if v4 ≤ 0 then
    F_X6_sort_54 k2 v0 v1 v2 v3 v4 h
  else
    (am_gr 6 0 v0 h).bind fun x2 =>
    (am_il 0 x2 (v4 - (1 : Int32)) h).bind fun x3 =>
    (F_X6_isAhead v1 v3 x3 h).bind fun x4 =>
    if x4 = 0 then
      F_X6_sort_54 k2 v0 v1 v2 v3 v4 h
    else
      (am_gr 6 0 v0 h).bind fun x6 =>
      (am_gr 6 0 v0 h).bind fun x7 =>
      (am_il 0 x7 (v4 - (1 : Int32)) h).bind fun x8 =>
      (am_is 0 x6 v4 x8 h).bind fun h9 =>
      F_X6_sort_10 k2 n v0 v1 v2 v3 (v4 + (-1 : Int32)) h9
theorem w_X6_sort_10 {g : am_G} {l : Launch} {h0 : am_H} {hf : am_H}  {k2 : Nat → Nat → Int32 → Int32 → am_H → Option am_H} (j2 : ∀ (v0 : Nat) (v1 : Nat) (v2 : Int32) (v3 : Int32) (h : am_H), k2 v0 v1 v2 v3 h = some hf → am_W g l M_X6_sort h0 none hf 2 [some (.ref v0), some (.ref v1), some (.int v2), some (.int v3), none] [] h) : ∀ (n : Nat) (v0 : Nat) (v1 : Nat) (v2 : Int32) (v3 : Int32) (v4 : Int32) (h : am_H), F_X6_sort_10 k2 n v0 v1 v2 v3 v4 h = some hf → am_W g l M_X6_sort h0 none hf 10 [some (.ref v0), some (.ref v1), some (.int v2), some (.int v3), some (.int v4)] [] h
  | 0, _, _, _, _, _, _, hF => by cases hF
  | n + 1, v0, v1, v2, v3, v4, h, hF => by
    rw [F_X6_sort_10] at hF
    refine am_iload (pc' := 12) dX6_sort_10 rfl rfl ?_
    rcases am_ite hF with ⟨z1, hF⟩ | ⟨z1, hF⟩
    · refine am_if_le_t (pc' := 54) dX6_sort_12 rfl z1 ?_
      exact w_X6_sort_54 j2 v0 v1 v2 v3 v4 h hF
    · refine am_if_le_f (pc' := 15) (tgt := 54) dX6_sort_12 rfl z1 rfl ?_
      refine am_aload_n (pc' := 16) dX6_sort_15 rfl rfl ?_
      refine am_iload_n (pc' := 17) dX6_sort_16 rfl rfl ?_
      refine am_aload_n (pc' := 18) dX6_sort_17 rfl rfl ?_
      obtain ⟨x2, ex2, hF⟩ := am_bind hF
      refine am_getr (pc' := 21) dX6_sort_18 fw_X6_9 ex2 rfl ?_
      refine am_iload (pc' := 23) dX6_sort_21 rfl rfl ?_
      refine am_iconst (v := (1 : Int32)) (pc' := 24) dX6_sort_23 rfl rfl ?_
      refine am_isub (pc' := 25) dX6_sort_24 rfl ?_
      obtain ⟨x3, ex3, hF⟩ := am_bind hF
      refine am_iald (pc' := 26) dX6_sort_25 ex3 rfl ?_
      obtain ⟨x4, ex4, hF⟩ := am_bind hF
      refine am_callS1 (Mc := M_X6_isAhead) (As := [.ref v1, .int v3, .int x3]) (st := []) (pc' := 29) dX6_sort_26 cw_X6_64 wd_3_106 (by decide) (by decide) rfl rfl (Nat.le_of_ble_eq_true rfl) (c_X6_isAhead ex4) rfl ?_
      rcases am_ite hF with ⟨z5, hF⟩ | ⟨z5, hF⟩
      · refine am_if_eq_t (pc' := 54) dX6_sort_29 rfl z5 ?_
        exact w_X6_sort_54 j2 v0 v1 v2 v3 v4 h hF
      · refine am_if_eq_f (pc' := 32) (tgt := 54) dX6_sort_29 rfl z5 rfl ?_
        refine am_aload_n (pc' := 33) dX6_sort_32 rfl rfl ?_
        obtain ⟨x6, ex6, hF⟩ := am_bind hF
        refine am_getr (pc' := 36) dX6_sort_33 fw_X6_9 ex6 rfl ?_
        refine am_iload (pc' := 38) dX6_sort_36 rfl rfl ?_
        refine am_aload_n (pc' := 39) dX6_sort_38 rfl rfl ?_
        obtain ⟨x7, ex7, hF⟩ := am_bind hF
        refine am_getr (pc' := 42) dX6_sort_39 fw_X6_9 ex7 rfl ?_
        refine am_iload (pc' := 44) dX6_sort_42 rfl rfl ?_
        refine am_iconst (v := (1 : Int32)) (pc' := 45) dX6_sort_44 rfl rfl ?_
        refine am_isub (pc' := 46) dX6_sort_45 rfl ?_
        obtain ⟨x8, ex8, hF⟩ := am_bind hF
        refine am_iald (pc' := 47) dX6_sort_46 ex8 rfl ?_
        obtain ⟨h9, eh9, hF⟩ := am_bind hF
        refine am_iast (pc' := 48) dX6_sort_47 eh9 rfl ?_
        refine am_iinc (ls' := [some (.ref v0), some (.ref v1), some (.int v2), some (.int v3), some (.int (v4 + (-1 : Int32)))]) (pc' := 51) (v := (v4 + (-1 : Int32))) dX6_sort_48 rfl rfl (Nat.le_of_ble_eq_true rfl) rfl rfl ?_
        refine am_goto (pc' := 10) dX6_sort_51 rfl ?_
        exact w_X6_sort_10 j2 n v0 v1 v2 v3 (v4 + (-1 : Int32)) h9 hF
def F_X6_sort_2 : Nat → Nat → Nat → Int32 → Int32 → am_H → Option am_H
  | 0, _, _, _, _, _ => none
  | n + 1, v0, v1, v2, v3, h =>
  if v2 < v3 then
    some h
  else
    F_X6_sort_10 (F_X6_sort_2 n) am_F v0 v1 v2 v3 v3 h
theorem w_X6_sort_2 {g : am_G} {l : Launch} {h0 : am_H} {hf : am_H}  : ∀ (n : Nat) (v0 : Nat) (v1 : Nat) (v2 : Int32) (v3 : Int32) (h : am_H), F_X6_sort_2 n v0 v1 v2 v3 h = some hf → am_W g l M_X6_sort h0 none hf 2 [some (.ref v0), some (.ref v1), some (.int v2), some (.int v3), none] [] h
  | 0, _, _, _, _, _, hF => by cases hF
  | n + 1, v0, v1, v2, v3, h, hF => by
    rw [F_X6_sort_2] at hF
    refine am_iload_n (pc' := 3) dX6_sort_2 rfl rfl ?_
    refine am_iload_n (pc' := 4) dX6_sort_3 rfl rfl ?_
    rcases am_ite hF with ⟨z1, hF⟩ | ⟨z1, hF⟩
    · refine am_icmp_gt_t (pc' := 68) dX6_sort_4 rfl z1 ?_
      cases hF
      exact am_vret dX6_sort_68 rfl
    · refine am_icmp_gt_f (pc' := 7) (tgt := 68) dX6_sort_4 rfl z1 rfl ?_
      refine am_iload_n (pc' := 8) dX6_sort_7 rfl rfl ?_
      refine am_istore (ls' := [some (.ref v0), some (.ref v1), some (.int v2), some (.int v3), some (.int v3)]) (pc' := 10) dX6_sort_8 (Nat.le_of_ble_eq_true rfl) rfl rfl ?_
      exact w_X6_sort_10 (w_X6_sort_2 n) am_F v0 v1 v2 v3 v3 h hF
def F_X6_sort_b (v0 : Nat) (v1 : Nat) (v2 : Int32) (h : am_H) : Option am_H :=
  F_X6_sort_2 am_F v0 v1 v2 (0 : Int32) h
theorem w_X6_sort {g : am_G} {l : Launch} {h0 : am_H} {hf : am_H}  (v0 : Nat) (v1 : Nat) (v2 : Int32) (h : am_H) (hF : F_X6_sort_b v0 v1 v2 h = some hf) : am_W g l M_X6_sort h0 none hf 0 [some (.ref v0), some (.ref v1), some (.int v2), none, none] [] h := by
  unfold F_X6_sort_b at hF
  refine am_iconst (v := (0 : Int32)) (pc' := 1) dX6_sort_0 rfl rfl ?_
  refine am_istore_n (ls' := [some (.ref v0), some (.ref v1), some (.int v2), some (.int (0 : Int32)), none]) (pc' := 2) dX6_sort_1 (Nat.le_of_ble_eq_true rfl) rfl rfl ?_
  exact w_X6_sort_2 am_F v0 v1 v2 (0 : Int32) h hF
def F_X6_sort (v0 : Nat) (v1 : Nat) (v2 : Int32) (h : am_H) : Option am_H := (am_obj v0 6 h).bind fun _ => F_X6_sort_b v0 v1 v2 h
theorem t_X6_sort {hf : am_H}  {v0 : Nat} {v1 : Nat} {v2 : Int32} {h : am_H} (hF : F_X6_sort v0 v1 v2 h = some hf) : ∃ fs, am_obj v0 6 h = some fs := by
  obtain ⟨fs, e, _⟩ := am_bind hF
  exact ⟨fs, e⟩
theorem c_X6_sort {g : am_G} {l : Launch} {hf : am_H}  {v0 : Nat} {v1 : Nat} {v2 : Int32} {h : am_H} (hF : F_X6_sort v0 v1 v2 h = some hf) : am_Met g l M_X6_sort [.ref v0, .ref v1, .int v2] h none hf := by
  obtain ⟨fs, e0, e⟩ := am_bind hF
  exact am_met (n := 2) (by decide +kernel) rfl (Nat.le_of_ble_eq_true rfl) (w_X6_sort v0 v1 v2 h e)
theorem fw_X6_15 : am_fw "SignCellar$Turns" 15 6 1 := ⟨(RX6, TX6, 5), rfl, by decide, inX6, Or.inl wd_1_131⟩
def F_X6_toFront_31 : Nat → Nat → Int32 → Int32 → Int32 → am_H → Option (Int32 × am_H)
  | 0, _, _, _, _, _ => none
  | n + 1, v0, v1, v2, v3, h =>
  if v3 ≤ 0 then
    (am_gr 6 1 v0 h).bind fun x2 =>
    (am_is 0 x2 (0 : Int32) v1 h).bind fun h3 =>
    some (v2, h3)
  else
    (am_gr 6 1 v0 h).bind fun x4 =>
    (am_gr 6 1 v0 h).bind fun x5 =>
    (am_il 0 x5 (v3 - (1 : Int32)) h).bind fun x6 =>
    (am_is 0 x4 v3 x6 h).bind fun h7 =>
    F_X6_toFront_31 n v0 v1 v2 (v3 + (-1 : Int32)) h7
theorem w_X6_toFront_31 {g : am_G} {l : Launch} {h0 : am_H} {x : Int32} {hf : am_H}  : ∀ (n : Nat) (v0 : Nat) (v1 : Int32) (v2 : Int32) (v3 : Int32) (h : am_H), F_X6_toFront_31 n v0 v1 v2 v3 h = some (x, hf) → am_W g l M_X6_toFront h0 (some (.int x)) hf 31 [some (.ref v0), some (.int v1), some (.int v2), some (.int v3)] [] h
  | 0, _, _, _, _, _, hF => by cases hF
  | n + 1, v0, v1, v2, v3, h, hF => by
    rw [F_X6_toFront_31] at hF
    refine am_iload_n (pc' := 32) dX6_toFront_31 rfl rfl ?_
    rcases am_ite hF with ⟨z1, hF⟩ | ⟨z1, hF⟩
    · refine am_if_le_t (pc' := 55) dX6_toFront_32 rfl z1 ?_
      refine am_aload_n (pc' := 56) dX6_toFront_55 rfl rfl ?_
      obtain ⟨x2, ex2, hF⟩ := am_bind hF
      refine am_getr (pc' := 59) dX6_toFront_56 fw_X6_15 ex2 rfl ?_
      refine am_iconst (v := (0 : Int32)) (pc' := 60) dX6_toFront_59 rfl rfl ?_
      refine am_iload_n (pc' := 61) dX6_toFront_60 rfl rfl ?_
      obtain ⟨h3, eh3, hF⟩ := am_bind hF
      refine am_iast (pc' := 62) dX6_toFront_61 eh3 rfl ?_
      refine am_iload_n (pc' := 63) dX6_toFront_62 rfl rfl ?_
      cases hF
      exact am_iret dX6_toFront_63 rfl rfl
    · refine am_if_le_f (pc' := 35) (tgt := 55) dX6_toFront_32 rfl z1 rfl ?_
      refine am_aload_n (pc' := 36) dX6_toFront_35 rfl rfl ?_
      obtain ⟨x4, ex4, hF⟩ := am_bind hF
      refine am_getr (pc' := 39) dX6_toFront_36 fw_X6_15 ex4 rfl ?_
      refine am_iload_n (pc' := 40) dX6_toFront_39 rfl rfl ?_
      refine am_aload_n (pc' := 41) dX6_toFront_40 rfl rfl ?_
      obtain ⟨x5, ex5, hF⟩ := am_bind hF
      refine am_getr (pc' := 44) dX6_toFront_41 fw_X6_15 ex5 rfl ?_
      refine am_iload_n (pc' := 45) dX6_toFront_44 rfl rfl ?_
      refine am_iconst (v := (1 : Int32)) (pc' := 46) dX6_toFront_45 rfl rfl ?_
      refine am_isub (pc' := 47) dX6_toFront_46 rfl ?_
      obtain ⟨x6, ex6, hF⟩ := am_bind hF
      refine am_iald (pc' := 48) dX6_toFront_47 ex6 rfl ?_
      obtain ⟨h7, eh7, hF⟩ := am_bind hF
      refine am_iast (pc' := 49) dX6_toFront_48 eh7 rfl ?_
      refine am_iinc (ls' := [some (.ref v0), some (.int v1), some (.int v2), some (.int (v3 + (-1 : Int32)))]) (pc' := 52) (v := (v3 + (-1 : Int32))) dX6_toFront_49 rfl rfl (Nat.le_of_ble_eq_true rfl) rfl rfl ?_
      refine am_goto (pc' := 31) dX6_toFront_52 rfl ?_
      exact w_X6_toFront_31 n v0 v1 v2 (v3 + (-1 : Int32)) h7 hF
def F_X6_toFront_29 (v0 : Nat) (v1 : Int32) (v2 : Int32) (h : am_H) : Option (Int32 × am_H) :=
  F_X6_toFront_31 am_F v0 v1 v2 v2 h
theorem w_X6_toFront_29 {g : am_G} {l : Launch} {h0 : am_H} {x : Int32} {hf : am_H}  (v0 : Nat) (v1 : Int32) (v2 : Int32) (h : am_H) (hF : F_X6_toFront_29 v0 v1 v2 h = some (x, hf)) : am_W g l M_X6_toFront h0 (some (.int x)) hf 29 [some (.ref v0), some (.int v1), some (.int v2), none] [] h := by
  unfold F_X6_toFront_29 at hF
  refine am_iload_n (pc' := 30) dX6_toFront_29 rfl rfl ?_
  refine am_istore_n (ls' := [some (.ref v0), some (.int v1), some (.int v2), some (.int v2)]) (pc' := 31) dX6_toFront_30 (Nat.le_of_ble_eq_true rfl) rfl rfl ?_
  exact w_X6_toFront_31 am_F v0 v1 v2 v2 h hF
def F_X6_toFront_2 : Nat → Nat → Int32 → Int32 → am_H → Option (Int32 × am_H)
  | 0, _, _, _, _ => none
  | n + 1, v0, v1, v2, h =>
  (am_gr 6 1 v0 h).bind fun x1 =>
  (am_ln x1 h).bind fun x2 =>
  if (x2 - (1 : Int32)) ≤ v2 then
    F_X6_toFront_29 v0 v1 v2 h
  else
    (am_gr 6 1 v0 h).bind fun x4 =>
    (am_il 0 x4 v2 h).bind fun x5 =>
    if x5 = v1 then
      F_X6_toFront_29 v0 v1 v2 h
    else
      F_X6_toFront_2 n v0 v1 (v2 + (1 : Int32)) h
theorem w_X6_toFront_2 {g : am_G} {l : Launch} {h0 : am_H} {x : Int32} {hf : am_H}  : ∀ (n : Nat) (v0 : Nat) (v1 : Int32) (v2 : Int32) (h : am_H), F_X6_toFront_2 n v0 v1 v2 h = some (x, hf) → am_W g l M_X6_toFront h0 (some (.int x)) hf 2 [some (.ref v0), some (.int v1), some (.int v2), none] [] h
  | 0, _, _, _, _, hF => by cases hF
  | n + 1, v0, v1, v2, h, hF => by
    rw [F_X6_toFront_2] at hF
    refine am_iload_n (pc' := 3) dX6_toFront_2 rfl rfl ?_
    refine am_aload_n (pc' := 4) dX6_toFront_3 rfl rfl ?_
    obtain ⟨x1, ex1, hF⟩ := am_bind hF
    refine am_getr (pc' := 7) dX6_toFront_4 fw_X6_15 ex1 rfl ?_
    obtain ⟨x2, ex2, hF⟩ := am_bind hF
    refine am_alen (pc' := 8) dX6_toFront_7 ex2 rfl ?_
    refine am_iconst (v := (1 : Int32)) (pc' := 9) dX6_toFront_8 rfl rfl ?_
    refine am_isub (pc' := 10) dX6_toFront_9 rfl ?_
    rcases am_ite hF with ⟨z3, hF⟩ | ⟨z3, hF⟩
    · refine am_icmp_ge_t (pc' := 29) dX6_toFront_10 rfl z3 ?_
      exact w_X6_toFront_29 v0 v1 v2 h hF
    · refine am_icmp_ge_f (pc' := 13) (tgt := 29) dX6_toFront_10 rfl z3 rfl ?_
      refine am_aload_n (pc' := 14) dX6_toFront_13 rfl rfl ?_
      obtain ⟨x4, ex4, hF⟩ := am_bind hF
      refine am_getr (pc' := 17) dX6_toFront_14 fw_X6_15 ex4 rfl ?_
      refine am_iload_n (pc' := 18) dX6_toFront_17 rfl rfl ?_
      obtain ⟨x5, ex5, hF⟩ := am_bind hF
      refine am_iald (pc' := 19) dX6_toFront_18 ex5 rfl ?_
      refine am_iload_n (pc' := 20) dX6_toFront_19 rfl rfl ?_
      rcases am_ite hF with ⟨z6, hF⟩ | ⟨z6, hF⟩
      · refine am_icmp_eq_t (pc' := 29) dX6_toFront_20 rfl z6 ?_
        exact w_X6_toFront_29 v0 v1 v2 h hF
      · refine am_icmp_eq_f (pc' := 23) (tgt := 29) dX6_toFront_20 rfl z6 rfl ?_
        refine am_iinc (ls' := [some (.ref v0), some (.int v1), some (.int (v2 + (1 : Int32))), none]) (pc' := 26) (v := (v2 + (1 : Int32))) dX6_toFront_23 rfl rfl (Nat.le_of_ble_eq_true rfl) rfl rfl ?_
        refine am_goto (pc' := 2) dX6_toFront_26 rfl ?_
        exact w_X6_toFront_2 n v0 v1 (v2 + (1 : Int32)) h hF
def F_X6_toFront_b (v0 : Nat) (v1 : Int32) (h : am_H) : Option (Int32 × am_H) :=
  F_X6_toFront_2 am_F v0 v1 (0 : Int32) h
theorem w_X6_toFront {g : am_G} {l : Launch} {h0 : am_H} {x : Int32} {hf : am_H}  (v0 : Nat) (v1 : Int32) (h : am_H) (hF : F_X6_toFront_b v0 v1 h = some (x, hf)) : am_W g l M_X6_toFront h0 (some (.int x)) hf 0 [some (.ref v0), some (.int v1), none, none] [] h := by
  unfold F_X6_toFront_b at hF
  refine am_iconst (v := (0 : Int32)) (pc' := 1) dX6_toFront_0 rfl rfl ?_
  refine am_istore_n (ls' := [some (.ref v0), some (.int v1), some (.int (0 : Int32)), none]) (pc' := 2) dX6_toFront_1 (Nat.le_of_ble_eq_true rfl) rfl rfl ?_
  exact w_X6_toFront_2 am_F v0 v1 (0 : Int32) h hF
def F_X6_toFront (v0 : Nat) (v1 : Int32) (h : am_H) : Option (Int32 × am_H) := (am_obj v0 6 h).bind fun _ => F_X6_toFront_b v0 v1 h
theorem t_X6_toFront {x : Int32} {hf : am_H}  {v0 : Nat} {v1 : Int32} {h : am_H} (hF : F_X6_toFront v0 v1 h = some (x, hf)) : ∃ fs, am_obj v0 6 h = some fs := by
  obtain ⟨fs, e, _⟩ := am_bind hF
  exact ⟨fs, e⟩
theorem c_X6_toFront {g : am_G} {l : Launch} {x : Int32} {hf : am_H}  {v0 : Nat} {v1 : Int32} {h : am_H} (hF : F_X6_toFront v0 v1 h = some (x, hf)) : am_Met g l M_X6_toFront [.ref v0, .int v1] h (some (.int x)) hf := by
  obtain ⟨fs, e0, e⟩ := am_bind hF
  exact am_met (n := 2) (by decide +kernel) rfl (Nat.le_of_ble_eq_true rfl) (w_X6_toFront v0 v1 h e)
theorem cw_X6_48 : am_cw "SignCellar$Turns" 48 M_X4_empty 0 := ⟨wd_1_2, wd_2_19, ⟨by decide, by decide, by decide⟩, Or.inl wd_3_109⟩
theorem cw_X6_55 : am_cw "SignCellar$Turns" 55 M_X4_add 1 := ⟨wd_1_2, wd_2_2, ⟨by decide, by decide, by decide⟩, Or.inl wd_3_110⟩
theorem cw_X6_68 : am_cw "SignCellar$Turns" 68 M_X6_toFront 1 := ⟨wd_1_7, wd_3_118, ⟨by decide, by decide, by decide⟩, Or.inl wd_3_115⟩
theorem fw_X6_23 : am_fw "SignCellar$Turns" 23 6 2 := ⟨(RX6, TX6, 5), rfl, by decide, inX6, Or.inl wd_1_132⟩
theorem fw_X6_27 : am_fw "SignCellar$Turns" 27 6 3 := ⟨(RX6, TX6, 5), rfl, by decide, inX6, Or.inl wd_1_134⟩
theorem sl_X6_toFront : Cond.selects (⟨"SignCellar$Turns", "toFront", "(I)I"⟩ : MethodName).cls ⟨"SignCellar$Turns", "toFront", "(I)I"⟩ ⟨"SignCellar$Turns", "toFront", "(I)I"⟩ ∈ am_ts := am_in_p (q := (⟨"SignCellar$Turns", "toFront", "(I)I"⟩, 5)) (by decide +kernel)
def F_X6_findPlaces_33 : Nat → Nat → Int32 → am_H → Option am_H
  | 0, _, _, _ => none
  | n + 1, v0, v1, h =>
  (am_gr 6 2 v0 h).bind fun x1 =>
  (F_X4_length x1 h).bind fun x2 =>
  if x2 ≤ v1 then
    some h
  else
    (am_gr 6 3 v0 h).bind fun x4 =>
    (am_gr 6 2 v0 h).bind fun x5 =>
    (F_X4_at x5 v1 h).bind fun x6 =>
    (F_X6_toFront v0 x6 h).bind fun q7 =>
    (F_X4_add x4 q7.1 q7.2).bind fun h8 =>
    F_X6_findPlaces_33 n v0 (v1 + (1 : Int32)) h8
theorem w_X6_findPlaces_33 {g : am_G} {l : Launch} {h0 : am_H} {hf : am_H}  : ∀ (n : Nat) (v0 : Nat) (v1 : Int32) (h : am_H), F_X6_findPlaces_33 n v0 v1 h = some hf → am_W g l M_X6_findPlaces h0 none hf 33 [some (.ref v0), some (.int v1)] [] h
  | 0, _, _, _, hF => by cases hF
  | n + 1, v0, v1, h, hF => by
    rw [F_X6_findPlaces_33] at hF
    refine am_iload_n (pc' := 34) dX6_findPlaces_33 rfl rfl ?_
    refine am_aload_n (pc' := 35) dX6_findPlaces_34 rfl rfl ?_
    obtain ⟨x1, ex1, hF⟩ := am_bind hF
    refine am_getr (pc' := 38) dX6_findPlaces_35 fw_X6_23 ex1 rfl ?_
    obtain ⟨x2, ex2, hF⟩ := am_bind hF
    obtain ⟨ox2, px2⟩ := t_X4_length ex2
    refine am_callV1 (Mc := M_X4_length) (As := []) (st := [.int v1]) (pc' := 41) dX6_findPlaces_38 cw_X6_34 wd_1_235 wd_1_236 ⟨_, rfl, rfl⟩ (by decide) (by decide) rfl rfl (Nat.le_of_ble_eq_true rfl) px2 (c_X4_length ex2) rfl ?_
    rcases am_ite hF with ⟨z3, hF⟩ | ⟨z3, hF⟩
    · refine am_icmp_ge_t (pc' := 69) dX6_findPlaces_41 rfl z3 ?_
      cases hF
      exact am_vret dX6_findPlaces_69 rfl
    · refine am_icmp_ge_f (pc' := 44) (tgt := 69) dX6_findPlaces_41 rfl z3 rfl ?_
      refine am_aload_n (pc' := 45) dX6_findPlaces_44 rfl rfl ?_
      obtain ⟨x4, ex4, hF⟩ := am_bind hF
      refine am_getr (pc' := 48) dX6_findPlaces_45 fw_X6_27 ex4 rfl ?_
      refine am_aload_n (pc' := 49) dX6_findPlaces_48 rfl rfl ?_
      refine am_aload_n (pc' := 50) dX6_findPlaces_49 rfl rfl ?_
      obtain ⟨x5, ex5, hF⟩ := am_bind hF
      refine am_getr (pc' := 53) dX6_findPlaces_50 fw_X6_23 ex5 rfl ?_
      refine am_iload_n (pc' := 54) dX6_findPlaces_53 rfl rfl ?_
      obtain ⟨x6, ex6, hF⟩ := am_bind hF
      obtain ⟨ox6, px6⟩ := t_X4_at ex6
      refine am_callV1 (Mc := M_X4_at) (As := [.int v1]) (st := [.ref v0, .ref x4]) (pc' := 57) dX6_findPlaces_54 cw_X6_51 wd_2_40 wd_2_41 ⟨_, rfl, rfl⟩ (by decide) (by decide) rfl rfl (Nat.le_of_ble_eq_true rfl) px6 (c_X4_at ex6) rfl ?_
      obtain ⟨q7, eq7, hF⟩ := am_bind hF
      obtain ⟨oq7, pq7⟩ := t_X6_toFront eq7
      refine am_callV1 (Mc := M_X6_toFront) (As := [.int x6]) (st := [.ref x4]) (pc' := 60) dX6_findPlaces_57 cw_X6_68 wd_3_117 sl_X6_toFront ⟨_, rfl, rfl⟩ (by decide) (by decide) rfl rfl (Nat.le_of_ble_eq_true rfl) pq7 (c_X6_toFront eq7) rfl ?_
      obtain ⟨h8, eh8, hF⟩ := am_bind hF
      obtain ⟨oh8, ph8⟩ := t_X4_add eh8
      refine am_callV0 (Mc := M_X4_add) (As := [.int q7.1]) (st := []) (pc' := 63) dX6_findPlaces_60 cw_X6_55 wd_2_0 wd_2_1 ⟨_, rfl, rfl⟩ (by decide) (by decide) rfl rfl (Nat.le_of_ble_eq_true rfl) ph8 (c_X4_add eh8) rfl ?_
      refine am_iinc (ls' := [some (.ref v0), some (.int (v1 + (1 : Int32)))]) (pc' := 66) (v := (v1 + (1 : Int32))) dX6_findPlaces_63 rfl rfl (Nat.le_of_ble_eq_true rfl) rfl rfl ?_
      refine am_goto (pc' := 33) dX6_findPlaces_66 rfl ?_
      exact w_X6_findPlaces_33 n v0 (v1 + (1 : Int32)) h8 hF
def F_X6_findPlaces_2 : Nat → Nat → Int32 → am_H → Option am_H
  | 0, _, _, _ => none
  | n + 1, v0, v1, h =>
  (am_gr 6 1 v0 h).bind fun x1 =>
  (am_ln x1 h).bind fun x2 =>
  if x2 ≤ v1 then
    (am_gr 6 3 v0 h).bind fun x4 =>
    (F_X4_empty x4 h).bind fun h5 =>
    F_X6_findPlaces_33 am_F v0 (0 : Int32) h5
  else
    (am_gr 6 1 v0 h).bind fun x6 =>
    (am_is 0 x6 v1 v1 h).bind fun h7 =>
    F_X6_findPlaces_2 n v0 (v1 + (1 : Int32)) h7
theorem w_X6_findPlaces_2 {g : am_G} {l : Launch} {h0 : am_H} {hf : am_H}  : ∀ (n : Nat) (v0 : Nat) (v1 : Int32) (h : am_H), F_X6_findPlaces_2 n v0 v1 h = some hf → am_W g l M_X6_findPlaces h0 none hf 2 [some (.ref v0), some (.int v1)] [] h
  | 0, _, _, _, hF => by cases hF
  | n + 1, v0, v1, h, hF => by
    rw [F_X6_findPlaces_2] at hF
    refine am_iload_n (pc' := 3) dX6_findPlaces_2 rfl rfl ?_
    refine am_aload_n (pc' := 4) dX6_findPlaces_3 rfl rfl ?_
    obtain ⟨x1, ex1, hF⟩ := am_bind hF
    refine am_getr (pc' := 7) dX6_findPlaces_4 fw_X6_15 ex1 rfl ?_
    obtain ⟨x2, ex2, hF⟩ := am_bind hF
    refine am_alen (pc' := 8) dX6_findPlaces_7 ex2 rfl ?_
    rcases am_ite hF with ⟨z3, hF⟩ | ⟨z3, hF⟩
    · refine am_icmp_ge_t (pc' := 24) dX6_findPlaces_8 rfl z3 ?_
      refine am_aload_n (pc' := 25) dX6_findPlaces_24 rfl rfl ?_
      obtain ⟨x4, ex4, hF⟩ := am_bind hF
      refine am_getr (pc' := 28) dX6_findPlaces_25 fw_X6_27 ex4 rfl ?_
      obtain ⟨h5, eh5, hF⟩ := am_bind hF
      obtain ⟨oh5, ph5⟩ := t_X4_empty eh5
      refine am_callV0 (Mc := M_X4_empty) (As := []) (st := []) (pc' := 31) dX6_findPlaces_28 cw_X6_48 wd_2_17 wd_2_18 ⟨_, rfl, rfl⟩ (by decide) (by decide) rfl rfl (Nat.le_of_ble_eq_true rfl) ph5 (c_X4_empty eh5) rfl ?_
      refine am_iconst (v := (0 : Int32)) (pc' := 32) dX6_findPlaces_31 rfl rfl ?_
      refine am_istore_n (ls' := [some (.ref v0), some (.int (0 : Int32))]) (pc' := 33) dX6_findPlaces_32 (Nat.le_of_ble_eq_true rfl) rfl rfl ?_
      exact w_X6_findPlaces_33 am_F v0 (0 : Int32) h5 hF
    · refine am_icmp_ge_f (pc' := 11) (tgt := 24) dX6_findPlaces_8 rfl z3 rfl ?_
      refine am_aload_n (pc' := 12) dX6_findPlaces_11 rfl rfl ?_
      obtain ⟨x6, ex6, hF⟩ := am_bind hF
      refine am_getr (pc' := 15) dX6_findPlaces_12 fw_X6_15 ex6 rfl ?_
      refine am_iload_n (pc' := 16) dX6_findPlaces_15 rfl rfl ?_
      refine am_iload_n (pc' := 17) dX6_findPlaces_16 rfl rfl ?_
      obtain ⟨h7, eh7, hF⟩ := am_bind hF
      refine am_iast (pc' := 18) dX6_findPlaces_17 eh7 rfl ?_
      refine am_iinc (ls' := [some (.ref v0), some (.int (v1 + (1 : Int32)))]) (pc' := 21) (v := (v1 + (1 : Int32))) dX6_findPlaces_18 rfl rfl (Nat.le_of_ble_eq_true rfl) rfl rfl ?_
      refine am_goto (pc' := 2) dX6_findPlaces_21 rfl ?_
      exact w_X6_findPlaces_2 n v0 (v1 + (1 : Int32)) h7 hF
def F_X6_findPlaces_b (v0 : Nat) (h : am_H) : Option am_H :=
  F_X6_findPlaces_2 am_F v0 (0 : Int32) h
theorem w_X6_findPlaces {g : am_G} {l : Launch} {h0 : am_H} {hf : am_H}  (v0 : Nat) (h : am_H) (hF : F_X6_findPlaces_b v0 h = some hf) : am_W g l M_X6_findPlaces h0 none hf 0 [some (.ref v0), none] [] h := by
  unfold F_X6_findPlaces_b at hF
  refine am_iconst (v := (0 : Int32)) (pc' := 1) dX6_findPlaces_0 rfl rfl ?_
  refine am_istore_n (ls' := [some (.ref v0), some (.int (0 : Int32))]) (pc' := 2) dX6_findPlaces_1 (Nat.le_of_ble_eq_true rfl) rfl rfl ?_
  exact w_X6_findPlaces_2 am_F v0 (0 : Int32) h hF
def F_X6_findPlaces (v0 : Nat) (h : am_H) : Option am_H := (am_obj v0 6 h).bind fun _ => F_X6_findPlaces_b v0 h
theorem t_X6_findPlaces {hf : am_H}  {v0 : Nat} {h : am_H} (hF : F_X6_findPlaces v0 h = some hf) : ∃ fs, am_obj v0 6 h = some fs := by
  obtain ⟨fs, e, _⟩ := am_bind hF
  exact ⟨fs, e⟩
theorem c_X6_findPlaces {g : am_G} {l : Launch} {hf : am_H}  {v0 : Nat} {h : am_H} (hF : F_X6_findPlaces v0 h = some hf) : am_Met g l M_X6_findPlaces [.ref v0] h none hf := by
  obtain ⟨fs, e0, e⟩ := am_bind hF
  exact am_met (n := 1) (by decide +kernel) rfl (Nat.le_of_ble_eq_true rfl) (w_X6_findPlaces v0 h e)
theorem cw_X6_38 : am_cw "SignCellar$Turns" 38 M_J9_min_7cf53 2 := ⟨wd_1_3, wd_2_22, ⟨by decide, by decide, by decide⟩, Or.inl wd_3_100⟩
theorem cw_X6_44 : am_cw "SignCellar$Turns" 44 M_X6_sort 2 := ⟨wd_1_7, wd_3_104, ⟨by decide, by decide, by decide⟩, Or.inl wd_3_101⟩
theorem cw_X6_58 : am_cw "SignCellar$Turns" 58 M_X6_findPlaces 0 := ⟨wd_1_7, wd_3_114, ⟨by decide, by decide, by decide⟩, Or.inl wd_3_111⟩
theorem fx_X6_30 {nm : String} : am_fx "SignCellar$Turns" 30 6 4 .int nm := ⟨(RX6, TX6, 5), tyX6, rfl, by decide, inX6, tyX6_ok, nmX6, rfl, Or.inl ⟨wd_1_136, Or.inl rfl⟩⟩
theorem sl_X6_findPlaces : Cond.selects (⟨"SignCellar$Turns", "findPlaces", "()V"⟩ : MethodName).cls ⟨"SignCellar$Turns", "findPlaces", "()V"⟩ ⟨"SignCellar$Turns", "findPlaces", "()V"⟩ ∈ am_ts := am_in_p (q := (⟨"SignCellar$Turns", "findPlaces", "()V"⟩, 5)) (by decide +kernel)
theorem sl_X6_sort : Cond.selects (⟨"SignCellar$Turns", "sort", "(LSignCellar$Row;I)V"⟩ : MethodName).cls ⟨"SignCellar$Turns", "sort", "(LSignCellar$Row;I)V"⟩ ⟨"SignCellar$Turns", "sort", "(LSignCellar$Row;I)V"⟩ ∈ am_ts := am_in_p (q := (⟨"SignCellar$Turns", "sort", "(LSignCellar$Row;I)V"⟩, 5)) (by decide +kernel)
def F_X6_squeeze_66 (k25 : Nat → Nat → Int32 → Int32 → am_H → Option am_H) (v0 : Nat) (v1 : Nat) (v2 : Int32) (v3 : Int32) (h : am_H) : Option am_H :=
  k25 v0 v1 v2 (v3 + (1 : Int32)) h
theorem w_X6_squeeze_66 {g : am_G} {l : Launch} {h0 : am_H} {hf : am_H}  {k25 : Nat → Nat → Int32 → Int32 → am_H → Option am_H} (j25 : ∀ (v0 : Nat) (v1 : Nat) (v2 : Int32) (v3 : Int32) (h : am_H), k25 v0 v1 v2 v3 h = some hf → am_W g l M_X6_squeeze h0 none hf 25 [some (.ref v0), some (.ref v1), some (.int v2), some (.int v3)] [] h) (v0 : Nat) (v1 : Nat) (v2 : Int32) (v3 : Int32) (h : am_H) (hF : F_X6_squeeze_66 k25 v0 v1 v2 v3 h = some hf) : am_W g l M_X6_squeeze h0 none hf 66 [some (.ref v0), some (.ref v1), some (.int v2), some (.int v3)] [] h := by
  unfold F_X6_squeeze_66 at hF
  refine am_iinc (ls' := [some (.ref v0), some (.ref v1), some (.int v2), some (.int (v3 + (1 : Int32)))]) (pc' := 69) (v := (v3 + (1 : Int32))) dX6_squeeze_66 rfl rfl (Nat.le_of_ble_eq_true rfl) rfl rfl ?_
  refine am_goto (pc' := 25) dX6_squeeze_69 rfl ?_
  exact j25 v0 v1 v2 (v3 + (1 : Int32)) h hF
def F_X6_squeeze_25 : Nat → Nat → Nat → Int32 → Int32 → am_H → Option am_H
  | 0, _, _, _, _, _ => none
  | n + 1, v0, v1, v2, v3, h =>
  if v2 < v3 then
    (F_X6_findPlaces v0 h).bind fun h2 =>
    some h2
  else
    (am_gr 6 0 v0 h).bind fun x3 =>
    (am_il 0 x3 v3 h).bind fun x4 =>
    if x4 = 0 then
      (am_pi 6 4 v0 v3 h).bind fun h6 =>
      F_X6_squeeze_66 (F_X6_squeeze_25 n) v0 v1 v2 v3 h6
    else
      (am_gr 6 2 v0 h).bind fun x7 =>
      (am_gr 6 0 v0 h).bind fun x8 =>
      (am_il 0 x8 v3 h).bind fun x9 =>
      (F_X4_at v1 (x9 - (1 : Int32)) h).bind fun x10 =>
      (F_X4_add x7 x10 h).bind fun h11 =>
      F_X6_squeeze_66 (F_X6_squeeze_25 n) v0 v1 v2 v3 h11
theorem w_X6_squeeze_25 {g : am_G} {l : Launch} {h0 : am_H} {hf : am_H}  : ∀ (n : Nat) (v0 : Nat) (v1 : Nat) (v2 : Int32) (v3 : Int32) (h : am_H), F_X6_squeeze_25 n v0 v1 v2 v3 h = some hf → am_W g l M_X6_squeeze h0 none hf 25 [some (.ref v0), some (.ref v1), some (.int v2), some (.int v3)] [] h
  | 0, _, _, _, _, _, hF => by cases hF
  | n + 1, v0, v1, v2, v3, h, hF => by
    rw [F_X6_squeeze_25] at hF
    refine am_iload_n (pc' := 26) dX6_squeeze_25 rfl rfl ?_
    refine am_iload_n (pc' := 27) dX6_squeeze_26 rfl rfl ?_
    rcases am_ite hF with ⟨z1, hF⟩ | ⟨z1, hF⟩
    · refine am_icmp_gt_t (pc' := 72) dX6_squeeze_27 rfl z1 ?_
      refine am_aload_n (pc' := 73) dX6_squeeze_72 rfl rfl ?_
      obtain ⟨h2, eh2, hF⟩ := am_bind hF
      obtain ⟨oh2, ph2⟩ := t_X6_findPlaces eh2
      refine am_callV0 (Mc := M_X6_findPlaces) (As := []) (st := []) (pc' := 76) dX6_squeeze_73 cw_X6_58 wd_3_113 sl_X6_findPlaces ⟨_, rfl, rfl⟩ (by decide) (by decide) rfl rfl (Nat.le_of_ble_eq_true rfl) ph2 (c_X6_findPlaces eh2) rfl ?_
      cases hF
      exact am_vret dX6_squeeze_76 rfl
    · refine am_icmp_gt_f (pc' := 30) (tgt := 72) dX6_squeeze_27 rfl z1 rfl ?_
      refine am_aload_n (pc' := 31) dX6_squeeze_30 rfl rfl ?_
      obtain ⟨x3, ex3, hF⟩ := am_bind hF
      refine am_getr (pc' := 34) dX6_squeeze_31 fw_X6_9 ex3 rfl ?_
      refine am_iload_n (pc' := 35) dX6_squeeze_34 rfl rfl ?_
      obtain ⟨x4, ex4, hF⟩ := am_bind hF
      refine am_iald (pc' := 36) dX6_squeeze_35 ex4 rfl ?_
      rcases am_ite hF with ⟨z5, hF⟩ | ⟨z5, hF⟩
      · refine am_if_ne_f (pc' := 39) (tgt := 47) dX6_squeeze_36 rfl z5 rfl ?_
        refine am_aload_n (pc' := 40) dX6_squeeze_39 rfl rfl ?_
        refine am_iload_n (pc' := 41) dX6_squeeze_40 rfl rfl ?_
        obtain ⟨h6, eh6, hF⟩ := am_bind hF
        refine am_puti (pc' := 44) dX6_squeeze_41 fx_X6_30 eh6 rfl ?_
        refine am_goto (pc' := 66) dX6_squeeze_44 rfl ?_
        exact w_X6_squeeze_66 (w_X6_squeeze_25 n) v0 v1 v2 v3 h6 hF
      · refine am_if_ne_t (pc' := 47) dX6_squeeze_36 rfl z5 ?_
        refine am_aload_n (pc' := 48) dX6_squeeze_47 rfl rfl ?_
        obtain ⟨x7, ex7, hF⟩ := am_bind hF
        refine am_getr (pc' := 51) dX6_squeeze_48 fw_X6_23 ex7 rfl ?_
        refine am_aload_n (pc' := 52) dX6_squeeze_51 rfl rfl ?_
        refine am_aload_n (pc' := 53) dX6_squeeze_52 rfl rfl ?_
        obtain ⟨x8, ex8, hF⟩ := am_bind hF
        refine am_getr (pc' := 56) dX6_squeeze_53 fw_X6_9 ex8 rfl ?_
        refine am_iload_n (pc' := 57) dX6_squeeze_56 rfl rfl ?_
        obtain ⟨x9, ex9, hF⟩ := am_bind hF
        refine am_iald (pc' := 58) dX6_squeeze_57 ex9 rfl ?_
        refine am_iconst (v := (1 : Int32)) (pc' := 59) dX6_squeeze_58 rfl rfl ?_
        refine am_isub (pc' := 60) dX6_squeeze_59 rfl ?_
        obtain ⟨x10, ex10, hF⟩ := am_bind hF
        obtain ⟨ox10, px10⟩ := t_X4_at ex10
        refine am_callV1 (Mc := M_X4_at) (As := [.int (x9 - (1 : Int32))]) (st := [.ref x7]) (pc' := 63) dX6_squeeze_60 cw_X6_51 wd_2_40 wd_2_41 ⟨_, rfl, rfl⟩ (by decide) (by decide) rfl rfl (Nat.le_of_ble_eq_true rfl) px10 (c_X4_at ex10) rfl ?_
        obtain ⟨h11, eh11, hF⟩ := am_bind hF
        obtain ⟨oh11, ph11⟩ := t_X4_add eh11
        refine am_callV0 (Mc := M_X4_add) (As := [.int x10]) (st := []) (pc' := 66) dX6_squeeze_63 cw_X6_55 wd_2_0 wd_2_1 ⟨_, rfl, rfl⟩ (by decide) (by decide) rfl rfl (Nat.le_of_ble_eq_true rfl) ph11 (c_X4_add eh11) rfl ?_
        exact w_X6_squeeze_66 (w_X6_squeeze_25 n) v0 v1 v2 v3 h11 hF
def F_X6_squeeze_b (v0 : Nat) (v1 : Nat) (h : am_H) : Option am_H :=
  (F_X4_length v1 h).bind fun x1 =>
  (F_J9_min_7cf53 x1 (24 : Int32) h).bind fun x2 =>
  (F_X6_sort v0 v1 x2 h).bind fun h3 =>
  (am_gr 6 2 v0 h3).bind fun x4 =>
  (F_X4_empty x4 h3).bind fun h5 =>
  F_X6_squeeze_25 am_F v0 v1 x2 (0 : Int32) h5
theorem w_X6_squeeze {g : am_G} {l : Launch} {h0 : am_H} {hf : am_H}  (v0 : Nat) (v1 : Nat) (h : am_H) (hF : F_X6_squeeze_b v0 v1 h = some hf) : am_W g l M_X6_squeeze h0 none hf 0 [some (.ref v0), some (.ref v1), none, none] [] h := by
  unfold F_X6_squeeze_b at hF
  refine am_aload_n (pc' := 1) dX6_squeeze_0 rfl rfl ?_
  obtain ⟨x1, ex1, hF⟩ := am_bind hF
  obtain ⟨ox1, px1⟩ := t_X4_length ex1
  refine am_callV1 (Mc := M_X4_length) (As := []) (st := []) (pc' := 4) dX6_squeeze_1 cw_X6_34 wd_1_235 wd_1_236 ⟨_, rfl, rfl⟩ (by decide) (by decide) rfl rfl (Nat.le_of_ble_eq_true rfl) px1 (c_X4_length ex1) rfl ?_
  refine am_bipush (v := (24 : Int32)) (pc' := 6) dX6_squeeze_4 rfl rfl ?_
  obtain ⟨x2, ex2, hF⟩ := am_bind hF
  refine am_callS1 (Mc := M_J9_min_7cf53) (As := [.int x1, .int (24 : Int32)]) (st := []) (pc' := 9) dX6_squeeze_6 cw_X6_38 wd_2_21 (by decide) (by decide) rfl rfl (Nat.le_of_ble_eq_true rfl) (c_J9_min_7cf53 ex2) rfl ?_
  refine am_istore_n (ls' := [some (.ref v0), some (.ref v1), some (.int x2), none]) (pc' := 10) dX6_squeeze_9 (Nat.le_of_ble_eq_true rfl) rfl rfl ?_
  refine am_aload_n (pc' := 11) dX6_squeeze_10 rfl rfl ?_
  refine am_aload_n (pc' := 12) dX6_squeeze_11 rfl rfl ?_
  refine am_iload_n (pc' := 13) dX6_squeeze_12 rfl rfl ?_
  obtain ⟨h3, eh3, hF⟩ := am_bind hF
  obtain ⟨oh3, ph3⟩ := t_X6_sort eh3
  refine am_callV0 (Mc := M_X6_sort) (As := [.ref v1, .int x2]) (st := []) (pc' := 16) dX6_squeeze_13 cw_X6_44 wd_3_103 sl_X6_sort ⟨_, rfl, rfl⟩ (by decide) (by decide) rfl rfl (Nat.le_of_ble_eq_true rfl) ph3 (c_X6_sort eh3) rfl ?_
  refine am_aload_n (pc' := 17) dX6_squeeze_16 rfl rfl ?_
  obtain ⟨x4, ex4, hF⟩ := am_bind hF
  refine am_getr (pc' := 20) dX6_squeeze_17 fw_X6_23 ex4 rfl ?_
  obtain ⟨h5, eh5, hF⟩ := am_bind hF
  obtain ⟨oh5, ph5⟩ := t_X4_empty eh5
  refine am_callV0 (Mc := M_X4_empty) (As := []) (st := []) (pc' := 23) dX6_squeeze_20 cw_X6_48 wd_2_17 wd_2_18 ⟨_, rfl, rfl⟩ (by decide) (by decide) rfl rfl (Nat.le_of_ble_eq_true rfl) ph5 (c_X4_empty eh5) rfl ?_
  refine am_iconst (v := (0 : Int32)) (pc' := 24) dX6_squeeze_23 rfl rfl ?_
  refine am_istore_n (ls' := [some (.ref v0), some (.ref v1), some (.int x2), some (.int (0 : Int32))]) (pc' := 25) dX6_squeeze_24 (Nat.le_of_ble_eq_true rfl) rfl rfl ?_
  exact w_X6_squeeze_25 am_F v0 v1 x2 (0 : Int32) h5 hF
def F_X6_squeeze (v0 : Nat) (v1 : Nat) (h : am_H) : Option am_H := (am_obj v0 6 h).bind fun _ => F_X6_squeeze_b v0 v1 h
theorem t_X6_squeeze {hf : am_H}  {v0 : Nat} {v1 : Nat} {h : am_H} (hF : F_X6_squeeze v0 v1 h = some hf) : ∃ fs, am_obj v0 6 h = some fs := by
  obtain ⟨fs, e, _⟩ := am_bind hF
  exact ⟨fs, e⟩
theorem c_X6_squeeze {g : am_G} {l : Launch} {hf : am_H}  {v0 : Nat} {v1 : Nat} {h : am_H} (hF : F_X6_squeeze v0 v1 h = some hf) : am_Met g l M_X6_squeeze [.ref v0, .ref v1] h none hf := by
  obtain ⟨fs, e0, e⟩ := am_bind hF
  exact am_met (n := 2) (by decide +kernel) rfl (Nat.le_of_ble_eq_true rfl) (w_X6_squeeze v0 v1 h e)
theorem cw_X0_34 : am_cw "SignCellar$Block" 34 M_X4_add 1 := ⟨wd_1_2, wd_2_2, ⟨by decide, by decide, by decide⟩, Or.inl wd_3_123⟩
theorem fw_X0_14 : am_fw "SignCellar$Block" 14 0 1 := ⟨(RX0, TX0, 4), rfl, by decide, inX0, Or.inl wd_2_57⟩
theorem fw_X0_20 : am_fw "SignCellar$Block" 20 0 2 := ⟨(RX0, TX0, 4), rfl, by decide, inX0, Or.inl wd_2_60⟩
def F_X0_addWeight_b (v0 : Nat) (v1 : Int32) (v2 : Int32) (h : am_H) : Option am_H :=
  (am_gr 0 1 v0 h).bind fun x1 =>
  (F_X4_add x1 v1 h).bind fun h2 =>
  (am_gr 0 2 v0 h2).bind fun x3 =>
  (F_X4_add x3 v2 h2).bind fun h4 =>
  some h4
theorem w_X0_addWeight {g : am_G} {l : Launch} {h0 : am_H} {hf : am_H}  (v0 : Nat) (v1 : Int32) (v2 : Int32) (h : am_H) (hF : F_X0_addWeight_b v0 v1 v2 h = some hf) : am_W g l M_X0_addWeight h0 none hf 0 [some (.ref v0), some (.int v1), some (.int v2)] [] h := by
  unfold F_X0_addWeight_b at hF
  refine am_aload_n (pc' := 1) dX0_addWeight_0 rfl rfl ?_
  obtain ⟨x1, ex1, hF⟩ := am_bind hF
  refine am_getr (pc' := 4) dX0_addWeight_1 fw_X0_14 ex1 rfl ?_
  refine am_iload_n (pc' := 5) dX0_addWeight_4 rfl rfl ?_
  obtain ⟨h2, eh2, hF⟩ := am_bind hF
  obtain ⟨oh2, ph2⟩ := t_X4_add eh2
  refine am_callV0 (Mc := M_X4_add) (As := [.int v1]) (st := []) (pc' := 8) dX0_addWeight_5 cw_X0_34 wd_2_0 wd_2_1 ⟨_, rfl, rfl⟩ (by decide) (by decide) rfl rfl (Nat.le_of_ble_eq_true rfl) ph2 (c_X4_add eh2) rfl ?_
  refine am_aload_n (pc' := 9) dX0_addWeight_8 rfl rfl ?_
  obtain ⟨x3, ex3, hF⟩ := am_bind hF
  refine am_getr (pc' := 12) dX0_addWeight_9 fw_X0_20 ex3 rfl ?_
  refine am_iload_n (pc' := 13) dX0_addWeight_12 rfl rfl ?_
  obtain ⟨h4, eh4, hF⟩ := am_bind hF
  obtain ⟨oh4, ph4⟩ := t_X4_add eh4
  refine am_callV0 (Mc := M_X4_add) (As := [.int v2]) (st := []) (pc' := 16) dX0_addWeight_13 cw_X0_34 wd_2_0 wd_2_1 ⟨_, rfl, rfl⟩ (by decide) (by decide) rfl rfl (Nat.le_of_ble_eq_true rfl) ph4 (c_X4_add eh4) rfl ?_
  cases hF
  exact am_vret dX0_addWeight_16 rfl
def F_X0_addWeight (v0 : Nat) (v1 : Int32) (v2 : Int32) (h : am_H) : Option am_H := (am_obj v0 0 h).bind fun _ => F_X0_addWeight_b v0 v1 v2 h
theorem t_X0_addWeight {hf : am_H}  {v0 : Nat} {v1 : Int32} {v2 : Int32} {h : am_H} (hF : F_X0_addWeight v0 v1 v2 h = some hf) : ∃ fs, am_obj v0 0 h = some fs := by
  obtain ⟨fs, e, _⟩ := am_bind hF
  exact ⟨fs, e⟩
theorem c_X0_addWeight {g : am_G} {l : Launch} {hf : am_H}  {v0 : Nat} {v1 : Int32} {v2 : Int32} {h : am_H} (hF : F_X0_addWeight v0 v1 v2 h = some hf) : am_Met g l M_X0_addWeight [.ref v0, .int v1, .int v2] h none hf := by
  obtain ⟨fs, e0, e⟩ := am_bind hF
  exact am_met (n := 0) (by decide +kernel) rfl (Nat.le_of_ble_eq_true rfl) (w_X0_addWeight v0 v1 v2 h e)
def F_X2_price_b (v0 : Nat) (h : am_H) : Option Int32 :=
  (am_gr 2 0 v0 h).bind fun x1 =>
  (am_il 0 x1 (0 : Int32) h).bind fun x2 =>
  some x2
theorem w_X2_price {g : am_G} {l : Launch} {h0 : am_H} {x : Int32}  (v0 : Nat) (h : am_H) (hF : F_X2_price_b v0 h = some x) : am_W g l M_X2_price h0 (some (.int x)) h 0 [some (.ref v0)] [] h := by
  unfold F_X2_price_b at hF
  refine am_aload_n (pc' := 1) dX2_price_0 rfl rfl ?_
  obtain ⟨x1, ex1, hF⟩ := am_bind hF
  refine am_getr (pc' := 4) dX2_price_1 fw_X2_9 ex1 rfl ?_
  refine am_iconst (v := (0 : Int32)) (pc' := 5) dX2_price_4 rfl rfl ?_
  obtain ⟨x2, ex2, hF⟩ := am_bind hF
  refine am_iald (pc' := 6) dX2_price_5 ex2 rfl ?_
  cases hF
  exact am_iret dX2_price_6 rfl rfl
def F_X2_price (v0 : Nat) (h : am_H) : Option Int32 := (am_obj v0 2 h).bind fun _ => F_X2_price_b v0 h
theorem t_X2_price {x : Int32}  {v0 : Nat} {h : am_H} (hF : F_X2_price v0 h = some x) : ∃ fs, am_obj v0 2 h = some fs := by
  obtain ⟨fs, e, _⟩ := am_bind hF
  exact ⟨fs, e⟩
theorem c_X2_price {g : am_G} {l : Launch} {x : Int32}  {v0 : Nat} {h : am_H} (hF : F_X2_price v0 h = some x) : am_Met g l M_X2_price [.ref v0] h (some (.int x)) h := by
  obtain ⟨fs, e0, e⟩ := am_bind hF
  exact am_met (n := 0) (by decide +kernel) rfl (Nat.le_of_ble_eq_true rfl) (w_X2_price v0 h e)
def F_X5_lengthOf_34 (s0 : Int32) (h : am_H) : Option Int32 :=
  some s0
theorem w_X5_lengthOf_34 {g : am_G} {l : Launch} {h0 : am_H} {x : Int32}  (s0 : Int32) (h : am_H) (hF : F_X5_lengthOf_34 s0 h = some x) : am_W g l M_X5_lengthOf h0 (some (.int x)) h 34 [none, none] [.int s0] h := by
  unfold F_X5_lengthOf_34 at hF
  cases hF
  exact am_iret dX5_lengthOf_34 rfl rfl
def F_X5_lengthOf_33 (h : am_H) : Option Int32 :=
  F_X5_lengthOf_34 (-1 : Int32) h
theorem w_X5_lengthOf_33 {g : am_G} {l : Launch} {h0 : am_H} {x : Int32}  (h : am_H) (hF : F_X5_lengthOf_33 h = some x) : am_W g l M_X5_lengthOf h0 (some (.int x)) h 33 [none, none] [] h := by
  unfold F_X5_lengthOf_33 at hF
  refine am_iconst (v := (-1 : Int32)) (pc' := 34) dX5_lengthOf_33 rfl rfl ?_
  exact w_X5_lengthOf_34 (-1 : Int32) h hF
def F_X5_lengthOf_b (v0 : Nat) (v1 : Int32) (h : am_H) : Option Int32 :=
  if v1 < 0 then
    F_X5_lengthOf_33 h
  else
    (am_gi 5 3 v0 h).bind fun x2 =>
    if x2 ≤ v1 then
      F_X5_lengthOf_33 h
    else
      (am_gr 5 1 v0 h).bind fun x4 =>
      (am_ln x4 h).bind fun x5 =>
      if x5 ≤ v1 then
        F_X5_lengthOf_33 h
      else
        (am_gr 5 1 v0 h).bind fun x7 =>
        (am_al 4 x7 v1 h).bind fun x8 =>
        (F_X4_length x8 h).bind fun x9 =>
        F_X5_lengthOf_34 x9 h
theorem w_X5_lengthOf {g : am_G} {l : Launch} {h0 : am_H} {x : Int32}  (v0 : Nat) (v1 : Int32) (h : am_H) (hF : F_X5_lengthOf_b v0 v1 h = some x) : am_W g l M_X5_lengthOf h0 (some (.int x)) h 0 [some (.ref v0), some (.int v1)] [] h := by
  unfold F_X5_lengthOf_b at hF
  refine am_iload_n (pc' := 1) dX5_lengthOf_0 rfl rfl ?_
  rcases am_ite hF with ⟨z1, hF⟩ | ⟨z1, hF⟩
  · refine am_if_lt_t (pc' := 33) dX5_lengthOf_1 rfl z1 ?_
    exact am_weak [false, false] (w_X5_lengthOf_33 h hF)
  · refine am_if_lt_f (pc' := 4) (tgt := 33) dX5_lengthOf_1 rfl z1 rfl ?_
    refine am_iload_n (pc' := 5) dX5_lengthOf_4 rfl rfl ?_
    refine am_aload_n (pc' := 6) dX5_lengthOf_5 rfl rfl ?_
    obtain ⟨x2, ex2, hF⟩ := am_bind hF
    refine am_geti (pc' := 9) dX5_lengthOf_6 fw_X5_27 ex2 rfl ?_
    rcases am_ite hF with ⟨z3, hF⟩ | ⟨z3, hF⟩
    · refine am_icmp_ge_t (pc' := 33) dX5_lengthOf_9 rfl z3 ?_
      exact am_weak [false, false] (w_X5_lengthOf_33 h hF)
    · refine am_icmp_ge_f (pc' := 12) (tgt := 33) dX5_lengthOf_9 rfl z3 rfl ?_
      refine am_iload_n (pc' := 13) dX5_lengthOf_12 rfl rfl ?_
      refine am_aload_n (pc' := 14) dX5_lengthOf_13 rfl rfl ?_
      obtain ⟨x4, ex4, hF⟩ := am_bind hF
      refine am_getr (pc' := 17) dX5_lengthOf_14 fw_X5_20 ex4 rfl ?_
      obtain ⟨x5, ex5, hF⟩ := am_bind hF
      refine am_alen (pc' := 18) dX5_lengthOf_17 ex5 rfl ?_
      rcases am_ite hF with ⟨z6, hF⟩ | ⟨z6, hF⟩
      · refine am_icmp_ge_t (pc' := 33) dX5_lengthOf_18 rfl z6 ?_
        exact am_weak [false, false] (w_X5_lengthOf_33 h hF)
      · refine am_icmp_ge_f (pc' := 21) (tgt := 33) dX5_lengthOf_18 rfl z6 rfl ?_
        refine am_aload_n (pc' := 22) dX5_lengthOf_21 rfl rfl ?_
        obtain ⟨x7, ex7, hF⟩ := am_bind hF
        refine am_getr (pc' := 25) dX5_lengthOf_22 fw_X5_20 ex7 rfl ?_
        refine am_iload_n (pc' := 26) dX5_lengthOf_25 rfl rfl ?_
        obtain ⟨x8, ex8, hF⟩ := am_bind hF
        refine am_aald (pc' := 27) dX5_lengthOf_26 rfl ex8 rfl ?_
        obtain ⟨x9, ex9, hF⟩ := am_bind hF
        obtain ⟨ox9, px9⟩ := t_X4_length ex9
        refine am_callV1 (Mc := M_X4_length) (As := []) (st := []) (pc' := 30) dX5_lengthOf_27 cw_X5_64 wd_1_235 wd_1_236 ⟨_, rfl, rfl⟩ (by decide) (by decide) rfl rfl (Nat.le_of_ble_eq_true rfl) px9 (c_X4_length ex9) rfl ?_
        refine am_goto (pc' := 34) dX5_lengthOf_30 rfl ?_
        exact am_weak [false, false] (w_X5_lengthOf_34 x9 h hF)
def F_X5_lengthOf (v0 : Nat) (v1 : Int32) (h : am_H) : Option Int32 := (am_obj v0 5 h).bind fun _ => F_X5_lengthOf_b v0 v1 h
theorem t_X5_lengthOf {x : Int32}  {v0 : Nat} {v1 : Int32} {h : am_H} (hF : F_X5_lengthOf v0 v1 h = some x) : ∃ fs, am_obj v0 5 h = some fs := by
  obtain ⟨fs, e, _⟩ := am_bind hF
  exact ⟨fs, e⟩
theorem c_X5_lengthOf {g : am_G} {l : Launch} {x : Int32}  {v0 : Nat} {v1 : Int32} {h : am_H} (hF : F_X5_lengthOf v0 v1 h = some x) : am_Met g l M_X5_lengthOf [.ref v0, .int v1] h (some (.int x)) h := by
  obtain ⟨fs, e0, e⟩ := am_bind hF
  exact am_met (n := 0) (by decide +kernel) rfl (Nat.le_of_ble_eq_true rfl) (w_X5_lengthOf v0 v1 h e)
theorem cw_X5_61 : am_cw "SignCellar$Rules" 61 M_X5_lengthOf 1 := ⟨wd_1_5, wd_3_139, ⟨by decide, by decide, by decide⟩, Or.inl wd_3_136⟩
def F_X5_left_23 (k4 : Nat → Int32 → Int32 → am_H → Option Int32) (v0 : Nat) (v1 : Int32) (v2 : Int32) (h : am_H) : Option Int32 :=
  k4 v0 v1 (v2 + (1 : Int32)) h
theorem w_X5_left_23 {g : am_G} {l : Launch} {h0 : am_H} {x : Int32}  {k4 : Nat → Int32 → Int32 → am_H → Option Int32} (j4 : ∀ (v0 : Nat) (v1 : Int32) (v2 : Int32) (h : am_H), k4 v0 v1 v2 h = some x → am_W g l M_X5_left h0 (some (.int x)) h 4 [some (.ref v0), some (.int v1), some (.int v2)] [] h) (v0 : Nat) (v1 : Int32) (v2 : Int32) (h : am_H) (hF : F_X5_left_23 k4 v0 v1 v2 h = some x) : am_W g l M_X5_left h0 (some (.int x)) h 23 [some (.ref v0), some (.int v1), some (.int v2)] [] h := by
  unfold F_X5_left_23 at hF
  refine am_iinc (ls' := [some (.ref v0), some (.int v1), some (.int (v2 + (1 : Int32)))]) (pc' := 26) (v := (v2 + (1 : Int32))) dX5_left_23 rfl rfl (Nat.le_of_ble_eq_true rfl) rfl rfl ?_
  refine am_goto (pc' := 4) dX5_left_26 rfl ?_
  exact j4 v0 v1 (v2 + (1 : Int32)) h hF
def F_X5_left_4 : Nat → Nat → Int32 → Int32 → am_H → Option Int32
  | 0, _, _, _, _ => none
  | n + 1, v0, v1, v2, h =>
  (am_gi 5 3 v0 h).bind fun x1 =>
  if x1 ≤ v2 then
    some v1
  else
    (F_X5_lengthOf v0 v2 h).bind fun x3 =>
    if x3 ≤ 0 then
      F_X5_left_23 (F_X5_left_4 n) v0 v1 v2 h
    else
      F_X5_left_23 (F_X5_left_4 n) v0 (v1 + (1 : Int32)) v2 h
theorem w_X5_left_4 {g : am_G} {l : Launch} {h0 : am_H} {x : Int32}  : ∀ (n : Nat) (v0 : Nat) (v1 : Int32) (v2 : Int32) (h : am_H), F_X5_left_4 n v0 v1 v2 h = some x → am_W g l M_X5_left h0 (some (.int x)) h 4 [some (.ref v0), some (.int v1), some (.int v2)] [] h
  | 0, _, _, _, _, hF => by cases hF
  | n + 1, v0, v1, v2, h, hF => by
    rw [F_X5_left_4] at hF
    refine am_iload_n (pc' := 5) dX5_left_4 rfl rfl ?_
    refine am_aload_n (pc' := 6) dX5_left_5 rfl rfl ?_
    obtain ⟨x1, ex1, hF⟩ := am_bind hF
    refine am_geti (pc' := 9) dX5_left_6 fw_X5_27 ex1 rfl ?_
    rcases am_ite hF with ⟨z2, hF⟩ | ⟨z2, hF⟩
    · refine am_icmp_ge_t (pc' := 29) dX5_left_9 rfl z2 ?_
      refine am_iload_n (pc' := 30) dX5_left_29 rfl rfl ?_
      cases hF
      exact am_iret dX5_left_30 rfl rfl
    · refine am_icmp_ge_f (pc' := 12) (tgt := 29) dX5_left_9 rfl z2 rfl ?_
      refine am_aload_n (pc' := 13) dX5_left_12 rfl rfl ?_
      refine am_iload_n (pc' := 14) dX5_left_13 rfl rfl ?_
      obtain ⟨x3, ex3, hF⟩ := am_bind hF
      obtain ⟨ox3, px3⟩ := t_X5_lengthOf ex3
      refine am_callV1 (Mc := M_X5_lengthOf) (As := [.int v2]) (st := []) (pc' := 17) dX5_left_14 cw_X5_61 wd_3_137 wd_3_138 ⟨_, rfl, rfl⟩ (by decide) (by decide) rfl rfl (Nat.le_of_ble_eq_true rfl) px3 (c_X5_lengthOf ex3) rfl ?_
      rcases am_ite hF with ⟨z4, hF⟩ | ⟨z4, hF⟩
      · refine am_if_le_t (pc' := 23) dX5_left_17 rfl z4 ?_
        exact w_X5_left_23 (w_X5_left_4 n) v0 v1 v2 h hF
      · refine am_if_le_f (pc' := 20) (tgt := 23) dX5_left_17 rfl z4 rfl ?_
        refine am_iinc (ls' := [some (.ref v0), some (.int (v1 + (1 : Int32))), some (.int v2)]) (pc' := 23) (v := (v1 + (1 : Int32))) dX5_left_20 rfl rfl (Nat.le_of_ble_eq_true rfl) rfl rfl ?_
        exact w_X5_left_23 (w_X5_left_4 n) v0 (v1 + (1 : Int32)) v2 h hF
def F_X5_left_b (v0 : Nat) (h : am_H) : Option Int32 :=
  F_X5_left_4 am_F v0 (0 : Int32) (0 : Int32) h
theorem w_X5_left {g : am_G} {l : Launch} {h0 : am_H} {x : Int32}  (v0 : Nat) (h : am_H) (hF : F_X5_left_b v0 h = some x) : am_W g l M_X5_left h0 (some (.int x)) h 0 [some (.ref v0), none, none] [] h := by
  unfold F_X5_left_b at hF
  refine am_iconst (v := (0 : Int32)) (pc' := 1) dX5_left_0 rfl rfl ?_
  refine am_istore_n (ls' := [some (.ref v0), some (.int (0 : Int32)), none]) (pc' := 2) dX5_left_1 (Nat.le_of_ble_eq_true rfl) rfl rfl ?_
  refine am_iconst (v := (0 : Int32)) (pc' := 3) dX5_left_2 rfl rfl ?_
  refine am_istore_n (ls' := [some (.ref v0), some (.int (0 : Int32)), some (.int (0 : Int32))]) (pc' := 4) dX5_left_3 (Nat.le_of_ble_eq_true rfl) rfl rfl ?_
  exact w_X5_left_4 am_F v0 (0 : Int32) (0 : Int32) h hF
def F_X5_left (v0 : Nat) (h : am_H) : Option Int32 := (am_obj v0 5 h).bind fun _ => F_X5_left_b v0 h
theorem t_X5_left {x : Int32}  {v0 : Nat} {h : am_H} (hF : F_X5_left v0 h = some x) : ∃ fs, am_obj v0 5 h = some fs := by
  obtain ⟨fs, e, _⟩ := am_bind hF
  exact ⟨fs, e⟩
theorem c_X5_left {g : am_G} {l : Launch} {x : Int32}  {v0 : Nat} {h : am_H} (hF : F_X5_left v0 h = some x) : am_Met g l M_X5_left [.ref v0] h (some (.int x)) h := by
  obtain ⟨fs, e0, e⟩ := am_bind hF
  exact am_met (n := 2) (by decide +kernel) rfl (Nat.le_of_ble_eq_true rfl) (w_X5_left v0 h e)
