abbrev M_X1_tell : am_M := ((⟨"SignCellar$Choice", "tell", "(II)V"⟩ : MethodName), prog_3_method_8_code, 6, none, 2, 45)
theorem dX1_tell_0 : decode prog_3_method_8_code 0 = .ok (.aload_n 0, 1) := by decide +kernel
theorem dX1_tell_1 : decode prog_3_method_8_code 1 = .ok (.getfield 28, 3) := by decide +kernel
theorem dX1_tell_4 : decode prog_3_method_8_code 4 = .ok (.invokevirtual 38, 3) := by decide +kernel
theorem dX1_tell_7 : decode prog_3_method_8_code 7 = .ok (.aload_n 0, 1) := by decide +kernel
theorem dX1_tell_8 : decode prog_3_method_8_code 8 = .ok (.aload_n 0, 1) := by decide +kernel
theorem dX1_tell_9 : decode prog_3_method_8_code 9 = .ok (.getfield 25, 3) := by decide +kernel
theorem dX1_tell_12 : decode prog_3_method_8_code 12 = .ok (.iconst 0, 1) := by decide +kernel
theorem dX1_tell_13 : decode prog_3_method_8_code 13 = .ok (.aaload, 1) := by decide +kernel
theorem dX1_tell_14 : decode prog_3_method_8_code 14 = .ok (.iload_n 2, 1) := by decide +kernel
theorem dX1_tell_15 : decode prog_3_method_8_code 15 = .ok (.iaload, 1) := by decide +kernel
theorem dX1_tell_16 : decode prog_3_method_8_code 16 = .ok (.putfield 31, 3) := by decide +kernel
theorem dX1_tell_19 : decode prog_3_method_8_code 19 = .ok (.aload_n 0, 1) := by decide +kernel
theorem dX1_tell_20 : decode prog_3_method_8_code 20 = .ok (.iconst 0, 1) := by decide +kernel
theorem dX1_tell_21 : decode prog_3_method_8_code 21 = .ok (.putfield 35, 3) := by decide +kernel
theorem dX1_tell_24 : decode prog_3_method_8_code 24 = .ok (.iconst 0, 1) := by decide +kernel
theorem dX1_tell_25 : decode prog_3_method_8_code 25 = .ok (.istore_n 3, 1) := by decide +kernel
theorem dX1_tell_26 : decode prog_3_method_8_code 26 = .ok (.iload_n 3, 1) := by decide +kernel
theorem dX1_tell_27 : decode prog_3_method_8_code 27 = .ok (.iload_n 1, 1) := by decide +kernel
theorem dX1_tell_28 : decode prog_3_method_8_code 28 = .ok (.if_icmp .ge 88, 3) := by decide +kernel
theorem dX1_tell_31 : decode prog_3_method_8_code 31 = .ok (.iconst 0, 1) := by decide +kernel
theorem dX1_tell_32 : decode prog_3_method_8_code 32 = .ok (.iload_n 2, 1) := by decide +kernel
theorem dX1_tell_33 : decode prog_3_method_8_code 33 = .ok (.aload_n 0, 1) := by decide +kernel
theorem dX1_tell_34 : decode prog_3_method_8_code 34 = .ok (.getfield 35, 3) := by decide +kernel
theorem dX1_tell_37 : decode prog_3_method_8_code 37 = .ok (.isub, 1) := by decide +kernel
theorem dX1_tell_38 : decode prog_3_method_8_code 38 = .ok (.invokestatic 63, 3) := by decide +kernel
theorem dX1_tell_41 : decode prog_3_method_8_code 41 = .ok (.istore 4, 2) := by decide +kernel
theorem dX1_tell_43 : decode prog_3_method_8_code 43 = .ok (.iconst 0, 1) := by decide +kernel
theorem dX1_tell_44 : decode prog_3_method_8_code 44 = .ok (.istore 5, 2) := by decide +kernel
theorem dX1_tell_46 : decode prog_3_method_8_code 46 = .ok (.iload 5, 2) := by decide +kernel
theorem dX1_tell_48 : decode prog_3_method_8_code 48 = .ok (.iconst 4, 1) := by decide +kernel
theorem dX1_tell_49 : decode prog_3_method_8_code 49 = .ok (.if_icmp .ge 30, 3) := by decide +kernel
theorem dX1_tell_52 : decode prog_3_method_8_code 52 = .ok (.aload_n 0, 1) := by decide +kernel
theorem dX1_tell_53 : decode prog_3_method_8_code 53 = .ok (.iload_n 3, 1) := by decide +kernel
theorem dX1_tell_54 : decode prog_3_method_8_code 54 = .ok (.iload 5, 2) := by decide +kernel
theorem dX1_tell_56 : decode prog_3_method_8_code 56 = .ok (.iload 4, 2) := by decide +kernel
theorem dX1_tell_58 : decode prog_3_method_8_code 58 = .ok (.invokevirtual 77, 3) := by decide +kernel
theorem dX1_tell_61 : decode prog_3_method_8_code 61 = .ok (.aload_n 0, 1) := by decide +kernel
theorem dX1_tell_62 : decode prog_3_method_8_code 62 = .ok (.getfield 25, 3) := by decide +kernel
theorem dX1_tell_65 : decode prog_3_method_8_code 65 = .ok (.iload_n 3, 1) := by decide +kernel
theorem dX1_tell_66 : decode prog_3_method_8_code 66 = .ok (.aaload, 1) := by decide +kernel
theorem dX1_tell_67 : decode prog_3_method_8_code 67 = .ok (.iload 4, 2) := by decide +kernel
theorem dX1_tell_69 : decode prog_3_method_8_code 69 = .ok (.iaload, 1) := by decide +kernel
theorem dX1_tell_70 : decode prog_3_method_8_code 70 = .ok (.if_icmp .eq 9, 3) := by decide +kernel
theorem dX1_tell_73 : decode prog_3_method_8_code 73 = .ok (.iinc 5 1, 3) := by decide +kernel
theorem dX1_tell_76 : decode prog_3_method_8_code 76 = .ok (.goto (-30), 3) := by decide +kernel
theorem dX1_tell_79 : decode prog_3_method_8_code 79 = .ok (.aload_n 0, 1) := by decide +kernel
theorem dX1_tell_80 : decode prog_3_method_8_code 80 = .ok (.getfield 28, 3) := by decide +kernel
theorem dX1_tell_83 : decode prog_3_method_8_code 83 = .ok (.iload 5, 2) := by decide +kernel
theorem dX1_tell_85 : decode prog_3_method_8_code 85 = .ok (.invokevirtual 81, 3) := by decide +kernel
theorem dX1_tell_88 : decode prog_3_method_8_code 88 = .ok (.aload_n 0, 1) := by decide +kernel
theorem dX1_tell_89 : decode prog_3_method_8_code 89 = .ok (.dup, 1) := by decide +kernel
theorem dX1_tell_90 : decode prog_3_method_8_code 90 = .ok (.getfield 35, 3) := by decide +kernel
theorem dX1_tell_93 : decode prog_3_method_8_code 93 = .ok (.aload_n 0, 1) := by decide +kernel
theorem dX1_tell_94 : decode prog_3_method_8_code 94 = .ok (.getfield 20, 3) := by decide +kernel
theorem dX1_tell_97 : decode prog_3_method_8_code 97 = .ok (.iload_n 3, 1) := by decide +kernel
theorem dX1_tell_98 : decode prog_3_method_8_code 98 = .ok (.iconst 5, 1) := by decide +kernel
theorem dX1_tell_99 : decode prog_3_method_8_code 99 = .ok (.imul, 1) := by decide +kernel
theorem dX1_tell_100 : decode prog_3_method_8_code 100 = .ok (.iload 5, 2) := by decide +kernel
theorem dX1_tell_102 : decode prog_3_method_8_code 102 = .ok (.iadd, 1) := by decide +kernel
theorem dX1_tell_103 : decode prog_3_method_8_code 103 = .ok (.invokevirtual 74, 3) := by decide +kernel
theorem dX1_tell_106 : decode prog_3_method_8_code 106 = .ok (.iadd, 1) := by decide +kernel
theorem dX1_tell_107 : decode prog_3_method_8_code 107 = .ok (.putfield 35, 3) := by decide +kernel
theorem dX1_tell_110 : decode prog_3_method_8_code 110 = .ok (.iinc 3 1, 3) := by decide +kernel
theorem dX1_tell_113 : decode prog_3_method_8_code 113 = .ok (.goto (-87), 3) := by decide +kernel
theorem dX1_tell_116 : decode prog_3_method_8_code 116 = .ok (.return_, 1) := by decide +kernel
abbrev M_X1_choose : am_M := ((⟨"SignCellar$Choice", "choose", "(I)Z"⟩ : MethodName), prog_3_method_4_code, 6, (some .boolean), 3, 70)
theorem dX1_choose_0 : decode prog_3_method_4_code 0 = .ok (.aload_n 0, 1) := by decide +kernel
theorem dX1_choose_1 : decode prog_3_method_4_code 1 = .ok (.getfield 14, 3) := by decide +kernel
theorem dX1_choose_4 : decode prog_3_method_4_code 4 = .ok (.invokevirtual 49, 3) := by decide +kernel
theorem dX1_choose_7 : decode prog_3_method_4_code 7 = .ok (.iconst 5, 1) := by decide +kernel
theorem dX1_choose_8 : decode prog_3_method_4_code 8 = .ok (.idiv, 1) := by decide +kernel
theorem dX1_choose_9 : decode prog_3_method_4_code 9 = .ok (.bipush 8, 2) := by decide +kernel
theorem dX1_choose_11 : decode prog_3_method_4_code 11 = .ok (.invokestatic 53, 3) := by decide +kernel
theorem dX1_choose_14 : decode prog_3_method_4_code 14 = .ok (.istore_n 2, 1) := by decide +kernel
theorem dX1_choose_15 : decode prog_3_method_4_code 15 = .ok (.iconst 0, 1) := by decide +kernel
theorem dX1_choose_16 : decode prog_3_method_4_code 16 = .ok (.iload_n 1, 1) := by decide +kernel
theorem dX1_choose_17 : decode prog_3_method_4_code 17 = .ok (.aload_n 0, 1) := by decide +kernel
theorem dX1_choose_18 : decode prog_3_method_4_code 18 = .ok (.iload_n 2, 1) := by decide +kernel
theorem dX1_choose_19 : decode prog_3_method_4_code 19 = .ok (.invokevirtual 59, 3) := by decide +kernel
theorem dX1_choose_22 : decode prog_3_method_4_code 22 = .ok (.sipush 1152, 3) := by decide +kernel
theorem dX1_choose_25 : decode prog_3_method_4_code 25 = .ok (.invokestatic 53, 3) := by decide +kernel
theorem dX1_choose_28 : decode prog_3_method_4_code 28 = .ok (.invokestatic 53, 3) := by decide +kernel
theorem dX1_choose_31 : decode prog_3_method_4_code 31 = .ok (.invokestatic 63, 3) := by decide +kernel
theorem dX1_choose_34 : decode prog_3_method_4_code 34 = .ok (.istore_n 3, 1) := by decide +kernel
theorem dX1_choose_35 : decode prog_3_method_4_code 35 = .ok (.iconst 0, 1) := by decide +kernel
theorem dX1_choose_36 : decode prog_3_method_4_code 36 = .ok (.istore 4, 2) := by decide +kernel
theorem dX1_choose_38 : decode prog_3_method_4_code 38 = .ok (.iload 4, 2) := by decide +kernel
theorem dX1_choose_40 : decode prog_3_method_4_code 40 = .ok (.iload_n 3, 1) := by decide +kernel
theorem dX1_choose_41 : decode prog_3_method_4_code 41 = .ok (.if_icmp .gt 19, 3) := by decide +kernel
theorem dX1_choose_44 : decode prog_3_method_4_code 44 = .ok (.aload_n 0, 1) := by decide +kernel
theorem dX1_choose_45 : decode prog_3_method_4_code 45 = .ok (.getfield 25, 3) := by decide +kernel
theorem dX1_choose_48 : decode prog_3_method_4_code 48 = .ok (.iload_n 2, 1) := by decide +kernel
theorem dX1_choose_49 : decode prog_3_method_4_code 49 = .ok (.aaload, 1) := by decide +kernel
theorem dX1_choose_50 : decode prog_3_method_4_code 50 = .ok (.iload 4, 2) := by decide +kernel
theorem dX1_choose_52 : decode prog_3_method_4_code 52 = .ok (.iconst 0, 1) := by decide +kernel
theorem dX1_choose_53 : decode prog_3_method_4_code 53 = .ok (.iastore, 1) := by decide +kernel
theorem dX1_choose_54 : decode prog_3_method_4_code 54 = .ok (.iinc 4 1, 3) := by decide +kernel
theorem dX1_choose_57 : decode prog_3_method_4_code 57 = .ok (.goto (-19), 3) := by decide +kernel
theorem dX1_choose_60 : decode prog_3_method_4_code 60 = .ok (.iload_n 2, 1) := by decide +kernel
theorem dX1_choose_61 : decode prog_3_method_4_code 61 = .ok (.iconst 1, 1) := by decide +kernel
theorem dX1_choose_62 : decode prog_3_method_4_code 62 = .ok (.isub, 1) := by decide +kernel
theorem dX1_choose_63 : decode prog_3_method_4_code 63 = .ok (.istore 4, 2) := by decide +kernel
theorem dX1_choose_65 : decode prog_3_method_4_code 65 = .ok (.iload 4, 2) := by decide +kernel
theorem dX1_choose_67 : decode prog_3_method_4_code 67 = .ok (.ifCond .lt 42, 3) := by decide +kernel
theorem dX1_choose_70 : decode prog_3_method_4_code 70 = .ok (.iconst 0, 1) := by decide +kernel
theorem dX1_choose_71 : decode prog_3_method_4_code 71 = .ok (.istore 5, 2) := by decide +kernel
theorem dX1_choose_73 : decode prog_3_method_4_code 73 = .ok (.iload 5, 2) := by decide +kernel
theorem dX1_choose_75 : decode prog_3_method_4_code 75 = .ok (.iload_n 3, 1) := by decide +kernel
theorem dX1_choose_76 : decode prog_3_method_4_code 76 = .ok (.if_icmp .gt 27, 3) := by decide +kernel
theorem dX1_choose_79 : decode prog_3_method_4_code 79 = .ok (.aload_n 0, 1) := by decide +kernel
theorem dX1_choose_80 : decode prog_3_method_4_code 80 = .ok (.getfield 25, 3) := by decide +kernel
theorem dX1_choose_83 : decode prog_3_method_4_code 83 = .ok (.iload 4, 2) := by decide +kernel
theorem dX1_choose_85 : decode prog_3_method_4_code 85 = .ok (.aaload, 1) := by decide +kernel
theorem dX1_choose_86 : decode prog_3_method_4_code 86 = .ok (.iload 5, 2) := by decide +kernel
theorem dX1_choose_88 : decode prog_3_method_4_code 88 = .ok (.aload_n 0, 1) := by decide +kernel
theorem dX1_choose_89 : decode prog_3_method_4_code 89 = .ok (.iload 4, 2) := by decide +kernel
theorem dX1_choose_91 : decode prog_3_method_4_code 91 = .ok (.iload 5, 2) := by decide +kernel
theorem dX1_choose_93 : decode prog_3_method_4_code 93 = .ok (.invokevirtual 66, 3) := by decide +kernel
theorem dX1_choose_96 : decode prog_3_method_4_code 96 = .ok (.iastore, 1) := by decide +kernel
theorem dX1_choose_97 : decode prog_3_method_4_code 97 = .ok (.iinc 5 1, 3) := by decide +kernel
theorem dX1_choose_100 : decode prog_3_method_4_code 100 = .ok (.goto (-27), 3) := by decide +kernel
theorem dX1_choose_103 : decode prog_3_method_4_code 103 = .ok (.iinc 4 (-1), 3) := by decide +kernel
theorem dX1_choose_106 : decode prog_3_method_4_code 106 = .ok (.goto (-41), 3) := by decide +kernel
theorem dX1_choose_109 : decode prog_3_method_4_code 109 = .ok (.aload_n 0, 1) := by decide +kernel
theorem dX1_choose_110 : decode prog_3_method_4_code 110 = .ok (.getfield 25, 3) := by decide +kernel
theorem dX1_choose_113 : decode prog_3_method_4_code 113 = .ok (.iconst 0, 1) := by decide +kernel
theorem dX1_choose_114 : decode prog_3_method_4_code 114 = .ok (.aaload, 1) := by decide +kernel
theorem dX1_choose_115 : decode prog_3_method_4_code 115 = .ok (.iload_n 3, 1) := by decide +kernel
theorem dX1_choose_116 : decode prog_3_method_4_code 116 = .ok (.iaload, 1) := by decide +kernel
theorem dX1_choose_117 : decode prog_3_method_4_code 117 = .ok (.ldc 69, 2) := by decide +kernel
theorem dX1_choose_119 : decode prog_3_method_4_code 119 = .ok (.if_icmp .lt 5, 3) := by decide +kernel
theorem dX1_choose_122 : decode prog_3_method_4_code 122 = .ok (.iconst 0, 1) := by decide +kernel
theorem dX1_choose_123 : decode prog_3_method_4_code 123 = .ok (.ireturn, 1) := by decide +kernel
theorem dX1_choose_124 : decode prog_3_method_4_code 124 = .ok (.aload_n 0, 1) := by decide +kernel
theorem dX1_choose_125 : decode prog_3_method_4_code 125 = .ok (.iload_n 2, 1) := by decide +kernel
theorem dX1_choose_126 : decode prog_3_method_4_code 126 = .ok (.iload_n 3, 1) := by decide +kernel
theorem dX1_choose_127 : decode prog_3_method_4_code 127 = .ok (.invokevirtual 70, 3) := by decide +kernel
theorem dX1_choose_130 : decode prog_3_method_4_code 130 = .ok (.iconst 1, 1) := by decide +kernel
theorem dX1_choose_131 : decode prog_3_method_4_code 131 = .ok (.ireturn, 1) := by decide +kernel
abbrev M_X8_best : am_M := ((⟨"SignCellar", "best", "(III)I"⟩ : MethodName), prog_1_method_19_code, 7, (some .int), 7, 155)
theorem dX8_best_0 : decode prog_1_method_19_code 0 = .ok (.aload_n 0, 1) := by decide +kernel
theorem dX8_best_1 : decode prog_1_method_19_code 1 = .ok (.iload_n 1, 1) := by decide +kernel
theorem dX8_best_2 : decode prog_1_method_19_code 2 = .ok (.invokevirtual 126, 3) := by decide +kernel
theorem dX8_best_5 : decode prog_1_method_19_code 5 = .ok (.astore 4, 2) := by decide +kernel
theorem dX8_best_7 : decode prog_1_method_19_code 7 = .ok (.aload 4, 2) := by decide +kernel
theorem dX8_best_9 : decode prog_1_method_19_code 9 = .ok (.ifnonnull 6, 3) := by decide +kernel
theorem dX8_best_12 : decode prog_1_method_19_code 12 = .ok (.ldc 133, 2) := by decide +kernel
theorem dX8_best_14 : decode prog_1_method_19_code 14 = .ok (.ireturn, 1) := by decide +kernel
theorem dX8_best_15 : decode prog_1_method_19_code 15 = .ok (.iload_n 2, 1) := by decide +kernel
theorem dX8_best_16 : decode prog_1_method_19_code 16 = .ok (.ifCond .lt 16, 3) := by decide +kernel
theorem dX8_best_19 : decode prog_1_method_19_code 19 = .ok (.iload_n 2, 1) := by decide +kernel
theorem dX8_best_20 : decode prog_1_method_19_code 20 = .ok (.sipush 9999, 3) := by decide +kernel
theorem dX8_best_23 : decode prog_1_method_19_code 23 = .ok (.if_icmp .gt 9, 3) := by decide +kernel
theorem dX8_best_26 : decode prog_1_method_19_code 26 = .ok (.iload_n 3, 1) := by decide +kernel
theorem dX8_best_27 : decode prog_1_method_19_code 27 = .ok (.bipush (-2), 2) := by decide +kernel
theorem dX8_best_29 : decode prog_1_method_19_code 29 = .ok (.if_icmp .ge 6, 3) := by decide +kernel
theorem dX8_best_32 : decode prog_1_method_19_code 32 = .ok (.ldc 92, 2) := by decide +kernel
theorem dX8_best_34 : decode prog_1_method_19_code 34 = .ok (.ireturn, 1) := by decide +kernel
theorem dX8_best_35 : decode prog_1_method_19_code 35 = .ok (.aload_n 0, 1) := by decide +kernel
theorem dX8_best_36 : decode prog_1_method_19_code 36 = .ok (.aload 4, 2) := by decide +kernel
theorem dX8_best_38 : decode prog_1_method_19_code 38 = .ok (.invokevirtual 157, 3) := by decide +kernel
theorem dX8_best_41 : decode prog_1_method_19_code 41 = .ok (.ifCond .le 6, 3) := by decide +kernel
theorem dX8_best_44 : decode prog_1_method_19_code 44 = .ok (.ldc 168, 2) := by decide +kernel
theorem dX8_best_46 : decode prog_1_method_19_code 46 = .ok (.ireturn, 1) := by decide +kernel
theorem dX8_best_47 : decode prog_1_method_19_code 47 = .ok (.aload_n 0, 1) := by decide +kernel
theorem dX8_best_48 : decode prog_1_method_19_code 48 = .ok (.getfield 88, 3) := by decide +kernel
theorem dX8_best_51 : decode prog_1_method_19_code 51 = .ok (.invokevirtual 253, 3) := by decide +kernel
theorem dX8_best_54 : decode prog_1_method_19_code 54 = .ok (.iconst 0, 1) := by decide +kernel
theorem dX8_best_55 : decode prog_1_method_19_code 55 = .ok (.istore 5, 2) := by decide +kernel
theorem dX8_best_57 : decode prog_1_method_19_code 57 = .ok (.iload 5, 2) := by decide +kernel
theorem dX8_best_59 : decode prog_1_method_19_code 59 = .ok (.aload 4, 2) := by decide +kernel
theorem dX8_best_61 : decode prog_1_method_19_code 61 = .ok (.getfield 148, 3) := by decide +kernel
theorem dX8_best_64 : decode prog_1_method_19_code 64 = .ok (.invokevirtual 93, 3) := by decide +kernel
theorem dX8_best_67 : decode prog_1_method_19_code 67 = .ok (.if_icmp .ge 45, 3) := by decide +kernel
theorem dX8_best_70 : decode prog_1_method_19_code 70 = .ok (.aload_n 0, 1) := by decide +kernel
theorem dX8_best_71 : decode prog_1_method_19_code 71 = .ok (.aload 4, 2) := by decide +kernel
theorem dX8_best_73 : decode prog_1_method_19_code 73 = .ok (.getfield 148, 3) := by decide +kernel
theorem dX8_best_76 : decode prog_1_method_19_code 76 = .ok (.iload 5, 2) := by decide +kernel
theorem dX8_best_78 : decode prog_1_method_19_code 78 = .ok (.invokevirtual 161, 3) := by decide +kernel
theorem dX8_best_81 : decode prog_1_method_19_code 81 = .ok (.invokevirtual 176, 3) := by decide +kernel
theorem dX8_best_84 : decode prog_1_method_19_code 84 = .ok (.astore 6, 2) := by decide +kernel
theorem dX8_best_86 : decode prog_1_method_19_code 86 = .ok (.aload 6, 2) := by decide +kernel
theorem dX8_best_88 : decode prog_1_method_19_code 88 = .ok (.ifnull 18, 3) := by decide +kernel
theorem dX8_best_91 : decode prog_1_method_19_code 91 = .ok (.aload_n 0, 1) := by decide +kernel
theorem dX8_best_92 : decode prog_1_method_19_code 92 = .ok (.aload 6, 2) := by decide +kernel
theorem dX8_best_94 : decode prog_1_method_19_code 94 = .ok (.invokevirtual 208, 3) := by decide +kernel
theorem dX8_best_97 : decode prog_1_method_19_code 97 = .ok (.aload_n 0, 1) := by decide +kernel
theorem dX8_best_98 : decode prog_1_method_19_code 98 = .ok (.getfield 88, 3) := by decide +kernel
theorem dX8_best_101 : decode prog_1_method_19_code 101 = .ok (.aload 6, 2) := by decide +kernel
theorem dX8_best_103 : decode prog_1_method_19_code 103 = .ok (.invokevirtual 256, 3) := by decide +kernel
theorem dX8_best_106 : decode prog_1_method_19_code 106 = .ok (.iinc 5 1, 3) := by decide +kernel
theorem dX8_best_109 : decode prog_1_method_19_code 109 = .ok (.goto (-52), 3) := by decide +kernel
theorem dX8_best_112 : decode prog_1_method_19_code 112 = .ok (.aload_n 0, 1) := by decide +kernel
theorem dX8_best_113 : decode prog_1_method_19_code 113 = .ok (.getfield 88, 3) := by decide +kernel
theorem dX8_best_116 : decode prog_1_method_19_code 116 = .ok (.iload_n 2, 1) := by decide +kernel
theorem dX8_best_117 : decode prog_1_method_19_code 117 = .ok (.invokevirtual 259, 3) := by decide +kernel
theorem dX8_best_120 : decode prog_1_method_19_code 120 = .ok (.ifCond .ne 6, 3) := by decide +kernel
theorem dX8_best_123 : decode prog_1_method_19_code 123 = .ok (.ldc 101, 2) := by decide +kernel
theorem dX8_best_125 : decode prog_1_method_19_code 125 = .ok (.ireturn, 1) := by decide +kernel
theorem dX8_best_126 : decode prog_1_method_19_code 126 = .ok (.iload_n 3, 1) := by decide +kernel
theorem dX8_best_127 : decode prog_1_method_19_code 127 = .ok (.iconst (-1), 1) := by decide +kernel
theorem dX8_best_128 : decode prog_1_method_19_code 128 = .ok (.if_icmp .ne 11, 3) := by decide +kernel
theorem dX8_best_131 : decode prog_1_method_19_code 131 = .ok (.aload_n 0, 1) := by decide +kernel
theorem dX8_best_132 : decode prog_1_method_19_code 132 = .ok (.getfield 88, 3) := by decide +kernel
theorem dX8_best_135 : decode prog_1_method_19_code 135 = .ok (.getfield 262, 3) := by decide +kernel
theorem dX8_best_138 : decode prog_1_method_19_code 138 = .ok (.ireturn, 1) := by decide +kernel
theorem dX8_best_139 : decode prog_1_method_19_code 139 = .ok (.iload_n 3, 1) := by decide +kernel
theorem dX8_best_140 : decode prog_1_method_19_code 140 = .ok (.bipush (-2), 2) := by decide +kernel
theorem dX8_best_142 : decode prog_1_method_19_code 142 = .ok (.if_icmp .ne 13, 3) := by decide +kernel
theorem dX8_best_145 : decode prog_1_method_19_code 145 = .ok (.aload_n 0, 1) := by decide +kernel
theorem dX8_best_146 : decode prog_1_method_19_code 146 = .ok (.getfield 88, 3) := by decide +kernel
theorem dX8_best_149 : decode prog_1_method_19_code 149 = .ok (.getfield 265, 3) := by decide +kernel
theorem dX8_best_152 : decode prog_1_method_19_code 152 = .ok (.goto 14, 3) := by decide +kernel
theorem dX8_best_155 : decode prog_1_method_19_code 155 = .ok (.aload_n 0, 1) := by decide +kernel
theorem dX8_best_156 : decode prog_1_method_19_code 156 = .ok (.getfield 88, 3) := by decide +kernel
theorem dX8_best_159 : decode prog_1_method_19_code 159 = .ok (.getfield 268, 3) := by decide +kernel
theorem dX8_best_162 : decode prog_1_method_19_code 162 = .ok (.iload_n 3, 1) := by decide +kernel
theorem dX8_best_163 : decode prog_1_method_19_code 163 = .ok (.invokevirtual 161, 3) := by decide +kernel
theorem dX8_best_166 : decode prog_1_method_19_code 166 = .ok (.ireturn, 1) := by decide +kernel
abbrev M_X9_at : am_M := ((⟨"SignCellarModel", "at", "(II)I"⟩ : MethodName), prog_11_method_57_code, 2, (some .int), 0, 0)
theorem dX9_at_0 : decode prog_11_method_57_code 0 = .ok (.sipush 1201, 3) := by decide +kernel
theorem dX9_at_3 : decode prog_11_method_57_code 3 = .ok (.iload_n 0, 1) := by decide +kernel
theorem dX9_at_4 : decode prog_11_method_57_code 4 = .ok (.imul, 1) := by decide +kernel
theorem dX9_at_5 : decode prog_11_method_57_code 5 = .ok (.iload_n 1, 1) := by decide +kernel
theorem dX9_at_6 : decode prog_11_method_57_code 6 = .ok (.iadd, 1) := by decide +kernel
theorem dX9_at_7 : decode prog_11_method_57_code 7 = .ok (.ireturn, 1) := by decide +kernel
abbrev M_X9_findBest : am_M := ((⟨"SignCellarModel", "findBest", "(I)V"⟩ : MethodName), prog_11_method_58_code, 9, none, 5, 124)
theorem dX9_findBest_0 : decode prog_11_method_58_code 0 = .ok (.aload_n 0, 1) := by decide +kernel
theorem dX9_findBest_1 : decode prog_11_method_58_code 1 = .ok (.getfield 23, 3) := by decide +kernel
theorem dX9_findBest_4 : decode prog_11_method_58_code 4 = .ok (.iload_n 1, 1) := by decide +kernel
theorem dX9_findBest_5 : decode prog_11_method_58_code 5 = .ok (.iaload, 1) := by decide +kernel
theorem dX9_findBest_6 : decode prog_11_method_58_code 6 = .ok (.istore_n 2, 1) := by decide +kernel
theorem dX9_findBest_7 : decode prog_11_method_58_code 7 = .ok (.iconst 0, 1) := by decide +kernel
theorem dX9_findBest_8 : decode prog_11_method_58_code 8 = .ok (.istore_n 3, 1) := by decide +kernel
theorem dX9_findBest_9 : decode prog_11_method_58_code 9 = .ok (.iload_n 3, 1) := by decide +kernel
theorem dX9_findBest_10 : decode prog_11_method_58_code 10 = .ok (.iload_n 2, 1) := by decide +kernel
theorem dX9_findBest_11 : decode prog_11_method_58_code 11 = .ok (.if_icmp .ge 70, 3) := by decide +kernel
theorem dX9_findBest_14 : decode prog_11_method_58_code 14 = .ok (.iconst 0, 1) := by decide +kernel
theorem dX9_findBest_15 : decode prog_11_method_58_code 15 = .ok (.istore 4, 2) := by decide +kernel
theorem dX9_findBest_17 : decode prog_11_method_58_code 17 = .ok (.iload 4, 2) := by decide +kernel
theorem dX9_findBest_19 : decode prog_11_method_58_code 19 = .ok (.iconst 5, 1) := by decide +kernel
theorem dX9_findBest_20 : decode prog_11_method_58_code 20 = .ok (.if_icmp .ge 55, 3) := by decide +kernel
theorem dX9_findBest_23 : decode prog_11_method_58_code 23 = .ok (.aload_n 0, 1) := by decide +kernel
theorem dX9_findBest_24 : decode prog_11_method_58_code 24 = .ok (.getfield 80, 3) := by decide +kernel
theorem dX9_findBest_27 : decode prog_11_method_58_code 27 = .ok (.iconst 5, 1) := by decide +kernel
theorem dX9_findBest_28 : decode prog_11_method_58_code 28 = .ok (.iload_n 3, 1) := by decide +kernel
theorem dX9_findBest_29 : decode prog_11_method_58_code 29 = .ok (.imul, 1) := by decide +kernel
theorem dX9_findBest_30 : decode prog_11_method_58_code 30 = .ok (.iload 4, 2) := by decide +kernel
theorem dX9_findBest_32 : decode prog_11_method_58_code 32 = .ok (.iadd, 1) := by decide +kernel
theorem dX9_findBest_33 : decode prog_11_method_58_code 33 = .ok (.aload_n 0, 1) := by decide +kernel
theorem dX9_findBest_34 : decode prog_11_method_58_code 34 = .ok (.aload_n 0, 1) := by decide +kernel
theorem dX9_findBest_35 : decode prog_11_method_58_code 35 = .ok (.iload_n 1, 1) := by decide +kernel
theorem dX9_findBest_36 : decode prog_11_method_58_code 36 = .ok (.iload_n 3, 1) := by decide +kernel
theorem dX9_findBest_37 : decode prog_11_method_58_code 37 = .ok (.invokevirtual 141, 3) := by decide +kernel
theorem dX9_findBest_40 : decode prog_11_method_58_code 40 = .ok (.iload 4, 2) := by decide +kernel
theorem dX9_findBest_42 : decode prog_11_method_58_code 42 = .ok (.invokevirtual 274, 3) := by decide +kernel
theorem dX9_findBest_45 : decode prog_11_method_58_code 45 = .ok (.iastore, 1) := by decide +kernel
theorem dX9_findBest_46 : decode prog_11_method_58_code 46 = .ok (.aload_n 0, 1) := by decide +kernel
theorem dX9_findBest_47 : decode prog_11_method_58_code 47 = .ok (.getfield 83, 3) := by decide +kernel
theorem dX9_findBest_50 : decode prog_11_method_58_code 50 = .ok (.iconst 5, 1) := by decide +kernel
theorem dX9_findBest_51 : decode prog_11_method_58_code 51 = .ok (.iload_n 3, 1) := by decide +kernel
theorem dX9_findBest_52 : decode prog_11_method_58_code 52 = .ok (.imul, 1) := by decide +kernel
theorem dX9_findBest_53 : decode prog_11_method_58_code 53 = .ok (.iload 4, 2) := by decide +kernel
theorem dX9_findBest_55 : decode prog_11_method_58_code 55 = .ok (.iadd, 1) := by decide +kernel
theorem dX9_findBest_56 : decode prog_11_method_58_code 56 = .ok (.aload_n 0, 1) := by decide +kernel
theorem dX9_findBest_57 : decode prog_11_method_58_code 57 = .ok (.aload_n 0, 1) := by decide +kernel
theorem dX9_findBest_58 : decode prog_11_method_58_code 58 = .ok (.iload_n 1, 1) := by decide +kernel
theorem dX9_findBest_59 : decode prog_11_method_58_code 59 = .ok (.iload_n 3, 1) := by decide +kernel
theorem dX9_findBest_60 : decode prog_11_method_58_code 60 = .ok (.invokevirtual 141, 3) := by decide +kernel
theorem dX9_findBest_63 : decode prog_11_method_58_code 63 = .ok (.iload 4, 2) := by decide +kernel
theorem dX9_findBest_65 : decode prog_11_method_58_code 65 = .ok (.invokevirtual 277, 3) := by decide +kernel
theorem dX9_findBest_68 : decode prog_11_method_58_code 68 = .ok (.iastore, 1) := by decide +kernel
theorem dX9_findBest_69 : decode prog_11_method_58_code 69 = .ok (.iinc 4 1, 3) := by decide +kernel
theorem dX9_findBest_72 : decode prog_11_method_58_code 72 = .ok (.goto (-55), 3) := by decide +kernel
theorem dX9_findBest_75 : decode prog_11_method_58_code 75 = .ok (.iinc 3 1, 3) := by decide +kernel
theorem dX9_findBest_78 : decode prog_11_method_58_code 78 = .ok (.goto (-69), 3) := by decide +kernel
theorem dX9_findBest_81 : decode prog_11_method_58_code 81 = .ok (.iconst 0, 1) := by decide +kernel
theorem dX9_findBest_82 : decode prog_11_method_58_code 82 = .ok (.istore_n 3, 1) := by decide +kernel
theorem dX9_findBest_83 : decode prog_11_method_58_code 83 = .ok (.iload_n 3, 1) := by decide +kernel
theorem dX9_findBest_84 : decode prog_11_method_58_code 84 = .ok (.sipush 1200, 3) := by decide +kernel
theorem dX9_findBest_87 : decode prog_11_method_58_code 87 = .ok (.if_icmp .gt 20, 3) := by decide +kernel
theorem dX9_findBest_90 : decode prog_11_method_58_code 90 = .ok (.aload_n 0, 1) := by decide +kernel
theorem dX9_findBest_91 : decode prog_11_method_58_code 91 = .ok (.getfield 77, 3) := by decide +kernel
theorem dX9_findBest_94 : decode prog_11_method_58_code 94 = .ok (.iload_n 2, 1) := by decide +kernel
theorem dX9_findBest_95 : decode prog_11_method_58_code 95 = .ok (.iload_n 3, 1) := by decide +kernel
theorem dX9_findBest_96 : decode prog_11_method_58_code 96 = .ok (.invokestatic 280, 3) := by decide +kernel
theorem dX9_findBest_99 : decode prog_11_method_58_code 99 = .ok (.iconst 0, 1) := by decide +kernel
theorem dX9_findBest_100 : decode prog_11_method_58_code 100 = .ok (.iastore, 1) := by decide +kernel
theorem dX9_findBest_101 : decode prog_11_method_58_code 101 = .ok (.iinc 3 1, 3) := by decide +kernel
theorem dX9_findBest_104 : decode prog_11_method_58_code 104 = .ok (.goto (-21), 3) := by decide +kernel
theorem dX9_findBest_107 : decode prog_11_method_58_code 107 = .ok (.iload_n 2, 1) := by decide +kernel
theorem dX9_findBest_108 : decode prog_11_method_58_code 108 = .ok (.iconst 1, 1) := by decide +kernel
theorem dX9_findBest_109 : decode prog_11_method_58_code 109 = .ok (.isub, 1) := by decide +kernel
theorem dX9_findBest_110 : decode prog_11_method_58_code 110 = .ok (.istore_n 3, 1) := by decide +kernel
theorem dX9_findBest_111 : decode prog_11_method_58_code 111 = .ok (.iload_n 3, 1) := by decide +kernel
theorem dX9_findBest_112 : decode prog_11_method_58_code 112 = .ok (.ifCond .lt 129, 3) := by decide +kernel
theorem dX9_findBest_115 : decode prog_11_method_58_code 115 = .ok (.iconst 0, 1) := by decide +kernel
theorem dX9_findBest_116 : decode prog_11_method_58_code 116 = .ok (.istore 4, 2) := by decide +kernel
theorem dX9_findBest_118 : decode prog_11_method_58_code 118 = .ok (.iload 4, 2) := by decide +kernel
theorem dX9_findBest_120 : decode prog_11_method_58_code 120 = .ok (.sipush 1200, 3) := by decide +kernel
theorem dX9_findBest_123 : decode prog_11_method_58_code 123 = .ok (.if_icmp .gt 112, 3) := by decide +kernel
theorem dX9_findBest_126 : decode prog_11_method_58_code 126 = .ok (.ldc_w 283, 3) := by decide +kernel
theorem dX9_findBest_129 : decode prog_11_method_58_code 129 = .ok (.istore 5, 2) := by decide +kernel
theorem dX9_findBest_131 : decode prog_11_method_58_code 131 = .ok (.iconst 0, 1) := by decide +kernel
theorem dX9_findBest_132 : decode prog_11_method_58_code 132 = .ok (.istore 6, 2) := by decide +kernel
theorem dX9_findBest_134 : decode prog_11_method_58_code 134 = .ok (.iload 6, 2) := by decide +kernel
theorem dX9_findBest_136 : decode prog_11_method_58_code 136 = .ok (.iconst 5, 1) := by decide +kernel
theorem dX9_findBest_137 : decode prog_11_method_58_code 137 = .ok (.if_icmp .ge 79, 3) := by decide +kernel
theorem dX9_findBest_140 : decode prog_11_method_58_code 140 = .ok (.iload 4, 2) := by decide +kernel
theorem dX9_findBest_142 : decode prog_11_method_58_code 142 = .ok (.aload_n 0, 1) := by decide +kernel
theorem dX9_findBest_143 : decode prog_11_method_58_code 143 = .ok (.getfield 83, 3) := by decide +kernel
theorem dX9_findBest_146 : decode prog_11_method_58_code 146 = .ok (.iconst 5, 1) := by decide +kernel
theorem dX9_findBest_147 : decode prog_11_method_58_code 147 = .ok (.iload_n 3, 1) := by decide +kernel
theorem dX9_findBest_148 : decode prog_11_method_58_code 148 = .ok (.imul, 1) := by decide +kernel
theorem dX9_findBest_149 : decode prog_11_method_58_code 149 = .ok (.iload 6, 2) := by decide +kernel
theorem dX9_findBest_151 : decode prog_11_method_58_code 151 = .ok (.iadd, 1) := by decide +kernel
theorem dX9_findBest_152 : decode prog_11_method_58_code 152 = .ok (.iaload, 1) := by decide +kernel
theorem dX9_findBest_153 : decode prog_11_method_58_code 153 = .ok (.isub, 1) := by decide +kernel
theorem dX9_findBest_154 : decode prog_11_method_58_code 154 = .ok (.istore 7, 2) := by decide +kernel
theorem dX9_findBest_156 : decode prog_11_method_58_code 156 = .ok (.iload 7, 2) := by decide +kernel
theorem dX9_findBest_158 : decode prog_11_method_58_code 158 = .ok (.ifCond .ge 9, 3) := by decide +kernel
theorem dX9_findBest_161 : decode prog_11_method_58_code 161 = .ok (.ldc_w 283, 3) := by decide +kernel
theorem dX9_findBest_164 : decode prog_11_method_58_code 164 = .ok (.goto 28, 3) := by decide +kernel
theorem dX9_findBest_167 : decode prog_11_method_58_code 167 = .ok (.aload_n 0, 1) := by decide +kernel
theorem dX9_findBest_168 : decode prog_11_method_58_code 168 = .ok (.getfield 80, 3) := by decide +kernel
theorem dX9_findBest_171 : decode prog_11_method_58_code 171 = .ok (.iconst 5, 1) := by decide +kernel
theorem dX9_findBest_172 : decode prog_11_method_58_code 172 = .ok (.iload_n 3, 1) := by decide +kernel
theorem dX9_findBest_173 : decode prog_11_method_58_code 173 = .ok (.imul, 1) := by decide +kernel
theorem dX9_findBest_174 : decode prog_11_method_58_code 174 = .ok (.iload 6, 2) := by decide +kernel
theorem dX9_findBest_176 : decode prog_11_method_58_code 176 = .ok (.iadd, 1) := by decide +kernel
theorem dX9_findBest_177 : decode prog_11_method_58_code 177 = .ok (.iaload, 1) := by decide +kernel
theorem dX9_findBest_178 : decode prog_11_method_58_code 178 = .ok (.aload_n 0, 1) := by decide +kernel
theorem dX9_findBest_179 : decode prog_11_method_58_code 179 = .ok (.getfield 77, 3) := by decide +kernel
theorem dX9_findBest_182 : decode prog_11_method_58_code 182 = .ok (.iload_n 3, 1) := by decide +kernel
theorem dX9_findBest_183 : decode prog_11_method_58_code 183 = .ok (.iconst 1, 1) := by decide +kernel
theorem dX9_findBest_184 : decode prog_11_method_58_code 184 = .ok (.iadd, 1) := by decide +kernel
theorem dX9_findBest_185 : decode prog_11_method_58_code 185 = .ok (.iload 7, 2) := by decide +kernel
theorem dX9_findBest_187 : decode prog_11_method_58_code 187 = .ok (.invokestatic 280, 3) := by decide +kernel
theorem dX9_findBest_190 : decode prog_11_method_58_code 190 = .ok (.iaload, 1) := by decide +kernel
theorem dX9_findBest_191 : decode prog_11_method_58_code 191 = .ok (.iadd, 1) := by decide +kernel
theorem dX9_findBest_192 : decode prog_11_method_58_code 192 = .ok (.istore 8, 2) := by decide +kernel
theorem dX9_findBest_194 : decode prog_11_method_58_code 194 = .ok (.iload 8, 2) := by decide +kernel
theorem dX9_findBest_196 : decode prog_11_method_58_code 196 = .ok (.iload 5, 2) := by decide +kernel
theorem dX9_findBest_198 : decode prog_11_method_58_code 198 = .ok (.if_icmp .ge 8, 3) := by decide +kernel
theorem dX9_findBest_201 : decode prog_11_method_58_code 201 = .ok (.iload 8, 2) := by decide +kernel
theorem dX9_findBest_203 : decode prog_11_method_58_code 203 = .ok (.goto 5, 3) := by decide +kernel
theorem dX9_findBest_206 : decode prog_11_method_58_code 206 = .ok (.iload 5, 2) := by decide +kernel
theorem dX9_findBest_208 : decode prog_11_method_58_code 208 = .ok (.istore 5, 2) := by decide +kernel
theorem dX9_findBest_210 : decode prog_11_method_58_code 210 = .ok (.iinc 6 1, 3) := by decide +kernel
theorem dX9_findBest_213 : decode prog_11_method_58_code 213 = .ok (.goto (-79), 3) := by decide +kernel
theorem dX9_findBest_216 : decode prog_11_method_58_code 216 = .ok (.aload_n 0, 1) := by decide +kernel
theorem dX9_findBest_217 : decode prog_11_method_58_code 217 = .ok (.getfield 77, 3) := by decide +kernel
theorem dX9_findBest_220 : decode prog_11_method_58_code 220 = .ok (.iload_n 3, 1) := by decide +kernel
theorem dX9_findBest_221 : decode prog_11_method_58_code 221 = .ok (.iload 4, 2) := by decide +kernel
theorem dX9_findBest_223 : decode prog_11_method_58_code 223 = .ok (.invokestatic 280, 3) := by decide +kernel
theorem dX9_findBest_226 : decode prog_11_method_58_code 226 = .ok (.iload 5, 2) := by decide +kernel
theorem dX9_findBest_228 : decode prog_11_method_58_code 228 = .ok (.iastore, 1) := by decide +kernel
theorem dX9_findBest_229 : decode prog_11_method_58_code 229 = .ok (.iinc 4 1, 3) := by decide +kernel
theorem dX9_findBest_232 : decode prog_11_method_58_code 232 = .ok (.goto (-114), 3) := by decide +kernel
theorem dX9_findBest_235 : decode prog_11_method_58_code 235 = .ok (.iinc 3 (-1), 3) := by decide +kernel
theorem dX9_findBest_238 : decode prog_11_method_58_code 238 = .ok (.goto (-127), 3) := by decide +kernel
theorem dX9_findBest_241 : decode prog_11_method_58_code 241 = .ok (.return_, 1) := by decide +kernel
theorem cw_X1_63 : am_cw "SignCellar$Choice" 63 M_J9_max_7cf53 2 := ⟨wd_1_3, wd_1_29, ⟨by decide, by decide, by decide⟩, Or.inl wd_3_198⟩
theorem cw_X1_81 : am_cw "SignCellar$Choice" 81 M_X4_add 1 := ⟨wd_1_2, wd_2_2, ⟨by decide, by decide, by decide⟩, Or.inl wd_3_212⟩
theorem fw_X1_28 : am_fw "SignCellar$Choice" 28 1 3 := ⟨(RX1, TX1, 6), rfl, by decide, inX1, Or.inl wd_1_161⟩
theorem fw_X1_35 : am_fw "SignCellar$Choice" 35 1 5 := ⟨(RX1, TX1, 6), rfl, by decide, inX1, Or.inl wd_1_165⟩
theorem fx_X1_31 {nm : String} : am_fx "SignCellar$Choice" 31 1 4 .int nm := ⟨(RX1, TX1, 6), tyX1, rfl, by decide, inX1, tyX1_ok, nmX1, rfl, Or.inl ⟨wd_1_163, Or.inl rfl⟩⟩
theorem fx_X1_35 {nm : String} : am_fx "SignCellar$Choice" 35 1 5 .int nm := ⟨(RX1, TX1, 6), tyX1, rfl, by decide, inX1, tyX1_ok, nmX1, rfl, Or.inl ⟨wd_1_165, Or.inl rfl⟩⟩
def F_X1_tell_79 (k26 : Nat → Int32 → Int32 → Int32 → am_H → Option am_H) (v0 : Nat) (v1 : Int32) (v2 : Int32) (v3 : Int32) (v5 : Int32) (h : am_H) : Option am_H :=
  (am_gr 1 3 v0 h).bind fun x1 =>
  (F_X4_add x1 v5 h).bind fun h2 =>
  (am_gi 1 5 v0 h2).bind fun x3 =>
  (am_gr 1 1 v0 h2).bind fun x4 =>
  (F_X4_at x4 ((v3 * (5 : Int32)) + v5) h2).bind fun x5 =>
  (am_pi 1 5 v0 (x3 + x5) h2).bind fun h6 =>
  k26 v0 v1 v2 (v3 + (1 : Int32)) h6
theorem w_X1_tell_79 {g : am_G} {l : Launch} {h0 : am_H} {hf : am_H}  {k26 : Nat → Int32 → Int32 → Int32 → am_H → Option am_H} (j26 : ∀ (v0 : Nat) (v1 : Int32) (v2 : Int32) (v3 : Int32) (h : am_H), k26 v0 v1 v2 v3 h = some hf → am_W g l M_X1_tell h0 none hf 26 [some (.ref v0), some (.int v1), some (.int v2), some (.int v3), none, none] [] h) (v0 : Nat) (v1 : Int32) (v2 : Int32) (v3 : Int32) (v5 : Int32) (h : am_H) (hF : F_X1_tell_79 k26 v0 v1 v2 v3 v5 h = some hf) : am_W g l M_X1_tell h0 none hf 79 [some (.ref v0), some (.int v1), some (.int v2), some (.int v3), none, some (.int v5)] [] h := by
  unfold F_X1_tell_79 at hF
  refine am_aload_n (pc' := 80) dX1_tell_79 rfl rfl ?_
  obtain ⟨x1, ex1, hF⟩ := am_bind hF
  refine am_getr (pc' := 83) dX1_tell_80 fw_X1_28 ex1 rfl ?_
  refine am_iload (pc' := 85) dX1_tell_83 rfl rfl ?_
  obtain ⟨h2, eh2, hF⟩ := am_bind hF
  obtain ⟨oh2, ph2⟩ := t_X4_add eh2
  refine am_callV0 (Mc := M_X4_add) (As := [.int v5]) (st := []) (pc' := 88) dX1_tell_85 cw_X1_81 wd_2_0 wd_2_1 ⟨_, rfl, rfl⟩ (by decide) (by decide) rfl rfl (Nat.le_of_ble_eq_true rfl) ph2 (c_X4_add eh2) rfl ?_
  refine am_aload_n (pc' := 89) dX1_tell_88 rfl rfl ?_
  refine am_dup (pc' := 90) dX1_tell_89 rfl rfl ?_
  obtain ⟨x3, ex3, hF⟩ := am_bind hF
  refine am_geti (pc' := 93) dX1_tell_90 fw_X1_35 ex3 rfl ?_
  refine am_aload_n (pc' := 94) dX1_tell_93 rfl rfl ?_
  obtain ⟨x4, ex4, hF⟩ := am_bind hF
  refine am_getr (pc' := 97) dX1_tell_94 fw_X1_20 ex4 rfl ?_
  refine am_iload_n (pc' := 98) dX1_tell_97 rfl rfl ?_
  refine am_iconst (v := (5 : Int32)) (pc' := 99) dX1_tell_98 rfl rfl ?_
  refine am_imul (pc' := 100) dX1_tell_99 rfl ?_
  refine am_iload (pc' := 102) dX1_tell_100 rfl rfl ?_
  refine am_iadd (pc' := 103) dX1_tell_102 rfl ?_
  obtain ⟨x5, ex5, hF⟩ := am_bind hF
  obtain ⟨ox5, px5⟩ := t_X4_at ex5
  refine am_callV1 (Mc := M_X4_at) (As := [.int ((v3 * (5 : Int32)) + v5)]) (st := [.int x3, .ref v0]) (pc' := 106) dX1_tell_103 cw_X1_74 wd_2_40 wd_2_41 ⟨_, rfl, rfl⟩ (by decide) (by decide) rfl rfl (Nat.le_of_ble_eq_true rfl) px5 (c_X4_at ex5) rfl ?_
  refine am_iadd (pc' := 107) dX1_tell_106 rfl ?_
  obtain ⟨h6, eh6, hF⟩ := am_bind hF
  refine am_puti (pc' := 110) dX1_tell_107 fx_X1_35 eh6 rfl ?_
  refine am_iinc (ls' := [some (.ref v0), some (.int v1), some (.int v2), some (.int (v3 + (1 : Int32))), none, some (.int v5)]) (pc' := 113) (v := (v3 + (1 : Int32))) dX1_tell_110 rfl rfl (Nat.le_of_ble_eq_true rfl) rfl rfl ?_
  refine am_goto (pc' := 26) dX1_tell_113 rfl ?_
  exact am_weak [true, true, true, true, false, false] (j26 v0 v1 v2 (v3 + (1 : Int32)) h6 hF)
def F_X1_tell_46 (k26 : Nat → Int32 → Int32 → Int32 → am_H → Option am_H) : Nat → Nat → Int32 → Int32 → Int32 → Int32 → Int32 → am_H → Option am_H
  | 0, _, _, _, _, _, _, _ => none
  | n + 1, v0, v1, v2, v3, v4, v5, h =>
  if (4 : Int32) ≤ v5 then
    F_X1_tell_79 k26 v0 v1 v2 v3 v5 h
  else
    (F_X1_sizeWith v0 v3 v5 v4 h).bind fun x2 =>
    (am_gr 1 2 v0 h).bind fun x3 =>
    (am_al 5 x3 v3 h).bind fun x4 =>
    (am_il 0 x4 v4 h).bind fun x5 =>
    if x2 = x5 then
      F_X1_tell_79 k26 v0 v1 v2 v3 v5 h
    else
      F_X1_tell_46 k26 n v0 v1 v2 v3 v4 (v5 + (1 : Int32)) h
theorem w_X1_tell_46 {g : am_G} {l : Launch} {h0 : am_H} {hf : am_H}  {k26 : Nat → Int32 → Int32 → Int32 → am_H → Option am_H} (j26 : ∀ (v0 : Nat) (v1 : Int32) (v2 : Int32) (v3 : Int32) (h : am_H), k26 v0 v1 v2 v3 h = some hf → am_W g l M_X1_tell h0 none hf 26 [some (.ref v0), some (.int v1), some (.int v2), some (.int v3), none, none] [] h) : ∀ (n : Nat) (v0 : Nat) (v1 : Int32) (v2 : Int32) (v3 : Int32) (v4 : Int32) (v5 : Int32) (h : am_H), F_X1_tell_46 k26 n v0 v1 v2 v3 v4 v5 h = some hf → am_W g l M_X1_tell h0 none hf 46 [some (.ref v0), some (.int v1), some (.int v2), some (.int v3), some (.int v4), some (.int v5)] [] h
  | 0, _, _, _, _, _, _, _, hF => by cases hF
  | n + 1, v0, v1, v2, v3, v4, v5, h, hF => by
    rw [F_X1_tell_46] at hF
    refine am_iload (pc' := 48) dX1_tell_46 rfl rfl ?_
    refine am_iconst (v := (4 : Int32)) (pc' := 49) dX1_tell_48 rfl rfl ?_
    rcases am_ite hF with ⟨z1, hF⟩ | ⟨z1, hF⟩
    · refine am_icmp_ge_t (pc' := 79) dX1_tell_49 rfl z1 ?_
      exact am_weak [true, true, true, true, false, true] (w_X1_tell_79 j26 v0 v1 v2 v3 v5 h hF)
    · refine am_icmp_ge_f (pc' := 52) (tgt := 79) dX1_tell_49 rfl z1 rfl ?_
      refine am_aload_n (pc' := 53) dX1_tell_52 rfl rfl ?_
      refine am_iload_n (pc' := 54) dX1_tell_53 rfl rfl ?_
      refine am_iload (pc' := 56) dX1_tell_54 rfl rfl ?_
      refine am_iload (pc' := 58) dX1_tell_56 rfl rfl ?_
      obtain ⟨x2, ex2, hF⟩ := am_bind hF
      obtain ⟨ox2, px2⟩ := t_X1_sizeWith ex2
      refine am_callV1 (Mc := M_X1_sizeWith) (As := [.int v3, .int v5, .int v4]) (st := []) (pc' := 61) dX1_tell_58 cw_X1_77 wd_3_206 sl_X1_sizeWith ⟨_, rfl, rfl⟩ (by decide) (by decide) rfl rfl (Nat.le_of_ble_eq_true rfl) px2 (c_X1_sizeWith ex2) rfl ?_
      refine am_aload_n (pc' := 62) dX1_tell_61 rfl rfl ?_
      obtain ⟨x3, ex3, hF⟩ := am_bind hF
      refine am_getr (pc' := 65) dX1_tell_62 fw_X1_25 ex3 rfl ?_
      refine am_iload_n (pc' := 66) dX1_tell_65 rfl rfl ?_
      obtain ⟨x4, ex4, hF⟩ := am_bind hF
      refine am_aald5 (pc' := 67) dX1_tell_66 ex4 rfl ?_
      refine am_iload (pc' := 69) dX1_tell_67 rfl rfl ?_
      obtain ⟨x5, ex5, hF⟩ := am_bind hF
      refine am_iald (pc' := 70) dX1_tell_69 ex5 rfl ?_
      rcases am_ite hF with ⟨z6, hF⟩ | ⟨z6, hF⟩
      · refine am_icmp_eq_t (pc' := 79) dX1_tell_70 rfl z6 ?_
        exact am_weak [true, true, true, true, false, true] (w_X1_tell_79 j26 v0 v1 v2 v3 v5 h hF)
      · refine am_icmp_eq_f (pc' := 73) (tgt := 79) dX1_tell_70 rfl z6 rfl ?_
        refine am_iinc (ls' := [some (.ref v0), some (.int v1), some (.int v2), some (.int v3), some (.int v4), some (.int (v5 + (1 : Int32)))]) (pc' := 76) (v := (v5 + (1 : Int32))) dX1_tell_73 rfl rfl (Nat.le_of_ble_eq_true rfl) rfl rfl ?_
        refine am_goto (pc' := 46) dX1_tell_76 rfl ?_
        exact w_X1_tell_46 j26 n v0 v1 v2 v3 v4 (v5 + (1 : Int32)) h hF
def F_X1_tell_26 : Nat → Nat → Int32 → Int32 → Int32 → am_H → Option am_H
  | 0, _, _, _, _, _ => none
  | n + 1, v0, v1, v2, v3, h =>
  if v1 ≤ v3 then
    some h
  else
    (am_gi 1 5 v0 h).bind fun x2 =>
    (F_J9_max_7cf53 (0 : Int32) (v2 - x2) h).bind fun x3 =>
    F_X1_tell_46 (F_X1_tell_26 n) am_F v0 v1 v2 v3 x3 (0 : Int32) h
theorem w_X1_tell_26 {g : am_G} {l : Launch} {h0 : am_H} {hf : am_H}  : ∀ (n : Nat) (v0 : Nat) (v1 : Int32) (v2 : Int32) (v3 : Int32) (h : am_H), F_X1_tell_26 n v0 v1 v2 v3 h = some hf → am_W g l M_X1_tell h0 none hf 26 [some (.ref v0), some (.int v1), some (.int v2), some (.int v3), none, none] [] h
  | 0, _, _, _, _, _, hF => by cases hF
  | n + 1, v0, v1, v2, v3, h, hF => by
    rw [F_X1_tell_26] at hF
    refine am_iload_n (pc' := 27) dX1_tell_26 rfl rfl ?_
    refine am_iload_n (pc' := 28) dX1_tell_27 rfl rfl ?_
    rcases am_ite hF with ⟨z1, hF⟩ | ⟨z1, hF⟩
    · refine am_icmp_ge_t (pc' := 116) dX1_tell_28 rfl z1 ?_
      cases hF
      exact am_vret dX1_tell_116 rfl
    · refine am_icmp_ge_f (pc' := 31) (tgt := 116) dX1_tell_28 rfl z1 rfl ?_
      refine am_iconst (v := (0 : Int32)) (pc' := 32) dX1_tell_31 rfl rfl ?_
      refine am_iload_n (pc' := 33) dX1_tell_32 rfl rfl ?_
      refine am_aload_n (pc' := 34) dX1_tell_33 rfl rfl ?_
      obtain ⟨x2, ex2, hF⟩ := am_bind hF
      refine am_geti (pc' := 37) dX1_tell_34 fw_X1_35 ex2 rfl ?_
      refine am_isub (pc' := 38) dX1_tell_37 rfl ?_
      obtain ⟨x3, ex3, hF⟩ := am_bind hF
      refine am_callS1 (Mc := M_J9_max_7cf53) (As := [.int (0 : Int32), .int (v2 - x2)]) (st := []) (pc' := 41) dX1_tell_38 cw_X1_63 wd_1_28 (by decide) (by decide) rfl rfl (Nat.le_of_ble_eq_true rfl) (c_J9_max_7cf53 ex3) rfl ?_
      refine am_istore (ls' := [some (.ref v0), some (.int v1), some (.int v2), some (.int v3), some (.int x3), none]) (pc' := 43) dX1_tell_41 (Nat.le_of_ble_eq_true rfl) rfl rfl ?_
      refine am_iconst (v := (0 : Int32)) (pc' := 44) dX1_tell_43 rfl rfl ?_
      refine am_istore (ls' := [some (.ref v0), some (.int v1), some (.int v2), some (.int v3), some (.int x3), some (.int (0 : Int32))]) (pc' := 46) dX1_tell_44 (Nat.le_of_ble_eq_true rfl) rfl rfl ?_
      exact w_X1_tell_46 (w_X1_tell_26 n) am_F v0 v1 v2 v3 x3 (0 : Int32) h hF
def F_X1_tell_b (v0 : Nat) (v1 : Int32) (v2 : Int32) (h : am_H) : Option am_H :=
  (am_gr 1 3 v0 h).bind fun x1 =>
  (F_X4_empty x1 h).bind fun h2 =>
  (am_gr 1 2 v0 h2).bind fun x3 =>
  (am_al 5 x3 (0 : Int32) h2).bind fun x4 =>
  (am_il 0 x4 v2 h2).bind fun x5 =>
  (am_pi 1 4 v0 x5 h2).bind fun h6 =>
  (am_pi 1 5 v0 (0 : Int32) h6).bind fun h7 =>
  F_X1_tell_26 am_F v0 v1 v2 (0 : Int32) h7
theorem w_X1_tell {g : am_G} {l : Launch} {h0 : am_H} {hf : am_H}  (v0 : Nat) (v1 : Int32) (v2 : Int32) (h : am_H) (hF : F_X1_tell_b v0 v1 v2 h = some hf) : am_W g l M_X1_tell h0 none hf 0 [some (.ref v0), some (.int v1), some (.int v2), none, none, none] [] h := by
  unfold F_X1_tell_b at hF
  refine am_aload_n (pc' := 1) dX1_tell_0 rfl rfl ?_
  obtain ⟨x1, ex1, hF⟩ := am_bind hF
  refine am_getr (pc' := 4) dX1_tell_1 fw_X1_28 ex1 rfl ?_
  obtain ⟨h2, eh2, hF⟩ := am_bind hF
  obtain ⟨oh2, ph2⟩ := t_X4_empty eh2
  refine am_callV0 (Mc := M_X4_empty) (As := []) (st := []) (pc' := 7) dX1_tell_4 cw_X1_38 wd_2_17 wd_2_18 ⟨_, rfl, rfl⟩ (by decide) (by decide) rfl rfl (Nat.le_of_ble_eq_true rfl) ph2 (c_X4_empty eh2) rfl ?_
  refine am_aload_n (pc' := 8) dX1_tell_7 rfl rfl ?_
  refine am_aload_n (pc' := 9) dX1_tell_8 rfl rfl ?_
  obtain ⟨x3, ex3, hF⟩ := am_bind hF
  refine am_getr (pc' := 12) dX1_tell_9 fw_X1_25 ex3 rfl ?_
  refine am_iconst (v := (0 : Int32)) (pc' := 13) dX1_tell_12 rfl rfl ?_
  obtain ⟨x4, ex4, hF⟩ := am_bind hF
  refine am_aald5 (pc' := 14) dX1_tell_13 ex4 rfl ?_
  refine am_iload_n (pc' := 15) dX1_tell_14 rfl rfl ?_
  obtain ⟨x5, ex5, hF⟩ := am_bind hF
  refine am_iald (pc' := 16) dX1_tell_15 ex5 rfl ?_
  obtain ⟨h6, eh6, hF⟩ := am_bind hF
  refine am_puti (pc' := 19) dX1_tell_16 fx_X1_31 eh6 rfl ?_
  refine am_aload_n (pc' := 20) dX1_tell_19 rfl rfl ?_
  refine am_iconst (v := (0 : Int32)) (pc' := 21) dX1_tell_20 rfl rfl ?_
  obtain ⟨h7, eh7, hF⟩ := am_bind hF
  refine am_puti (pc' := 24) dX1_tell_21 fx_X1_35 eh7 rfl ?_
  refine am_iconst (v := (0 : Int32)) (pc' := 25) dX1_tell_24 rfl rfl ?_
  refine am_istore_n (ls' := [some (.ref v0), some (.int v1), some (.int v2), some (.int (0 : Int32)), none, none]) (pc' := 26) dX1_tell_25 (Nat.le_of_ble_eq_true rfl) rfl rfl ?_
  exact w_X1_tell_26 am_F v0 v1 v2 (0 : Int32) h7 hF
def F_X1_tell (v0 : Nat) (v1 : Int32) (v2 : Int32) (h : am_H) : Option am_H := (am_obj v0 1 h).bind fun _ => F_X1_tell_b v0 v1 v2 h
theorem t_X1_tell {hf : am_H}  {v0 : Nat} {v1 : Int32} {v2 : Int32} {h : am_H} (hF : F_X1_tell v0 v1 v2 h = some hf) : ∃ fs, am_obj v0 1 h = some fs := by
  obtain ⟨fs, e, _⟩ := am_bind hF
  exact ⟨fs, e⟩
theorem c_X1_tell {g : am_G} {l : Launch} {hf : am_H}  {v0 : Nat} {v1 : Int32} {v2 : Int32} {h : am_H} (hF : F_X1_tell v0 v1 v2 h = some hf) : am_Met g l M_X1_tell [.ref v0, .int v1, .int v2] h none hf := by
  obtain ⟨fs, e0, e⟩ := am_bind hF
  exact am_met (n := 3) (by decide +kernel) rfl (Nat.le_of_ble_eq_true rfl) (w_X1_tell v0 v1 v2 h e)
theorem cw_X1_49 : am_cw "SignCellar$Choice" 49 M_X4_length 0 := ⟨wd_1_2, wd_1_237, ⟨by decide, by decide, by decide⟩, Or.inl wd_3_191⟩
theorem cw_X1_59 : am_cw "SignCellar$Choice" 59 M_X1_timeOfSmallest 1 := ⟨wd_1_8, wd_3_196, ⟨by decide, by decide, by decide⟩, Or.inl wd_3_193⟩
theorem cw_X1_66 : am_cw "SignCellar$Choice" 66 M_X1_leastFrom 2 := ⟨wd_1_8, wd_3_202, ⟨by decide, by decide, by decide⟩, Or.inl wd_3_199⟩
theorem cw_X1_70 : am_cw "SignCellar$Choice" 70 M_X1_tell 2 := ⟨wd_1_8, wd_3_211, ⟨by decide, by decide, by decide⟩, Or.inl wd_3_208⟩
theorem sl_X1_leastFrom : Cond.selects (⟨"SignCellar$Choice", "leastFrom", "(II)I"⟩ : MethodName).cls ⟨"SignCellar$Choice", "leastFrom", "(II)I"⟩ ⟨"SignCellar$Choice", "leastFrom", "(II)I"⟩ ∈ am_ts := am_in_p (q := (⟨"SignCellar$Choice", "leastFrom", "(II)I"⟩, 6)) (by decide +kernel)
theorem sl_X1_tell : Cond.selects (⟨"SignCellar$Choice", "tell", "(II)V"⟩ : MethodName).cls ⟨"SignCellar$Choice", "tell", "(II)V"⟩ ⟨"SignCellar$Choice", "tell", "(II)V"⟩ ∈ am_ts := am_in_p (q := (⟨"SignCellar$Choice", "tell", "(II)V"⟩, 6)) (by decide +kernel)
theorem sl_X1_timeOfSmallest : Cond.selects (⟨"SignCellar$Choice", "timeOfSmallest", "(I)I"⟩ : MethodName).cls ⟨"SignCellar$Choice", "timeOfSmallest", "(I)I"⟩ ⟨"SignCellar$Choice", "timeOfSmallest", "(I)I"⟩ ∈ am_ts := am_in_p (q := (⟨"SignCellar$Choice", "timeOfSmallest", "(I)I"⟩, 6)) (by decide +kernel)
def F_X1_choose_73 (k65 : Nat → Int32 → Int32 → Int32 → am_H → Option (Int32 × am_H)) : Nat → Nat → Int32 → Int32 → Int32 → Int32 → am_H → Option (Int32 × am_H)
  | 0, _, _, _, _, _, _ => none
  | n + 1, v0, v2, v3, v4, v5, h =>
  if v3 < v5 then
    k65 v0 v2 v3 (v4 + (-1 : Int32)) h
  else
    (am_gr 1 2 v0 h).bind fun x2 =>
    (am_al 5 x2 v4 h).bind fun x3 =>
    (F_X1_leastFrom v0 v4 v5 h).bind fun x4 =>
    (am_is 0 x3 v5 x4 h).bind fun h5 =>
    F_X1_choose_73 k65 n v0 v2 v3 v4 (v5 + (1 : Int32)) h5
theorem w_X1_choose_73 {g : am_G} {l : Launch} {h0 : am_H} {x : Int32} {hf : am_H}  {k65 : Nat → Int32 → Int32 → Int32 → am_H → Option (Int32 × am_H)} (j65 : ∀ (v0 : Nat) (v2 : Int32) (v3 : Int32) (v4 : Int32) (h : am_H), k65 v0 v2 v3 v4 h = some (x, hf) → am_W g l M_X1_choose h0 (some (.int x)) hf 65 [some (.ref v0), none, some (.int v2), some (.int v3), some (.int v4), none] [] h) : ∀ (n : Nat) (v0 : Nat) (v2 : Int32) (v3 : Int32) (v4 : Int32) (v5 : Int32) (h : am_H), F_X1_choose_73 k65 n v0 v2 v3 v4 v5 h = some (x, hf) → am_W g l M_X1_choose h0 (some (.int x)) hf 73 [some (.ref v0), none, some (.int v2), some (.int v3), some (.int v4), some (.int v5)] [] h
  | 0, _, _, _, _, _, _, hF => by cases hF
  | n + 1, v0, v2, v3, v4, v5, h, hF => by
    rw [F_X1_choose_73] at hF
    refine am_iload (pc' := 75) dX1_choose_73 rfl rfl ?_
    refine am_iload_n (pc' := 76) dX1_choose_75 rfl rfl ?_
    rcases am_ite hF with ⟨z1, hF⟩ | ⟨z1, hF⟩
    · refine am_icmp_gt_t (pc' := 103) dX1_choose_76 rfl z1 ?_
      refine am_iinc (ls' := [some (.ref v0), none, some (.int v2), some (.int v3), some (.int (v4 + (-1 : Int32))), some (.int v5)]) (pc' := 106) (v := (v4 + (-1 : Int32))) dX1_choose_103 rfl rfl (Nat.le_of_ble_eq_true rfl) rfl rfl ?_
      refine am_goto (pc' := 65) dX1_choose_106 rfl ?_
      exact am_weak [true, false, true, true, true, false] (j65 v0 v2 v3 (v4 + (-1 : Int32)) h hF)
    · refine am_icmp_gt_f (pc' := 79) (tgt := 103) dX1_choose_76 rfl z1 rfl ?_
      refine am_aload_n (pc' := 80) dX1_choose_79 rfl rfl ?_
      obtain ⟨x2, ex2, hF⟩ := am_bind hF
      refine am_getr (pc' := 83) dX1_choose_80 fw_X1_25 ex2 rfl ?_
      refine am_iload (pc' := 85) dX1_choose_83 rfl rfl ?_
      obtain ⟨x3, ex3, hF⟩ := am_bind hF
      refine am_aald5 (pc' := 86) dX1_choose_85 ex3 rfl ?_
      refine am_iload (pc' := 88) dX1_choose_86 rfl rfl ?_
      refine am_aload_n (pc' := 89) dX1_choose_88 rfl rfl ?_
      refine am_iload (pc' := 91) dX1_choose_89 rfl rfl ?_
      refine am_iload (pc' := 93) dX1_choose_91 rfl rfl ?_
      obtain ⟨x4, ex4, hF⟩ := am_bind hF
      obtain ⟨ox4, px4⟩ := t_X1_leastFrom ex4
      refine am_callV1 (Mc := M_X1_leastFrom) (As := [.int v4, .int v5]) (st := [.int v5, .ref x3]) (pc' := 96) dX1_choose_93 cw_X1_66 wd_3_201 sl_X1_leastFrom ⟨_, rfl, rfl⟩ (by decide) (by decide) rfl rfl (Nat.le_of_ble_eq_true rfl) px4 (c_X1_leastFrom ex4) rfl ?_
      obtain ⟨h5, eh5, hF⟩ := am_bind hF
      refine am_iast (pc' := 97) dX1_choose_96 eh5 rfl ?_
      refine am_iinc (ls' := [some (.ref v0), none, some (.int v2), some (.int v3), some (.int v4), some (.int (v5 + (1 : Int32)))]) (pc' := 100) (v := (v5 + (1 : Int32))) dX1_choose_97 rfl rfl (Nat.le_of_ble_eq_true rfl) rfl rfl ?_
      refine am_goto (pc' := 73) dX1_choose_100 rfl ?_
      exact w_X1_choose_73 j65 n v0 v2 v3 v4 (v5 + (1 : Int32)) h5 hF
def F_X1_choose_65 : Nat → Nat → Int32 → Int32 → Int32 → am_H → Option (Int32 × am_H)
  | 0, _, _, _, _, _ => none
  | n + 1, v0, v2, v3, v4, h =>
  if v4 < 0 then
    (am_gr 1 2 v0 h).bind fun x2 =>
    (am_al 5 x2 (0 : Int32) h).bind fun x3 =>
    (am_il 0 x3 v3 h).bind fun x4 =>
    if x4 < (1000000 : Int32) then
      (F_X1_tell v0 v2 v3 h).bind fun h6 =>
      some ((1 : Int32), h6)
    else
      some ((0 : Int32), h)
  else
    F_X1_choose_73 (F_X1_choose_65 n) am_F v0 v2 v3 v4 (0 : Int32) h
theorem w_X1_choose_65 {g : am_G} {l : Launch} {h0 : am_H} {x : Int32} {hf : am_H}  : ∀ (n : Nat) (v0 : Nat) (v2 : Int32) (v3 : Int32) (v4 : Int32) (h : am_H), F_X1_choose_65 n v0 v2 v3 v4 h = some (x, hf) → am_W g l M_X1_choose h0 (some (.int x)) hf 65 [some (.ref v0), none, some (.int v2), some (.int v3), some (.int v4), none] [] h
  | 0, _, _, _, _, _, hF => by cases hF
  | n + 1, v0, v2, v3, v4, h, hF => by
    rw [F_X1_choose_65] at hF
    refine am_iload (pc' := 67) dX1_choose_65 rfl rfl ?_
    rcases am_ite hF with ⟨z1, hF⟩ | ⟨z1, hF⟩
    · refine am_if_lt_t (pc' := 109) dX1_choose_67 rfl z1 ?_
      refine am_aload_n (pc' := 110) dX1_choose_109 rfl rfl ?_
      obtain ⟨x2, ex2, hF⟩ := am_bind hF
      refine am_getr (pc' := 113) dX1_choose_110 fw_X1_25 ex2 rfl ?_
      refine am_iconst (v := (0 : Int32)) (pc' := 114) dX1_choose_113 rfl rfl ?_
      obtain ⟨x3, ex3, hF⟩ := am_bind hF
      refine am_aald5 (pc' := 115) dX1_choose_114 ex3 rfl ?_
      refine am_iload_n (pc' := 116) dX1_choose_115 rfl rfl ?_
      obtain ⟨x4, ex4, hF⟩ := am_bind hF
      refine am_iald (pc' := 117) dX1_choose_116 ex4 rfl ?_
      refine am_ldc (v := (1000000 : Int32)) (pc' := 119) dX1_choose_117 wd_3_203 rfl ?_
      rcases am_ite hF with ⟨z5, hF⟩ | ⟨z5, hF⟩
      · refine am_icmp_lt_t (pc' := 124) dX1_choose_119 rfl z5 ?_
        refine am_aload_n (pc' := 125) dX1_choose_124 rfl rfl ?_
        refine am_iload_n (pc' := 126) dX1_choose_125 rfl rfl ?_
        refine am_iload_n (pc' := 127) dX1_choose_126 rfl rfl ?_
        obtain ⟨h6, eh6, hF⟩ := am_bind hF
        obtain ⟨oh6, ph6⟩ := t_X1_tell eh6
        refine am_callV0 (Mc := M_X1_tell) (As := [.int v2, .int v3]) (st := []) (pc' := 130) dX1_choose_127 cw_X1_70 wd_3_210 sl_X1_tell ⟨_, rfl, rfl⟩ (by decide) (by decide) rfl rfl (Nat.le_of_ble_eq_true rfl) ph6 (c_X1_tell eh6) rfl ?_
        refine am_iconst (v := (1 : Int32)) (pc' := 131) dX1_choose_130 rfl rfl ?_
        cases hF
        exact am_iret dX1_choose_131 rfl rfl
      · refine am_icmp_lt_f (pc' := 122) (tgt := 124) dX1_choose_119 rfl z5 rfl ?_
        refine am_iconst (v := (0 : Int32)) (pc' := 123) dX1_choose_122 rfl rfl ?_
        cases hF
        exact am_iret dX1_choose_123 rfl rfl
    · refine am_if_lt_f (pc' := 70) (tgt := 109) dX1_choose_67 rfl z1 rfl ?_
      refine am_iconst (v := (0 : Int32)) (pc' := 71) dX1_choose_70 rfl rfl ?_
      refine am_istore (ls' := [some (.ref v0), none, some (.int v2), some (.int v3), some (.int v4), some (.int (0 : Int32))]) (pc' := 73) dX1_choose_71 (Nat.le_of_ble_eq_true rfl) rfl rfl ?_
      exact w_X1_choose_73 (w_X1_choose_65 n) am_F v0 v2 v3 v4 (0 : Int32) h hF
def F_X1_choose_38 : Nat → Nat → Int32 → Int32 → Int32 → am_H → Option (Int32 × am_H)
  | 0, _, _, _, _, _ => none
  | n + 1, v0, v2, v3, v4, h =>
  if v3 < v4 then
    F_X1_choose_65 am_F v0 v2 v3 (v2 - (1 : Int32)) h
  else
    (am_gr 1 2 v0 h).bind fun x2 =>
    (am_al 5 x2 v2 h).bind fun x3 =>
    (am_is 0 x3 v4 (0 : Int32) h).bind fun h4 =>
    F_X1_choose_38 n v0 v2 v3 (v4 + (1 : Int32)) h4
theorem w_X1_choose_38 {g : am_G} {l : Launch} {h0 : am_H} {x : Int32} {hf : am_H}  : ∀ (n : Nat) (v0 : Nat) (v2 : Int32) (v3 : Int32) (v4 : Int32) (h : am_H), F_X1_choose_38 n v0 v2 v3 v4 h = some (x, hf) → am_W g l M_X1_choose h0 (some (.int x)) hf 38 [some (.ref v0), none, some (.int v2), some (.int v3), some (.int v4), none] [] h
  | 0, _, _, _, _, _, hF => by cases hF
  | n + 1, v0, v2, v3, v4, h, hF => by
    rw [F_X1_choose_38] at hF
    refine am_iload (pc' := 40) dX1_choose_38 rfl rfl ?_
    refine am_iload_n (pc' := 41) dX1_choose_40 rfl rfl ?_
    rcases am_ite hF with ⟨z1, hF⟩ | ⟨z1, hF⟩
    · refine am_icmp_gt_t (pc' := 60) dX1_choose_41 rfl z1 ?_
      refine am_iload_n (pc' := 61) dX1_choose_60 rfl rfl ?_
      refine am_iconst (v := (1 : Int32)) (pc' := 62) dX1_choose_61 rfl rfl ?_
      refine am_isub (pc' := 63) dX1_choose_62 rfl ?_
      refine am_istore (ls' := [some (.ref v0), none, some (.int v2), some (.int v3), some (.int (v2 - (1 : Int32))), none]) (pc' := 65) dX1_choose_63 (Nat.le_of_ble_eq_true rfl) rfl rfl ?_
      exact w_X1_choose_65 am_F v0 v2 v3 (v2 - (1 : Int32)) h hF
    · refine am_icmp_gt_f (pc' := 44) (tgt := 60) dX1_choose_41 rfl z1 rfl ?_
      refine am_aload_n (pc' := 45) dX1_choose_44 rfl rfl ?_
      obtain ⟨x2, ex2, hF⟩ := am_bind hF
      refine am_getr (pc' := 48) dX1_choose_45 fw_X1_25 ex2 rfl ?_
      refine am_iload_n (pc' := 49) dX1_choose_48 rfl rfl ?_
      obtain ⟨x3, ex3, hF⟩ := am_bind hF
      refine am_aald5 (pc' := 50) dX1_choose_49 ex3 rfl ?_
      refine am_iload (pc' := 52) dX1_choose_50 rfl rfl ?_
      refine am_iconst (v := (0 : Int32)) (pc' := 53) dX1_choose_52 rfl rfl ?_
      obtain ⟨h4, eh4, hF⟩ := am_bind hF
      refine am_iast (pc' := 54) dX1_choose_53 eh4 rfl ?_
      refine am_iinc (ls' := [some (.ref v0), none, some (.int v2), some (.int v3), some (.int (v4 + (1 : Int32))), none]) (pc' := 57) (v := (v4 + (1 : Int32))) dX1_choose_54 rfl rfl (Nat.le_of_ble_eq_true rfl) rfl rfl ?_
      refine am_goto (pc' := 38) dX1_choose_57 rfl ?_
      exact w_X1_choose_38 n v0 v2 v3 (v4 + (1 : Int32)) h4 hF
def F_X1_choose_b (v0 : Nat) (v1 : Int32) (h : am_H) : Option (Int32 × am_H) :=
  (am_gr 1 0 v0 h).bind fun x1 =>
  (F_X4_length x1 h).bind fun x2 =>
  (F_J9_min_7cf53 (x2 / (5 : Int32)) (8 : Int32) h).bind fun x3 =>
  (F_X1_timeOfSmallest v0 x3 h).bind fun x4 =>
  (F_J9_min_7cf53 x4 (1152 : Int32) h).bind fun x5 =>
  (F_J9_min_7cf53 v1 x5 h).bind fun x6 =>
  (F_J9_max_7cf53 (0 : Int32) x6 h).bind fun x7 =>
  F_X1_choose_38 am_F v0 x3 x7 (0 : Int32) h
theorem w_X1_choose {g : am_G} {l : Launch} {h0 : am_H} {x : Int32} {hf : am_H}  (v0 : Nat) (v1 : Int32) (h : am_H) (hF : F_X1_choose_b v0 v1 h = some (x, hf)) : am_W g l M_X1_choose h0 (some (.int x)) hf 0 [some (.ref v0), some (.int v1), none, none, none, none] [] h := by
  unfold F_X1_choose_b at hF
  refine am_aload_n (pc' := 1) dX1_choose_0 rfl rfl ?_
  obtain ⟨x1, ex1, hF⟩ := am_bind hF
  refine am_getr (pc' := 4) dX1_choose_1 fw_X1_14 ex1 rfl ?_
  obtain ⟨x2, ex2, hF⟩ := am_bind hF
  obtain ⟨ox2, px2⟩ := t_X4_length ex2
  refine am_callV1 (Mc := M_X4_length) (As := []) (st := []) (pc' := 7) dX1_choose_4 cw_X1_49 wd_1_235 wd_1_236 ⟨_, rfl, rfl⟩ (by decide) (by decide) rfl rfl (Nat.le_of_ble_eq_true rfl) px2 (c_X4_length ex2) rfl ?_
  refine am_iconst (v := (5 : Int32)) (pc' := 8) dX1_choose_7 rfl rfl ?_
  refine am_idiv (pc' := 9) dX1_choose_8 (by decide) rfl ?_
  refine am_bipush (v := (8 : Int32)) (pc' := 11) dX1_choose_9 rfl rfl ?_
  obtain ⟨x3, ex3, hF⟩ := am_bind hF
  refine am_callS1 (Mc := M_J9_min_7cf53) (As := [.int (x2 / (5 : Int32)), .int (8 : Int32)]) (st := []) (pc' := 14) dX1_choose_11 cw_X1_53 wd_2_21 (by decide) (by decide) rfl rfl (Nat.le_of_ble_eq_true rfl) (c_J9_min_7cf53 ex3) rfl ?_
  refine am_istore_n (ls' := [some (.ref v0), some (.int v1), some (.int x3), none, none, none]) (pc' := 15) dX1_choose_14 (Nat.le_of_ble_eq_true rfl) rfl rfl ?_
  refine am_iconst (v := (0 : Int32)) (pc' := 16) dX1_choose_15 rfl rfl ?_
  refine am_iload_n (pc' := 17) dX1_choose_16 rfl rfl ?_
  refine am_aload_n (pc' := 18) dX1_choose_17 rfl rfl ?_
  refine am_iload_n (pc' := 19) dX1_choose_18 rfl rfl ?_
  obtain ⟨x4, ex4, hF⟩ := am_bind hF
  obtain ⟨ox4, px4⟩ := t_X1_timeOfSmallest ex4
  refine am_callV1 (Mc := M_X1_timeOfSmallest) (As := [.int x3]) (st := [.int v1, .int (0 : Int32)]) (pc' := 22) dX1_choose_19 cw_X1_59 wd_3_195 sl_X1_timeOfSmallest ⟨_, rfl, rfl⟩ (by decide) (by decide) rfl rfl (Nat.le_of_ble_eq_true rfl) px4 (c_X1_timeOfSmallest ex4) rfl ?_
  refine am_sipush (v := (1152 : Int32)) (pc' := 25) dX1_choose_22 rfl rfl ?_
  obtain ⟨x5, ex5, hF⟩ := am_bind hF
  refine am_callS1 (Mc := M_J9_min_7cf53) (As := [.int x4, .int (1152 : Int32)]) (st := [.int v1, .int (0 : Int32)]) (pc' := 28) dX1_choose_25 cw_X1_53 wd_2_21 (by decide) (by decide) rfl rfl (Nat.le_of_ble_eq_true rfl) (c_J9_min_7cf53 ex5) rfl ?_
  obtain ⟨x6, ex6, hF⟩ := am_bind hF
  refine am_callS1 (Mc := M_J9_min_7cf53) (As := [.int v1, .int x5]) (st := [.int (0 : Int32)]) (pc' := 31) dX1_choose_28 cw_X1_53 wd_2_21 (by decide) (by decide) rfl rfl (Nat.le_of_ble_eq_true rfl) (c_J9_min_7cf53 ex6) rfl ?_
  obtain ⟨x7, ex7, hF⟩ := am_bind hF
  refine am_callS1 (Mc := M_J9_max_7cf53) (As := [.int (0 : Int32), .int x6]) (st := []) (pc' := 34) dX1_choose_31 cw_X1_63 wd_1_28 (by decide) (by decide) rfl rfl (Nat.le_of_ble_eq_true rfl) (c_J9_max_7cf53 ex7) rfl ?_
  refine am_istore_n (ls' := [some (.ref v0), some (.int v1), some (.int x3), some (.int x7), none, none]) (pc' := 35) dX1_choose_34 (Nat.le_of_ble_eq_true rfl) rfl rfl ?_
  refine am_iconst (v := (0 : Int32)) (pc' := 36) dX1_choose_35 rfl rfl ?_
  refine am_istore (ls' := [some (.ref v0), some (.int v1), some (.int x3), some (.int x7), some (.int (0 : Int32)), none]) (pc' := 38) dX1_choose_36 (Nat.le_of_ble_eq_true rfl) rfl rfl ?_
  exact am_weak [true, false, true, true, true, false] (w_X1_choose_38 am_F v0 x3 x7 (0 : Int32) h hF)
def F_X1_choose (v0 : Nat) (v1 : Int32) (h : am_H) : Option (Int32 × am_H) := (am_obj v0 1 h).bind fun _ => F_X1_choose_b v0 v1 h
theorem t_X1_choose {x : Int32} {hf : am_H}  {v0 : Nat} {v1 : Int32} {h : am_H} (hF : F_X1_choose v0 v1 h = some (x, hf)) : ∃ fs, am_obj v0 1 h = some fs := by
  obtain ⟨fs, e, _⟩ := am_bind hF
  exact ⟨fs, e⟩
theorem c_X1_choose {g : am_G} {l : Launch} {x : Int32} {hf : am_H}  {v0 : Nat} {v1 : Int32} {h : am_H} (hF : F_X1_choose v0 v1 h = some (x, hf)) : am_Met g l M_X1_choose [.ref v0, .int v1] h (some (.int x)) hf := by
  obtain ⟨fs, e0, e⟩ := am_bind hF
  exact am_met (n := 4) (by decide +kernel) rfl (Nat.le_of_ble_eq_true rfl) (w_X1_choose v0 v1 h e)
theorem cw_X8_253 : am_cw "SignCellar" 253 M_X1_begin 0 := ⟨wd_1_8, wd_3_180, ⟨by decide, by decide, by decide⟩, Or.inl wd_3_177⟩
theorem cw_X8_256 : am_cw "SignCellar" 256 M_X1_addBlock 1 := ⟨wd_1_8, wd_3_185, ⟨by decide, by decide, by decide⟩, Or.inl wd_3_182⟩
theorem cw_X8_259 : am_cw "SignCellar" 259 M_X1_choose 1 := ⟨wd_1_8, wd_3_190, ⟨by decide, by decide, by decide⟩, Or.inl wd_3_187⟩
theorem fw_X8_262 : am_fw "SignCellar" 262 1 4 := ⟨(RX1, TX1, 6), rfl, by decide, inX1, Or.inr ⟨_, wd_1_164⟩⟩
theorem fw_X8_265 : am_fw "SignCellar" 265 1 5 := ⟨(RX1, TX1, 6), rfl, by decide, inX1, Or.inr ⟨_, wd_1_166⟩⟩
theorem fw_X8_268 : am_fw "SignCellar" 268 1 3 := ⟨(RX1, TX1, 6), rfl, by decide, inX1, Or.inr ⟨_, wd_1_162⟩⟩
theorem fw_X8_88 : am_fw "SignCellar" 88 8 15 := ⟨(RX8, TX8, 16), rfl, by decide, inX8, Or.inl wd_1_195⟩
def F_X8_best_32 (h : am_H) : Option (Int32 × am_H) :=
  some ((-100002 : Int32), h)
theorem w_X8_best_32 {g : am_G} {l : Launch} {h0 : am_H} {x : Int32} {hf : am_H}  (h : am_H) (hF : F_X8_best_32 h = some (x, hf)) : am_W g l M_X8_best h0 (some (.int x)) hf 32 [none, none, none, none, none, none, none] [] h := by
  unfold F_X8_best_32 at hF
  refine am_ldc (v := (-100002 : Int32)) (pc' := 34) dX8_best_32 wd_1_233 rfl ?_
  cases hF
  exact am_iret dX8_best_34 rfl rfl
def F_X8_best_106 (k57 : Nat → Int32 → Int32 → Nat → Int32 → am_H → Option (Int32 × am_H)) (v0 : Nat) (v2 : Int32) (v3 : Int32) (v4 : Nat) (v5 : Int32) (h : am_H) : Option (Int32 × am_H) :=
  k57 v0 v2 v3 v4 (v5 + (1 : Int32)) h
theorem w_X8_best_106 {g : am_G} {l : Launch} {h0 : am_H} {x : Int32} {hf : am_H}  {k57 : Nat → Int32 → Int32 → Nat → Int32 → am_H → Option (Int32 × am_H)} (j57 : ∀ (v0 : Nat) (v2 : Int32) (v3 : Int32) (v4 : Nat) (v5 : Int32) (h : am_H), k57 v0 v2 v3 v4 v5 h = some (x, hf) → am_W g l M_X8_best h0 (some (.int x)) hf 57 [some (.ref v0), none, some (.int v2), some (.int v3), some (.ref v4), some (.int v5), none] [] h) (v0 : Nat) (v2 : Int32) (v3 : Int32) (v4 : Nat) (v5 : Int32) (h : am_H) (hF : F_X8_best_106 k57 v0 v2 v3 v4 v5 h = some (x, hf)) : am_W g l M_X8_best h0 (some (.int x)) hf 106 [some (.ref v0), none, some (.int v2), some (.int v3), some (.ref v4), some (.int v5), none] [] h := by
  unfold F_X8_best_106 at hF
  refine am_iinc (ls' := [some (.ref v0), none, some (.int v2), some (.int v3), some (.ref v4), some (.int (v5 + (1 : Int32))), none]) (pc' := 109) (v := (v5 + (1 : Int32))) dX8_best_106 rfl rfl (Nat.le_of_ble_eq_true rfl) rfl rfl ?_
  refine am_goto (pc' := 57) dX8_best_109 rfl ?_
  exact j57 v0 v2 v3 v4 (v5 + (1 : Int32)) h hF
def F_X8_best_166 (s0 : Int32) (h : am_H) : Option (Int32 × am_H) :=
  some (s0, h)
theorem w_X8_best_166 {g : am_G} {l : Launch} {h0 : am_H} {x : Int32} {hf : am_H}  (s0 : Int32) (h : am_H) (hF : F_X8_best_166 s0 h = some (x, hf)) : am_W g l M_X8_best h0 (some (.int x)) hf 166 [none, none, none, none, none, none, none] [.int s0] h := by
  unfold F_X8_best_166 at hF
  cases hF
  exact am_iret dX8_best_166 rfl rfl
def F_X8_best_57 : Nat → Nat → Int32 → Int32 → Nat → Int32 → am_H → Option (Int32 × am_H)
  | 0, _, _, _, _, _, _ => none
  | n + 1, v0, v2, v3, v4, v5, h =>
  (am_gr 7 0 v4 h).bind fun x1 =>
  (F_X4_length x1 h).bind fun x2 =>
  if x2 ≤ v5 then
    (am_gr 8 15 v0 h).bind fun x4 =>
    (F_X1_choose x4 v2 h).bind fun q5 =>
    if q5.1 = 0 then
      some ((-100003 : Int32), q5.2)
    else
      if v3 = (-1 : Int32) then
        (am_gr 8 15 v0 q5.2).bind fun x8 =>
        (am_gi 1 4 x8 q5.2).bind fun x9 =>
        some (x9, q5.2)
      else
        if v3 = (-2 : Int32) then
          (am_gr 8 15 v0 q5.2).bind fun x11 =>
          (am_gi 1 5 x11 q5.2).bind fun x12 =>
          F_X8_best_166 x12 q5.2
        else
          (am_gr 8 15 v0 q5.2).bind fun x13 =>
          (am_gr 1 3 x13 q5.2).bind fun x14 =>
          (F_X4_at x14 v3 q5.2).bind fun x15 =>
          F_X8_best_166 x15 q5.2
  else
    (am_gr 7 0 v4 h).bind fun x16 =>
    (F_X4_at x16 v5 h).bind fun x17 =>
    (F_X8_blockOf v0 x17 h).bind fun x18 =>
    if x18 = 0 then
      F_X8_best_106 (F_X8_best_57 n) v0 v2 v3 v4 v5 h
    else
      (F_X8_weigh v0 x18 h).bind fun h20 =>
      (am_gr 8 15 v0 h20).bind fun x21 =>
      (F_X1_addBlock x21 x18 h20).bind fun h22 =>
      F_X8_best_106 (F_X8_best_57 n) v0 v2 v3 v4 v5 h22
theorem w_X8_best_57 {g : am_G} {l : Launch} {h0 : am_H} {x : Int32} {hf : am_H}  : ∀ (n : Nat) (v0 : Nat) (v2 : Int32) (v3 : Int32) (v4 : Nat) (v5 : Int32) (h : am_H), F_X8_best_57 n v0 v2 v3 v4 v5 h = some (x, hf) → am_W g l M_X8_best h0 (some (.int x)) hf 57 [some (.ref v0), none, some (.int v2), some (.int v3), some (.ref v4), some (.int v5), none] [] h
  | 0, _, _, _, _, _, _, hF => by cases hF
  | n + 1, v0, v2, v3, v4, v5, h, hF => by
    rw [F_X8_best_57] at hF
    refine am_iload (pc' := 59) dX8_best_57 rfl rfl ?_
    refine am_aload (pc' := 61) dX8_best_59 rfl rfl ?_
    obtain ⟨x1, ex1, hF⟩ := am_bind hF
    refine am_getr (pc' := 64) dX8_best_61 fw_X8_148 ex1 rfl ?_
    obtain ⟨x2, ex2, hF⟩ := am_bind hF
    obtain ⟨ox2, px2⟩ := t_X4_length ex2
    refine am_callV1 (Mc := M_X4_length) (As := []) (st := [.int v5]) (pc' := 67) dX8_best_64 cw_X8_93 wd_1_235 wd_1_236 ⟨_, rfl, rfl⟩ (by decide) (by decide) rfl rfl (Nat.le_of_ble_eq_true rfl) px2 (c_X4_length ex2) rfl ?_
    rcases am_ite hF with ⟨z3, hF⟩ | ⟨z3, hF⟩
    · refine am_icmp_ge_t (pc' := 112) dX8_best_67 rfl z3 ?_
      refine am_aload_n (pc' := 113) dX8_best_112 rfl rfl ?_
      obtain ⟨x4, ex4, hF⟩ := am_bind hF
      refine am_getr (pc' := 116) dX8_best_113 fw_X8_88 ex4 rfl ?_
      refine am_iload_n (pc' := 117) dX8_best_116 rfl rfl ?_
      obtain ⟨q5, eq5, hF⟩ := am_bind hF
      obtain ⟨oq5, pq5⟩ := t_X1_choose eq5
      refine am_callV1 (Mc := M_X1_choose) (As := [.int v2]) (st := []) (pc' := 120) dX8_best_117 cw_X8_259 wd_3_188 wd_3_189 ⟨_, rfl, rfl⟩ (by decide) (by decide) rfl rfl (Nat.le_of_ble_eq_true rfl) pq5 (c_X1_choose eq5) rfl ?_
      rcases am_ite hF with ⟨z6, hF⟩ | ⟨z6, hF⟩
      · refine am_if_ne_f (pc' := 123) (tgt := 126) dX8_best_120 rfl z6 rfl ?_
        refine am_ldc (v := (-100003 : Int32)) (pc' := 125) dX8_best_123 wd_2_7 rfl ?_
        cases hF
        exact am_iret dX8_best_125 rfl rfl
      · refine am_if_ne_t (pc' := 126) dX8_best_120 rfl z6 ?_
        refine am_iload_n (pc' := 127) dX8_best_126 rfl rfl ?_
        refine am_iconst (v := (-1 : Int32)) (pc' := 128) dX8_best_127 rfl rfl ?_
        rcases am_ite hF with ⟨z7, hF⟩ | ⟨z7, hF⟩
        · refine am_icmp_ne_f (pc' := 131) (tgt := 139) dX8_best_128 rfl z7 rfl ?_
          refine am_aload_n (pc' := 132) dX8_best_131 rfl rfl ?_
          obtain ⟨x8, ex8, hF⟩ := am_bind hF
          refine am_getr (pc' := 135) dX8_best_132 fw_X8_88 ex8 rfl ?_
          obtain ⟨x9, ex9, hF⟩ := am_bind hF
          refine am_geti (pc' := 138) dX8_best_135 fw_X8_262 ex9 rfl ?_
          cases hF
          exact am_iret dX8_best_138 rfl rfl
        · refine am_icmp_ne_t (pc' := 139) dX8_best_128 rfl z7 ?_
          refine am_iload_n (pc' := 140) dX8_best_139 rfl rfl ?_
          refine am_bipush (v := (-2 : Int32)) (pc' := 142) dX8_best_140 rfl rfl ?_
          rcases am_ite hF with ⟨z10, hF⟩ | ⟨z10, hF⟩
          · refine am_icmp_ne_f (pc' := 145) (tgt := 155) dX8_best_142 rfl z10 rfl ?_
            refine am_aload_n (pc' := 146) dX8_best_145 rfl rfl ?_
            obtain ⟨x11, ex11, hF⟩ := am_bind hF
            refine am_getr (pc' := 149) dX8_best_146 fw_X8_88 ex11 rfl ?_
            obtain ⟨x12, ex12, hF⟩ := am_bind hF
            refine am_geti (pc' := 152) dX8_best_149 fw_X8_265 ex12 rfl ?_
            refine am_goto (pc' := 166) dX8_best_152 rfl ?_
            exact am_weak [false, false, false, false, false, false, false] (w_X8_best_166 x12 q5.2 hF)
          · refine am_icmp_ne_t (pc' := 155) dX8_best_142 rfl z10 ?_
            refine am_aload_n (pc' := 156) dX8_best_155 rfl rfl ?_
            obtain ⟨x13, ex13, hF⟩ := am_bind hF
            refine am_getr (pc' := 159) dX8_best_156 fw_X8_88 ex13 rfl ?_
            obtain ⟨x14, ex14, hF⟩ := am_bind hF
            refine am_getr (pc' := 162) dX8_best_159 fw_X8_268 ex14 rfl ?_
            refine am_iload_n (pc' := 163) dX8_best_162 rfl rfl ?_
            obtain ⟨x15, ex15, hF⟩ := am_bind hF
            obtain ⟨ox15, px15⟩ := t_X4_at ex15
            refine am_callV1 (Mc := M_X4_at) (As := [.int v3]) (st := []) (pc' := 166) dX8_best_163 cw_X8_161 wd_2_40 wd_2_41 ⟨_, rfl, rfl⟩ (by decide) (by decide) rfl rfl (Nat.le_of_ble_eq_true rfl) px15 (c_X4_at ex15) rfl ?_
            exact am_weak [false, false, false, false, false, false, false] (w_X8_best_166 x15 q5.2 hF)
    · refine am_icmp_ge_f (pc' := 70) (tgt := 112) dX8_best_67 rfl z3 rfl ?_
      refine am_aload_n (pc' := 71) dX8_best_70 rfl rfl ?_
      refine am_aload (pc' := 73) dX8_best_71 rfl rfl ?_
      obtain ⟨x16, ex16, hF⟩ := am_bind hF
      refine am_getr (pc' := 76) dX8_best_73 fw_X8_148 ex16 rfl ?_
      refine am_iload (pc' := 78) dX8_best_76 rfl rfl ?_
      obtain ⟨x17, ex17, hF⟩ := am_bind hF
      obtain ⟨ox17, px17⟩ := t_X4_at ex17
      refine am_callV1 (Mc := M_X4_at) (As := [.int v5]) (st := [.ref v0]) (pc' := 81) dX8_best_78 cw_X8_161 wd_2_40 wd_2_41 ⟨_, rfl, rfl⟩ (by decide) (by decide) rfl rfl (Nat.le_of_ble_eq_true rfl) px17 (c_X4_at ex17) rfl ?_
      obtain ⟨x18, ex18, hF⟩ := am_bind hF
      obtain ⟨ox18, px18⟩ := t_X8_blockOf ex18
      refine am_callV1 (Mc := M_X8_blockOf) (As := [.int x17]) (st := []) (pc' := 84) dX8_best_81 cw_X8_176 wd_2_33 sl_X8_blockOf ⟨_, rfl, rfl⟩ (by decide) (by decide) rfl rfl (Nat.le_of_ble_eq_true rfl) px18 (c_X8_blockOf ex18) rfl ?_
      refine am_astore (ls' := [some (.ref v0), none, some (.int v2), some (.int v3), some (.ref v4), some (.int v5), some (.ref x18)]) (pc' := 86) dX8_best_84 (Nat.le_of_ble_eq_true rfl) rfl rfl ?_
      refine am_aload (pc' := 88) dX8_best_86 rfl rfl ?_
      rcases am_ite hF with ⟨z19, hF⟩ | ⟨z19, hF⟩
      · refine am_ifnull_t (pc' := 106) dX8_best_88 rfl z19 ?_
        exact am_weak [true, false, true, true, true, true, false] (w_X8_best_106 (w_X8_best_57 n) v0 v2 v3 v4 v5 h hF)
      · refine am_ifnull_f (pc' := 91) dX8_best_88 z19 rfl ?_
        refine am_aload_n (pc' := 92) dX8_best_91 rfl rfl ?_
        refine am_aload (pc' := 94) dX8_best_92 rfl rfl ?_
        obtain ⟨h20, eh20, hF⟩ := am_bind hF
        obtain ⟨oh20, ph20⟩ := t_X8_weigh eh20
        refine am_callV0 (Mc := M_X8_weigh) (As := [.ref x18]) (st := []) (pc' := 97) dX8_best_94 cw_X8_208 wd_2_238 sl_X8_weigh ⟨_, rfl, rfl⟩ (by decide) (by decide) rfl rfl (Nat.le_of_ble_eq_true rfl) ph20 (c_X8_weigh eh20) rfl ?_
        refine am_aload_n (pc' := 98) dX8_best_97 rfl rfl ?_
        obtain ⟨x21, ex21, hF⟩ := am_bind hF
        refine am_getr (pc' := 101) dX8_best_98 fw_X8_88 ex21 rfl ?_
        refine am_aload (pc' := 103) dX8_best_101 rfl rfl ?_
        obtain ⟨h22, eh22, hF⟩ := am_bind hF
        obtain ⟨oh22, ph22⟩ := t_X1_addBlock eh22
        refine am_callV0 (Mc := M_X1_addBlock) (As := [.ref x18]) (st := []) (pc' := 106) dX8_best_103 cw_X8_256 wd_3_183 wd_3_184 ⟨_, rfl, rfl⟩ (by decide) (by decide) rfl rfl (Nat.le_of_ble_eq_true rfl) ph22 (c_X1_addBlock eh22) rfl ?_
        exact am_weak [true, false, true, true, true, true, false] (w_X8_best_106 (w_X8_best_57 n) v0 v2 v3 v4 v5 h22 hF)
def F_X8_best_b (v0 : Nat) (v1 : Int32) (v2 : Int32) (v3 : Int32) (h : am_H) : Option (Int32 × am_H) :=
  (F_X8_versionOf v0 v1 h).bind fun x1 =>
  if x1 = 0 then
    some ((-100001 : Int32), h)
  else
    if v2 < 0 then
      F_X8_best_32 h
    else
      if (9999 : Int32) < v2 then
        F_X8_best_32 h
      else
        if (-2 : Int32) ≤ v3 then
          (F_X8_tornBlocks v0 x1 h).bind fun x6 =>
          if x6 ≤ 0 then
            (am_gr 8 15 v0 h).bind fun x8 =>
            (F_X1_begin x8 h).bind fun h9 =>
            F_X8_best_57 am_F v0 v2 v3 x1 (0 : Int32) h9
          else
            some ((-100005 : Int32), h)
        else
          F_X8_best_32 h
theorem w_X8_best {g : am_G} {l : Launch} {h0 : am_H} {x : Int32} {hf : am_H}  (v0 : Nat) (v1 : Int32) (v2 : Int32) (v3 : Int32) (h : am_H) (hF : F_X8_best_b v0 v1 v2 v3 h = some (x, hf)) : am_W g l M_X8_best h0 (some (.int x)) hf 0 [some (.ref v0), some (.int v1), some (.int v2), some (.int v3), none, none, none] [] h := by
  unfold F_X8_best_b at hF
  refine am_aload_n (pc' := 1) dX8_best_0 rfl rfl ?_
  refine am_iload_n (pc' := 2) dX8_best_1 rfl rfl ?_
  obtain ⟨x1, ex1, hF⟩ := am_bind hF
  obtain ⟨ox1, px1⟩ := t_X8_versionOf ex1
  refine am_callV1 (Mc := M_X8_versionOf) (As := [.int v1]) (st := []) (pc' := 5) dX8_best_2 cw_X8_126 wd_2_135 sl_X8_versionOf ⟨_, rfl, rfl⟩ (by decide) (by decide) rfl rfl (Nat.le_of_ble_eq_true rfl) px1 (c_X8_versionOf ex1) rfl ?_
  refine am_astore (ls' := [some (.ref v0), some (.int v1), some (.int v2), some (.int v3), some (.ref x1), none, none]) (pc' := 7) dX8_best_5 (Nat.le_of_ble_eq_true rfl) rfl rfl ?_
  refine am_aload (pc' := 9) dX8_best_7 rfl rfl ?_
  rcases am_ite hF with ⟨z2, hF⟩ | ⟨z2, hF⟩
  · refine am_ifnonnull_f (pc' := 12) dX8_best_9 z2 rfl ?_
    refine am_ldc (v := (-100001 : Int32)) (pc' := 14) dX8_best_12 wd_2_137 rfl ?_
    cases hF
    exact am_iret dX8_best_14 rfl rfl
  · refine am_ifnonnull_t (pc' := 15) dX8_best_9 rfl z2 ?_
    refine am_iload_n (pc' := 16) dX8_best_15 rfl rfl ?_
    rcases am_ite hF with ⟨z3, hF⟩ | ⟨z3, hF⟩
    · refine am_if_lt_t (pc' := 32) dX8_best_16 rfl z3 ?_
      exact am_weak [false, false, false, false, false, false, false] (w_X8_best_32 h hF)
    · refine am_if_lt_f (pc' := 19) (tgt := 32) dX8_best_16 rfl z3 rfl ?_
      refine am_iload_n (pc' := 20) dX8_best_19 rfl rfl ?_
      refine am_sipush (v := (9999 : Int32)) (pc' := 23) dX8_best_20 rfl rfl ?_
      rcases am_ite hF with ⟨z4, hF⟩ | ⟨z4, hF⟩
      · refine am_icmp_gt_t (pc' := 32) dX8_best_23 rfl z4 ?_
        exact am_weak [false, false, false, false, false, false, false] (w_X8_best_32 h hF)
      · refine am_icmp_gt_f (pc' := 26) (tgt := 32) dX8_best_23 rfl z4 rfl ?_
        refine am_iload_n (pc' := 27) dX8_best_26 rfl rfl ?_
        refine am_bipush (v := (-2 : Int32)) (pc' := 29) dX8_best_27 rfl rfl ?_
        rcases am_ite hF with ⟨z5, hF⟩ | ⟨z5, hF⟩
        · refine am_icmp_ge_t (pc' := 35) dX8_best_29 rfl z5 ?_
          refine am_aload_n (pc' := 36) dX8_best_35 rfl rfl ?_
          refine am_aload (pc' := 38) dX8_best_36 rfl rfl ?_
          obtain ⟨x6, ex6, hF⟩ := am_bind hF
          obtain ⟨ox6, px6⟩ := t_X8_tornBlocks ex6
          refine am_callV1 (Mc := M_X8_tornBlocks) (As := [.ref x1]) (st := []) (pc' := 41) dX8_best_38 cw_X8_157 wd_2_147 sl_X8_tornBlocks ⟨_, rfl, rfl⟩ (by decide) (by decide) rfl rfl (Nat.le_of_ble_eq_true rfl) px6 (c_X8_tornBlocks ex6) rfl ?_
          rcases am_ite hF with ⟨z7, hF⟩ | ⟨z7, hF⟩
          · refine am_if_le_t (pc' := 47) dX8_best_41 rfl z7 ?_
            refine am_aload_n (pc' := 48) dX8_best_47 rfl rfl ?_
            obtain ⟨x8, ex8, hF⟩ := am_bind hF
            refine am_getr (pc' := 51) dX8_best_48 fw_X8_88 ex8 rfl ?_
            obtain ⟨h9, eh9, hF⟩ := am_bind hF
            obtain ⟨oh9, ph9⟩ := t_X1_begin eh9
            refine am_callV0 (Mc := M_X1_begin) (As := []) (st := []) (pc' := 54) dX8_best_51 cw_X8_253 wd_3_178 wd_3_179 ⟨_, rfl, rfl⟩ (by decide) (by decide) rfl rfl (Nat.le_of_ble_eq_true rfl) ph9 (c_X1_begin eh9) rfl ?_
            refine am_iconst (v := (0 : Int32)) (pc' := 55) dX8_best_54 rfl rfl ?_
            refine am_istore (ls' := [some (.ref v0), some (.int v1), some (.int v2), some (.int v3), some (.ref x1), some (.int (0 : Int32)), none]) (pc' := 57) dX8_best_55 (Nat.le_of_ble_eq_true rfl) rfl rfl ?_
            exact am_weak [true, false, true, true, true, true, false] (w_X8_best_57 am_F v0 v2 v3 x1 (0 : Int32) h9 hF)
          · refine am_if_le_f (pc' := 44) (tgt := 47) dX8_best_41 rfl z7 rfl ?_
            refine am_ldc (v := (-100005 : Int32)) (pc' := 46) dX8_best_44 wd_2_153 rfl ?_
            cases hF
            exact am_iret dX8_best_46 rfl rfl
        · refine am_icmp_ge_f (pc' := 32) (tgt := 35) dX8_best_29 rfl z5 rfl ?_
          exact am_weak [false, false, false, false, false, false, false] (w_X8_best_32 h hF)
def F_X8_best (v0 : Nat) (v1 : Int32) (v2 : Int32) (v3 : Int32) (h : am_H) : Option (Int32 × am_H) := (am_obj v0 8 h).bind fun _ => F_X8_best_b v0 v1 v2 v3 h
theorem t_X8_best {x : Int32} {hf : am_H}  {v0 : Nat} {v1 : Int32} {v2 : Int32} {v3 : Int32} {h : am_H} (hF : F_X8_best v0 v1 v2 v3 h = some (x, hf)) : ∃ fs, am_obj v0 8 h = some fs := by
  obtain ⟨fs, e, _⟩ := am_bind hF
  exact ⟨fs, e⟩
theorem c_X8_best {g : am_G} {l : Launch} {x : Int32} {hf : am_H}  {v0 : Nat} {v1 : Int32} {v2 : Int32} {v3 : Int32} {h : am_H} (hF : F_X8_best v0 v1 v2 v3 h = some (x, hf)) : am_Met g l M_X8_best [.ref v0, .int v1, .int v2, .int v3] h (some (.int x)) hf := by
  obtain ⟨fs, e0, e⟩ := am_bind hF
  exact am_met (n := 3) (by decide +kernel) rfl (Nat.le_of_ble_eq_true rfl) (w_X8_best v0 v1 v2 v3 h e)
def F_X9_at_b (v0 : Int32) (v1 : Int32) (h : am_H) : Option Int32 :=
  some (((1201 : Int32) * v0) + v1)
theorem w_X9_at {g : am_G} {l : Launch} {h0 : am_H} {x : Int32}  (v0 : Int32) (v1 : Int32) (h : am_H) (hF : F_X9_at_b v0 v1 h = some x) : am_W g l M_X9_at h0 (some (.int x)) h 0 [some (.int v0), some (.int v1)] [] h := by
  unfold F_X9_at_b at hF
  refine am_sipush (v := (1201 : Int32)) (pc' := 3) dX9_at_0 rfl rfl ?_
  refine am_iload_n (pc' := 4) dX9_at_3 rfl rfl ?_
  refine am_imul (pc' := 5) dX9_at_4 rfl ?_
  refine am_iload_n (pc' := 6) dX9_at_5 rfl rfl ?_
  refine am_iadd (pc' := 7) dX9_at_6 rfl ?_
  cases hF
  exact am_iret dX9_at_7 rfl rfl
def F_X9_at (v0 : Int32) (v1 : Int32) (h : am_H) : Option Int32 := F_X9_at_b v0 v1 h
theorem c_X9_at {g : am_G} {l : Launch} {x : Int32}  {v0 : Int32} {v1 : Int32} {h : am_H} (hF : F_X9_at v0 v1 h = some x) : am_Met g l M_X9_at [.int v0, .int v1] h (some (.int x)) h := by
  exact am_met (n := 0) (by decide +kernel) rfl (Nat.le_of_ble_eq_true rfl) (w_X9_at v0 v1 h hF)
theorem cw_X9_280 : am_cw "SignCellarModel" 280 M_X9_at 2 := ⟨wd_1_9, wd_5_226, ⟨by decide, by decide, by decide⟩, Or.inl wd_5_224⟩
theorem fw_X9_77 : am_fw "SignCellarModel" 77 9 36 := ⟨(RX9, TX9, 42), rfl, by decide, inX9, Or.inl wd_4_136⟩
theorem fw_X9_80 : am_fw "SignCellarModel" 80 9 37 := ⟨(RX9, TX9, 42), rfl, by decide, inX9, Or.inl wd_4_137⟩
theorem fw_X9_83 : am_fw "SignCellarModel" 83 9 38 := ⟨(RX9, TX9, 42), rfl, by decide, inX9, Or.inl wd_4_138⟩
def F_X9_findBest_17 (k9 : Nat → Int32 → Int32 → Int32 → am_H → Option am_H) : Nat → Nat → Int32 → Int32 → Int32 → Int32 → am_H → Option am_H
  | 0, _, _, _, _, _, _ => none
  | n + 1, v0, v1, v2, v3, v4, h =>
  if (5 : Int32) ≤ v4 then
    k9 v0 v1 v2 (v3 + (1 : Int32)) h
  else
    (am_gr 9 37 v0 h).bind fun x2 =>
    (F_X9_blockAt v0 v1 v3 h).bind fun x3 =>
    (F_X9_sizeBy v0 x3 v4 h).bind fun q4 =>
    (am_is 0 x2 (((5 : Int32) * v3) + v4) q4.1 q4.2).bind fun h5 =>
    (am_gr 9 38 v0 h5).bind fun x6 =>
    (F_X9_blockAt v0 v1 v3 h5).bind fun x7 =>
    (F_X9_timeBy v0 x7 v4 h5).bind fun q8 =>
    (am_is 0 x6 (((5 : Int32) * v3) + v4) q8.1 q8.2).bind fun h9 =>
    F_X9_findBest_17 k9 n v0 v1 v2 v3 (v4 + (1 : Int32)) h9
theorem w_X9_findBest_17 {g : am_G} {l : Launch} {h0 : am_H} {hf : am_H}  {k9 : Nat → Int32 → Int32 → Int32 → am_H → Option am_H} (j9 : ∀ (v0 : Nat) (v1 : Int32) (v2 : Int32) (v3 : Int32) (h : am_H), k9 v0 v1 v2 v3 h = some hf → am_W g l M_X9_findBest h0 none hf 9 [some (.ref v0), some (.int v1), some (.int v2), some (.int v3), none, none, none, none, none] [] h) : ∀ (n : Nat) (v0 : Nat) (v1 : Int32) (v2 : Int32) (v3 : Int32) (v4 : Int32) (h : am_H), F_X9_findBest_17 k9 n v0 v1 v2 v3 v4 h = some hf → am_W g l M_X9_findBest h0 none hf 17 [some (.ref v0), some (.int v1), some (.int v2), some (.int v3), some (.int v4), none, none, none, none] [] h
  | 0, _, _, _, _, _, _, hF => by cases hF
  | n + 1, v0, v1, v2, v3, v4, h, hF => by
    rw [F_X9_findBest_17] at hF
    refine am_iload (pc' := 19) dX9_findBest_17 rfl rfl ?_
    refine am_iconst (v := (5 : Int32)) (pc' := 20) dX9_findBest_19 rfl rfl ?_
    rcases am_ite hF with ⟨z1, hF⟩ | ⟨z1, hF⟩
    · refine am_icmp_ge_t (pc' := 75) dX9_findBest_20 rfl z1 ?_
      refine am_iinc (ls' := [some (.ref v0), some (.int v1), some (.int v2), some (.int (v3 + (1 : Int32))), some (.int v4), none, none, none, none]) (pc' := 78) (v := (v3 + (1 : Int32))) dX9_findBest_75 rfl rfl (Nat.le_of_ble_eq_true rfl) rfl rfl ?_
      refine am_goto (pc' := 9) dX9_findBest_78 rfl ?_
      exact am_weak [true, true, true, true, false, false, false, false, false] (j9 v0 v1 v2 (v3 + (1 : Int32)) h hF)
    · refine am_icmp_ge_f (pc' := 23) (tgt := 75) dX9_findBest_20 rfl z1 rfl ?_
      refine am_aload_n (pc' := 24) dX9_findBest_23 rfl rfl ?_
      obtain ⟨x2, ex2, hF⟩ := am_bind hF
      refine am_getr (pc' := 27) dX9_findBest_24 fw_X9_80 ex2 rfl ?_
      refine am_iconst (v := (5 : Int32)) (pc' := 28) dX9_findBest_27 rfl rfl ?_
      refine am_iload_n (pc' := 29) dX9_findBest_28 rfl rfl ?_
      refine am_imul (pc' := 30) dX9_findBest_29 rfl ?_
      refine am_iload (pc' := 32) dX9_findBest_30 rfl rfl ?_
      refine am_iadd (pc' := 33) dX9_findBest_32 rfl ?_
      refine am_aload_n (pc' := 34) dX9_findBest_33 rfl rfl ?_
      refine am_aload_n (pc' := 35) dX9_findBest_34 rfl rfl ?_
      refine am_iload_n (pc' := 36) dX9_findBest_35 rfl rfl ?_
      refine am_iload_n (pc' := 37) dX9_findBest_36 rfl rfl ?_
      obtain ⟨x3, ex3, hF⟩ := am_bind hF
      obtain ⟨ox3, px3⟩ := t_X9_blockAt ex3
      refine am_callV1 (Mc := M_X9_blockAt) (As := [.int v1, .int v3]) (st := [.ref v0, .int (((5 : Int32) * v3) + v4), .ref x2]) (pc' := 40) dX9_findBest_37 cw_X9_141 wd_5_45 sl_X9_blockAt ⟨_, rfl, rfl⟩ (by decide) (by decide) rfl rfl (Nat.le_of_ble_eq_true rfl) px3 (c_X9_blockAt ex3) rfl ?_
      refine am_iload (pc' := 42) dX9_findBest_40 rfl rfl ?_
      obtain ⟨q4, eq4, hF⟩ := am_bind hF
      obtain ⟨oq4, pq4⟩ := t_X9_sizeBy eq4
      refine am_callV1 (Mc := M_X9_sizeBy) (As := [.int x3, .int v4]) (st := [.int (((5 : Int32) * v3) + v4), .ref x2]) (pc' := 45) dX9_findBest_42 cw_X9_274 wd_5_205 sl_X9_sizeBy ⟨_, rfl, rfl⟩ (by decide) (by decide) rfl rfl (Nat.le_of_ble_eq_true rfl) pq4 (c_X9_sizeBy eq4) rfl ?_
      obtain ⟨h5, eh5, hF⟩ := am_bind hF
      refine am_iast (pc' := 46) dX9_findBest_45 eh5 rfl ?_
      refine am_aload_n (pc' := 47) dX9_findBest_46 rfl rfl ?_
      obtain ⟨x6, ex6, hF⟩ := am_bind hF
      refine am_getr (pc' := 50) dX9_findBest_47 fw_X9_83 ex6 rfl ?_
      refine am_iconst (v := (5 : Int32)) (pc' := 51) dX9_findBest_50 rfl rfl ?_
      refine am_iload_n (pc' := 52) dX9_findBest_51 rfl rfl ?_
      refine am_imul (pc' := 53) dX9_findBest_52 rfl ?_
      refine am_iload (pc' := 55) dX9_findBest_53 rfl rfl ?_
      refine am_iadd (pc' := 56) dX9_findBest_55 rfl ?_
      refine am_aload_n (pc' := 57) dX9_findBest_56 rfl rfl ?_
      refine am_aload_n (pc' := 58) dX9_findBest_57 rfl rfl ?_
      refine am_iload_n (pc' := 59) dX9_findBest_58 rfl rfl ?_
      refine am_iload_n (pc' := 60) dX9_findBest_59 rfl rfl ?_
      obtain ⟨x7, ex7, hF⟩ := am_bind hF
      obtain ⟨ox7, px7⟩ := t_X9_blockAt ex7
      refine am_callV1 (Mc := M_X9_blockAt) (As := [.int v1, .int v3]) (st := [.ref v0, .int (((5 : Int32) * v3) + v4), .ref x6]) (pc' := 63) dX9_findBest_60 cw_X9_141 wd_5_45 sl_X9_blockAt ⟨_, rfl, rfl⟩ (by decide) (by decide) rfl rfl (Nat.le_of_ble_eq_true rfl) px7 (c_X9_blockAt ex7) rfl ?_
      refine am_iload (pc' := 65) dX9_findBest_63 rfl rfl ?_
      obtain ⟨q8, eq8, hF⟩ := am_bind hF
      obtain ⟨oq8, pq8⟩ := t_X9_timeBy eq8
      refine am_callV1 (Mc := M_X9_timeBy) (As := [.int x7, .int v4]) (st := [.int (((5 : Int32) * v3) + v4), .ref x6]) (pc' := 68) dX9_findBest_65 cw_X9_277 wd_5_213 sl_X9_timeBy ⟨_, rfl, rfl⟩ (by decide) (by decide) rfl rfl (Nat.le_of_ble_eq_true rfl) pq8 (c_X9_timeBy eq8) rfl ?_
      obtain ⟨h9, eh9, hF⟩ := am_bind hF
      refine am_iast (pc' := 69) dX9_findBest_68 eh9 rfl ?_
      refine am_iinc (ls' := [some (.ref v0), some (.int v1), some (.int v2), some (.int v3), some (.int (v4 + (1 : Int32))), none, none, none, none]) (pc' := 72) (v := (v4 + (1 : Int32))) dX9_findBest_69 rfl rfl (Nat.le_of_ble_eq_true rfl) rfl rfl ?_
      refine am_goto (pc' := 17) dX9_findBest_72 rfl ?_
      exact w_X9_findBest_17 j9 n v0 v1 v2 v3 (v4 + (1 : Int32)) h9 hF
def F_X9_findBest_208 (k111 : Nat → Int32 → am_H → Option am_H) (k118 : Nat → Int32 → Int32 → am_H → Option am_H) (k134 : Nat → Int32 → Int32 → Int32 → Int32 → am_H → Option am_H) (v0 : Nat) (v3 : Int32) (v4 : Int32) (v6 : Int32) (s0 : Int32) (h : am_H) : Option am_H :=
  k134 v0 v3 v4 s0 (v6 + (1 : Int32)) h
theorem w_X9_findBest_208 {g : am_G} {l : Launch} {h0 : am_H} {hf : am_H}  {k111 : Nat → Int32 → am_H → Option am_H} {k118 : Nat → Int32 → Int32 → am_H → Option am_H} {k134 : Nat → Int32 → Int32 → Int32 → Int32 → am_H → Option am_H} (j111 : ∀ (v0 : Nat) (v3 : Int32) (h : am_H), k111 v0 v3 h = some hf → am_W g l M_X9_findBest h0 none hf 111 [some (.ref v0), none, none, some (.int v3), none, none, none, none, none] [] h) (j118 : ∀ (v0 : Nat) (v3 : Int32) (v4 : Int32) (h : am_H), k118 v0 v3 v4 h = some hf → am_W g l M_X9_findBest h0 none hf 118 [some (.ref v0), none, none, some (.int v3), some (.int v4), none, none, none, none] [] h) (j134 : ∀ (v0 : Nat) (v3 : Int32) (v4 : Int32) (v5 : Int32) (v6 : Int32) (h : am_H), k134 v0 v3 v4 v5 v6 h = some hf → am_W g l M_X9_findBest h0 none hf 134 [some (.ref v0), none, none, some (.int v3), some (.int v4), some (.int v5), some (.int v6), none, none] [] h) (v0 : Nat) (v3 : Int32) (v4 : Int32) (v6 : Int32) (s0 : Int32) (h : am_H) (hF : F_X9_findBest_208 k111 k118 k134 v0 v3 v4 v6 s0 h = some hf) : am_W g l M_X9_findBest h0 none hf 208 [some (.ref v0), none, none, some (.int v3), some (.int v4), none, some (.int v6), none, none] [.int s0] h := by
  unfold F_X9_findBest_208 at hF
  refine am_istore (ls' := [some (.ref v0), none, none, some (.int v3), some (.int v4), some (.int s0), some (.int v6), none, none]) (pc' := 210) dX9_findBest_208 (Nat.le_of_ble_eq_true rfl) rfl rfl ?_
  refine am_iinc (ls' := [some (.ref v0), none, none, some (.int v3), some (.int v4), some (.int s0), some (.int (v6 + (1 : Int32))), none, none]) (pc' := 213) (v := (v6 + (1 : Int32))) dX9_findBest_210 rfl rfl (Nat.le_of_ble_eq_true rfl) rfl rfl ?_
  refine am_goto (pc' := 134) dX9_findBest_213 rfl ?_
  exact j134 v0 v3 v4 s0 (v6 + (1 : Int32)) h hF
def F_X9_findBest_192 (k111 : Nat → Int32 → am_H → Option am_H) (k118 : Nat → Int32 → Int32 → am_H → Option am_H) (k134 : Nat → Int32 → Int32 → Int32 → Int32 → am_H → Option am_H) (v0 : Nat) (v3 : Int32) (v4 : Int32) (v5 : Int32) (v6 : Int32) (s0 : Int32) (h : am_H) : Option am_H :=
  if v5 ≤ s0 then
    F_X9_findBest_208 k111 k118 k134 v0 v3 v4 v6 v5 h
  else
    F_X9_findBest_208 k111 k118 k134 v0 v3 v4 v6 s0 h
theorem w_X9_findBest_192 {g : am_G} {l : Launch} {h0 : am_H} {hf : am_H}  {k111 : Nat → Int32 → am_H → Option am_H} {k118 : Nat → Int32 → Int32 → am_H → Option am_H} {k134 : Nat → Int32 → Int32 → Int32 → Int32 → am_H → Option am_H} (j111 : ∀ (v0 : Nat) (v3 : Int32) (h : am_H), k111 v0 v3 h = some hf → am_W g l M_X9_findBest h0 none hf 111 [some (.ref v0), none, none, some (.int v3), none, none, none, none, none] [] h) (j118 : ∀ (v0 : Nat) (v3 : Int32) (v4 : Int32) (h : am_H), k118 v0 v3 v4 h = some hf → am_W g l M_X9_findBest h0 none hf 118 [some (.ref v0), none, none, some (.int v3), some (.int v4), none, none, none, none] [] h) (j134 : ∀ (v0 : Nat) (v3 : Int32) (v4 : Int32) (v5 : Int32) (v6 : Int32) (h : am_H), k134 v0 v3 v4 v5 v6 h = some hf → am_W g l M_X9_findBest h0 none hf 134 [some (.ref v0), none, none, some (.int v3), some (.int v4), some (.int v5), some (.int v6), none, none] [] h) (v0 : Nat) (v3 : Int32) (v4 : Int32) (v5 : Int32) (v6 : Int32) (s0 : Int32) (h : am_H) (hF : F_X9_findBest_192 k111 k118 k134 v0 v3 v4 v5 v6 s0 h = some hf) : am_W g l M_X9_findBest h0 none hf 192 [some (.ref v0), none, none, some (.int v3), some (.int v4), some (.int v5), some (.int v6), none, none] [.int s0] h := by
  unfold F_X9_findBest_192 at hF
  refine am_istore (ls' := [some (.ref v0), none, none, some (.int v3), some (.int v4), some (.int v5), some (.int v6), none, some (.int s0)]) (pc' := 194) dX9_findBest_192 (Nat.le_of_ble_eq_true rfl) rfl rfl ?_
  refine am_iload (pc' := 196) dX9_findBest_194 rfl rfl ?_
  refine am_iload (pc' := 198) dX9_findBest_196 rfl rfl ?_
  rcases am_ite hF with ⟨z1, hF⟩ | ⟨z1, hF⟩
  · refine am_icmp_ge_t (pc' := 206) dX9_findBest_198 rfl z1 ?_
    refine am_iload (pc' := 208) dX9_findBest_206 rfl rfl ?_
    exact am_weak [true, false, false, true, true, false, true, false, false] (w_X9_findBest_208 j111 j118 j134 v0 v3 v4 v6 v5 h hF)
  · refine am_icmp_ge_f (pc' := 201) (tgt := 206) dX9_findBest_198 rfl z1 rfl ?_
    refine am_iload (pc' := 203) dX9_findBest_201 rfl rfl ?_
    refine am_goto (pc' := 208) dX9_findBest_203 rfl ?_
    exact am_weak [true, false, false, true, true, false, true, false, false] (w_X9_findBest_208 j111 j118 j134 v0 v3 v4 v6 s0 h hF)
def F_X9_findBest_134 (k111 : Nat → Int32 → am_H → Option am_H) (k118 : Nat → Int32 → Int32 → am_H → Option am_H) : Nat → Nat → Int32 → Int32 → Int32 → Int32 → am_H → Option am_H
  | 0, _, _, _, _, _, _ => none
  | n + 1, v0, v3, v4, v5, v6, h =>
  if (5 : Int32) ≤ v6 then
    (am_gr 9 36 v0 h).bind fun x2 =>
    (F_X9_at v3 v4 h).bind fun x3 =>
    (am_is 0 x2 x3 v5 h).bind fun h4 =>
    k118 v0 v3 (v4 + (1 : Int32)) h4
  else
    (am_gr 9 38 v0 h).bind fun x5 =>
    (am_il 0 x5 (((5 : Int32) * v3) + v6) h).bind fun x6 =>
    if 0 ≤ (v4 - x6) then
      (am_gr 9 37 v0 h).bind fun x8 =>
      (am_il 0 x8 (((5 : Int32) * v3) + v6) h).bind fun x9 =>
      (am_gr 9 36 v0 h).bind fun x10 =>
      (F_X9_at (v3 + (1 : Int32)) (v4 - x6) h).bind fun x11 =>
      (am_il 0 x10 x11 h).bind fun x12 =>
      F_X9_findBest_192 k111 k118 (F_X9_findBest_134 k111 k118 n) v0 v3 v4 v5 v6 (x9 + x12) h
    else
      F_X9_findBest_192 k111 k118 (F_X9_findBest_134 k111 k118 n) v0 v3 v4 v5 v6 (1000000 : Int32) h
theorem w_X9_findBest_134 {g : am_G} {l : Launch} {h0 : am_H} {hf : am_H}  {k111 : Nat → Int32 → am_H → Option am_H} {k118 : Nat → Int32 → Int32 → am_H → Option am_H} (j111 : ∀ (v0 : Nat) (v3 : Int32) (h : am_H), k111 v0 v3 h = some hf → am_W g l M_X9_findBest h0 none hf 111 [some (.ref v0), none, none, some (.int v3), none, none, none, none, none] [] h) (j118 : ∀ (v0 : Nat) (v3 : Int32) (v4 : Int32) (h : am_H), k118 v0 v3 v4 h = some hf → am_W g l M_X9_findBest h0 none hf 118 [some (.ref v0), none, none, some (.int v3), some (.int v4), none, none, none, none] [] h) : ∀ (n : Nat) (v0 : Nat) (v3 : Int32) (v4 : Int32) (v5 : Int32) (v6 : Int32) (h : am_H), F_X9_findBest_134 k111 k118 n v0 v3 v4 v5 v6 h = some hf → am_W g l M_X9_findBest h0 none hf 134 [some (.ref v0), none, none, some (.int v3), some (.int v4), some (.int v5), some (.int v6), none, none] [] h
  | 0, _, _, _, _, _, _, hF => by cases hF
  | n + 1, v0, v3, v4, v5, v6, h, hF => by
    rw [F_X9_findBest_134] at hF
    refine am_iload (pc' := 136) dX9_findBest_134 rfl rfl ?_
    refine am_iconst (v := (5 : Int32)) (pc' := 137) dX9_findBest_136 rfl rfl ?_
    rcases am_ite hF with ⟨z1, hF⟩ | ⟨z1, hF⟩
    · refine am_icmp_ge_t (pc' := 216) dX9_findBest_137 rfl z1 ?_
      refine am_aload_n (pc' := 217) dX9_findBest_216 rfl rfl ?_
      obtain ⟨x2, ex2, hF⟩ := am_bind hF
      refine am_getr (pc' := 220) dX9_findBest_217 fw_X9_77 ex2 rfl ?_
      refine am_iload_n (pc' := 221) dX9_findBest_220 rfl rfl ?_
      refine am_iload (pc' := 223) dX9_findBest_221 rfl rfl ?_
      obtain ⟨x3, ex3, hF⟩ := am_bind hF
      refine am_callS1 (Mc := M_X9_at) (As := [.int v3, .int v4]) (st := [.ref x2]) (pc' := 226) dX9_findBest_223 cw_X9_280 wd_5_225 (by decide) (by decide) rfl rfl (Nat.le_of_ble_eq_true rfl) (c_X9_at ex3) rfl ?_
      refine am_iload (pc' := 228) dX9_findBest_226 rfl rfl ?_
      obtain ⟨h4, eh4, hF⟩ := am_bind hF
      refine am_iast (pc' := 229) dX9_findBest_228 eh4 rfl ?_
      refine am_iinc (ls' := [some (.ref v0), none, none, some (.int v3), some (.int (v4 + (1 : Int32))), some (.int v5), some (.int v6), none, none]) (pc' := 232) (v := (v4 + (1 : Int32))) dX9_findBest_229 rfl rfl (Nat.le_of_ble_eq_true rfl) rfl rfl ?_
      refine am_goto (pc' := 118) dX9_findBest_232 rfl ?_
      exact am_weak [true, false, false, true, true, false, false, false, false] (j118 v0 v3 (v4 + (1 : Int32)) h4 hF)
    · refine am_icmp_ge_f (pc' := 140) (tgt := 216) dX9_findBest_137 rfl z1 rfl ?_
      refine am_iload (pc' := 142) dX9_findBest_140 rfl rfl ?_
      refine am_aload_n (pc' := 143) dX9_findBest_142 rfl rfl ?_
      obtain ⟨x5, ex5, hF⟩ := am_bind hF
      refine am_getr (pc' := 146) dX9_findBest_143 fw_X9_83 ex5 rfl ?_
      refine am_iconst (v := (5 : Int32)) (pc' := 147) dX9_findBest_146 rfl rfl ?_
      refine am_iload_n (pc' := 148) dX9_findBest_147 rfl rfl ?_
      refine am_imul (pc' := 149) dX9_findBest_148 rfl ?_
      refine am_iload (pc' := 151) dX9_findBest_149 rfl rfl ?_
      refine am_iadd (pc' := 152) dX9_findBest_151 rfl ?_
      obtain ⟨x6, ex6, hF⟩ := am_bind hF
      refine am_iald (pc' := 153) dX9_findBest_152 ex6 rfl ?_
      refine am_isub (pc' := 154) dX9_findBest_153 rfl ?_
      refine am_istore (ls' := [some (.ref v0), none, none, some (.int v3), some (.int v4), some (.int v5), some (.int v6), some (.int (v4 - x6)), none]) (pc' := 156) dX9_findBest_154 (Nat.le_of_ble_eq_true rfl) rfl rfl ?_
      refine am_iload (pc' := 158) dX9_findBest_156 rfl rfl ?_
      rcases am_ite hF with ⟨z7, hF⟩ | ⟨z7, hF⟩
      · refine am_if_ge_t (pc' := 167) dX9_findBest_158 rfl z7 ?_
        refine am_aload_n (pc' := 168) dX9_findBest_167 rfl rfl ?_
        obtain ⟨x8, ex8, hF⟩ := am_bind hF
        refine am_getr (pc' := 171) dX9_findBest_168 fw_X9_80 ex8 rfl ?_
        refine am_iconst (v := (5 : Int32)) (pc' := 172) dX9_findBest_171 rfl rfl ?_
        refine am_iload_n (pc' := 173) dX9_findBest_172 rfl rfl ?_
        refine am_imul (pc' := 174) dX9_findBest_173 rfl ?_
        refine am_iload (pc' := 176) dX9_findBest_174 rfl rfl ?_
        refine am_iadd (pc' := 177) dX9_findBest_176 rfl ?_
        obtain ⟨x9, ex9, hF⟩ := am_bind hF
        refine am_iald (pc' := 178) dX9_findBest_177 ex9 rfl ?_
        refine am_aload_n (pc' := 179) dX9_findBest_178 rfl rfl ?_
        obtain ⟨x10, ex10, hF⟩ := am_bind hF
        refine am_getr (pc' := 182) dX9_findBest_179 fw_X9_77 ex10 rfl ?_
        refine am_iload_n (pc' := 183) dX9_findBest_182 rfl rfl ?_
        refine am_iconst (v := (1 : Int32)) (pc' := 184) dX9_findBest_183 rfl rfl ?_
        refine am_iadd (pc' := 185) dX9_findBest_184 rfl ?_
        refine am_iload (pc' := 187) dX9_findBest_185 rfl rfl ?_
        obtain ⟨x11, ex11, hF⟩ := am_bind hF
        refine am_callS1 (Mc := M_X9_at) (As := [.int (v3 + (1 : Int32)), .int (v4 - x6)]) (st := [.ref x10, .int x9]) (pc' := 190) dX9_findBest_187 cw_X9_280 wd_5_225 (by decide) (by decide) rfl rfl (Nat.le_of_ble_eq_true rfl) (c_X9_at ex11) rfl ?_
        obtain ⟨x12, ex12, hF⟩ := am_bind hF
        refine am_iald (pc' := 191) dX9_findBest_190 ex12 rfl ?_
        refine am_iadd (pc' := 192) dX9_findBest_191 rfl ?_
        exact am_weak [true, false, false, true, true, true, true, false, false] (w_X9_findBest_192 j111 j118 (w_X9_findBest_134 j111 j118 n) v0 v3 v4 v5 v6 (x9 + x12) h hF)
      · refine am_if_ge_f (pc' := 161) (tgt := 167) dX9_findBest_158 rfl z7 rfl ?_
        refine am_ldcw (v := (1000000 : Int32)) (pc' := 164) dX9_findBest_161 wd_5_227 rfl ?_
        refine am_goto (pc' := 192) dX9_findBest_164 rfl ?_
        exact am_weak [true, false, false, true, true, true, true, false, false] (w_X9_findBest_192 j111 j118 (w_X9_findBest_134 j111 j118 n) v0 v3 v4 v5 v6 (1000000 : Int32) h hF)
def F_X9_findBest_118 (k111 : Nat → Int32 → am_H → Option am_H) : Nat → Nat → Int32 → Int32 → am_H → Option am_H
  | 0, _, _, _, _ => none
  | n + 1, v0, v3, v4, h =>
  if (1200 : Int32) < v4 then
    k111 v0 (v3 + (-1 : Int32)) h
  else
    F_X9_findBest_134 k111 (F_X9_findBest_118 k111 n) am_F v0 v3 v4 (1000000 : Int32) (0 : Int32) h
theorem w_X9_findBest_118 {g : am_G} {l : Launch} {h0 : am_H} {hf : am_H}  {k111 : Nat → Int32 → am_H → Option am_H} (j111 : ∀ (v0 : Nat) (v3 : Int32) (h : am_H), k111 v0 v3 h = some hf → am_W g l M_X9_findBest h0 none hf 111 [some (.ref v0), none, none, some (.int v3), none, none, none, none, none] [] h) : ∀ (n : Nat) (v0 : Nat) (v3 : Int32) (v4 : Int32) (h : am_H), F_X9_findBest_118 k111 n v0 v3 v4 h = some hf → am_W g l M_X9_findBest h0 none hf 118 [some (.ref v0), none, none, some (.int v3), some (.int v4), none, none, none, none] [] h
  | 0, _, _, _, _, hF => by cases hF
  | n + 1, v0, v3, v4, h, hF => by
    rw [F_X9_findBest_118] at hF
    refine am_iload (pc' := 120) dX9_findBest_118 rfl rfl ?_
    refine am_sipush (v := (1200 : Int32)) (pc' := 123) dX9_findBest_120 rfl rfl ?_
    rcases am_ite hF with ⟨z1, hF⟩ | ⟨z1, hF⟩
    · refine am_icmp_gt_t (pc' := 235) dX9_findBest_123 rfl z1 ?_
      refine am_iinc (ls' := [some (.ref v0), none, none, some (.int (v3 + (-1 : Int32))), some (.int v4), none, none, none, none]) (pc' := 238) (v := (v3 + (-1 : Int32))) dX9_findBest_235 rfl rfl (Nat.le_of_ble_eq_true rfl) rfl rfl ?_
      refine am_goto (pc' := 111) dX9_findBest_238 rfl ?_
      exact am_weak [true, false, false, true, false, false, false, false, false] (j111 v0 (v3 + (-1 : Int32)) h hF)
    · refine am_icmp_gt_f (pc' := 126) (tgt := 235) dX9_findBest_123 rfl z1 rfl ?_
      refine am_ldcw (v := (1000000 : Int32)) (pc' := 129) dX9_findBest_126 wd_5_227 rfl ?_
      refine am_istore (ls' := [some (.ref v0), none, none, some (.int v3), some (.int v4), some (.int (1000000 : Int32)), none, none, none]) (pc' := 131) dX9_findBest_129 (Nat.le_of_ble_eq_true rfl) rfl rfl ?_
      refine am_iconst (v := (0 : Int32)) (pc' := 132) dX9_findBest_131 rfl rfl ?_
      refine am_istore (ls' := [some (.ref v0), none, none, some (.int v3), some (.int v4), some (.int (1000000 : Int32)), some (.int (0 : Int32)), none, none]) (pc' := 134) dX9_findBest_132 (Nat.le_of_ble_eq_true rfl) rfl rfl ?_
      exact w_X9_findBest_134 j111 (w_X9_findBest_118 j111 n) am_F v0 v3 v4 (1000000 : Int32) (0 : Int32) h hF
def F_X9_findBest_111 : Nat → Nat → Int32 → am_H → Option am_H
  | 0, _, _, _ => none
  | n + 1, v0, v3, h =>
  if v3 < 0 then
    some h
  else
    F_X9_findBest_118 (F_X9_findBest_111 n) am_F v0 v3 (0 : Int32) h
theorem w_X9_findBest_111 {g : am_G} {l : Launch} {h0 : am_H} {hf : am_H}  : ∀ (n : Nat) (v0 : Nat) (v3 : Int32) (h : am_H), F_X9_findBest_111 n v0 v3 h = some hf → am_W g l M_X9_findBest h0 none hf 111 [some (.ref v0), none, none, some (.int v3), none, none, none, none, none] [] h
  | 0, _, _, _, hF => by cases hF
  | n + 1, v0, v3, h, hF => by
    rw [F_X9_findBest_111] at hF
    refine am_iload_n (pc' := 112) dX9_findBest_111 rfl rfl ?_
    rcases am_ite hF with ⟨z1, hF⟩ | ⟨z1, hF⟩
    · refine am_if_lt_t (pc' := 241) dX9_findBest_112 rfl z1 ?_
      cases hF
      exact am_vret dX9_findBest_241 rfl
    · refine am_if_lt_f (pc' := 115) (tgt := 241) dX9_findBest_112 rfl z1 rfl ?_
      refine am_iconst (v := (0 : Int32)) (pc' := 116) dX9_findBest_115 rfl rfl ?_
      refine am_istore (ls' := [some (.ref v0), none, none, some (.int v3), some (.int (0 : Int32)), none, none, none, none]) (pc' := 118) dX9_findBest_116 (Nat.le_of_ble_eq_true rfl) rfl rfl ?_
      exact w_X9_findBest_118 (w_X9_findBest_111 n) am_F v0 v3 (0 : Int32) h hF
def F_X9_findBest_83 : Nat → Nat → Int32 → Int32 → am_H → Option am_H
  | 0, _, _, _, _ => none
  | n + 1, v0, v2, v3, h =>
  if (1200 : Int32) < v3 then
    F_X9_findBest_111 am_F v0 (v2 - (1 : Int32)) h
  else
    (am_gr 9 36 v0 h).bind fun x2 =>
    (F_X9_at v2 v3 h).bind fun x3 =>
    (am_is 0 x2 x3 (0 : Int32) h).bind fun h4 =>
    F_X9_findBest_83 n v0 v2 (v3 + (1 : Int32)) h4
theorem w_X9_findBest_83 {g : am_G} {l : Launch} {h0 : am_H} {hf : am_H}  : ∀ (n : Nat) (v0 : Nat) (v2 : Int32) (v3 : Int32) (h : am_H), F_X9_findBest_83 n v0 v2 v3 h = some hf → am_W g l M_X9_findBest h0 none hf 83 [some (.ref v0), none, some (.int v2), some (.int v3), none, none, none, none, none] [] h
  | 0, _, _, _, _, hF => by cases hF
  | n + 1, v0, v2, v3, h, hF => by
    rw [F_X9_findBest_83] at hF
    refine am_iload_n (pc' := 84) dX9_findBest_83 rfl rfl ?_
    refine am_sipush (v := (1200 : Int32)) (pc' := 87) dX9_findBest_84 rfl rfl ?_
    rcases am_ite hF with ⟨z1, hF⟩ | ⟨z1, hF⟩
    · refine am_icmp_gt_t (pc' := 107) dX9_findBest_87 rfl z1 ?_
      refine am_iload_n (pc' := 108) dX9_findBest_107 rfl rfl ?_
      refine am_iconst (v := (1 : Int32)) (pc' := 109) dX9_findBest_108 rfl rfl ?_
      refine am_isub (pc' := 110) dX9_findBest_109 rfl ?_
      refine am_istore_n (ls' := [some (.ref v0), none, some (.int v2), some (.int (v2 - (1 : Int32))), none, none, none, none, none]) (pc' := 111) dX9_findBest_110 (Nat.le_of_ble_eq_true rfl) rfl rfl ?_
      exact am_weak [true, false, false, true, false, false, false, false, false] (w_X9_findBest_111 am_F v0 (v2 - (1 : Int32)) h hF)
    · refine am_icmp_gt_f (pc' := 90) (tgt := 107) dX9_findBest_87 rfl z1 rfl ?_
      refine am_aload_n (pc' := 91) dX9_findBest_90 rfl rfl ?_
      obtain ⟨x2, ex2, hF⟩ := am_bind hF
      refine am_getr (pc' := 94) dX9_findBest_91 fw_X9_77 ex2 rfl ?_
      refine am_iload_n (pc' := 95) dX9_findBest_94 rfl rfl ?_
      refine am_iload_n (pc' := 96) dX9_findBest_95 rfl rfl ?_
      obtain ⟨x3, ex3, hF⟩ := am_bind hF
      refine am_callS1 (Mc := M_X9_at) (As := [.int v2, .int v3]) (st := [.ref x2]) (pc' := 99) dX9_findBest_96 cw_X9_280 wd_5_225 (by decide) (by decide) rfl rfl (Nat.le_of_ble_eq_true rfl) (c_X9_at ex3) rfl ?_
      refine am_iconst (v := (0 : Int32)) (pc' := 100) dX9_findBest_99 rfl rfl ?_
      obtain ⟨h4, eh4, hF⟩ := am_bind hF
      refine am_iast (pc' := 101) dX9_findBest_100 eh4 rfl ?_
      refine am_iinc (ls' := [some (.ref v0), none, some (.int v2), some (.int (v3 + (1 : Int32))), none, none, none, none, none]) (pc' := 104) (v := (v3 + (1 : Int32))) dX9_findBest_101 rfl rfl (Nat.le_of_ble_eq_true rfl) rfl rfl ?_
      refine am_goto (pc' := 83) dX9_findBest_104 rfl ?_
      exact w_X9_findBest_83 n v0 v2 (v3 + (1 : Int32)) h4 hF
def F_X9_findBest_9 : Nat → Nat → Int32 → Int32 → Int32 → am_H → Option am_H
  | 0, _, _, _, _, _ => none
  | n + 1, v0, v1, v2, v3, h =>
  if v2 ≤ v3 then
    F_X9_findBest_83 am_F v0 v2 (0 : Int32) h
  else
    F_X9_findBest_17 (F_X9_findBest_9 n) am_F v0 v1 v2 v3 (0 : Int32) h
theorem w_X9_findBest_9 {g : am_G} {l : Launch} {h0 : am_H} {hf : am_H}  : ∀ (n : Nat) (v0 : Nat) (v1 : Int32) (v2 : Int32) (v3 : Int32) (h : am_H), F_X9_findBest_9 n v0 v1 v2 v3 h = some hf → am_W g l M_X9_findBest h0 none hf 9 [some (.ref v0), some (.int v1), some (.int v2), some (.int v3), none, none, none, none, none] [] h
  | 0, _, _, _, _, _, hF => by cases hF
  | n + 1, v0, v1, v2, v3, h, hF => by
    rw [F_X9_findBest_9] at hF
    refine am_iload_n (pc' := 10) dX9_findBest_9 rfl rfl ?_
    refine am_iload_n (pc' := 11) dX9_findBest_10 rfl rfl ?_
    rcases am_ite hF with ⟨z1, hF⟩ | ⟨z1, hF⟩
    · refine am_icmp_ge_t (pc' := 81) dX9_findBest_11 rfl z1 ?_
      refine am_iconst (v := (0 : Int32)) (pc' := 82) dX9_findBest_81 rfl rfl ?_
      refine am_istore_n (ls' := [some (.ref v0), some (.int v1), some (.int v2), some (.int (0 : Int32)), none, none, none, none, none]) (pc' := 83) dX9_findBest_82 (Nat.le_of_ble_eq_true rfl) rfl rfl ?_
      exact am_weak [true, false, true, true, false, false, false, false, false] (w_X9_findBest_83 am_F v0 v2 (0 : Int32) h hF)
    · refine am_icmp_ge_f (pc' := 14) (tgt := 81) dX9_findBest_11 rfl z1 rfl ?_
      refine am_iconst (v := (0 : Int32)) (pc' := 15) dX9_findBest_14 rfl rfl ?_
      refine am_istore (ls' := [some (.ref v0), some (.int v1), some (.int v2), some (.int v3), some (.int (0 : Int32)), none, none, none, none]) (pc' := 17) dX9_findBest_15 (Nat.le_of_ble_eq_true rfl) rfl rfl ?_
      exact w_X9_findBest_17 (w_X9_findBest_9 n) am_F v0 v1 v2 v3 (0 : Int32) h hF
def F_X9_findBest_b (v0 : Nat) (v1 : Int32) (h : am_H) : Option am_H :=
  (am_gr 9 7 v0 h).bind fun x1 =>
  (am_il 0 x1 v1 h).bind fun x2 =>
  F_X9_findBest_9 am_F v0 v1 x2 (0 : Int32) h
theorem w_X9_findBest {g : am_G} {l : Launch} {h0 : am_H} {hf : am_H}  (v0 : Nat) (v1 : Int32) (h : am_H) (hF : F_X9_findBest_b v0 v1 h = some hf) : am_W g l M_X9_findBest h0 none hf 0 [some (.ref v0), some (.int v1), none, none, none, none, none, none, none] [] h := by
  unfold F_X9_findBest_b at hF
  refine am_aload_n (pc' := 1) dX9_findBest_0 rfl rfl ?_
  obtain ⟨x1, ex1, hF⟩ := am_bind hF
  refine am_getr (pc' := 4) dX9_findBest_1 fw_X9_23 ex1 rfl ?_
  refine am_iload_n (pc' := 5) dX9_findBest_4 rfl rfl ?_
  obtain ⟨x2, ex2, hF⟩ := am_bind hF
  refine am_iald (pc' := 6) dX9_findBest_5 ex2 rfl ?_
  refine am_istore_n (ls' := [some (.ref v0), some (.int v1), some (.int x2), none, none, none, none, none, none]) (pc' := 7) dX9_findBest_6 (Nat.le_of_ble_eq_true rfl) rfl rfl ?_
  refine am_iconst (v := (0 : Int32)) (pc' := 8) dX9_findBest_7 rfl rfl ?_
  refine am_istore_n (ls' := [some (.ref v0), some (.int v1), some (.int x2), some (.int (0 : Int32)), none, none, none, none, none]) (pc' := 9) dX9_findBest_8 (Nat.le_of_ble_eq_true rfl) rfl rfl ?_
  exact w_X9_findBest_9 am_F v0 v1 x2 (0 : Int32) h hF
def F_X9_findBest (v0 : Nat) (v1 : Int32) (h : am_H) : Option am_H := (am_obj v0 9 h).bind fun _ => F_X9_findBest_b v0 v1 h
theorem t_X9_findBest {hf : am_H}  {v0 : Nat} {v1 : Int32} {h : am_H} (hF : F_X9_findBest v0 v1 h = some hf) : ∃ fs, am_obj v0 9 h = some fs := by
  obtain ⟨fs, e, _⟩ := am_bind hF
  exact ⟨fs, e⟩
theorem c_X9_findBest {g : am_G} {l : Launch} {hf : am_H}  {v0 : Nat} {v1 : Int32} {h : am_H} (hF : F_X9_findBest v0 v1 h = some hf) : am_Met g l M_X9_findBest [.ref v0, .int v1] h none hf := by
  obtain ⟨fs, e0, e⟩ := am_bind hF
  exact am_met (n := 7) (by decide +kernel) rfl (Nat.le_of_ble_eq_true rfl) (w_X9_findBest v0 v1 h e)
