abbrev M_X8_inCommon : am_M := ((⟨"SignCellar", "inCommon", "(LSignCellar$Row;LSignCellar$Row;)I"⟩ : MethodName), prog_1_method_67_code, 7, (some .int), 1, 21)
theorem dX8_inCommon_0 : decode prog_1_method_67_code 0 = .ok (.aload_n 1, 1) := by decide +kernel
theorem dX8_inCommon_1 : decode prog_1_method_67_code 1 = .ok (.invokevirtual 93, 3) := by decide +kernel
theorem dX8_inCommon_4 : decode prog_1_method_67_code 4 = .ok (.bipush 8, 2) := by decide +kernel
theorem dX8_inCommon_6 : decode prog_1_method_67_code 6 = .ok (.invokestatic 109, 3) := by decide +kernel
theorem dX8_inCommon_9 : decode prog_1_method_67_code 9 = .ok (.istore_n 3, 1) := by decide +kernel
theorem dX8_inCommon_10 : decode prog_1_method_67_code 10 = .ok (.aload_n 2, 1) := by decide +kernel
theorem dX8_inCommon_11 : decode prog_1_method_67_code 11 = .ok (.invokevirtual 93, 3) := by decide +kernel
theorem dX8_inCommon_14 : decode prog_1_method_67_code 14 = .ok (.bipush 8, 2) := by decide +kernel
theorem dX8_inCommon_16 : decode prog_1_method_67_code 16 = .ok (.invokestatic 109, 3) := by decide +kernel
theorem dX8_inCommon_19 : decode prog_1_method_67_code 19 = .ok (.istore 4, 2) := by decide +kernel
theorem dX8_inCommon_21 : decode prog_1_method_67_code 21 = .ok (.iconst 1, 1) := by decide +kernel
theorem dX8_inCommon_22 : decode prog_1_method_67_code 22 = .ok (.istore 5, 2) := by decide +kernel
theorem dX8_inCommon_24 : decode prog_1_method_67_code 24 = .ok (.iload 5, 2) := by decide +kernel
theorem dX8_inCommon_26 : decode prog_1_method_67_code 26 = .ok (.iload_n 3, 1) := by decide +kernel
theorem dX8_inCommon_27 : decode prog_1_method_67_code 27 = .ok (.if_icmp .gt 100, 3) := by decide +kernel
theorem dX8_inCommon_30 : decode prog_1_method_67_code 30 = .ok (.iconst 1, 1) := by decide +kernel
theorem dX8_inCommon_31 : decode prog_1_method_67_code 31 = .ok (.istore 6, 2) := by decide +kernel
theorem dX8_inCommon_33 : decode prog_1_method_67_code 33 = .ok (.iload 6, 2) := by decide +kernel
theorem dX8_inCommon_35 : decode prog_1_method_67_code 35 = .ok (.iload 4, 2) := by decide +kernel
theorem dX8_inCommon_37 : decode prog_1_method_67_code 37 = .ok (.if_icmp .gt 84, 3) := by decide +kernel
theorem dX8_inCommon_40 : decode prog_1_method_67_code 40 = .ok (.aload_n 0, 1) := by decide +kernel
theorem dX8_inCommon_41 : decode prog_1_method_67_code 41 = .ok (.getfield 54, 3) := by decide +kernel
theorem dX8_inCommon_44 : decode prog_1_method_67_code 44 = .ok (.iload 5, 2) := by decide +kernel
theorem dX8_inCommon_46 : decode prog_1_method_67_code 46 = .ok (.aaload, 1) := by decide +kernel
theorem dX8_inCommon_47 : decode prog_1_method_67_code 47 = .ok (.iload 6, 2) := by decide +kernel
theorem dX8_inCommon_49 : decode prog_1_method_67_code 49 = .ok (.aload_n 1, 1) := by decide +kernel
theorem dX8_inCommon_50 : decode prog_1_method_67_code 50 = .ok (.iload 5, 2) := by decide +kernel
theorem dX8_inCommon_52 : decode prog_1_method_67_code 52 = .ok (.iconst 1, 1) := by decide +kernel
theorem dX8_inCommon_53 : decode prog_1_method_67_code 53 = .ok (.isub, 1) := by decide +kernel
theorem dX8_inCommon_54 : decode prog_1_method_67_code 54 = .ok (.invokevirtual 161, 3) := by decide +kernel
theorem dX8_inCommon_57 : decode prog_1_method_67_code 57 = .ok (.aload_n 2, 1) := by decide +kernel
theorem dX8_inCommon_58 : decode prog_1_method_67_code 58 = .ok (.iload 6, 2) := by decide +kernel
theorem dX8_inCommon_60 : decode prog_1_method_67_code 60 = .ok (.iconst 1, 1) := by decide +kernel
theorem dX8_inCommon_61 : decode prog_1_method_67_code 61 = .ok (.isub, 1) := by decide +kernel
theorem dX8_inCommon_62 : decode prog_1_method_67_code 62 = .ok (.invokevirtual 161, 3) := by decide +kernel
theorem dX8_inCommon_65 : decode prog_1_method_67_code 65 = .ok (.if_icmp .ne 22, 3) := by decide +kernel
theorem dX8_inCommon_68 : decode prog_1_method_67_code 68 = .ok (.aload_n 0, 1) := by decide +kernel
theorem dX8_inCommon_69 : decode prog_1_method_67_code 69 = .ok (.getfield 54, 3) := by decide +kernel
theorem dX8_inCommon_72 : decode prog_1_method_67_code 72 = .ok (.iload 5, 2) := by decide +kernel
theorem dX8_inCommon_74 : decode prog_1_method_67_code 74 = .ok (.iconst 1, 1) := by decide +kernel
theorem dX8_inCommon_75 : decode prog_1_method_67_code 75 = .ok (.isub, 1) := by decide +kernel
theorem dX8_inCommon_76 : decode prog_1_method_67_code 76 = .ok (.aaload, 1) := by decide +kernel
theorem dX8_inCommon_77 : decode prog_1_method_67_code 77 = .ok (.iload 6, 2) := by decide +kernel
theorem dX8_inCommon_79 : decode prog_1_method_67_code 79 = .ok (.iconst 1, 1) := by decide +kernel
theorem dX8_inCommon_80 : decode prog_1_method_67_code 80 = .ok (.isub, 1) := by decide +kernel
theorem dX8_inCommon_81 : decode prog_1_method_67_code 81 = .ok (.iaload, 1) := by decide +kernel
theorem dX8_inCommon_82 : decode prog_1_method_67_code 82 = .ok (.iconst 1, 1) := by decide +kernel
theorem dX8_inCommon_83 : decode prog_1_method_67_code 83 = .ok (.iadd, 1) := by decide +kernel
theorem dX8_inCommon_84 : decode prog_1_method_67_code 84 = .ok (.goto 30, 3) := by decide +kernel
theorem dX8_inCommon_87 : decode prog_1_method_67_code 87 = .ok (.aload_n 0, 1) := by decide +kernel
theorem dX8_inCommon_88 : decode prog_1_method_67_code 88 = .ok (.getfield 54, 3) := by decide +kernel
theorem dX8_inCommon_91 : decode prog_1_method_67_code 91 = .ok (.iload 5, 2) := by decide +kernel
theorem dX8_inCommon_93 : decode prog_1_method_67_code 93 = .ok (.iconst 1, 1) := by decide +kernel
theorem dX8_inCommon_94 : decode prog_1_method_67_code 94 = .ok (.isub, 1) := by decide +kernel
theorem dX8_inCommon_95 : decode prog_1_method_67_code 95 = .ok (.aaload, 1) := by decide +kernel
theorem dX8_inCommon_96 : decode prog_1_method_67_code 96 = .ok (.iload 6, 2) := by decide +kernel
theorem dX8_inCommon_98 : decode prog_1_method_67_code 98 = .ok (.iaload, 1) := by decide +kernel
theorem dX8_inCommon_99 : decode prog_1_method_67_code 99 = .ok (.aload_n 0, 1) := by decide +kernel
theorem dX8_inCommon_100 : decode prog_1_method_67_code 100 = .ok (.getfield 54, 3) := by decide +kernel
theorem dX8_inCommon_103 : decode prog_1_method_67_code 103 = .ok (.iload 5, 2) := by decide +kernel
theorem dX8_inCommon_105 : decode prog_1_method_67_code 105 = .ok (.aaload, 1) := by decide +kernel
theorem dX8_inCommon_106 : decode prog_1_method_67_code 106 = .ok (.iload 6, 2) := by decide +kernel
theorem dX8_inCommon_108 : decode prog_1_method_67_code 108 = .ok (.iconst 1, 1) := by decide +kernel
theorem dX8_inCommon_109 : decode prog_1_method_67_code 109 = .ok (.isub, 1) := by decide +kernel
theorem dX8_inCommon_110 : decode prog_1_method_67_code 110 = .ok (.iaload, 1) := by decide +kernel
theorem dX8_inCommon_111 : decode prog_1_method_67_code 111 = .ok (.invokestatic 328, 3) := by decide +kernel
theorem dX8_inCommon_114 : decode prog_1_method_67_code 114 = .ok (.iastore, 1) := by decide +kernel
theorem dX8_inCommon_115 : decode prog_1_method_67_code 115 = .ok (.iinc 6 1, 3) := by decide +kernel
theorem dX8_inCommon_118 : decode prog_1_method_67_code 118 = .ok (.goto (-85), 3) := by decide +kernel
theorem dX8_inCommon_121 : decode prog_1_method_67_code 121 = .ok (.iinc 5 1, 3) := by decide +kernel
theorem dX8_inCommon_124 : decode prog_1_method_67_code 124 = .ok (.goto (-100), 3) := by decide +kernel
theorem dX8_inCommon_127 : decode prog_1_method_67_code 127 = .ok (.aload_n 0, 1) := by decide +kernel
theorem dX8_inCommon_128 : decode prog_1_method_67_code 128 = .ok (.getfield 54, 3) := by decide +kernel
theorem dX8_inCommon_131 : decode prog_1_method_67_code 131 = .ok (.iload_n 3, 1) := by decide +kernel
theorem dX8_inCommon_132 : decode prog_1_method_67_code 132 = .ok (.aaload, 1) := by decide +kernel
theorem dX8_inCommon_133 : decode prog_1_method_67_code 133 = .ok (.iload 4, 2) := by decide +kernel
theorem dX8_inCommon_135 : decode prog_1_method_67_code 135 = .ok (.iaload, 1) := by decide +kernel
theorem dX8_inCommon_136 : decode prog_1_method_67_code 136 = .ok (.ireturn, 1) := by decide +kernel
abbrev M_X8_send : am_M := ((⟨"SignCellar", "send", "(III)I"⟩ : MethodName), prog_1_method_27_code, 6, (some .int), 5, 111)
theorem dX8_send_0 : decode prog_1_method_27_code 0 = .ok (.aload_n 0, 1) := by decide +kernel
theorem dX8_send_1 : decode prog_1_method_27_code 1 = .ok (.iload_n 1, 1) := by decide +kernel
theorem dX8_send_2 : decode prog_1_method_27_code 2 = .ok (.invokevirtual 126, 3) := by decide +kernel
theorem dX8_send_5 : decode prog_1_method_27_code 5 = .ok (.astore 4, 2) := by decide +kernel
theorem dX8_send_7 : decode prog_1_method_27_code 7 = .ok (.aload_n 0, 1) := by decide +kernel
theorem dX8_send_8 : decode prog_1_method_27_code 8 = .ok (.iload_n 2, 1) := by decide +kernel
theorem dX8_send_9 : decode prog_1_method_27_code 9 = .ok (.invokevirtual 126, 3) := by decide +kernel
theorem dX8_send_12 : decode prog_1_method_27_code 12 = .ok (.astore 5, 2) := by decide +kernel
theorem dX8_send_14 : decode prog_1_method_27_code 14 = .ok (.aload 4, 2) := by decide +kernel
theorem dX8_send_16 : decode prog_1_method_27_code 16 = .ok (.ifnull 8, 3) := by decide +kernel
theorem dX8_send_19 : decode prog_1_method_27_code 19 = .ok (.aload 5, 2) := by decide +kernel
theorem dX8_send_21 : decode prog_1_method_27_code 21 = .ok (.ifnonnull 6, 3) := by decide +kernel
theorem dX8_send_24 : decode prog_1_method_27_code 24 = .ok (.ldc 133, 2) := by decide +kernel
theorem dX8_send_26 : decode prog_1_method_27_code 26 = .ok (.ireturn, 1) := by decide +kernel
theorem dX8_send_27 : decode prog_1_method_27_code 27 = .ok (.iload_n 3, 1) := by decide +kernel
theorem dX8_send_28 : decode prog_1_method_27_code 28 = .ok (.tableswitch 80 0 2 #[28, 37, 45], 28) := by decide +kernel
theorem dX8_send_56 : decode prog_1_method_27_code 56 = .ok (.aload_n 0, 1) := by decide +kernel
theorem dX8_send_57 : decode prog_1_method_27_code 57 = .ok (.aload 4, 2) := by decide +kernel
theorem dX8_send_59 : decode prog_1_method_27_code 59 = .ok (.aload 5, 2) := by decide +kernel
theorem dX8_send_61 : decode prog_1_method_27_code 61 = .ok (.invokevirtual 307, 3) := by decide +kernel
theorem dX8_send_64 : decode prog_1_method_27_code 64 = .ok (.ireturn, 1) := by decide +kernel
theorem dX8_send_65 : decode prog_1_method_27_code 65 = .ok (.aload 4, 2) := by decide +kernel
theorem dX8_send_67 : decode prog_1_method_27_code 67 = .ok (.aload 5, 2) := by decide +kernel
theorem dX8_send_69 : decode prog_1_method_27_code 69 = .ok (.invokestatic 311, 3) := by decide +kernel
theorem dX8_send_72 : decode prog_1_method_27_code 72 = .ok (.ireturn, 1) := by decide +kernel
theorem dX8_send_73 : decode prog_1_method_27_code 73 = .ok (.aload 4, 2) := by decide +kernel
theorem dX8_send_75 : decode prog_1_method_27_code 75 = .ok (.getfield 148, 3) := by decide +kernel
theorem dX8_send_78 : decode prog_1_method_27_code 78 = .ok (.invokevirtual 93, 3) := by decide +kernel
theorem dX8_send_81 : decode prog_1_method_27_code 81 = .ok (.aload 5, 2) := by decide +kernel
theorem dX8_send_83 : decode prog_1_method_27_code 83 = .ok (.getfield 148, 3) := by decide +kernel
theorem dX8_send_86 : decode prog_1_method_27_code 86 = .ok (.invokevirtual 93, 3) := by decide +kernel
theorem dX8_send_89 : decode prog_1_method_27_code 89 = .ok (.iadd, 1) := by decide +kernel
theorem dX8_send_90 : decode prog_1_method_27_code 90 = .ok (.iconst 2, 1) := by decide +kernel
theorem dX8_send_91 : decode prog_1_method_27_code 91 = .ok (.aload_n 0, 1) := by decide +kernel
theorem dX8_send_92 : decode prog_1_method_27_code 92 = .ok (.aload 4, 2) := by decide +kernel
theorem dX8_send_94 : decode prog_1_method_27_code 94 = .ok (.getfield 148, 3) := by decide +kernel
theorem dX8_send_97 : decode prog_1_method_27_code 97 = .ok (.aload 5, 2) := by decide +kernel
theorem dX8_send_99 : decode prog_1_method_27_code 99 = .ok (.getfield 148, 3) := by decide +kernel
theorem dX8_send_102 : decode prog_1_method_27_code 102 = .ok (.invokevirtual 314, 3) := by decide +kernel
theorem dX8_send_105 : decode prog_1_method_27_code 105 = .ok (.imul, 1) := by decide +kernel
theorem dX8_send_106 : decode prog_1_method_27_code 106 = .ok (.isub, 1) := by decide +kernel
theorem dX8_send_107 : decode prog_1_method_27_code 107 = .ok (.ireturn, 1) := by decide +kernel
theorem dX8_send_108 : decode prog_1_method_27_code 108 = .ok (.ldc 92, 2) := by decide +kernel
theorem dX8_send_110 : decode prog_1_method_27_code 110 = .ok (.ireturn, 1) := by decide +kernel
abbrev M_X9_differ : am_M := ((⟨"SignCellarModel", "differ", "(II)I"⟩ : MethodName), prog_11_method_68_code, 9, (some .int), 1, 22)
theorem dX9_differ_0 : decode prog_11_method_68_code 0 = .ok (.iconst 0, 1) := by decide +kernel
theorem dX9_differ_1 : decode prog_11_method_68_code 1 = .ok (.istore_n 3, 1) := by decide +kernel
theorem dX9_differ_2 : decode prog_11_method_68_code 2 = .ok (.iload_n 3, 1) := by decide +kernel
theorem dX9_differ_3 : decode prog_11_method_68_code 3 = .ok (.aload_n 0, 1) := by decide +kernel
theorem dX9_differ_4 : decode prog_11_method_68_code 4 = .ok (.getfield 23, 3) := by decide +kernel
theorem dX9_differ_7 : decode prog_11_method_68_code 7 = .ok (.iload_n 1, 1) := by decide +kernel
theorem dX9_differ_8 : decode prog_11_method_68_code 8 = .ok (.iaload, 1) := by decide +kernel
theorem dX9_differ_9 : decode prog_11_method_68_code 9 = .ok (.if_icmp .gt 164, 3) := by decide +kernel
theorem dX9_differ_12 : decode prog_11_method_68_code 12 = .ok (.iconst 0, 1) := by decide +kernel
theorem dX9_differ_13 : decode prog_11_method_68_code 13 = .ok (.istore 4, 2) := by decide +kernel
theorem dX9_differ_15 : decode prog_11_method_68_code 15 = .ok (.iload 4, 2) := by decide +kernel
theorem dX9_differ_17 : decode prog_11_method_68_code 17 = .ok (.aload_n 0, 1) := by decide +kernel
theorem dX9_differ_18 : decode prog_11_method_68_code 18 = .ok (.getfield 23, 3) := by decide +kernel
theorem dX9_differ_21 : decode prog_11_method_68_code 21 = .ok (.iload_n 2, 1) := by decide +kernel
theorem dX9_differ_22 : decode prog_11_method_68_code 22 = .ok (.iaload, 1) := by decide +kernel
theorem dX9_differ_23 : decode prog_11_method_68_code 23 = .ok (.if_icmp .gt 144, 3) := by decide +kernel
theorem dX9_differ_26 : decode prog_11_method_68_code 26 = .ok (.iload_n 3, 1) := by decide +kernel
theorem dX9_differ_27 : decode prog_11_method_68_code 27 = .ok (.iload 4, 2) := by decide +kernel
theorem dX9_differ_29 : decode prog_11_method_68_code 29 = .ok (.iadd, 1) := by decide +kernel
theorem dX9_differ_30 : decode prog_11_method_68_code 30 = .ok (.istore 5, 2) := by decide +kernel
theorem dX9_differ_32 : decode prog_11_method_68_code 32 = .ok (.iload_n 3, 1) := by decide +kernel
theorem dX9_differ_33 : decode prog_11_method_68_code 33 = .ok (.ifCond .le 114, 3) := by decide +kernel
theorem dX9_differ_36 : decode prog_11_method_68_code 36 = .ok (.iload 4, 2) := by decide +kernel
theorem dX9_differ_38 : decode prog_11_method_68_code 38 = .ok (.ifCond .le 109, 3) := by decide +kernel
theorem dX9_differ_41 : decode prog_11_method_68_code 41 = .ok (.aload_n 0, 1) := by decide +kernel
theorem dX9_differ_42 : decode prog_11_method_68_code 42 = .ok (.getfield 89, 3) := by decide +kernel
theorem dX9_differ_45 : decode prog_11_method_68_code 45 = .ok (.bipush 9, 2) := by decide +kernel
theorem dX9_differ_47 : decode prog_11_method_68_code 47 = .ok (.iload_n 3, 1) := by decide +kernel
theorem dX9_differ_48 : decode prog_11_method_68_code 48 = .ok (.iconst 1, 1) := by decide +kernel
theorem dX9_differ_49 : decode prog_11_method_68_code 49 = .ok (.isub, 1) := by decide +kernel
theorem dX9_differ_50 : decode prog_11_method_68_code 50 = .ok (.imul, 1) := by decide +kernel
theorem dX9_differ_51 : decode prog_11_method_68_code 51 = .ok (.iload 4, 2) := by decide +kernel
theorem dX9_differ_53 : decode prog_11_method_68_code 53 = .ok (.iadd, 1) := by decide +kernel
theorem dX9_differ_54 : decode prog_11_method_68_code 54 = .ok (.iaload, 1) := by decide +kernel
theorem dX9_differ_55 : decode prog_11_method_68_code 55 = .ok (.iconst 1, 1) := by decide +kernel
theorem dX9_differ_56 : decode prog_11_method_68_code 56 = .ok (.iadd, 1) := by decide +kernel
theorem dX9_differ_57 : decode prog_11_method_68_code 57 = .ok (.istore 6, 2) := by decide +kernel
theorem dX9_differ_59 : decode prog_11_method_68_code 59 = .ok (.aload_n 0, 1) := by decide +kernel
theorem dX9_differ_60 : decode prog_11_method_68_code 60 = .ok (.getfield 89, 3) := by decide +kernel
theorem dX9_differ_63 : decode prog_11_method_68_code 63 = .ok (.bipush 9, 2) := by decide +kernel
theorem dX9_differ_65 : decode prog_11_method_68_code 65 = .ok (.iload_n 3, 1) := by decide +kernel
theorem dX9_differ_66 : decode prog_11_method_68_code 66 = .ok (.imul, 1) := by decide +kernel
theorem dX9_differ_67 : decode prog_11_method_68_code 67 = .ok (.iload 4, 2) := by decide +kernel
theorem dX9_differ_69 : decode prog_11_method_68_code 69 = .ok (.iadd, 1) := by decide +kernel
theorem dX9_differ_70 : decode prog_11_method_68_code 70 = .ok (.iconst 1, 1) := by decide +kernel
theorem dX9_differ_71 : decode prog_11_method_68_code 71 = .ok (.isub, 1) := by decide +kernel
theorem dX9_differ_72 : decode prog_11_method_68_code 72 = .ok (.iaload, 1) := by decide +kernel
theorem dX9_differ_73 : decode prog_11_method_68_code 73 = .ok (.iconst 1, 1) := by decide +kernel
theorem dX9_differ_74 : decode prog_11_method_68_code 74 = .ok (.iadd, 1) := by decide +kernel
theorem dX9_differ_75 : decode prog_11_method_68_code 75 = .ok (.istore 7, 2) := by decide +kernel
theorem dX9_differ_77 : decode prog_11_method_68_code 77 = .ok (.iload 6, 2) := by decide +kernel
theorem dX9_differ_79 : decode prog_11_method_68_code 79 = .ok (.iload 7, 2) := by decide +kernel
theorem dX9_differ_81 : decode prog_11_method_68_code 81 = .ok (.if_icmp .ge 8, 3) := by decide +kernel
theorem dX9_differ_84 : decode prog_11_method_68_code 84 = .ok (.iload 6, 2) := by decide +kernel
theorem dX9_differ_86 : decode prog_11_method_68_code 86 = .ok (.goto 5, 3) := by decide +kernel
theorem dX9_differ_89 : decode prog_11_method_68_code 89 = .ok (.iload 7, 2) := by decide +kernel
theorem dX9_differ_91 : decode prog_11_method_68_code 91 = .ok (.istore 5, 2) := by decide +kernel
theorem dX9_differ_93 : decode prog_11_method_68_code 93 = .ok (.aload_n 0, 1) := by decide +kernel
theorem dX9_differ_94 : decode prog_11_method_68_code 94 = .ok (.getfield 89, 3) := by decide +kernel
theorem dX9_differ_97 : decode prog_11_method_68_code 97 = .ok (.bipush 9, 2) := by decide +kernel
theorem dX9_differ_99 : decode prog_11_method_68_code 99 = .ok (.iload_n 3, 1) := by decide +kernel
theorem dX9_differ_100 : decode prog_11_method_68_code 100 = .ok (.iconst 1, 1) := by decide +kernel
theorem dX9_differ_101 : decode prog_11_method_68_code 101 = .ok (.isub, 1) := by decide +kernel
theorem dX9_differ_102 : decode prog_11_method_68_code 102 = .ok (.imul, 1) := by decide +kernel
theorem dX9_differ_103 : decode prog_11_method_68_code 103 = .ok (.iload 4, 2) := by decide +kernel
theorem dX9_differ_105 : decode prog_11_method_68_code 105 = .ok (.iadd, 1) := by decide +kernel
theorem dX9_differ_106 : decode prog_11_method_68_code 106 = .ok (.iconst 1, 1) := by decide +kernel
theorem dX9_differ_107 : decode prog_11_method_68_code 107 = .ok (.isub, 1) := by decide +kernel
theorem dX9_differ_108 : decode prog_11_method_68_code 108 = .ok (.iaload, 1) := by decide +kernel
theorem dX9_differ_109 : decode prog_11_method_68_code 109 = .ok (.istore 8, 2) := by decide +kernel
theorem dX9_differ_111 : decode prog_11_method_68_code 111 = .ok (.aload_n 0, 1) := by decide +kernel
theorem dX9_differ_112 : decode prog_11_method_68_code 112 = .ok (.iload_n 1, 1) := by decide +kernel
theorem dX9_differ_113 : decode prog_11_method_68_code 113 = .ok (.iload_n 3, 1) := by decide +kernel
theorem dX9_differ_114 : decode prog_11_method_68_code 114 = .ok (.iconst 1, 1) := by decide +kernel
theorem dX9_differ_115 : decode prog_11_method_68_code 115 = .ok (.isub, 1) := by decide +kernel
theorem dX9_differ_116 : decode prog_11_method_68_code 116 = .ok (.invokevirtual 141, 3) := by decide +kernel
theorem dX9_differ_119 : decode prog_11_method_68_code 119 = .ok (.aload_n 0, 1) := by decide +kernel
theorem dX9_differ_120 : decode prog_11_method_68_code 120 = .ok (.iload_n 2, 1) := by decide +kernel
theorem dX9_differ_121 : decode prog_11_method_68_code 121 = .ok (.iload 4, 2) := by decide +kernel
theorem dX9_differ_123 : decode prog_11_method_68_code 123 = .ok (.iconst 1, 1) := by decide +kernel
theorem dX9_differ_124 : decode prog_11_method_68_code 124 = .ok (.isub, 1) := by decide +kernel
theorem dX9_differ_125 : decode prog_11_method_68_code 125 = .ok (.invokevirtual 141, 3) := by decide +kernel
theorem dX9_differ_128 : decode prog_11_method_68_code 128 = .ok (.if_icmp .ne 15, 3) := by decide +kernel
theorem dX9_differ_131 : decode prog_11_method_68_code 131 = .ok (.iload 8, 2) := by decide +kernel
theorem dX9_differ_133 : decode prog_11_method_68_code 133 = .ok (.iload 5, 2) := by decide +kernel
theorem dX9_differ_135 : decode prog_11_method_68_code 135 = .ok (.if_icmp .ge 8, 3) := by decide +kernel
theorem dX9_differ_138 : decode prog_11_method_68_code 138 = .ok (.iload 8, 2) := by decide +kernel
theorem dX9_differ_140 : decode prog_11_method_68_code 140 = .ok (.goto 5, 3) := by decide +kernel
theorem dX9_differ_143 : decode prog_11_method_68_code 143 = .ok (.iload 5, 2) := by decide +kernel
theorem dX9_differ_145 : decode prog_11_method_68_code 145 = .ok (.istore 5, 2) := by decide +kernel
theorem dX9_differ_147 : decode prog_11_method_68_code 147 = .ok (.aload_n 0, 1) := by decide +kernel
theorem dX9_differ_148 : decode prog_11_method_68_code 148 = .ok (.getfield 89, 3) := by decide +kernel
theorem dX9_differ_151 : decode prog_11_method_68_code 151 = .ok (.bipush 9, 2) := by decide +kernel
theorem dX9_differ_153 : decode prog_11_method_68_code 153 = .ok (.iload_n 3, 1) := by decide +kernel
theorem dX9_differ_154 : decode prog_11_method_68_code 154 = .ok (.imul, 1) := by decide +kernel
theorem dX9_differ_155 : decode prog_11_method_68_code 155 = .ok (.iload 4, 2) := by decide +kernel
theorem dX9_differ_157 : decode prog_11_method_68_code 157 = .ok (.iadd, 1) := by decide +kernel
theorem dX9_differ_158 : decode prog_11_method_68_code 158 = .ok (.iload 5, 2) := by decide +kernel
theorem dX9_differ_160 : decode prog_11_method_68_code 160 = .ok (.iastore, 1) := by decide +kernel
theorem dX9_differ_161 : decode prog_11_method_68_code 161 = .ok (.iinc 4 1, 3) := by decide +kernel
theorem dX9_differ_164 : decode prog_11_method_68_code 164 = .ok (.goto (-149), 3) := by decide +kernel
theorem dX9_differ_167 : decode prog_11_method_68_code 167 = .ok (.iinc 3 1, 3) := by decide +kernel
theorem dX9_differ_170 : decode prog_11_method_68_code 170 = .ok (.goto (-168), 3) := by decide +kernel
theorem dX9_differ_173 : decode prog_11_method_68_code 173 = .ok (.aload_n 0, 1) := by decide +kernel
theorem dX9_differ_174 : decode prog_11_method_68_code 174 = .ok (.getfield 89, 3) := by decide +kernel
theorem dX9_differ_177 : decode prog_11_method_68_code 177 = .ok (.bipush 9, 2) := by decide +kernel
theorem dX9_differ_179 : decode prog_11_method_68_code 179 = .ok (.aload_n 0, 1) := by decide +kernel
theorem dX9_differ_180 : decode prog_11_method_68_code 180 = .ok (.getfield 23, 3) := by decide +kernel
theorem dX9_differ_183 : decode prog_11_method_68_code 183 = .ok (.iload_n 1, 1) := by decide +kernel
theorem dX9_differ_184 : decode prog_11_method_68_code 184 = .ok (.iaload, 1) := by decide +kernel
theorem dX9_differ_185 : decode prog_11_method_68_code 185 = .ok (.imul, 1) := by decide +kernel
theorem dX9_differ_186 : decode prog_11_method_68_code 186 = .ok (.aload_n 0, 1) := by decide +kernel
theorem dX9_differ_187 : decode prog_11_method_68_code 187 = .ok (.getfield 23, 3) := by decide +kernel
theorem dX9_differ_190 : decode prog_11_method_68_code 190 = .ok (.iload_n 2, 1) := by decide +kernel
theorem dX9_differ_191 : decode prog_11_method_68_code 191 = .ok (.iaload, 1) := by decide +kernel
theorem dX9_differ_192 : decode prog_11_method_68_code 192 = .ok (.iadd, 1) := by decide +kernel
theorem dX9_differ_193 : decode prog_11_method_68_code 193 = .ok (.iaload, 1) := by decide +kernel
theorem dX9_differ_194 : decode prog_11_method_68_code 194 = .ok (.ireturn, 1) := by decide +kernel
abbrev M_X9_send : am_M := ((⟨"SignCellarModel", "send", "(III)I"⟩ : MethodName), prog_11_method_69_code, 10, (some .int), 2, 50)
theorem dX9_send_0 : decode prog_11_method_69_code 0 = .ok (.aload_n 0, 1) := by decide +kernel
theorem dX9_send_1 : decode prog_11_method_69_code 1 = .ok (.iload_n 1, 1) := by decide +kernel
theorem dX9_send_2 : decode prog_11_method_69_code 2 = .ok (.invokevirtual 154, 3) := by decide +kernel
theorem dX9_send_5 : decode prog_11_method_69_code 5 = .ok (.ifCond .ne 11, 3) := by decide +kernel
theorem dX9_send_8 : decode prog_11_method_69_code 8 = .ok (.aload_n 0, 1) := by decide +kernel
theorem dX9_send_9 : decode prog_11_method_69_code 9 = .ok (.iload_n 2, 1) := by decide +kernel
theorem dX9_send_10 : decode prog_11_method_69_code 10 = .ok (.invokevirtual 154, 3) := by decide +kernel
theorem dX9_send_13 : decode prog_11_method_69_code 13 = .ok (.ifCond .eq 6, 3) := by decide +kernel
theorem dX9_send_16 : decode prog_11_method_69_code 16 = .ok (.ldc 164, 2) := by decide +kernel
theorem dX9_send_18 : decode prog_11_method_69_code 18 = .ok (.ireturn, 1) := by decide +kernel
theorem dX9_send_19 : decode prog_11_method_69_code 19 = .ok (.iload_n 3, 1) := by decide +kernel
theorem dX9_send_20 : decode prog_11_method_69_code 20 = .ok (.i2l, 1) := by decide +kernel
theorem dX9_send_21 : decode prog_11_method_69_code 21 = .ok (.lconst 0, 1) := by decide +kernel
theorem dX9_send_22 : decode prog_11_method_69_code 22 = .ok (.ldc2_w 264, 3) := by decide +kernel
theorem dX9_send_25 : decode prog_11_method_69_code 25 = .ok (.invokestatic 96, 3) := by decide +kernel
theorem dX9_send_28 : decode prog_11_method_69_code 28 = .ok (.ifCond .ne 6, 3) := by decide +kernel
theorem dX9_send_31 : decode prog_11_method_69_code 31 = .ok (.ldc 105, 2) := by decide +kernel
theorem dX9_send_33 : decode prog_11_method_69_code 33 = .ok (.ireturn, 1) := by decide +kernel
theorem dX9_send_34 : decode prog_11_method_69_code 34 = .ok (.iconst 0, 1) := by decide +kernel
theorem dX9_send_35 : decode prog_11_method_69_code 35 = .ok (.istore 4, 2) := by decide +kernel
theorem dX9_send_37 : decode prog_11_method_69_code 37 = .ok (.iconst 0, 1) := by decide +kernel
theorem dX9_send_38 : decode prog_11_method_69_code 38 = .ok (.istore 5, 2) := by decide +kernel
theorem dX9_send_40 : decode prog_11_method_69_code 40 = .ok (.iconst 0, 1) := by decide +kernel
theorem dX9_send_41 : decode prog_11_method_69_code 41 = .ok (.istore 6, 2) := by decide +kernel
theorem dX9_send_43 : decode prog_11_method_69_code 43 = .ok (.iload 6, 2) := by decide +kernel
theorem dX9_send_45 : decode prog_11_method_69_code 45 = .ok (.aload_n 0, 1) := by decide +kernel
theorem dX9_send_46 : decode prog_11_method_69_code 46 = .ok (.getfield 23, 3) := by decide +kernel
theorem dX9_send_49 : decode prog_11_method_69_code 49 = .ok (.iload_n 2, 1) := by decide +kernel
theorem dX9_send_50 : decode prog_11_method_69_code 50 = .ok (.iaload, 1) := by decide +kernel
theorem dX9_send_51 : decode prog_11_method_69_code 51 = .ok (.if_icmp .ge 110, 3) := by decide +kernel
theorem dX9_send_54 : decode prog_11_method_69_code 54 = .ok (.aload_n 0, 1) := by decide +kernel
theorem dX9_send_55 : decode prog_11_method_69_code 55 = .ok (.iload_n 2, 1) := by decide +kernel
theorem dX9_send_56 : decode prog_11_method_69_code 56 = .ok (.iload 6, 2) := by decide +kernel
theorem dX9_send_58 : decode prog_11_method_69_code 58 = .ok (.invokevirtual 141, 3) := by decide +kernel
theorem dX9_send_61 : decode prog_11_method_69_code 61 = .ok (.istore 7, 2) := by decide +kernel
theorem dX9_send_63 : decode prog_11_method_69_code 63 = .ok (.aload_n 0, 1) := by decide +kernel
theorem dX9_send_64 : decode prog_11_method_69_code 64 = .ok (.iload_n 1, 1) := by decide +kernel
theorem dX9_send_65 : decode prog_11_method_69_code 65 = .ok (.iload 7, 2) := by decide +kernel
theorem dX9_send_67 : decode prog_11_method_69_code 67 = .ok (.invokevirtual 187, 3) := by decide +kernel
theorem dX9_send_70 : decode prog_11_method_69_code 70 = .ok (.istore 8, 2) := by decide +kernel
theorem dX9_send_72 : decode prog_11_method_69_code 72 = .ok (.iconst 0, 1) := by decide +kernel
theorem dX9_send_73 : decode prog_11_method_69_code 73 = .ok (.istore 9, 2) := by decide +kernel
theorem dX9_send_75 : decode prog_11_method_69_code 75 = .ok (.iload 9, 2) := by decide +kernel
theorem dX9_send_77 : decode prog_11_method_69_code 77 = .ok (.iload 6, 2) := by decide +kernel
theorem dX9_send_79 : decode prog_11_method_69_code 79 = .ok (.if_icmp .ge 33, 3) := by decide +kernel
theorem dX9_send_82 : decode prog_11_method_69_code 82 = .ok (.iload 8, 2) := by decide +kernel
theorem dX9_send_84 : decode prog_11_method_69_code 84 = .ok (.ifCond .ne 15, 3) := by decide +kernel
theorem dX9_send_87 : decode prog_11_method_69_code 87 = .ok (.aload_n 0, 1) := by decide +kernel
theorem dX9_send_88 : decode prog_11_method_69_code 88 = .ok (.iload_n 2, 1) := by decide +kernel
theorem dX9_send_89 : decode prog_11_method_69_code 89 = .ok (.iload 9, 2) := by decide +kernel
theorem dX9_send_91 : decode prog_11_method_69_code 91 = .ok (.invokevirtual 141, 3) := by decide +kernel
theorem dX9_send_94 : decode prog_11_method_69_code 94 = .ok (.iload 7, 2) := by decide +kernel
theorem dX9_send_96 : decode prog_11_method_69_code 96 = .ok (.if_icmp .ne 7, 3) := by decide +kernel
theorem dX9_send_99 : decode prog_11_method_69_code 99 = .ok (.iconst 1, 1) := by decide +kernel
theorem dX9_send_100 : decode prog_11_method_69_code 100 = .ok (.goto 4, 3) := by decide +kernel
theorem dX9_send_103 : decode prog_11_method_69_code 103 = .ok (.iconst 0, 1) := by decide +kernel
theorem dX9_send_104 : decode prog_11_method_69_code 104 = .ok (.istore 8, 2) := by decide +kernel
theorem dX9_send_106 : decode prog_11_method_69_code 106 = .ok (.iinc 9 1, 3) := by decide +kernel
theorem dX9_send_109 : decode prog_11_method_69_code 109 = .ok (.goto (-34), 3) := by decide +kernel
theorem dX9_send_112 : decode prog_11_method_69_code 112 = .ok (.iload 4, 2) := by decide +kernel
theorem dX9_send_114 : decode prog_11_method_69_code 114 = .ok (.iload 8, 2) := by decide +kernel
theorem dX9_send_116 : decode prog_11_method_69_code 116 = .ok (.ifCond .eq 7, 3) := by decide +kernel
theorem dX9_send_119 : decode prog_11_method_69_code 119 = .ok (.iconst 4, 1) := by decide +kernel
theorem dX9_send_120 : decode prog_11_method_69_code 120 = .ok (.goto 14, 3) := by decide +kernel
theorem dX9_send_123 : decode prog_11_method_69_code 123 = .ok (.iconst 4, 1) := by decide +kernel
theorem dX9_send_124 : decode prog_11_method_69_code 124 = .ok (.aload_n 0, 1) := by decide +kernel
theorem dX9_send_125 : decode prog_11_method_69_code 125 = .ok (.getfield 13, 3) := by decide +kernel
theorem dX9_send_128 : decode prog_11_method_69_code 128 = .ok (.iload 7, 2) := by decide +kernel
theorem dX9_send_130 : decode prog_11_method_69_code 130 = .ok (.iaload, 1) := by decide +kernel
theorem dX9_send_131 : decode prog_11_method_69_code 131 = .ok (.imul, 1) := by decide +kernel
theorem dX9_send_132 : decode prog_11_method_69_code 132 = .ok (.iconst 3, 1) := by decide +kernel
theorem dX9_send_133 : decode prog_11_method_69_code 133 = .ok (.iadd, 1) := by decide +kernel
theorem dX9_send_134 : decode prog_11_method_69_code 134 = .ok (.iadd, 1) := by decide +kernel
theorem dX9_send_135 : decode prog_11_method_69_code 135 = .ok (.istore 4, 2) := by decide +kernel
theorem dX9_send_137 : decode prog_11_method_69_code 137 = .ok (.iload 5, 2) := by decide +kernel
theorem dX9_send_139 : decode prog_11_method_69_code 139 = .ok (.iload 8, 2) := by decide +kernel
theorem dX9_send_141 : decode prog_11_method_69_code 141 = .ok (.ifCond .ne 7, 3) := by decide +kernel
theorem dX9_send_144 : decode prog_11_method_69_code 144 = .ok (.iconst 1, 1) := by decide +kernel
theorem dX9_send_145 : decode prog_11_method_69_code 145 = .ok (.goto 4, 3) := by decide +kernel
theorem dX9_send_148 : decode prog_11_method_69_code 148 = .ok (.iconst 0, 1) := by decide +kernel
theorem dX9_send_149 : decode prog_11_method_69_code 149 = .ok (.invokestatic 150, 3) := by decide +kernel
theorem dX9_send_152 : decode prog_11_method_69_code 152 = .ok (.iadd, 1) := by decide +kernel
theorem dX9_send_153 : decode prog_11_method_69_code 153 = .ok (.istore 5, 2) := by decide +kernel
theorem dX9_send_155 : decode prog_11_method_69_code 155 = .ok (.iinc 6 1, 3) := by decide +kernel
theorem dX9_send_158 : decode prog_11_method_69_code 158 = .ok (.goto (-115), 3) := by decide +kernel
theorem dX9_send_161 : decode prog_11_method_69_code 161 = .ok (.iload_n 3, 1) := by decide +kernel
theorem dX9_send_162 : decode prog_11_method_69_code 162 = .ok (.ifCond .ne 8, 3) := by decide +kernel
theorem dX9_send_165 : decode prog_11_method_69_code 165 = .ok (.iload 4, 2) := by decide +kernel
theorem dX9_send_167 : decode prog_11_method_69_code 167 = .ok (.goto 19, 3) := by decide +kernel
theorem dX9_send_170 : decode prog_11_method_69_code 170 = .ok (.iload_n 3, 1) := by decide +kernel
theorem dX9_send_171 : decode prog_11_method_69_code 171 = .ok (.iconst 1, 1) := by decide +kernel
theorem dX9_send_172 : decode prog_11_method_69_code 172 = .ok (.if_icmp .ne 8, 3) := by decide +kernel
theorem dX9_send_175 : decode prog_11_method_69_code 175 = .ok (.iload 5, 2) := by decide +kernel
theorem dX9_send_177 : decode prog_11_method_69_code 177 = .ok (.goto 9, 3) := by decide +kernel
theorem dX9_send_180 : decode prog_11_method_69_code 180 = .ok (.aload_n 0, 1) := by decide +kernel
theorem dX9_send_181 : decode prog_11_method_69_code 181 = .ok (.iload_n 1, 1) := by decide +kernel
theorem dX9_send_182 : decode prog_11_method_69_code 182 = .ok (.iload_n 2, 1) := by decide +kernel
theorem dX9_send_183 : decode prog_11_method_69_code 183 = .ok (.invokevirtual 298, 3) := by decide +kernel
theorem dX9_send_186 : decode prog_11_method_69_code 186 = .ok (.ireturn, 1) := by decide +kernel
abbrev M_X8_refusalOfWays : am_M := ((⟨"SignCellar", "refusalOfWays", "(LSignCellar$Block;)I"⟩ : MethodName), prog_1_method_59_code, 1, (some .int), 1, 20)
theorem dX8_refusalOfWays_0 : decode prog_1_method_59_code 0 = .ok (.aload_n 0, 1) := by decide +kernel
theorem dX8_refusalOfWays_1 : decode prog_1_method_59_code 1 = .ok (.ifnonnull 6, 3) := by decide +kernel
theorem dX8_refusalOfWays_4 : decode prog_1_method_59_code 4 = .ok (.ldc 133, 2) := by decide +kernel
theorem dX8_refusalOfWays_6 : decode prog_1_method_59_code 6 = .ok (.ireturn, 1) := by decide +kernel
theorem dX8_refusalOfWays_7 : decode prog_1_method_59_code 7 = .ok (.aload_n 0, 1) := by decide +kernel
theorem dX8_refusalOfWays_8 : decode prog_1_method_59_code 8 = .ok (.getfield 180, 3) := by decide +kernel
theorem dX8_refusalOfWays_11 : decode prog_1_method_59_code 11 = .ok (.invokevirtual 93, 3) := by decide +kernel
theorem dX8_refusalOfWays_14 : decode prog_1_method_59_code 14 = .ok (.bipush 20, 2) := by decide +kernel
theorem dX8_refusalOfWays_16 : decode prog_1_method_59_code 16 = .ok (.if_icmp .le 6, 3) := by decide +kernel
theorem dX8_refusalOfWays_19 : decode prog_1_method_59_code 19 = .ok (.ldc 101, 2) := by decide +kernel
theorem dX8_refusalOfWays_21 : decode prog_1_method_59_code 21 = .ok (.ireturn, 1) := by decide +kernel
theorem dX8_refusalOfWays_22 : decode prog_1_method_59_code 22 = .ok (.aload_n 0, 1) := by decide +kernel
theorem dX8_refusalOfWays_23 : decode prog_1_method_59_code 23 = .ok (.getfield 182, 3) := by decide +kernel
theorem dX8_refusalOfWays_26 : decode prog_1_method_59_code 26 = .ok (.ifCond .eq 8, 3) := by decide +kernel
theorem dX8_refusalOfWays_29 : decode prog_1_method_59_code 29 = .ok (.ldc 168, 2) := by decide +kernel
theorem dX8_refusalOfWays_31 : decode prog_1_method_59_code 31 = .ok (.goto 4, 3) := by decide +kernel
theorem dX8_refusalOfWays_34 : decode prog_1_method_59_code 34 = .ok (.iconst 0, 1) := by decide +kernel
theorem dX8_refusalOfWays_35 : decode prog_1_method_59_code 35 = .ok (.ireturn, 1) := by decide +kernel
abbrev M_X8_waysOf : am_M := ((⟨"SignCellar", "waysOf", "(LSignCellar$Row;)J"⟩ : MethodName), prog_1_method_68_code, 7, (some .long), 3, 67)
theorem dX8_waysOf_0 : decode prog_1_method_68_code 0 = .ok (.lconst 1, 1) := by decide +kernel
theorem dX8_waysOf_1 : decode prog_1_method_68_code 1 = .ok (.lstore_n 1, 1) := by decide +kernel
theorem dX8_waysOf_2 : decode prog_1_method_68_code 2 = .ok (.iconst 0, 1) := by decide +kernel
theorem dX8_waysOf_3 : decode prog_1_method_68_code 3 = .ok (.istore_n 3, 1) := by decide +kernel
theorem dX8_waysOf_4 : decode prog_1_method_68_code 4 = .ok (.iconst 0, 1) := by decide +kernel
theorem dX8_waysOf_5 : decode prog_1_method_68_code 5 = .ok (.istore 4, 2) := by decide +kernel
theorem dX8_waysOf_7 : decode prog_1_method_68_code 7 = .ok (.iload 4, 2) := by decide +kernel
theorem dX8_waysOf_9 : decode prog_1_method_68_code 9 = .ok (.bipush 16, 2) := by decide +kernel
theorem dX8_waysOf_11 : decode prog_1_method_68_code 11 = .ok (.if_icmp .ge 45, 3) := by decide +kernel
theorem dX8_waysOf_14 : decode prog_1_method_68_code 14 = .ok (.aload_n 0, 1) := by decide +kernel
theorem dX8_waysOf_15 : decode prog_1_method_68_code 15 = .ok (.iload 4, 2) := by decide +kernel
theorem dX8_waysOf_17 : decode prog_1_method_68_code 17 = .ok (.invokevirtual 326, 3) := by decide +kernel
theorem dX8_waysOf_20 : decode prog_1_method_68_code 20 = .ok (.istore 5, 2) := by decide +kernel
theorem dX8_waysOf_22 : decode prog_1_method_68_code 22 = .ok (.iconst 1, 1) := by decide +kernel
theorem dX8_waysOf_23 : decode prog_1_method_68_code 23 = .ok (.istore 6, 2) := by decide +kernel
theorem dX8_waysOf_25 : decode prog_1_method_68_code 25 = .ok (.iload 6, 2) := by decide +kernel
theorem dX8_waysOf_27 : decode prog_1_method_68_code 27 = .ok (.iload 5, 2) := by decide +kernel
theorem dX8_waysOf_29 : decode prog_1_method_68_code 29 = .ok (.if_icmp .gt 21, 3) := by decide +kernel
theorem dX8_waysOf_32 : decode prog_1_method_68_code 32 = .ok (.iinc 3 1, 3) := by decide +kernel
theorem dX8_waysOf_35 : decode prog_1_method_68_code 35 = .ok (.lload_n 1, 1) := by decide +kernel
theorem dX8_waysOf_36 : decode prog_1_method_68_code 36 = .ok (.iload_n 3, 1) := by decide +kernel
theorem dX8_waysOf_37 : decode prog_1_method_68_code 37 = .ok (.i2l, 1) := by decide +kernel
theorem dX8_waysOf_38 : decode prog_1_method_68_code 38 = .ok (.lmul, 1) := by decide +kernel
theorem dX8_waysOf_39 : decode prog_1_method_68_code 39 = .ok (.iload 6, 2) := by decide +kernel
theorem dX8_waysOf_41 : decode prog_1_method_68_code 41 = .ok (.i2l, 1) := by decide +kernel
theorem dX8_waysOf_42 : decode prog_1_method_68_code 42 = .ok (.ldiv, 1) := by decide +kernel
theorem dX8_waysOf_43 : decode prog_1_method_68_code 43 = .ok (.lstore_n 1, 1) := by decide +kernel
theorem dX8_waysOf_44 : decode prog_1_method_68_code 44 = .ok (.iinc 6 1, 3) := by decide +kernel
theorem dX8_waysOf_47 : decode prog_1_method_68_code 47 = .ok (.goto (-22), 3) := by decide +kernel
theorem dX8_waysOf_50 : decode prog_1_method_68_code 50 = .ok (.iinc 4 1, 3) := by decide +kernel
theorem dX8_waysOf_53 : decode prog_1_method_68_code 53 = .ok (.goto (-46), 3) := by decide +kernel
theorem dX8_waysOf_56 : decode prog_1_method_68_code 56 = .ok (.lload_n 1, 1) := by decide +kernel
theorem dX8_waysOf_57 : decode prog_1_method_68_code 57 = .ok (.lreturn, 1) := by decide +kernel
abbrev M_X8_ways : am_M := ((⟨"SignCellar", "ways", "(I)J"⟩ : MethodName), prog_1_method_28_code, 4, (some .long), 4, 93)
theorem dX8_ways_0 : decode prog_1_method_28_code 0 = .ok (.aload_n 0, 1) := by decide +kernel
theorem dX8_ways_1 : decode prog_1_method_28_code 1 = .ok (.iload_n 1, 1) := by decide +kernel
theorem dX8_ways_2 : decode prog_1_method_28_code 2 = .ok (.invokevirtual 176, 3) := by decide +kernel
theorem dX8_ways_5 : decode prog_1_method_28_code 5 = .ok (.astore_n 2, 1) := by decide +kernel
theorem dX8_ways_6 : decode prog_1_method_28_code 6 = .ok (.aload_n 2, 1) := by decide +kernel
theorem dX8_ways_7 : decode prog_1_method_28_code 7 = .ok (.invokestatic 318, 3) := by decide +kernel
theorem dX8_ways_10 : decode prog_1_method_28_code 10 = .ok (.istore_n 3, 1) := by decide +kernel
theorem dX8_ways_11 : decode prog_1_method_28_code 11 = .ok (.aload_n 2, 1) := by decide +kernel
theorem dX8_ways_12 : decode prog_1_method_28_code 12 = .ok (.ifnull 7, 3) := by decide +kernel
theorem dX8_ways_15 : decode prog_1_method_28_code 15 = .ok (.iload_n 3, 1) := by decide +kernel
theorem dX8_ways_16 : decode prog_1_method_28_code 16 = .ok (.ifCond .eq 6, 3) := by decide +kernel
theorem dX8_ways_19 : decode prog_1_method_28_code 19 = .ok (.iload_n 3, 1) := by decide +kernel
theorem dX8_ways_20 : decode prog_1_method_28_code 20 = .ok (.i2l, 1) := by decide +kernel
theorem dX8_ways_21 : decode prog_1_method_28_code 21 = .ok (.lreturn, 1) := by decide +kernel
theorem dX8_ways_22 : decode prog_1_method_28_code 22 = .ok (.aload_n 2, 1) := by decide +kernel
theorem dX8_ways_23 : decode prog_1_method_28_code 23 = .ok (.getfield 180, 3) := by decide +kernel
theorem dX8_ways_26 : decode prog_1_method_28_code 26 = .ok (.invokestatic 322, 3) := by decide +kernel
theorem dX8_ways_29 : decode prog_1_method_28_code 29 = .ok (.lreturn, 1) := by decide +kernel
abbrev M_X9_whyNoWays : am_M := ((⟨"SignCellarModel", "whyNoWays", "(I)I"⟩ : MethodName), prog_11_method_72_code, 2, (some .int), 2, 46)
theorem dX9_whyNoWays_0 : decode prog_11_method_72_code 0 = .ok (.aload_n 0, 1) := by decide +kernel
theorem dX9_whyNoWays_1 : decode prog_11_method_72_code 1 = .ok (.iload_n 1, 1) := by decide +kernel
theorem dX9_whyNoWays_2 : decode prog_11_method_72_code 2 = .ok (.invokevirtual 184, 3) := by decide +kernel
theorem dX9_whyNoWays_5 : decode prog_11_method_72_code 5 = .ok (.ifCond .eq 8, 3) := by decide +kernel
theorem dX9_whyNoWays_8 : decode prog_11_method_72_code 8 = .ok (.ldc 164, 2) := by decide +kernel
theorem dX9_whyNoWays_10 : decode prog_11_method_72_code 10 = .ok (.goto 34, 3) := by decide +kernel
theorem dX9_whyNoWays_13 : decode prog_11_method_72_code 13 = .ok (.aload_n 0, 1) := by decide +kernel
theorem dX9_whyNoWays_14 : decode prog_11_method_72_code 14 = .ok (.getfield 13, 3) := by decide +kernel
theorem dX9_whyNoWays_17 : decode prog_11_method_72_code 17 = .ok (.iload_n 1, 1) := by decide +kernel
theorem dX9_whyNoWays_18 : decode prog_11_method_72_code 18 = .ok (.iaload, 1) := by decide +kernel
theorem dX9_whyNoWays_19 : decode prog_11_method_72_code 19 = .ok (.bipush 20, 2) := by decide +kernel
theorem dX9_whyNoWays_21 : decode prog_11_method_72_code 21 = .ok (.if_icmp .le 8, 3) := by decide +kernel
theorem dX9_whyNoWays_24 : decode prog_11_method_72_code 24 = .ok (.ldc 127, 2) := by decide +kernel
theorem dX9_whyNoWays_26 : decode prog_11_method_72_code 26 = .ok (.goto 18, 3) := by decide +kernel
theorem dX9_whyNoWays_29 : decode prog_11_method_72_code 29 = .ok (.aload_n 0, 1) := by decide +kernel
theorem dX9_whyNoWays_30 : decode prog_11_method_72_code 30 = .ok (.getfield 19, 3) := by decide +kernel
theorem dX9_whyNoWays_33 : decode prog_11_method_72_code 33 = .ok (.iload_n 1, 1) := by decide +kernel
theorem dX9_whyNoWays_34 : decode prog_11_method_72_code 34 = .ok (.baload, 1) := by decide +kernel
theorem dX9_whyNoWays_35 : decode prog_11_method_72_code 35 = .ok (.ifCond .eq 8, 3) := by decide +kernel
theorem dX9_whyNoWays_38 : decode prog_11_method_72_code 38 = .ok (.ldc 168, 2) := by decide +kernel
theorem dX9_whyNoWays_40 : decode prog_11_method_72_code 40 = .ok (.goto 4, 3) := by decide +kernel
theorem dX9_whyNoWays_43 : decode prog_11_method_72_code 43 = .ok (.iconst 0, 1) := by decide +kernel
theorem dX9_whyNoWays_44 : decode prog_11_method_72_code 44 = .ok (.ireturn, 1) := by decide +kernel
theorem fw_X8_54 : am_fw "SignCellar" 54 8 10 := ⟨(RX8, TX8, 16), rfl, by decide, inX8, Or.inl wd_1_190⟩
def F_X8_inCommon_114 (k24 : Nat → Nat → Nat → Int32 → Int32 → Int32 → am_H → Option (Int32 × am_H)) (k33 : Nat → Nat → Nat → Int32 → Int32 → Int32 → Int32 → am_H → Option (Int32 × am_H)) (v0 : Nat) (v1 : Nat) (v2 : Nat) (v3 : Int32) (v4 : Int32) (v5 : Int32) (v6 : Int32) (s0 : Nat) (s1 : Int32) (s2 : Int32) (h : am_H) : Option (Int32 × am_H) :=
  (am_is 0 s0 s1 s2 h).bind fun h1 =>
  k33 v0 v1 v2 v3 v4 v5 (v6 + (1 : Int32)) h1
theorem w_X8_inCommon_114 {g : am_G} {l : Launch} {h0 : am_H} {x : Int32} {hf : am_H}  {k24 : Nat → Nat → Nat → Int32 → Int32 → Int32 → am_H → Option (Int32 × am_H)} {k33 : Nat → Nat → Nat → Int32 → Int32 → Int32 → Int32 → am_H → Option (Int32 × am_H)} (j24 : ∀ (v0 : Nat) (v1 : Nat) (v2 : Nat) (v3 : Int32) (v4 : Int32) (v5 : Int32) (h : am_H), k24 v0 v1 v2 v3 v4 v5 h = some (x, hf) → am_W g l M_X8_inCommon h0 (some (.int x)) hf 24 [some (.ref v0), some (.ref v1), some (.ref v2), some (.int v3), some (.int v4), some (.int v5), none] [] h) (j33 : ∀ (v0 : Nat) (v1 : Nat) (v2 : Nat) (v3 : Int32) (v4 : Int32) (v5 : Int32) (v6 : Int32) (h : am_H), k33 v0 v1 v2 v3 v4 v5 v6 h = some (x, hf) → am_W g l M_X8_inCommon h0 (some (.int x)) hf 33 [some (.ref v0), some (.ref v1), some (.ref v2), some (.int v3), some (.int v4), some (.int v5), some (.int v6)] [] h) (v0 : Nat) (v1 : Nat) (v2 : Nat) (v3 : Int32) (v4 : Int32) (v5 : Int32) (v6 : Int32) (s0 : Nat) (s1 : Int32) (s2 : Int32) (h : am_H) (hF : F_X8_inCommon_114 k24 k33 v0 v1 v2 v3 v4 v5 v6 s0 s1 s2 h = some (x, hf)) : am_W g l M_X8_inCommon h0 (some (.int x)) hf 114 [some (.ref v0), some (.ref v1), some (.ref v2), some (.int v3), some (.int v4), some (.int v5), some (.int v6)] [.int s2, .int s1, .ref s0] h := by
  unfold F_X8_inCommon_114 at hF
  obtain ⟨h1, eh1, hF⟩ := am_bind hF
  refine am_iast (pc' := 115) dX8_inCommon_114 eh1 rfl ?_
  refine am_iinc (ls' := [some (.ref v0), some (.ref v1), some (.ref v2), some (.int v3), some (.int v4), some (.int v5), some (.int (v6 + (1 : Int32)))]) (pc' := 118) (v := (v6 + (1 : Int32))) dX8_inCommon_115 rfl rfl (Nat.le_of_ble_eq_true rfl) rfl rfl ?_
  refine am_goto (pc' := 33) dX8_inCommon_118 rfl ?_
  exact j33 v0 v1 v2 v3 v4 v5 (v6 + (1 : Int32)) h1 hF
def F_X8_inCommon_33 (k24 : Nat → Nat → Nat → Int32 → Int32 → Int32 → am_H → Option (Int32 × am_H)) : Nat → Nat → Nat → Nat → Int32 → Int32 → Int32 → Int32 → am_H → Option (Int32 × am_H)
  | 0, _, _, _, _, _, _, _, _ => none
  | n + 1, v0, v1, v2, v3, v4, v5, v6, h =>
  if v4 < v6 then
    k24 v0 v1 v2 v3 v4 (v5 + (1 : Int32)) h
  else
    (am_gr 8 10 v0 h).bind fun x2 =>
    (am_al 5 x2 v5 h).bind fun x3 =>
    (F_X4_at v1 (v5 - (1 : Int32)) h).bind fun x4 =>
    (F_X4_at v2 (v6 - (1 : Int32)) h).bind fun x5 =>
    if x4 = x5 then
      (am_gr 8 10 v0 h).bind fun x7 =>
      (am_al 5 x7 (v5 - (1 : Int32)) h).bind fun x8 =>
      (am_il 0 x8 (v6 - (1 : Int32)) h).bind fun x9 =>
      F_X8_inCommon_114 k24 (F_X8_inCommon_33 k24 n) v0 v1 v2 v3 v4 v5 v6 x3 v6 (x9 + (1 : Int32)) h
    else
      (am_gr 8 10 v0 h).bind fun x10 =>
      (am_al 5 x10 (v5 - (1 : Int32)) h).bind fun x11 =>
      (am_il 0 x11 v6 h).bind fun x12 =>
      (am_gr 8 10 v0 h).bind fun x13 =>
      (am_al 5 x13 v5 h).bind fun x14 =>
      (am_il 0 x14 (v6 - (1 : Int32)) h).bind fun x15 =>
      (F_J9_max_7cf53 x12 x15 h).bind fun x16 =>
      F_X8_inCommon_114 k24 (F_X8_inCommon_33 k24 n) v0 v1 v2 v3 v4 v5 v6 x3 v6 x16 h
theorem w_X8_inCommon_33 {g : am_G} {l : Launch} {h0 : am_H} {x : Int32} {hf : am_H}  {k24 : Nat → Nat → Nat → Int32 → Int32 → Int32 → am_H → Option (Int32 × am_H)} (j24 : ∀ (v0 : Nat) (v1 : Nat) (v2 : Nat) (v3 : Int32) (v4 : Int32) (v5 : Int32) (h : am_H), k24 v0 v1 v2 v3 v4 v5 h = some (x, hf) → am_W g l M_X8_inCommon h0 (some (.int x)) hf 24 [some (.ref v0), some (.ref v1), some (.ref v2), some (.int v3), some (.int v4), some (.int v5), none] [] h) : ∀ (n : Nat) (v0 : Nat) (v1 : Nat) (v2 : Nat) (v3 : Int32) (v4 : Int32) (v5 : Int32) (v6 : Int32) (h : am_H), F_X8_inCommon_33 k24 n v0 v1 v2 v3 v4 v5 v6 h = some (x, hf) → am_W g l M_X8_inCommon h0 (some (.int x)) hf 33 [some (.ref v0), some (.ref v1), some (.ref v2), some (.int v3), some (.int v4), some (.int v5), some (.int v6)] [] h
  | 0, _, _, _, _, _, _, _, _, hF => by cases hF
  | n + 1, v0, v1, v2, v3, v4, v5, v6, h, hF => by
    rw [F_X8_inCommon_33] at hF
    refine am_iload (pc' := 35) dX8_inCommon_33 rfl rfl ?_
    refine am_iload (pc' := 37) dX8_inCommon_35 rfl rfl ?_
    rcases am_ite hF with ⟨z1, hF⟩ | ⟨z1, hF⟩
    · refine am_icmp_gt_t (pc' := 121) dX8_inCommon_37 rfl z1 ?_
      refine am_iinc (ls' := [some (.ref v0), some (.ref v1), some (.ref v2), some (.int v3), some (.int v4), some (.int (v5 + (1 : Int32))), some (.int v6)]) (pc' := 124) (v := (v5 + (1 : Int32))) dX8_inCommon_121 rfl rfl (Nat.le_of_ble_eq_true rfl) rfl rfl ?_
      refine am_goto (pc' := 24) dX8_inCommon_124 rfl ?_
      exact am_weak [true, true, true, true, true, true, false] (j24 v0 v1 v2 v3 v4 (v5 + (1 : Int32)) h hF)
    · refine am_icmp_gt_f (pc' := 40) (tgt := 121) dX8_inCommon_37 rfl z1 rfl ?_
      refine am_aload_n (pc' := 41) dX8_inCommon_40 rfl rfl ?_
      obtain ⟨x2, ex2, hF⟩ := am_bind hF
      refine am_getr (pc' := 44) dX8_inCommon_41 fw_X8_54 ex2 rfl ?_
      refine am_iload (pc' := 46) dX8_inCommon_44 rfl rfl ?_
      obtain ⟨x3, ex3, hF⟩ := am_bind hF
      refine am_aald5 (pc' := 47) dX8_inCommon_46 ex3 rfl ?_
      refine am_iload (pc' := 49) dX8_inCommon_47 rfl rfl ?_
      refine am_aload_n (pc' := 50) dX8_inCommon_49 rfl rfl ?_
      refine am_iload (pc' := 52) dX8_inCommon_50 rfl rfl ?_
      refine am_iconst (v := (1 : Int32)) (pc' := 53) dX8_inCommon_52 rfl rfl ?_
      refine am_isub (pc' := 54) dX8_inCommon_53 rfl ?_
      obtain ⟨x4, ex4, hF⟩ := am_bind hF
      obtain ⟨ox4, px4⟩ := t_X4_at ex4
      refine am_callV1 (Mc := M_X4_at) (As := [.int (v5 - (1 : Int32))]) (st := [.int v6, .ref x3]) (pc' := 57) dX8_inCommon_54 cw_X8_161 wd_2_40 wd_2_41 ⟨_, rfl, rfl⟩ (by decide) (by decide) rfl rfl (Nat.le_of_ble_eq_true rfl) px4 (c_X4_at ex4) rfl ?_
      refine am_aload_n (pc' := 58) dX8_inCommon_57 rfl rfl ?_
      refine am_iload (pc' := 60) dX8_inCommon_58 rfl rfl ?_
      refine am_iconst (v := (1 : Int32)) (pc' := 61) dX8_inCommon_60 rfl rfl ?_
      refine am_isub (pc' := 62) dX8_inCommon_61 rfl ?_
      obtain ⟨x5, ex5, hF⟩ := am_bind hF
      obtain ⟨ox5, px5⟩ := t_X4_at ex5
      refine am_callV1 (Mc := M_X4_at) (As := [.int (v6 - (1 : Int32))]) (st := [.int x4, .int v6, .ref x3]) (pc' := 65) dX8_inCommon_62 cw_X8_161 wd_2_40 wd_2_41 ⟨_, rfl, rfl⟩ (by decide) (by decide) rfl rfl (Nat.le_of_ble_eq_true rfl) px5 (c_X4_at ex5) rfl ?_
      rcases am_ite hF with ⟨z6, hF⟩ | ⟨z6, hF⟩
      · refine am_icmp_ne_f (pc' := 68) (tgt := 87) dX8_inCommon_65 rfl z6 rfl ?_
        refine am_aload_n (pc' := 69) dX8_inCommon_68 rfl rfl ?_
        obtain ⟨x7, ex7, hF⟩ := am_bind hF
        refine am_getr (pc' := 72) dX8_inCommon_69 fw_X8_54 ex7 rfl ?_
        refine am_iload (pc' := 74) dX8_inCommon_72 rfl rfl ?_
        refine am_iconst (v := (1 : Int32)) (pc' := 75) dX8_inCommon_74 rfl rfl ?_
        refine am_isub (pc' := 76) dX8_inCommon_75 rfl ?_
        obtain ⟨x8, ex8, hF⟩ := am_bind hF
        refine am_aald5 (pc' := 77) dX8_inCommon_76 ex8 rfl ?_
        refine am_iload (pc' := 79) dX8_inCommon_77 rfl rfl ?_
        refine am_iconst (v := (1 : Int32)) (pc' := 80) dX8_inCommon_79 rfl rfl ?_
        refine am_isub (pc' := 81) dX8_inCommon_80 rfl ?_
        obtain ⟨x9, ex9, hF⟩ := am_bind hF
        refine am_iald (pc' := 82) dX8_inCommon_81 ex9 rfl ?_
        refine am_iconst (v := (1 : Int32)) (pc' := 83) dX8_inCommon_82 rfl rfl ?_
        refine am_iadd (pc' := 84) dX8_inCommon_83 rfl ?_
        refine am_goto (pc' := 114) dX8_inCommon_84 rfl ?_
        exact w_X8_inCommon_114 j24 (w_X8_inCommon_33 j24 n) v0 v1 v2 v3 v4 v5 v6 x3 v6 (x9 + (1 : Int32)) h hF
      · refine am_icmp_ne_t (pc' := 87) dX8_inCommon_65 rfl z6 ?_
        refine am_aload_n (pc' := 88) dX8_inCommon_87 rfl rfl ?_
        obtain ⟨x10, ex10, hF⟩ := am_bind hF
        refine am_getr (pc' := 91) dX8_inCommon_88 fw_X8_54 ex10 rfl ?_
        refine am_iload (pc' := 93) dX8_inCommon_91 rfl rfl ?_
        refine am_iconst (v := (1 : Int32)) (pc' := 94) dX8_inCommon_93 rfl rfl ?_
        refine am_isub (pc' := 95) dX8_inCommon_94 rfl ?_
        obtain ⟨x11, ex11, hF⟩ := am_bind hF
        refine am_aald5 (pc' := 96) dX8_inCommon_95 ex11 rfl ?_
        refine am_iload (pc' := 98) dX8_inCommon_96 rfl rfl ?_
        obtain ⟨x12, ex12, hF⟩ := am_bind hF
        refine am_iald (pc' := 99) dX8_inCommon_98 ex12 rfl ?_
        refine am_aload_n (pc' := 100) dX8_inCommon_99 rfl rfl ?_
        obtain ⟨x13, ex13, hF⟩ := am_bind hF
        refine am_getr (pc' := 103) dX8_inCommon_100 fw_X8_54 ex13 rfl ?_
        refine am_iload (pc' := 105) dX8_inCommon_103 rfl rfl ?_
        obtain ⟨x14, ex14, hF⟩ := am_bind hF
        refine am_aald5 (pc' := 106) dX8_inCommon_105 ex14 rfl ?_
        refine am_iload (pc' := 108) dX8_inCommon_106 rfl rfl ?_
        refine am_iconst (v := (1 : Int32)) (pc' := 109) dX8_inCommon_108 rfl rfl ?_
        refine am_isub (pc' := 110) dX8_inCommon_109 rfl ?_
        obtain ⟨x15, ex15, hF⟩ := am_bind hF
        refine am_iald (pc' := 111) dX8_inCommon_110 ex15 rfl ?_
        obtain ⟨x16, ex16, hF⟩ := am_bind hF
        refine am_callS1 (Mc := M_J9_max_7cf53) (As := [.int x12, .int x15]) (st := [.int v6, .ref x3]) (pc' := 114) dX8_inCommon_111 cw_X8_328 wd_1_28 (by decide) (by decide) rfl rfl (Nat.le_of_ble_eq_true rfl) (c_J9_max_7cf53 ex16) rfl ?_
        exact w_X8_inCommon_114 j24 (w_X8_inCommon_33 j24 n) v0 v1 v2 v3 v4 v5 v6 x3 v6 x16 h hF
def F_X8_inCommon_24 : Nat → Nat → Nat → Nat → Int32 → Int32 → Int32 → am_H → Option (Int32 × am_H)
  | 0, _, _, _, _, _, _, _ => none
  | n + 1, v0, v1, v2, v3, v4, v5, h =>
  if v3 < v5 then
    (am_gr 8 10 v0 h).bind fun x2 =>
    (am_al 5 x2 v3 h).bind fun x3 =>
    (am_il 0 x3 v4 h).bind fun x4 =>
    some (x4, h)
  else
    F_X8_inCommon_33 (F_X8_inCommon_24 n) am_F v0 v1 v2 v3 v4 v5 (1 : Int32) h
theorem w_X8_inCommon_24 {g : am_G} {l : Launch} {h0 : am_H} {x : Int32} {hf : am_H}  : ∀ (n : Nat) (v0 : Nat) (v1 : Nat) (v2 : Nat) (v3 : Int32) (v4 : Int32) (v5 : Int32) (h : am_H), F_X8_inCommon_24 n v0 v1 v2 v3 v4 v5 h = some (x, hf) → am_W g l M_X8_inCommon h0 (some (.int x)) hf 24 [some (.ref v0), some (.ref v1), some (.ref v2), some (.int v3), some (.int v4), some (.int v5), none] [] h
  | 0, _, _, _, _, _, _, _, hF => by cases hF
  | n + 1, v0, v1, v2, v3, v4, v5, h, hF => by
    rw [F_X8_inCommon_24] at hF
    refine am_iload (pc' := 26) dX8_inCommon_24 rfl rfl ?_
    refine am_iload_n (pc' := 27) dX8_inCommon_26 rfl rfl ?_
    rcases am_ite hF with ⟨z1, hF⟩ | ⟨z1, hF⟩
    · refine am_icmp_gt_t (pc' := 127) dX8_inCommon_27 rfl z1 ?_
      refine am_aload_n (pc' := 128) dX8_inCommon_127 rfl rfl ?_
      obtain ⟨x2, ex2, hF⟩ := am_bind hF
      refine am_getr (pc' := 131) dX8_inCommon_128 fw_X8_54 ex2 rfl ?_
      refine am_iload_n (pc' := 132) dX8_inCommon_131 rfl rfl ?_
      obtain ⟨x3, ex3, hF⟩ := am_bind hF
      refine am_aald5 (pc' := 133) dX8_inCommon_132 ex3 rfl ?_
      refine am_iload (pc' := 135) dX8_inCommon_133 rfl rfl ?_
      obtain ⟨x4, ex4, hF⟩ := am_bind hF
      refine am_iald (pc' := 136) dX8_inCommon_135 ex4 rfl ?_
      cases hF
      exact am_iret dX8_inCommon_136 rfl rfl
    · refine am_icmp_gt_f (pc' := 30) (tgt := 127) dX8_inCommon_27 rfl z1 rfl ?_
      refine am_iconst (v := (1 : Int32)) (pc' := 31) dX8_inCommon_30 rfl rfl ?_
      refine am_istore (ls' := [some (.ref v0), some (.ref v1), some (.ref v2), some (.int v3), some (.int v4), some (.int v5), some (.int (1 : Int32))]) (pc' := 33) dX8_inCommon_31 (Nat.le_of_ble_eq_true rfl) rfl rfl ?_
      exact w_X8_inCommon_33 (w_X8_inCommon_24 n) am_F v0 v1 v2 v3 v4 v5 (1 : Int32) h hF
def F_X8_inCommon_b (v0 : Nat) (v1 : Nat) (v2 : Nat) (h : am_H) : Option (Int32 × am_H) :=
  (F_X4_length v1 h).bind fun x1 =>
  (F_J9_min_7cf53 x1 (8 : Int32) h).bind fun x2 =>
  (F_X4_length v2 h).bind fun x3 =>
  (F_J9_min_7cf53 x3 (8 : Int32) h).bind fun x4 =>
  F_X8_inCommon_24 am_F v0 v1 v2 x2 x4 (1 : Int32) h
theorem w_X8_inCommon {g : am_G} {l : Launch} {h0 : am_H} {x : Int32} {hf : am_H}  (v0 : Nat) (v1 : Nat) (v2 : Nat) (h : am_H) (hF : F_X8_inCommon_b v0 v1 v2 h = some (x, hf)) : am_W g l M_X8_inCommon h0 (some (.int x)) hf 0 [some (.ref v0), some (.ref v1), some (.ref v2), none, none, none, none] [] h := by
  unfold F_X8_inCommon_b at hF
  refine am_aload_n (pc' := 1) dX8_inCommon_0 rfl rfl ?_
  obtain ⟨x1, ex1, hF⟩ := am_bind hF
  obtain ⟨ox1, px1⟩ := t_X4_length ex1
  refine am_callV1 (Mc := M_X4_length) (As := []) (st := []) (pc' := 4) dX8_inCommon_1 cw_X8_93 wd_1_235 wd_1_236 ⟨_, rfl, rfl⟩ (by decide) (by decide) rfl rfl (Nat.le_of_ble_eq_true rfl) px1 (c_X4_length ex1) rfl ?_
  refine am_bipush (v := (8 : Int32)) (pc' := 6) dX8_inCommon_4 rfl rfl ?_
  obtain ⟨x2, ex2, hF⟩ := am_bind hF
  refine am_callS1 (Mc := M_J9_min_7cf53) (As := [.int x1, .int (8 : Int32)]) (st := []) (pc' := 9) dX8_inCommon_6 cw_X8_109 wd_2_21 (by decide) (by decide) rfl rfl (Nat.le_of_ble_eq_true rfl) (c_J9_min_7cf53 ex2) rfl ?_
  refine am_istore_n (ls' := [some (.ref v0), some (.ref v1), some (.ref v2), some (.int x2), none, none, none]) (pc' := 10) dX8_inCommon_9 (Nat.le_of_ble_eq_true rfl) rfl rfl ?_
  refine am_aload_n (pc' := 11) dX8_inCommon_10 rfl rfl ?_
  obtain ⟨x3, ex3, hF⟩ := am_bind hF
  obtain ⟨ox3, px3⟩ := t_X4_length ex3
  refine am_callV1 (Mc := M_X4_length) (As := []) (st := []) (pc' := 14) dX8_inCommon_11 cw_X8_93 wd_1_235 wd_1_236 ⟨_, rfl, rfl⟩ (by decide) (by decide) rfl rfl (Nat.le_of_ble_eq_true rfl) px3 (c_X4_length ex3) rfl ?_
  refine am_bipush (v := (8 : Int32)) (pc' := 16) dX8_inCommon_14 rfl rfl ?_
  obtain ⟨x4, ex4, hF⟩ := am_bind hF
  refine am_callS1 (Mc := M_J9_min_7cf53) (As := [.int x3, .int (8 : Int32)]) (st := []) (pc' := 19) dX8_inCommon_16 cw_X8_109 wd_2_21 (by decide) (by decide) rfl rfl (Nat.le_of_ble_eq_true rfl) (c_J9_min_7cf53 ex4) rfl ?_
  refine am_istore (ls' := [some (.ref v0), some (.ref v1), some (.ref v2), some (.int x2), some (.int x4), none, none]) (pc' := 21) dX8_inCommon_19 (Nat.le_of_ble_eq_true rfl) rfl rfl ?_
  refine am_iconst (v := (1 : Int32)) (pc' := 22) dX8_inCommon_21 rfl rfl ?_
  refine am_istore (ls' := [some (.ref v0), some (.ref v1), some (.ref v2), some (.int x2), some (.int x4), some (.int (1 : Int32)), none]) (pc' := 24) dX8_inCommon_22 (Nat.le_of_ble_eq_true rfl) rfl rfl ?_
  exact w_X8_inCommon_24 am_F v0 v1 v2 x2 x4 (1 : Int32) h hF
def F_X8_inCommon (v0 : Nat) (v1 : Nat) (v2 : Nat) (h : am_H) : Option (Int32 × am_H) := (am_obj v0 8 h).bind fun _ => F_X8_inCommon_b v0 v1 v2 h
theorem t_X8_inCommon {x : Int32} {hf : am_H}  {v0 : Nat} {v1 : Nat} {v2 : Nat} {h : am_H} (hF : F_X8_inCommon v0 v1 v2 h = some (x, hf)) : ∃ fs, am_obj v0 8 h = some fs := by
  obtain ⟨fs, e, _⟩ := am_bind hF
  exact ⟨fs, e⟩
theorem c_X8_inCommon {g : am_G} {l : Launch} {x : Int32} {hf : am_H}  {v0 : Nat} {v1 : Nat} {v2 : Nat} {h : am_H} (hF : F_X8_inCommon v0 v1 v2 h = some (x, hf)) : am_Met g l M_X8_inCommon [.ref v0, .ref v1, .ref v2] h (some (.int x)) hf := by
  obtain ⟨fs, e0, e⟩ := am_bind hF
  exact am_met (n := 4) (by decide +kernel) rfl (Nat.le_of_ble_eq_true rfl) (w_X8_inCommon v0 v1 v2 h e)
theorem cw_X8_307 : am_cw "SignCellar" 307 M_X8_sentBits 2 := ⟨wd_1_1, wd_4_64, ⟨by decide, by decide, by decide⟩, Or.inl wd_4_61⟩
theorem cw_X8_311 : am_cw "SignCellar" 311 M_X8_sentWhole 2 := ⟨wd_1_1, wd_4_70, ⟨by decide, by decide, by decide⟩, Or.inl wd_4_68⟩
theorem cw_X8_314 : am_cw "SignCellar" 314 M_X8_inCommon 2 := ⟨wd_1_1, wd_4_74, ⟨by decide, by decide, by decide⟩, Or.inl wd_4_71⟩
theorem sl_X8_inCommon : Cond.selects (⟨"SignCellar", "inCommon", "(LSignCellar$Row;LSignCellar$Row;)I"⟩ : MethodName).cls ⟨"SignCellar", "inCommon", "(LSignCellar$Row;LSignCellar$Row;)I"⟩ ⟨"SignCellar", "inCommon", "(LSignCellar$Row;LSignCellar$Row;)I"⟩ ∈ am_ts := am_in_p (q := (⟨"SignCellar", "inCommon", "(LSignCellar$Row;LSignCellar$Row;)I"⟩, 16)) (by decide +kernel)
theorem sl_X8_sentBits : Cond.selects (⟨"SignCellar", "sentBits", "(LSignCellar$Version;LSignCellar$Version;)I"⟩ : MethodName).cls ⟨"SignCellar", "sentBits", "(LSignCellar$Version;LSignCellar$Version;)I"⟩ ⟨"SignCellar", "sentBits", "(LSignCellar$Version;LSignCellar$Version;)I"⟩ ∈ am_ts := am_in_p (q := (⟨"SignCellar", "sentBits", "(LSignCellar$Version;LSignCellar$Version;)I"⟩, 16)) (by decide +kernel)
def F_X8_send_24 (h : am_H) : Option (Int32 × am_H) :=
  some ((-100001 : Int32), h)
theorem w_X8_send_24 {g : am_G} {l : Launch} {h0 : am_H} {x : Int32} {hf : am_H}  (h : am_H) (hF : F_X8_send_24 h = some (x, hf)) : am_W g l M_X8_send h0 (some (.int x)) hf 24 [none, none, none, none, none, none] [] h := by
  unfold F_X8_send_24 at hF
  refine am_ldc (v := (-100001 : Int32)) (pc' := 26) dX8_send_24 wd_2_137 rfl ?_
  cases hF
  exact am_iret dX8_send_26 rfl rfl
def F_X8_send_b (v0 : Nat) (v1 : Int32) (v2 : Int32) (v3 : Int32) (h : am_H) : Option (Int32 × am_H) :=
  (F_X8_versionOf v0 v1 h).bind fun x1 =>
  (F_X8_versionOf v0 v2 h).bind fun x2 =>
  if x1 = 0 then
    F_X8_send_24 h
  else
    if x2 = 0 then
      F_X8_send_24 h
    else
      if v3 = (0 : Int32) then
        (F_X8_sentBits v0 x1 x2 h).bind fun x6 =>
        some (x6, h)
      else
      if v3 = (1 : Int32) then
        (F_X8_sentWhole x1 x2 h).bind fun x8 =>
        some (x8, h)
      else
      if v3 = (2 : Int32) then
        (am_gr 7 0 x1 h).bind fun x10 =>
        (F_X4_length x10 h).bind fun x11 =>
        (am_gr 7 0 x2 h).bind fun x12 =>
        (F_X4_length x12 h).bind fun x13 =>
        (am_gr 7 0 x1 h).bind fun x14 =>
        (am_gr 7 0 x2 h).bind fun x15 =>
        (F_X8_inCommon v0 x14 x15 h).bind fun q16 =>
        some (((x11 + x13) - ((2 : Int32) * q16.1)), q16.2)
      else
      some ((-100002 : Int32), h)
theorem w_X8_send {g : am_G} {l : Launch} {h0 : am_H} {x : Int32} {hf : am_H}  (v0 : Nat) (v1 : Int32) (v2 : Int32) (v3 : Int32) (h : am_H) (hF : F_X8_send_b v0 v1 v2 v3 h = some (x, hf)) : am_W g l M_X8_send h0 (some (.int x)) hf 0 [some (.ref v0), some (.int v1), some (.int v2), some (.int v3), none, none] [] h := by
  unfold F_X8_send_b at hF
  refine am_aload_n (pc' := 1) dX8_send_0 rfl rfl ?_
  refine am_iload_n (pc' := 2) dX8_send_1 rfl rfl ?_
  obtain ⟨x1, ex1, hF⟩ := am_bind hF
  obtain ⟨ox1, px1⟩ := t_X8_versionOf ex1
  refine am_callV1 (Mc := M_X8_versionOf) (As := [.int v1]) (st := []) (pc' := 5) dX8_send_2 cw_X8_126 wd_2_135 sl_X8_versionOf ⟨_, rfl, rfl⟩ (by decide) (by decide) rfl rfl (Nat.le_of_ble_eq_true rfl) px1 (c_X8_versionOf ex1) rfl ?_
  refine am_astore (ls' := [some (.ref v0), some (.int v1), some (.int v2), some (.int v3), some (.ref x1), none]) (pc' := 7) dX8_send_5 (Nat.le_of_ble_eq_true rfl) rfl rfl ?_
  refine am_aload_n (pc' := 8) dX8_send_7 rfl rfl ?_
  refine am_iload_n (pc' := 9) dX8_send_8 rfl rfl ?_
  obtain ⟨x2, ex2, hF⟩ := am_bind hF
  obtain ⟨ox2, px2⟩ := t_X8_versionOf ex2
  refine am_callV1 (Mc := M_X8_versionOf) (As := [.int v2]) (st := []) (pc' := 12) dX8_send_9 cw_X8_126 wd_2_135 sl_X8_versionOf ⟨_, rfl, rfl⟩ (by decide) (by decide) rfl rfl (Nat.le_of_ble_eq_true rfl) px2 (c_X8_versionOf ex2) rfl ?_
  refine am_astore (ls' := [some (.ref v0), some (.int v1), some (.int v2), some (.int v3), some (.ref x1), some (.ref x2)]) (pc' := 14) dX8_send_12 (Nat.le_of_ble_eq_true rfl) rfl rfl ?_
  refine am_aload (pc' := 16) dX8_send_14 rfl rfl ?_
  rcases am_ite hF with ⟨z3, hF⟩ | ⟨z3, hF⟩
  · refine am_ifnull_t (pc' := 24) dX8_send_16 rfl z3 ?_
    exact am_weak [false, false, false, false, false, false] (w_X8_send_24 h hF)
  · refine am_ifnull_f (pc' := 19) dX8_send_16 z3 rfl ?_
    refine am_aload (pc' := 21) dX8_send_19 rfl rfl ?_
    rcases am_ite hF with ⟨z4, hF⟩ | ⟨z4, hF⟩
    · refine am_ifnonnull_f (pc' := 24) dX8_send_21 z4 rfl ?_
      exact am_weak [false, false, false, false, false, false] (w_X8_send_24 h hF)
    · refine am_ifnonnull_t (pc' := 27) dX8_send_21 rfl z4 ?_
      refine am_iload_n (pc' := 28) dX8_send_27 rfl rfl ?_
      rcases am_ite hF with ⟨z5, hF⟩ | ⟨z5, hF⟩
      · refine am_tableIn (c := (0 : Int32)) (pc' := 56) dX8_send_28 z5 (by decide) (by decide) rfl rfl ?_
        refine am_aload_n (pc' := 57) dX8_send_56 rfl rfl ?_
        refine am_aload (pc' := 59) dX8_send_57 rfl rfl ?_
        refine am_aload (pc' := 61) dX8_send_59 rfl rfl ?_
        obtain ⟨x6, ex6, hF⟩ := am_bind hF
        obtain ⟨ox6, px6⟩ := t_X8_sentBits ex6
        refine am_callV1 (Mc := M_X8_sentBits) (As := [.ref x1, .ref x2]) (st := []) (pc' := 64) dX8_send_61 cw_X8_307 wd_4_63 sl_X8_sentBits ⟨_, rfl, rfl⟩ (by decide) (by decide) rfl rfl (Nat.le_of_ble_eq_true rfl) px6 (c_X8_sentBits ex6) rfl ?_
        cases hF
        exact am_iret dX8_send_64 rfl rfl
      rcases am_ite hF with ⟨z7, hF⟩ | ⟨z7, hF⟩
      · refine am_tableIn (c := (1 : Int32)) (pc' := 65) dX8_send_28 z7 (by decide) (by decide) rfl rfl ?_
        refine am_aload (pc' := 67) dX8_send_65 rfl rfl ?_
        refine am_aload (pc' := 69) dX8_send_67 rfl rfl ?_
        obtain ⟨x8, ex8, hF⟩ := am_bind hF
        refine am_callS1 (Mc := M_X8_sentWhole) (As := [.ref x1, .ref x2]) (st := []) (pc' := 72) dX8_send_69 cw_X8_311 wd_4_69 (by decide) (by decide) rfl rfl (Nat.le_of_ble_eq_true rfl) (c_X8_sentWhole ex8) rfl ?_
        cases hF
        exact am_iret dX8_send_72 rfl rfl
      rcases am_ite hF with ⟨z9, hF⟩ | ⟨z9, hF⟩
      · refine am_tableIn (c := (2 : Int32)) (pc' := 73) dX8_send_28 z9 (by decide) (by decide) rfl rfl ?_
        refine am_aload (pc' := 75) dX8_send_73 rfl rfl ?_
        obtain ⟨x10, ex10, hF⟩ := am_bind hF
        refine am_getr (pc' := 78) dX8_send_75 fw_X8_148 ex10 rfl ?_
        obtain ⟨x11, ex11, hF⟩ := am_bind hF
        obtain ⟨ox11, px11⟩ := t_X4_length ex11
        refine am_callV1 (Mc := M_X4_length) (As := []) (st := []) (pc' := 81) dX8_send_78 cw_X8_93 wd_1_235 wd_1_236 ⟨_, rfl, rfl⟩ (by decide) (by decide) rfl rfl (Nat.le_of_ble_eq_true rfl) px11 (c_X4_length ex11) rfl ?_
        refine am_aload (pc' := 83) dX8_send_81 rfl rfl ?_
        obtain ⟨x12, ex12, hF⟩ := am_bind hF
        refine am_getr (pc' := 86) dX8_send_83 fw_X8_148 ex12 rfl ?_
        obtain ⟨x13, ex13, hF⟩ := am_bind hF
        obtain ⟨ox13, px13⟩ := t_X4_length ex13
        refine am_callV1 (Mc := M_X4_length) (As := []) (st := [.int x11]) (pc' := 89) dX8_send_86 cw_X8_93 wd_1_235 wd_1_236 ⟨_, rfl, rfl⟩ (by decide) (by decide) rfl rfl (Nat.le_of_ble_eq_true rfl) px13 (c_X4_length ex13) rfl ?_
        refine am_iadd (pc' := 90) dX8_send_89 rfl ?_
        refine am_iconst (v := (2 : Int32)) (pc' := 91) dX8_send_90 rfl rfl ?_
        refine am_aload_n (pc' := 92) dX8_send_91 rfl rfl ?_
        refine am_aload (pc' := 94) dX8_send_92 rfl rfl ?_
        obtain ⟨x14, ex14, hF⟩ := am_bind hF
        refine am_getr (pc' := 97) dX8_send_94 fw_X8_148 ex14 rfl ?_
        refine am_aload (pc' := 99) dX8_send_97 rfl rfl ?_
        obtain ⟨x15, ex15, hF⟩ := am_bind hF
        refine am_getr (pc' := 102) dX8_send_99 fw_X8_148 ex15 rfl ?_
        obtain ⟨q16, eq16, hF⟩ := am_bind hF
        obtain ⟨oq16, pq16⟩ := t_X8_inCommon eq16
        refine am_callV1 (Mc := M_X8_inCommon) (As := [.ref x14, .ref x15]) (st := [.int (2 : Int32), .int (x11 + x13)]) (pc' := 105) dX8_send_102 cw_X8_314 wd_4_73 sl_X8_inCommon ⟨_, rfl, rfl⟩ (by decide) (by decide) rfl rfl (Nat.le_of_ble_eq_true rfl) pq16 (c_X8_inCommon eq16) rfl ?_
        refine am_imul (pc' := 106) dX8_send_105 rfl ?_
        refine am_isub (pc' := 107) dX8_send_106 rfl ?_
        cases hF
        exact am_iret dX8_send_107 rfl rfl
      refine am_tableOut (pc' := 108) dX8_send_28 (by have tz5 := lv_neT (a := 0) z5 rfl; have tz7 := lv_neT (a := 1) z7 rfl; have tz9 := lv_neT (a := 2) z9 rfl; omega) rfl ?_
      refine am_ldc (v := (-100002 : Int32)) (pc' := 110) dX8_send_108 wd_1_233 rfl ?_
      cases hF
      exact am_iret dX8_send_110 rfl rfl
def F_X8_send (v0 : Nat) (v1 : Int32) (v2 : Int32) (v3 : Int32) (h : am_H) : Option (Int32 × am_H) := (am_obj v0 8 h).bind fun _ => F_X8_send_b v0 v1 v2 v3 h
theorem t_X8_send {x : Int32} {hf : am_H}  {v0 : Nat} {v1 : Int32} {v2 : Int32} {v3 : Int32} {h : am_H} (hF : F_X8_send v0 v1 v2 v3 h = some (x, hf)) : ∃ fs, am_obj v0 8 h = some fs := by
  obtain ⟨fs, e, _⟩ := am_bind hF
  exact ⟨fs, e⟩
theorem c_X8_send {g : am_G} {l : Launch} {x : Int32} {hf : am_H}  {v0 : Nat} {v1 : Int32} {v2 : Int32} {v3 : Int32} {h : am_H} (hF : F_X8_send v0 v1 v2 v3 h = some (x, hf)) : am_Met g l M_X8_send [.ref v0, .int v1, .int v2, .int v3] h (some (.int x)) hf := by
  obtain ⟨fs, e0, e⟩ := am_bind hF
  exact am_met (n := 2) (by decide +kernel) rfl (Nat.le_of_ble_eq_true rfl) (w_X8_send v0 v1 v2 v3 h e)
theorem fw_X9_89 : am_fw "SignCellarModel" 89 9 41 := ⟨(RX9, TX9, 42), rfl, by decide, inX9, Or.inl wd_4_141⟩
def F_X9_differ_147 (k2 : Nat → Int32 → Int32 → Int32 → am_H → Option (Int32 × am_H)) (k15 : Nat → Int32 → Int32 → Int32 → Int32 → am_H → Option (Int32 × am_H)) (v0 : Nat) (v1 : Int32) (v2 : Int32) (v3 : Int32) (v4 : Int32) (v5 : Int32) (h : am_H) : Option (Int32 × am_H) :=
  (am_gr 9 41 v0 h).bind fun x1 =>
  (am_is 0 x1 (((9 : Int32) * v3) + v4) v5 h).bind fun h2 =>
  k15 v0 v1 v2 v3 (v4 + (1 : Int32)) h2
theorem w_X9_differ_147 {g : am_G} {l : Launch} {h0 : am_H} {x : Int32} {hf : am_H}  {k2 : Nat → Int32 → Int32 → Int32 → am_H → Option (Int32 × am_H)} {k15 : Nat → Int32 → Int32 → Int32 → Int32 → am_H → Option (Int32 × am_H)} (j2 : ∀ (v0 : Nat) (v1 : Int32) (v2 : Int32) (v3 : Int32) (h : am_H), k2 v0 v1 v2 v3 h = some (x, hf) → am_W g l M_X9_differ h0 (some (.int x)) hf 2 [some (.ref v0), some (.int v1), some (.int v2), some (.int v3), none, none, none, none, none] [] h) (j15 : ∀ (v0 : Nat) (v1 : Int32) (v2 : Int32) (v3 : Int32) (v4 : Int32) (h : am_H), k15 v0 v1 v2 v3 v4 h = some (x, hf) → am_W g l M_X9_differ h0 (some (.int x)) hf 15 [some (.ref v0), some (.int v1), some (.int v2), some (.int v3), some (.int v4), none, none, none, none] [] h) (v0 : Nat) (v1 : Int32) (v2 : Int32) (v3 : Int32) (v4 : Int32) (v5 : Int32) (h : am_H) (hF : F_X9_differ_147 k2 k15 v0 v1 v2 v3 v4 v5 h = some (x, hf)) : am_W g l M_X9_differ h0 (some (.int x)) hf 147 [some (.ref v0), some (.int v1), some (.int v2), some (.int v3), some (.int v4), some (.int v5), none, none, none] [] h := by
  unfold F_X9_differ_147 at hF
  refine am_aload_n (pc' := 148) dX9_differ_147 rfl rfl ?_
  obtain ⟨x1, ex1, hF⟩ := am_bind hF
  refine am_getr (pc' := 151) dX9_differ_148 fw_X9_89 ex1 rfl ?_
  refine am_bipush (v := (9 : Int32)) (pc' := 153) dX9_differ_151 rfl rfl ?_
  refine am_iload_n (pc' := 154) dX9_differ_153 rfl rfl ?_
  refine am_imul (pc' := 155) dX9_differ_154 rfl ?_
  refine am_iload (pc' := 157) dX9_differ_155 rfl rfl ?_
  refine am_iadd (pc' := 158) dX9_differ_157 rfl ?_
  refine am_iload (pc' := 160) dX9_differ_158 rfl rfl ?_
  obtain ⟨h2, eh2, hF⟩ := am_bind hF
  refine am_iast (pc' := 161) dX9_differ_160 eh2 rfl ?_
  refine am_iinc (ls' := [some (.ref v0), some (.int v1), some (.int v2), some (.int v3), some (.int (v4 + (1 : Int32))), some (.int v5), none, none, none]) (pc' := 164) (v := (v4 + (1 : Int32))) dX9_differ_161 rfl rfl (Nat.le_of_ble_eq_true rfl) rfl rfl ?_
  refine am_goto (pc' := 15) dX9_differ_164 rfl ?_
  exact am_weak [true, true, true, true, true, false, false, false, false] (j15 v0 v1 v2 v3 (v4 + (1 : Int32)) h2 hF)
def F_X9_differ_145 (k2 : Nat → Int32 → Int32 → Int32 → am_H → Option (Int32 × am_H)) (k15 : Nat → Int32 → Int32 → Int32 → Int32 → am_H → Option (Int32 × am_H)) (v0 : Nat) (v1 : Int32) (v2 : Int32) (v3 : Int32) (v4 : Int32) (s0 : Int32) (h : am_H) : Option (Int32 × am_H) :=
  F_X9_differ_147 k2 k15 v0 v1 v2 v3 v4 s0 h
theorem w_X9_differ_145 {g : am_G} {l : Launch} {h0 : am_H} {x : Int32} {hf : am_H}  {k2 : Nat → Int32 → Int32 → Int32 → am_H → Option (Int32 × am_H)} {k15 : Nat → Int32 → Int32 → Int32 → Int32 → am_H → Option (Int32 × am_H)} (j2 : ∀ (v0 : Nat) (v1 : Int32) (v2 : Int32) (v3 : Int32) (h : am_H), k2 v0 v1 v2 v3 h = some (x, hf) → am_W g l M_X9_differ h0 (some (.int x)) hf 2 [some (.ref v0), some (.int v1), some (.int v2), some (.int v3), none, none, none, none, none] [] h) (j15 : ∀ (v0 : Nat) (v1 : Int32) (v2 : Int32) (v3 : Int32) (v4 : Int32) (h : am_H), k15 v0 v1 v2 v3 v4 h = some (x, hf) → am_W g l M_X9_differ h0 (some (.int x)) hf 15 [some (.ref v0), some (.int v1), some (.int v2), some (.int v3), some (.int v4), none, none, none, none] [] h) (v0 : Nat) (v1 : Int32) (v2 : Int32) (v3 : Int32) (v4 : Int32) (s0 : Int32) (h : am_H) (hF : F_X9_differ_145 k2 k15 v0 v1 v2 v3 v4 s0 h = some (x, hf)) : am_W g l M_X9_differ h0 (some (.int x)) hf 145 [some (.ref v0), some (.int v1), some (.int v2), some (.int v3), some (.int v4), none, none, none, none] [.int s0] h := by
  unfold F_X9_differ_145 at hF
  refine am_istore (ls' := [some (.ref v0), some (.int v1), some (.int v2), some (.int v3), some (.int v4), some (.int s0), none, none, none]) (pc' := 147) dX9_differ_145 (Nat.le_of_ble_eq_true rfl) rfl rfl ?_
  exact w_X9_differ_147 j2 j15 v0 v1 v2 v3 v4 s0 h hF
def F_X9_differ_143 (k2 : Nat → Int32 → Int32 → Int32 → am_H → Option (Int32 × am_H)) (k15 : Nat → Int32 → Int32 → Int32 → Int32 → am_H → Option (Int32 × am_H)) (v0 : Nat) (v1 : Int32) (v2 : Int32) (v3 : Int32) (v4 : Int32) (v5 : Int32) (h : am_H) : Option (Int32 × am_H) :=
  F_X9_differ_145 k2 k15 v0 v1 v2 v3 v4 v5 h
theorem w_X9_differ_143 {g : am_G} {l : Launch} {h0 : am_H} {x : Int32} {hf : am_H}  {k2 : Nat → Int32 → Int32 → Int32 → am_H → Option (Int32 × am_H)} {k15 : Nat → Int32 → Int32 → Int32 → Int32 → am_H → Option (Int32 × am_H)} (j2 : ∀ (v0 : Nat) (v1 : Int32) (v2 : Int32) (v3 : Int32) (h : am_H), k2 v0 v1 v2 v3 h = some (x, hf) → am_W g l M_X9_differ h0 (some (.int x)) hf 2 [some (.ref v0), some (.int v1), some (.int v2), some (.int v3), none, none, none, none, none] [] h) (j15 : ∀ (v0 : Nat) (v1 : Int32) (v2 : Int32) (v3 : Int32) (v4 : Int32) (h : am_H), k15 v0 v1 v2 v3 v4 h = some (x, hf) → am_W g l M_X9_differ h0 (some (.int x)) hf 15 [some (.ref v0), some (.int v1), some (.int v2), some (.int v3), some (.int v4), none, none, none, none] [] h) (v0 : Nat) (v1 : Int32) (v2 : Int32) (v3 : Int32) (v4 : Int32) (v5 : Int32) (h : am_H) (hF : F_X9_differ_143 k2 k15 v0 v1 v2 v3 v4 v5 h = some (x, hf)) : am_W g l M_X9_differ h0 (some (.int x)) hf 143 [some (.ref v0), some (.int v1), some (.int v2), some (.int v3), some (.int v4), some (.int v5), none, none, none] [] h := by
  unfold F_X9_differ_143 at hF
  refine am_iload (pc' := 145) dX9_differ_143 rfl rfl ?_
  exact am_weak [true, true, true, true, true, false, false, false, false] (w_X9_differ_145 j2 j15 v0 v1 v2 v3 v4 v5 h hF)
def F_X9_differ_91 (k2 : Nat → Int32 → Int32 → Int32 → am_H → Option (Int32 × am_H)) (k15 : Nat → Int32 → Int32 → Int32 → Int32 → am_H → Option (Int32 × am_H)) (v0 : Nat) (v1 : Int32) (v2 : Int32) (v3 : Int32) (v4 : Int32) (s0 : Int32) (h : am_H) : Option (Int32 × am_H) :=
  (am_gr 9 41 v0 h).bind fun x1 =>
  (am_il 0 x1 ((((9 : Int32) * (v3 - (1 : Int32))) + v4) - (1 : Int32)) h).bind fun x2 =>
  (F_X9_blockAt v0 v1 (v3 - (1 : Int32)) h).bind fun x3 =>
  (F_X9_blockAt v0 v2 (v4 - (1 : Int32)) h).bind fun x4 =>
  if x3 = x4 then
    if s0 ≤ x2 then
      F_X9_differ_143 k2 k15 v0 v1 v2 v3 v4 s0 h
    else
      F_X9_differ_145 k2 k15 v0 v1 v2 v3 v4 x2 h
  else
    F_X9_differ_143 k2 k15 v0 v1 v2 v3 v4 s0 h
theorem w_X9_differ_91 {g : am_G} {l : Launch} {h0 : am_H} {x : Int32} {hf : am_H}  {k2 : Nat → Int32 → Int32 → Int32 → am_H → Option (Int32 × am_H)} {k15 : Nat → Int32 → Int32 → Int32 → Int32 → am_H → Option (Int32 × am_H)} (j2 : ∀ (v0 : Nat) (v1 : Int32) (v2 : Int32) (v3 : Int32) (h : am_H), k2 v0 v1 v2 v3 h = some (x, hf) → am_W g l M_X9_differ h0 (some (.int x)) hf 2 [some (.ref v0), some (.int v1), some (.int v2), some (.int v3), none, none, none, none, none] [] h) (j15 : ∀ (v0 : Nat) (v1 : Int32) (v2 : Int32) (v3 : Int32) (v4 : Int32) (h : am_H), k15 v0 v1 v2 v3 v4 h = some (x, hf) → am_W g l M_X9_differ h0 (some (.int x)) hf 15 [some (.ref v0), some (.int v1), some (.int v2), some (.int v3), some (.int v4), none, none, none, none] [] h) (v0 : Nat) (v1 : Int32) (v2 : Int32) (v3 : Int32) (v4 : Int32) (s0 : Int32) (h : am_H) (hF : F_X9_differ_91 k2 k15 v0 v1 v2 v3 v4 s0 h = some (x, hf)) : am_W g l M_X9_differ h0 (some (.int x)) hf 91 [some (.ref v0), some (.int v1), some (.int v2), some (.int v3), some (.int v4), none, none, none, none] [.int s0] h := by
  unfold F_X9_differ_91 at hF
  refine am_istore (ls' := [some (.ref v0), some (.int v1), some (.int v2), some (.int v3), some (.int v4), some (.int s0), none, none, none]) (pc' := 93) dX9_differ_91 (Nat.le_of_ble_eq_true rfl) rfl rfl ?_
  refine am_aload_n (pc' := 94) dX9_differ_93 rfl rfl ?_
  obtain ⟨x1, ex1, hF⟩ := am_bind hF
  refine am_getr (pc' := 97) dX9_differ_94 fw_X9_89 ex1 rfl ?_
  refine am_bipush (v := (9 : Int32)) (pc' := 99) dX9_differ_97 rfl rfl ?_
  refine am_iload_n (pc' := 100) dX9_differ_99 rfl rfl ?_
  refine am_iconst (v := (1 : Int32)) (pc' := 101) dX9_differ_100 rfl rfl ?_
  refine am_isub (pc' := 102) dX9_differ_101 rfl ?_
  refine am_imul (pc' := 103) dX9_differ_102 rfl ?_
  refine am_iload (pc' := 105) dX9_differ_103 rfl rfl ?_
  refine am_iadd (pc' := 106) dX9_differ_105 rfl ?_
  refine am_iconst (v := (1 : Int32)) (pc' := 107) dX9_differ_106 rfl rfl ?_
  refine am_isub (pc' := 108) dX9_differ_107 rfl ?_
  obtain ⟨x2, ex2, hF⟩ := am_bind hF
  refine am_iald (pc' := 109) dX9_differ_108 ex2 rfl ?_
  refine am_istore (ls' := [some (.ref v0), some (.int v1), some (.int v2), some (.int v3), some (.int v4), some (.int s0), none, none, some (.int x2)]) (pc' := 111) dX9_differ_109 (Nat.le_of_ble_eq_true rfl) rfl rfl ?_
  refine am_aload_n (pc' := 112) dX9_differ_111 rfl rfl ?_
  refine am_iload_n (pc' := 113) dX9_differ_112 rfl rfl ?_
  refine am_iload_n (pc' := 114) dX9_differ_113 rfl rfl ?_
  refine am_iconst (v := (1 : Int32)) (pc' := 115) dX9_differ_114 rfl rfl ?_
  refine am_isub (pc' := 116) dX9_differ_115 rfl ?_
  obtain ⟨x3, ex3, hF⟩ := am_bind hF
  obtain ⟨ox3, px3⟩ := t_X9_blockAt ex3
  refine am_callV1 (Mc := M_X9_blockAt) (As := [.int v1, .int (v3 - (1 : Int32))]) (st := []) (pc' := 119) dX9_differ_116 cw_X9_141 wd_5_45 sl_X9_blockAt ⟨_, rfl, rfl⟩ (by decide) (by decide) rfl rfl (Nat.le_of_ble_eq_true rfl) px3 (c_X9_blockAt ex3) rfl ?_
  refine am_aload_n (pc' := 120) dX9_differ_119 rfl rfl ?_
  refine am_iload_n (pc' := 121) dX9_differ_120 rfl rfl ?_
  refine am_iload (pc' := 123) dX9_differ_121 rfl rfl ?_
  refine am_iconst (v := (1 : Int32)) (pc' := 124) dX9_differ_123 rfl rfl ?_
  refine am_isub (pc' := 125) dX9_differ_124 rfl ?_
  obtain ⟨x4, ex4, hF⟩ := am_bind hF
  obtain ⟨ox4, px4⟩ := t_X9_blockAt ex4
  refine am_callV1 (Mc := M_X9_blockAt) (As := [.int v2, .int (v4 - (1 : Int32))]) (st := [.int x3]) (pc' := 128) dX9_differ_125 cw_X9_141 wd_5_45 sl_X9_blockAt ⟨_, rfl, rfl⟩ (by decide) (by decide) rfl rfl (Nat.le_of_ble_eq_true rfl) px4 (c_X9_blockAt ex4) rfl ?_
  rcases am_ite hF with ⟨z5, hF⟩ | ⟨z5, hF⟩
  · refine am_icmp_ne_f (pc' := 131) (tgt := 143) dX9_differ_128 rfl z5 rfl ?_
    refine am_iload (pc' := 133) dX9_differ_131 rfl rfl ?_
    refine am_iload (pc' := 135) dX9_differ_133 rfl rfl ?_
    rcases am_ite hF with ⟨z6, hF⟩ | ⟨z6, hF⟩
    · refine am_icmp_ge_t (pc' := 143) dX9_differ_135 rfl z6 ?_
      exact am_weak [true, true, true, true, true, true, false, false, false] (w_X9_differ_143 j2 j15 v0 v1 v2 v3 v4 s0 h hF)
    · refine am_icmp_ge_f (pc' := 138) (tgt := 143) dX9_differ_135 rfl z6 rfl ?_
      refine am_iload (pc' := 140) dX9_differ_138 rfl rfl ?_
      refine am_goto (pc' := 145) dX9_differ_140 rfl ?_
      exact am_weak [true, true, true, true, true, false, false, false, false] (w_X9_differ_145 j2 j15 v0 v1 v2 v3 v4 x2 h hF)
  · refine am_icmp_ne_t (pc' := 143) dX9_differ_128 rfl z5 ?_
    exact am_weak [true, true, true, true, true, true, false, false, false] (w_X9_differ_143 j2 j15 v0 v1 v2 v3 v4 s0 h hF)
def F_X9_differ_15 (k2 : Nat → Int32 → Int32 → Int32 → am_H → Option (Int32 × am_H)) : Nat → Nat → Int32 → Int32 → Int32 → Int32 → am_H → Option (Int32 × am_H)
  | 0, _, _, _, _, _, _ => none
  | n + 1, v0, v1, v2, v3, v4, h =>
  (am_gr 9 7 v0 h).bind fun x1 =>
  (am_il 0 x1 v2 h).bind fun x2 =>
  if x2 < v4 then
    k2 v0 v1 v2 (v3 + (1 : Int32)) h
  else
    if v3 ≤ 0 then
      F_X9_differ_147 k2 (F_X9_differ_15 k2 n) v0 v1 v2 v3 v4 (v3 + v4) h
    else
      if v4 ≤ 0 then
        F_X9_differ_147 k2 (F_X9_differ_15 k2 n) v0 v1 v2 v3 v4 (v3 + v4) h
      else
        (am_gr 9 41 v0 h).bind fun x6 =>
        (am_il 0 x6 (((9 : Int32) * (v3 - (1 : Int32))) + v4) h).bind fun x7 =>
        (am_gr 9 41 v0 h).bind fun x8 =>
        (am_il 0 x8 ((((9 : Int32) * v3) + v4) - (1 : Int32)) h).bind fun x9 =>
        if (x9 + (1 : Int32)) ≤ (x7 + (1 : Int32)) then
          F_X9_differ_91 k2 (F_X9_differ_15 k2 n) v0 v1 v2 v3 v4 (x9 + (1 : Int32)) h
        else
          F_X9_differ_91 k2 (F_X9_differ_15 k2 n) v0 v1 v2 v3 v4 (x7 + (1 : Int32)) h
theorem w_X9_differ_15 {g : am_G} {l : Launch} {h0 : am_H} {x : Int32} {hf : am_H}  {k2 : Nat → Int32 → Int32 → Int32 → am_H → Option (Int32 × am_H)} (j2 : ∀ (v0 : Nat) (v1 : Int32) (v2 : Int32) (v3 : Int32) (h : am_H), k2 v0 v1 v2 v3 h = some (x, hf) → am_W g l M_X9_differ h0 (some (.int x)) hf 2 [some (.ref v0), some (.int v1), some (.int v2), some (.int v3), none, none, none, none, none] [] h) : ∀ (n : Nat) (v0 : Nat) (v1 : Int32) (v2 : Int32) (v3 : Int32) (v4 : Int32) (h : am_H), F_X9_differ_15 k2 n v0 v1 v2 v3 v4 h = some (x, hf) → am_W g l M_X9_differ h0 (some (.int x)) hf 15 [some (.ref v0), some (.int v1), some (.int v2), some (.int v3), some (.int v4), none, none, none, none] [] h
  | 0, _, _, _, _, _, _, hF => by cases hF
  | n + 1, v0, v1, v2, v3, v4, h, hF => by
    rw [F_X9_differ_15] at hF
    refine am_iload (pc' := 17) dX9_differ_15 rfl rfl ?_
    refine am_aload_n (pc' := 18) dX9_differ_17 rfl rfl ?_
    obtain ⟨x1, ex1, hF⟩ := am_bind hF
    refine am_getr (pc' := 21) dX9_differ_18 fw_X9_23 ex1 rfl ?_
    refine am_iload_n (pc' := 22) dX9_differ_21 rfl rfl ?_
    obtain ⟨x2, ex2, hF⟩ := am_bind hF
    refine am_iald (pc' := 23) dX9_differ_22 ex2 rfl ?_
    rcases am_ite hF with ⟨z3, hF⟩ | ⟨z3, hF⟩
    · refine am_icmp_gt_t (pc' := 167) dX9_differ_23 rfl z3 ?_
      refine am_iinc (ls' := [some (.ref v0), some (.int v1), some (.int v2), some (.int (v3 + (1 : Int32))), some (.int v4), none, none, none, none]) (pc' := 170) (v := (v3 + (1 : Int32))) dX9_differ_167 rfl rfl (Nat.le_of_ble_eq_true rfl) rfl rfl ?_
      refine am_goto (pc' := 2) dX9_differ_170 rfl ?_
      exact am_weak [true, true, true, true, false, false, false, false, false] (j2 v0 v1 v2 (v3 + (1 : Int32)) h hF)
    · refine am_icmp_gt_f (pc' := 26) (tgt := 167) dX9_differ_23 rfl z3 rfl ?_
      refine am_iload_n (pc' := 27) dX9_differ_26 rfl rfl ?_
      refine am_iload (pc' := 29) dX9_differ_27 rfl rfl ?_
      refine am_iadd (pc' := 30) dX9_differ_29 rfl ?_
      refine am_istore (ls' := [some (.ref v0), some (.int v1), some (.int v2), some (.int v3), some (.int v4), some (.int (v3 + v4)), none, none, none]) (pc' := 32) dX9_differ_30 (Nat.le_of_ble_eq_true rfl) rfl rfl ?_
      refine am_iload_n (pc' := 33) dX9_differ_32 rfl rfl ?_
      rcases am_ite hF with ⟨z4, hF⟩ | ⟨z4, hF⟩
      · refine am_if_le_t (pc' := 147) dX9_differ_33 rfl z4 ?_
        exact w_X9_differ_147 j2 (w_X9_differ_15 j2 n) v0 v1 v2 v3 v4 (v3 + v4) h hF
      · refine am_if_le_f (pc' := 36) (tgt := 147) dX9_differ_33 rfl z4 rfl ?_
        refine am_iload (pc' := 38) dX9_differ_36 rfl rfl ?_
        rcases am_ite hF with ⟨z5, hF⟩ | ⟨z5, hF⟩
        · refine am_if_le_t (pc' := 147) dX9_differ_38 rfl z5 ?_
          exact w_X9_differ_147 j2 (w_X9_differ_15 j2 n) v0 v1 v2 v3 v4 (v3 + v4) h hF
        · refine am_if_le_f (pc' := 41) (tgt := 147) dX9_differ_38 rfl z5 rfl ?_
          refine am_aload_n (pc' := 42) dX9_differ_41 rfl rfl ?_
          obtain ⟨x6, ex6, hF⟩ := am_bind hF
          refine am_getr (pc' := 45) dX9_differ_42 fw_X9_89 ex6 rfl ?_
          refine am_bipush (v := (9 : Int32)) (pc' := 47) dX9_differ_45 rfl rfl ?_
          refine am_iload_n (pc' := 48) dX9_differ_47 rfl rfl ?_
          refine am_iconst (v := (1 : Int32)) (pc' := 49) dX9_differ_48 rfl rfl ?_
          refine am_isub (pc' := 50) dX9_differ_49 rfl ?_
          refine am_imul (pc' := 51) dX9_differ_50 rfl ?_
          refine am_iload (pc' := 53) dX9_differ_51 rfl rfl ?_
          refine am_iadd (pc' := 54) dX9_differ_53 rfl ?_
          obtain ⟨x7, ex7, hF⟩ := am_bind hF
          refine am_iald (pc' := 55) dX9_differ_54 ex7 rfl ?_
          refine am_iconst (v := (1 : Int32)) (pc' := 56) dX9_differ_55 rfl rfl ?_
          refine am_iadd (pc' := 57) dX9_differ_56 rfl ?_
          refine am_istore (ls' := [some (.ref v0), some (.int v1), some (.int v2), some (.int v3), some (.int v4), some (.int (v3 + v4)), some (.int (x7 + (1 : Int32))), none, none]) (pc' := 59) dX9_differ_57 (Nat.le_of_ble_eq_true rfl) rfl rfl ?_
          refine am_aload_n (pc' := 60) dX9_differ_59 rfl rfl ?_
          obtain ⟨x8, ex8, hF⟩ := am_bind hF
          refine am_getr (pc' := 63) dX9_differ_60 fw_X9_89 ex8 rfl ?_
          refine am_bipush (v := (9 : Int32)) (pc' := 65) dX9_differ_63 rfl rfl ?_
          refine am_iload_n (pc' := 66) dX9_differ_65 rfl rfl ?_
          refine am_imul (pc' := 67) dX9_differ_66 rfl ?_
          refine am_iload (pc' := 69) dX9_differ_67 rfl rfl ?_
          refine am_iadd (pc' := 70) dX9_differ_69 rfl ?_
          refine am_iconst (v := (1 : Int32)) (pc' := 71) dX9_differ_70 rfl rfl ?_
          refine am_isub (pc' := 72) dX9_differ_71 rfl ?_
          obtain ⟨x9, ex9, hF⟩ := am_bind hF
          refine am_iald (pc' := 73) dX9_differ_72 ex9 rfl ?_
          refine am_iconst (v := (1 : Int32)) (pc' := 74) dX9_differ_73 rfl rfl ?_
          refine am_iadd (pc' := 75) dX9_differ_74 rfl ?_
          refine am_istore (ls' := [some (.ref v0), some (.int v1), some (.int v2), some (.int v3), some (.int v4), some (.int (v3 + v4)), some (.int (x7 + (1 : Int32))), some (.int (x9 + (1 : Int32))), none]) (pc' := 77) dX9_differ_75 (Nat.le_of_ble_eq_true rfl) rfl rfl ?_
          refine am_iload (pc' := 79) dX9_differ_77 rfl rfl ?_
          refine am_iload (pc' := 81) dX9_differ_79 rfl rfl ?_
          rcases am_ite hF with ⟨z10, hF⟩ | ⟨z10, hF⟩
          · refine am_icmp_ge_t (pc' := 89) dX9_differ_81 rfl z10 ?_
            refine am_iload (pc' := 91) dX9_differ_89 rfl rfl ?_
            exact am_weak [true, true, true, true, true, false, false, false, false] (w_X9_differ_91 j2 (w_X9_differ_15 j2 n) v0 v1 v2 v3 v4 (x9 + (1 : Int32)) h hF)
          · refine am_icmp_ge_f (pc' := 84) (tgt := 89) dX9_differ_81 rfl z10 rfl ?_
            refine am_iload (pc' := 86) dX9_differ_84 rfl rfl ?_
            refine am_goto (pc' := 91) dX9_differ_86 rfl ?_
            exact am_weak [true, true, true, true, true, false, false, false, false] (w_X9_differ_91 j2 (w_X9_differ_15 j2 n) v0 v1 v2 v3 v4 (x7 + (1 : Int32)) h hF)
def F_X9_differ_2 : Nat → Nat → Int32 → Int32 → Int32 → am_H → Option (Int32 × am_H)
  | 0, _, _, _, _, _ => none
  | n + 1, v0, v1, v2, v3, h =>
  (am_gr 9 7 v0 h).bind fun x1 =>
  (am_il 0 x1 v1 h).bind fun x2 =>
  if x2 < v3 then
    (am_gr 9 41 v0 h).bind fun x4 =>
    (am_gr 9 7 v0 h).bind fun x5 =>
    (am_il 0 x5 v1 h).bind fun x6 =>
    (am_gr 9 7 v0 h).bind fun x7 =>
    (am_il 0 x7 v2 h).bind fun x8 =>
    (am_il 0 x4 (((9 : Int32) * x6) + x8) h).bind fun x9 =>
    some (x9, h)
  else
    F_X9_differ_15 (F_X9_differ_2 n) am_F v0 v1 v2 v3 (0 : Int32) h
theorem w_X9_differ_2 {g : am_G} {l : Launch} {h0 : am_H} {x : Int32} {hf : am_H}  : ∀ (n : Nat) (v0 : Nat) (v1 : Int32) (v2 : Int32) (v3 : Int32) (h : am_H), F_X9_differ_2 n v0 v1 v2 v3 h = some (x, hf) → am_W g l M_X9_differ h0 (some (.int x)) hf 2 [some (.ref v0), some (.int v1), some (.int v2), some (.int v3), none, none, none, none, none] [] h
  | 0, _, _, _, _, _, hF => by cases hF
  | n + 1, v0, v1, v2, v3, h, hF => by
    rw [F_X9_differ_2] at hF
    refine am_iload_n (pc' := 3) dX9_differ_2 rfl rfl ?_
    refine am_aload_n (pc' := 4) dX9_differ_3 rfl rfl ?_
    obtain ⟨x1, ex1, hF⟩ := am_bind hF
    refine am_getr (pc' := 7) dX9_differ_4 fw_X9_23 ex1 rfl ?_
    refine am_iload_n (pc' := 8) dX9_differ_7 rfl rfl ?_
    obtain ⟨x2, ex2, hF⟩ := am_bind hF
    refine am_iald (pc' := 9) dX9_differ_8 ex2 rfl ?_
    rcases am_ite hF with ⟨z3, hF⟩ | ⟨z3, hF⟩
    · refine am_icmp_gt_t (pc' := 173) dX9_differ_9 rfl z3 ?_
      refine am_aload_n (pc' := 174) dX9_differ_173 rfl rfl ?_
      obtain ⟨x4, ex4, hF⟩ := am_bind hF
      refine am_getr (pc' := 177) dX9_differ_174 fw_X9_89 ex4 rfl ?_
      refine am_bipush (v := (9 : Int32)) (pc' := 179) dX9_differ_177 rfl rfl ?_
      refine am_aload_n (pc' := 180) dX9_differ_179 rfl rfl ?_
      obtain ⟨x5, ex5, hF⟩ := am_bind hF
      refine am_getr (pc' := 183) dX9_differ_180 fw_X9_23 ex5 rfl ?_
      refine am_iload_n (pc' := 184) dX9_differ_183 rfl rfl ?_
      obtain ⟨x6, ex6, hF⟩ := am_bind hF
      refine am_iald (pc' := 185) dX9_differ_184 ex6 rfl ?_
      refine am_imul (pc' := 186) dX9_differ_185 rfl ?_
      refine am_aload_n (pc' := 187) dX9_differ_186 rfl rfl ?_
      obtain ⟨x7, ex7, hF⟩ := am_bind hF
      refine am_getr (pc' := 190) dX9_differ_187 fw_X9_23 ex7 rfl ?_
      refine am_iload_n (pc' := 191) dX9_differ_190 rfl rfl ?_
      obtain ⟨x8, ex8, hF⟩ := am_bind hF
      refine am_iald (pc' := 192) dX9_differ_191 ex8 rfl ?_
      refine am_iadd (pc' := 193) dX9_differ_192 rfl ?_
      obtain ⟨x9, ex9, hF⟩ := am_bind hF
      refine am_iald (pc' := 194) dX9_differ_193 ex9 rfl ?_
      cases hF
      exact am_iret dX9_differ_194 rfl rfl
    · refine am_icmp_gt_f (pc' := 12) (tgt := 173) dX9_differ_9 rfl z3 rfl ?_
      refine am_iconst (v := (0 : Int32)) (pc' := 13) dX9_differ_12 rfl rfl ?_
      refine am_istore (ls' := [some (.ref v0), some (.int v1), some (.int v2), some (.int v3), some (.int (0 : Int32)), none, none, none, none]) (pc' := 15) dX9_differ_13 (Nat.le_of_ble_eq_true rfl) rfl rfl ?_
      exact w_X9_differ_15 (w_X9_differ_2 n) am_F v0 v1 v2 v3 (0 : Int32) h hF
def F_X9_differ_b (v0 : Nat) (v1 : Int32) (v2 : Int32) (h : am_H) : Option (Int32 × am_H) :=
  F_X9_differ_2 am_F v0 v1 v2 (0 : Int32) h
theorem w_X9_differ {g : am_G} {l : Launch} {h0 : am_H} {x : Int32} {hf : am_H}  (v0 : Nat) (v1 : Int32) (v2 : Int32) (h : am_H) (hF : F_X9_differ_b v0 v1 v2 h = some (x, hf)) : am_W g l M_X9_differ h0 (some (.int x)) hf 0 [some (.ref v0), some (.int v1), some (.int v2), none, none, none, none, none, none] [] h := by
  unfold F_X9_differ_b at hF
  refine am_iconst (v := (0 : Int32)) (pc' := 1) dX9_differ_0 rfl rfl ?_
  refine am_istore_n (ls' := [some (.ref v0), some (.int v1), some (.int v2), some (.int (0 : Int32)), none, none, none, none, none]) (pc' := 2) dX9_differ_1 (Nat.le_of_ble_eq_true rfl) rfl rfl ?_
  exact w_X9_differ_2 am_F v0 v1 v2 (0 : Int32) h hF
def F_X9_differ (v0 : Nat) (v1 : Int32) (v2 : Int32) (h : am_H) : Option (Int32 × am_H) := (am_obj v0 9 h).bind fun _ => F_X9_differ_b v0 v1 v2 h
theorem t_X9_differ {x : Int32} {hf : am_H}  {v0 : Nat} {v1 : Int32} {v2 : Int32} {h : am_H} (hF : F_X9_differ v0 v1 v2 h = some (x, hf)) : ∃ fs, am_obj v0 9 h = some fs := by
  obtain ⟨fs, e, _⟩ := am_bind hF
  exact ⟨fs, e⟩
theorem c_X9_differ {g : am_G} {l : Launch} {x : Int32} {hf : am_H}  {v0 : Nat} {v1 : Int32} {v2 : Int32} {h : am_H} (hF : F_X9_differ v0 v1 v2 h = some (x, hf)) : am_Met g l M_X9_differ [.ref v0, .int v1, .int v2] h (some (.int x)) hf := by
  obtain ⟨fs, e0, e⟩ := am_bind hF
  exact am_met (n := 6) (by decide +kernel) rfl (Nat.le_of_ble_eq_true rfl) (w_X9_differ v0 v1 v2 h e)
theorem cw_X9_298 : am_cw "SignCellarModel" 298 M_X9_differ 2 := ⟨wd_1_9, wd_6_30, ⟨by decide, by decide, by decide⟩, Or.inl wd_6_27⟩
theorem sl_X9_differ : Cond.selects (⟨"SignCellarModel", "differ", "(II)I"⟩ : MethodName).cls ⟨"SignCellarModel", "differ", "(II)I"⟩ ⟨"SignCellarModel", "differ", "(II)I"⟩ ∈ am_ts := am_in_p (q := (⟨"SignCellarModel", "differ", "(II)I"⟩, 42)) (by decide +kernel)
def F_X9_send_16 (h : am_H) : Option (Int32 × am_H) :=
  some ((-100001 : Int32), h)
theorem w_X9_send_16 {g : am_G} {l : Launch} {h0 : am_H} {x : Int32} {hf : am_H}  (h : am_H) (hF : F_X9_send_16 h = some (x, hf)) : am_W g l M_X9_send h0 (some (.int x)) hf 16 [none, none, none, none, none, none, none, none, none, none] [] h := by
  unfold F_X9_send_16 at hF
  refine am_ldc (v := (-100001 : Int32)) (pc' := 18) dX9_send_16 wd_5_47 rfl ?_
  cases hF
  exact am_iret dX9_send_18 rfl rfl
def F_X9_send_104 (k43 : Nat → Int32 → Int32 → Int32 → Int32 → Int32 → Int32 → am_H → Option (Int32 × am_H)) (k75 : Nat → Int32 → Int32 → Int32 → Int32 → Int32 → Int32 → Int32 → Int32 → Int32 → am_H → Option (Int32 × am_H)) (v0 : Nat) (v1 : Int32) (v2 : Int32) (v3 : Int32) (v4 : Int32) (v5 : Int32) (v6 : Int32) (v7 : Int32) (v9 : Int32) (s0 : Int32) (h : am_H) : Option (Int32 × am_H) :=
  k75 v0 v1 v2 v3 v4 v5 v6 v7 s0 (v9 + (1 : Int32)) h
theorem w_X9_send_104 {g : am_G} {l : Launch} {h0 : am_H} {x : Int32} {hf : am_H}  {k43 : Nat → Int32 → Int32 → Int32 → Int32 → Int32 → Int32 → am_H → Option (Int32 × am_H)} {k75 : Nat → Int32 → Int32 → Int32 → Int32 → Int32 → Int32 → Int32 → Int32 → Int32 → am_H → Option (Int32 × am_H)} (j43 : ∀ (v0 : Nat) (v1 : Int32) (v2 : Int32) (v3 : Int32) (v4 : Int32) (v5 : Int32) (v6 : Int32) (h : am_H), k43 v0 v1 v2 v3 v4 v5 v6 h = some (x, hf) → am_W g l M_X9_send h0 (some (.int x)) hf 43 [some (.ref v0), some (.int v1), some (.int v2), some (.int v3), some (.int v4), some (.int v5), some (.int v6), none, none, none] [] h) (j75 : ∀ (v0 : Nat) (v1 : Int32) (v2 : Int32) (v3 : Int32) (v4 : Int32) (v5 : Int32) (v6 : Int32) (v7 : Int32) (v8 : Int32) (v9 : Int32) (h : am_H), k75 v0 v1 v2 v3 v4 v5 v6 v7 v8 v9 h = some (x, hf) → am_W g l M_X9_send h0 (some (.int x)) hf 75 [some (.ref v0), some (.int v1), some (.int v2), some (.int v3), some (.int v4), some (.int v5), some (.int v6), some (.int v7), some (.int v8), some (.int v9)] [] h) (v0 : Nat) (v1 : Int32) (v2 : Int32) (v3 : Int32) (v4 : Int32) (v5 : Int32) (v6 : Int32) (v7 : Int32) (v9 : Int32) (s0 : Int32) (h : am_H) (hF : F_X9_send_104 k43 k75 v0 v1 v2 v3 v4 v5 v6 v7 v9 s0 h = some (x, hf)) : am_W g l M_X9_send h0 (some (.int x)) hf 104 [some (.ref v0), some (.int v1), some (.int v2), some (.int v3), some (.int v4), some (.int v5), some (.int v6), some (.int v7), none, some (.int v9)] [.int s0] h := by
  unfold F_X9_send_104 at hF
  refine am_istore (ls' := [some (.ref v0), some (.int v1), some (.int v2), some (.int v3), some (.int v4), some (.int v5), some (.int v6), some (.int v7), some (.int s0), some (.int v9)]) (pc' := 106) dX9_send_104 (Nat.le_of_ble_eq_true rfl) rfl rfl ?_
  refine am_iinc (ls' := [some (.ref v0), some (.int v1), some (.int v2), some (.int v3), some (.int v4), some (.int v5), some (.int v6), some (.int v7), some (.int s0), some (.int (v9 + (1 : Int32)))]) (pc' := 109) (v := (v9 + (1 : Int32))) dX9_send_106 rfl rfl (Nat.le_of_ble_eq_true rfl) rfl rfl ?_
  refine am_goto (pc' := 75) dX9_send_109 rfl ?_
  exact j75 v0 v1 v2 v3 v4 v5 v6 v7 s0 (v9 + (1 : Int32)) h hF
def F_X9_send_99 (k43 : Nat → Int32 → Int32 → Int32 → Int32 → Int32 → Int32 → am_H → Option (Int32 × am_H)) (k75 : Nat → Int32 → Int32 → Int32 → Int32 → Int32 → Int32 → Int32 → Int32 → Int32 → am_H → Option (Int32 × am_H)) (v0 : Nat) (v1 : Int32) (v2 : Int32) (v3 : Int32) (v4 : Int32) (v5 : Int32) (v6 : Int32) (v7 : Int32) (v9 : Int32) (h : am_H) : Option (Int32 × am_H) :=
  F_X9_send_104 k43 k75 v0 v1 v2 v3 v4 v5 v6 v7 v9 (1 : Int32) h
theorem w_X9_send_99 {g : am_G} {l : Launch} {h0 : am_H} {x : Int32} {hf : am_H}  {k43 : Nat → Int32 → Int32 → Int32 → Int32 → Int32 → Int32 → am_H → Option (Int32 × am_H)} {k75 : Nat → Int32 → Int32 → Int32 → Int32 → Int32 → Int32 → Int32 → Int32 → Int32 → am_H → Option (Int32 × am_H)} (j43 : ∀ (v0 : Nat) (v1 : Int32) (v2 : Int32) (v3 : Int32) (v4 : Int32) (v5 : Int32) (v6 : Int32) (h : am_H), k43 v0 v1 v2 v3 v4 v5 v6 h = some (x, hf) → am_W g l M_X9_send h0 (some (.int x)) hf 43 [some (.ref v0), some (.int v1), some (.int v2), some (.int v3), some (.int v4), some (.int v5), some (.int v6), none, none, none] [] h) (j75 : ∀ (v0 : Nat) (v1 : Int32) (v2 : Int32) (v3 : Int32) (v4 : Int32) (v5 : Int32) (v6 : Int32) (v7 : Int32) (v8 : Int32) (v9 : Int32) (h : am_H), k75 v0 v1 v2 v3 v4 v5 v6 v7 v8 v9 h = some (x, hf) → am_W g l M_X9_send h0 (some (.int x)) hf 75 [some (.ref v0), some (.int v1), some (.int v2), some (.int v3), some (.int v4), some (.int v5), some (.int v6), some (.int v7), some (.int v8), some (.int v9)] [] h) (v0 : Nat) (v1 : Int32) (v2 : Int32) (v3 : Int32) (v4 : Int32) (v5 : Int32) (v6 : Int32) (v7 : Int32) (v9 : Int32) (h : am_H) (hF : F_X9_send_99 k43 k75 v0 v1 v2 v3 v4 v5 v6 v7 v9 h = some (x, hf)) : am_W g l M_X9_send h0 (some (.int x)) hf 99 [some (.ref v0), some (.int v1), some (.int v2), some (.int v3), some (.int v4), some (.int v5), some (.int v6), some (.int v7), none, some (.int v9)] [] h := by
  unfold F_X9_send_99 at hF
  refine am_iconst (v := (1 : Int32)) (pc' := 100) dX9_send_99 rfl rfl ?_
  refine am_goto (pc' := 104) dX9_send_100 rfl ?_
  exact w_X9_send_104 j43 j75 v0 v1 v2 v3 v4 v5 v6 v7 v9 (1 : Int32) h hF
def F_X9_send_149 (k43 : Nat → Int32 → Int32 → Int32 → Int32 → Int32 → Int32 → am_H → Option (Int32 × am_H)) (v0 : Nat) (v1 : Int32) (v2 : Int32) (v3 : Int32) (v4 : Int32) (v6 : Int32) (s0 : Int32) (s1 : Int32) (h : am_H) : Option (Int32 × am_H) :=
  (F_X9_one s1 h).bind fun x1 =>
  k43 v0 v1 v2 v3 v4 (s0 + x1) (v6 + (1 : Int32)) h
theorem w_X9_send_149 {g : am_G} {l : Launch} {h0 : am_H} {x : Int32} {hf : am_H}  {k43 : Nat → Int32 → Int32 → Int32 → Int32 → Int32 → Int32 → am_H → Option (Int32 × am_H)} (j43 : ∀ (v0 : Nat) (v1 : Int32) (v2 : Int32) (v3 : Int32) (v4 : Int32) (v5 : Int32) (v6 : Int32) (h : am_H), k43 v0 v1 v2 v3 v4 v5 v6 h = some (x, hf) → am_W g l M_X9_send h0 (some (.int x)) hf 43 [some (.ref v0), some (.int v1), some (.int v2), some (.int v3), some (.int v4), some (.int v5), some (.int v6), none, none, none] [] h) (v0 : Nat) (v1 : Int32) (v2 : Int32) (v3 : Int32) (v4 : Int32) (v6 : Int32) (s0 : Int32) (s1 : Int32) (h : am_H) (hF : F_X9_send_149 k43 v0 v1 v2 v3 v4 v6 s0 s1 h = some (x, hf)) : am_W g l M_X9_send h0 (some (.int x)) hf 149 [some (.ref v0), some (.int v1), some (.int v2), some (.int v3), some (.int v4), none, some (.int v6), none, none, none] [.int s1, .int s0] h := by
  unfold F_X9_send_149 at hF
  obtain ⟨x1, ex1, hF⟩ := am_bind hF
  refine am_callS1 (Mc := M_X9_one) (As := [.int s1]) (st := [.int s0]) (pc' := 152) dX9_send_149 cw_X9_150 wd_5_53 (by decide) (by decide) rfl rfl (Nat.le_of_ble_eq_true rfl) (c_X9_one ex1) rfl ?_
  refine am_iadd (pc' := 153) dX9_send_152 rfl ?_
  refine am_istore (ls' := [some (.ref v0), some (.int v1), some (.int v2), some (.int v3), some (.int v4), some (.int (s0 + x1)), some (.int v6), none, none, none]) (pc' := 155) dX9_send_153 (Nat.le_of_ble_eq_true rfl) rfl rfl ?_
  refine am_iinc (ls' := [some (.ref v0), some (.int v1), some (.int v2), some (.int v3), some (.int v4), some (.int (s0 + x1)), some (.int (v6 + (1 : Int32))), none, none, none]) (pc' := 158) (v := (v6 + (1 : Int32))) dX9_send_155 rfl rfl (Nat.le_of_ble_eq_true rfl) rfl rfl ?_
  refine am_goto (pc' := 43) dX9_send_158 rfl ?_
  exact j43 v0 v1 v2 v3 v4 (s0 + x1) (v6 + (1 : Int32)) h hF
def F_X9_send_134 (k43 : Nat → Int32 → Int32 → Int32 → Int32 → Int32 → Int32 → am_H → Option (Int32 × am_H)) (v0 : Nat) (v1 : Int32) (v2 : Int32) (v3 : Int32) (v5 : Int32) (v6 : Int32) (v8 : Int32) (s0 : Int32) (s1 : Int32) (h : am_H) : Option (Int32 × am_H) :=
  if v8 = 0 then
    F_X9_send_149 k43 v0 v1 v2 v3 (s0 + s1) v6 v5 (1 : Int32) h
  else
    F_X9_send_149 k43 v0 v1 v2 v3 (s0 + s1) v6 v5 (0 : Int32) h
theorem w_X9_send_134 {g : am_G} {l : Launch} {h0 : am_H} {x : Int32} {hf : am_H}  {k43 : Nat → Int32 → Int32 → Int32 → Int32 → Int32 → Int32 → am_H → Option (Int32 × am_H)} (j43 : ∀ (v0 : Nat) (v1 : Int32) (v2 : Int32) (v3 : Int32) (v4 : Int32) (v5 : Int32) (v6 : Int32) (h : am_H), k43 v0 v1 v2 v3 v4 v5 v6 h = some (x, hf) → am_W g l M_X9_send h0 (some (.int x)) hf 43 [some (.ref v0), some (.int v1), some (.int v2), some (.int v3), some (.int v4), some (.int v5), some (.int v6), none, none, none] [] h) (v0 : Nat) (v1 : Int32) (v2 : Int32) (v3 : Int32) (v5 : Int32) (v6 : Int32) (v8 : Int32) (s0 : Int32) (s1 : Int32) (h : am_H) (hF : F_X9_send_134 k43 v0 v1 v2 v3 v5 v6 v8 s0 s1 h = some (x, hf)) : am_W g l M_X9_send h0 (some (.int x)) hf 134 [some (.ref v0), some (.int v1), some (.int v2), some (.int v3), none, some (.int v5), some (.int v6), none, some (.int v8), none] [.int s1, .int s0] h := by
  unfold F_X9_send_134 at hF
  refine am_iadd (pc' := 135) dX9_send_134 rfl ?_
  refine am_istore (ls' := [some (.ref v0), some (.int v1), some (.int v2), some (.int v3), some (.int (s0 + s1)), some (.int v5), some (.int v6), none, some (.int v8), none]) (pc' := 137) dX9_send_135 (Nat.le_of_ble_eq_true rfl) rfl rfl ?_
  refine am_iload (pc' := 139) dX9_send_137 rfl rfl ?_
  refine am_iload (pc' := 141) dX9_send_139 rfl rfl ?_
  rcases am_ite hF with ⟨z1, hF⟩ | ⟨z1, hF⟩
  · refine am_if_ne_f (pc' := 144) (tgt := 148) dX9_send_141 rfl z1 rfl ?_
    refine am_iconst (v := (1 : Int32)) (pc' := 145) dX9_send_144 rfl rfl ?_
    refine am_goto (pc' := 149) dX9_send_145 rfl ?_
    exact am_weak [true, true, true, true, true, false, true, false, false, false] (w_X9_send_149 j43 v0 v1 v2 v3 (s0 + s1) v6 v5 (1 : Int32) h hF)
  · refine am_if_ne_t (pc' := 148) dX9_send_141 rfl z1 ?_
    refine am_iconst (v := (0 : Int32)) (pc' := 149) dX9_send_148 rfl rfl ?_
    exact am_weak [true, true, true, true, true, false, true, false, false, false] (w_X9_send_149 j43 v0 v1 v2 v3 (s0 + s1) v6 v5 (0 : Int32) h hF)
def F_X9_send_75 (k43 : Nat → Int32 → Int32 → Int32 → Int32 → Int32 → Int32 → am_H → Option (Int32 × am_H)) : Nat → Nat → Int32 → Int32 → Int32 → Int32 → Int32 → Int32 → Int32 → Int32 → Int32 → am_H → Option (Int32 × am_H)
  | 0, _, _, _, _, _, _, _, _, _, _, _ => none
  | n + 1, v0, v1, v2, v3, v4, v5, v6, v7, v8, v9, h =>
  if v6 ≤ v9 then
    if v8 = 0 then
      (am_gr 9 3 v0 h).bind fun x3 =>
      (am_il 0 x3 v7 h).bind fun x4 =>
      F_X9_send_134 k43 v0 v1 v2 v3 v5 v6 v8 v4 (((4 : Int32) * x4) + (3 : Int32)) h
    else
      F_X9_send_134 k43 v0 v1 v2 v3 v5 v6 v8 v4 (4 : Int32) h
  else
    if v8 = 0 then
      (F_X9_blockAt v0 v2 v9 h).bind fun x6 =>
      if x6 = v7 then
        F_X9_send_99 k43 (F_X9_send_75 k43 n) v0 v1 v2 v3 v4 v5 v6 v7 v9 h
      else
        F_X9_send_104 k43 (F_X9_send_75 k43 n) v0 v1 v2 v3 v4 v5 v6 v7 v9 (0 : Int32) h
    else
      F_X9_send_99 k43 (F_X9_send_75 k43 n) v0 v1 v2 v3 v4 v5 v6 v7 v9 h
theorem w_X9_send_75 {g : am_G} {l : Launch} {h0 : am_H} {x : Int32} {hf : am_H}  {k43 : Nat → Int32 → Int32 → Int32 → Int32 → Int32 → Int32 → am_H → Option (Int32 × am_H)} (j43 : ∀ (v0 : Nat) (v1 : Int32) (v2 : Int32) (v3 : Int32) (v4 : Int32) (v5 : Int32) (v6 : Int32) (h : am_H), k43 v0 v1 v2 v3 v4 v5 v6 h = some (x, hf) → am_W g l M_X9_send h0 (some (.int x)) hf 43 [some (.ref v0), some (.int v1), some (.int v2), some (.int v3), some (.int v4), some (.int v5), some (.int v6), none, none, none] [] h) : ∀ (n : Nat) (v0 : Nat) (v1 : Int32) (v2 : Int32) (v3 : Int32) (v4 : Int32) (v5 : Int32) (v6 : Int32) (v7 : Int32) (v8 : Int32) (v9 : Int32) (h : am_H), F_X9_send_75 k43 n v0 v1 v2 v3 v4 v5 v6 v7 v8 v9 h = some (x, hf) → am_W g l M_X9_send h0 (some (.int x)) hf 75 [some (.ref v0), some (.int v1), some (.int v2), some (.int v3), some (.int v4), some (.int v5), some (.int v6), some (.int v7), some (.int v8), some (.int v9)] [] h
  | 0, _, _, _, _, _, _, _, _, _, _, _, hF => by cases hF
  | n + 1, v0, v1, v2, v3, v4, v5, v6, v7, v8, v9, h, hF => by
    rw [F_X9_send_75] at hF
    refine am_iload (pc' := 77) dX9_send_75 rfl rfl ?_
    refine am_iload (pc' := 79) dX9_send_77 rfl rfl ?_
    rcases am_ite hF with ⟨z1, hF⟩ | ⟨z1, hF⟩
    · refine am_icmp_ge_t (pc' := 112) dX9_send_79 rfl z1 ?_
      refine am_iload (pc' := 114) dX9_send_112 rfl rfl ?_
      refine am_iload (pc' := 116) dX9_send_114 rfl rfl ?_
      rcases am_ite hF with ⟨z2, hF⟩ | ⟨z2, hF⟩
      · refine am_if_eq_t (pc' := 123) dX9_send_116 rfl z2 ?_
        refine am_iconst (v := (4 : Int32)) (pc' := 124) dX9_send_123 rfl rfl ?_
        refine am_aload_n (pc' := 125) dX9_send_124 rfl rfl ?_
        obtain ⟨x3, ex3, hF⟩ := am_bind hF
        refine am_getr (pc' := 128) dX9_send_125 fw_X9_13 ex3 rfl ?_
        refine am_iload (pc' := 130) dX9_send_128 rfl rfl ?_
        obtain ⟨x4, ex4, hF⟩ := am_bind hF
        refine am_iald (pc' := 131) dX9_send_130 ex4 rfl ?_
        refine am_imul (pc' := 132) dX9_send_131 rfl ?_
        refine am_iconst (v := (3 : Int32)) (pc' := 133) dX9_send_132 rfl rfl ?_
        refine am_iadd (pc' := 134) dX9_send_133 rfl ?_
        exact am_weak [true, true, true, true, false, true, true, false, true, false] (w_X9_send_134 j43 v0 v1 v2 v3 v5 v6 v8 v4 (((4 : Int32) * x4) + (3 : Int32)) h hF)
      · refine am_if_eq_f (pc' := 119) (tgt := 123) dX9_send_116 rfl z2 rfl ?_
        refine am_iconst (v := (4 : Int32)) (pc' := 120) dX9_send_119 rfl rfl ?_
        refine am_goto (pc' := 134) dX9_send_120 rfl ?_
        exact am_weak [true, true, true, true, false, true, true, false, true, false] (w_X9_send_134 j43 v0 v1 v2 v3 v5 v6 v8 v4 (4 : Int32) h hF)
    · refine am_icmp_ge_f (pc' := 82) (tgt := 112) dX9_send_79 rfl z1 rfl ?_
      refine am_iload (pc' := 84) dX9_send_82 rfl rfl ?_
      rcases am_ite hF with ⟨z5, hF⟩ | ⟨z5, hF⟩
      · refine am_if_ne_f (pc' := 87) (tgt := 99) dX9_send_84 rfl z5 rfl ?_
        refine am_aload_n (pc' := 88) dX9_send_87 rfl rfl ?_
        refine am_iload_n (pc' := 89) dX9_send_88 rfl rfl ?_
        refine am_iload (pc' := 91) dX9_send_89 rfl rfl ?_
        obtain ⟨x6, ex6, hF⟩ := am_bind hF
        obtain ⟨ox6, px6⟩ := t_X9_blockAt ex6
        refine am_callV1 (Mc := M_X9_blockAt) (As := [.int v2, .int v9]) (st := []) (pc' := 94) dX9_send_91 cw_X9_141 wd_5_45 sl_X9_blockAt ⟨_, rfl, rfl⟩ (by decide) (by decide) rfl rfl (Nat.le_of_ble_eq_true rfl) px6 (c_X9_blockAt ex6) rfl ?_
        refine am_iload (pc' := 96) dX9_send_94 rfl rfl ?_
        rcases am_ite hF with ⟨z7, hF⟩ | ⟨z7, hF⟩
        · refine am_icmp_ne_f (pc' := 99) (tgt := 103) dX9_send_96 rfl z7 rfl ?_
          exact am_weak [true, true, true, true, true, true, true, true, false, true] (w_X9_send_99 j43 (w_X9_send_75 j43 n) v0 v1 v2 v3 v4 v5 v6 v7 v9 h hF)
        · refine am_icmp_ne_t (pc' := 103) dX9_send_96 rfl z7 ?_
          refine am_iconst (v := (0 : Int32)) (pc' := 104) dX9_send_103 rfl rfl ?_
          exact am_weak [true, true, true, true, true, true, true, true, false, true] (w_X9_send_104 j43 (w_X9_send_75 j43 n) v0 v1 v2 v3 v4 v5 v6 v7 v9 (0 : Int32) h hF)
      · refine am_if_ne_t (pc' := 99) dX9_send_84 rfl z5 ?_
        exact am_weak [true, true, true, true, true, true, true, true, false, true] (w_X9_send_99 j43 (w_X9_send_75 j43 n) v0 v1 v2 v3 v4 v5 v6 v7 v9 h hF)
def F_X9_send_186 (s0 : Int32) (h : am_H) : Option (Int32 × am_H) :=
  some (s0, h)
theorem w_X9_send_186 {g : am_G} {l : Launch} {h0 : am_H} {x : Int32} {hf : am_H}  (s0 : Int32) (h : am_H) (hF : F_X9_send_186 s0 h = some (x, hf)) : am_W g l M_X9_send h0 (some (.int x)) hf 186 [none, none, none, none, none, none, none, none, none, none] [.int s0] h := by
  unfold F_X9_send_186 at hF
  cases hF
  exact am_iret dX9_send_186 rfl rfl
def F_X9_send_43 : Nat → Nat → Int32 → Int32 → Int32 → Int32 → Int32 → Int32 → am_H → Option (Int32 × am_H)
  | 0, _, _, _, _, _, _, _, _ => none
  | n + 1, v0, v1, v2, v3, v4, v5, v6, h =>
  (am_gr 9 7 v0 h).bind fun x1 =>
  (am_il 0 x1 v2 h).bind fun x2 =>
  if x2 ≤ v6 then
    if v3 = 0 then
      F_X9_send_186 v4 h
    else
      if v3 = (1 : Int32) then
        F_X9_send_186 v5 h
      else
        (F_X9_differ v0 v1 v2 h).bind fun q6 =>
        F_X9_send_186 q6.1 q6.2
  else
    (F_X9_blockAt v0 v2 v6 h).bind fun x7 =>
    (F_X9_has v0 v1 x7 h).bind fun x8 =>
    F_X9_send_75 (F_X9_send_43 n) am_F v0 v1 v2 v3 v4 v5 v6 x7 x8 (0 : Int32) h
theorem w_X9_send_43 {g : am_G} {l : Launch} {h0 : am_H} {x : Int32} {hf : am_H}  : ∀ (n : Nat) (v0 : Nat) (v1 : Int32) (v2 : Int32) (v3 : Int32) (v4 : Int32) (v5 : Int32) (v6 : Int32) (h : am_H), F_X9_send_43 n v0 v1 v2 v3 v4 v5 v6 h = some (x, hf) → am_W g l M_X9_send h0 (some (.int x)) hf 43 [some (.ref v0), some (.int v1), some (.int v2), some (.int v3), some (.int v4), some (.int v5), some (.int v6), none, none, none] [] h
  | 0, _, _, _, _, _, _, _, _, hF => by cases hF
  | n + 1, v0, v1, v2, v3, v4, v5, v6, h, hF => by
    rw [F_X9_send_43] at hF
    refine am_iload (pc' := 45) dX9_send_43 rfl rfl ?_
    refine am_aload_n (pc' := 46) dX9_send_45 rfl rfl ?_
    obtain ⟨x1, ex1, hF⟩ := am_bind hF
    refine am_getr (pc' := 49) dX9_send_46 fw_X9_23 ex1 rfl ?_
    refine am_iload_n (pc' := 50) dX9_send_49 rfl rfl ?_
    obtain ⟨x2, ex2, hF⟩ := am_bind hF
    refine am_iald (pc' := 51) dX9_send_50 ex2 rfl ?_
    rcases am_ite hF with ⟨z3, hF⟩ | ⟨z3, hF⟩
    · refine am_icmp_ge_t (pc' := 161) dX9_send_51 rfl z3 ?_
      refine am_iload_n (pc' := 162) dX9_send_161 rfl rfl ?_
      rcases am_ite hF with ⟨z4, hF⟩ | ⟨z4, hF⟩
      · refine am_if_ne_f (pc' := 165) (tgt := 170) dX9_send_162 rfl z4 rfl ?_
        refine am_iload (pc' := 167) dX9_send_165 rfl rfl ?_
        refine am_goto (pc' := 186) dX9_send_167 rfl ?_
        exact am_weak [false, false, false, false, false, false, false, false, false, false] (w_X9_send_186 v4 h hF)
      · refine am_if_ne_t (pc' := 170) dX9_send_162 rfl z4 ?_
        refine am_iload_n (pc' := 171) dX9_send_170 rfl rfl ?_
        refine am_iconst (v := (1 : Int32)) (pc' := 172) dX9_send_171 rfl rfl ?_
        rcases am_ite hF with ⟨z5, hF⟩ | ⟨z5, hF⟩
        · refine am_icmp_ne_f (pc' := 175) (tgt := 180) dX9_send_172 rfl z5 rfl ?_
          refine am_iload (pc' := 177) dX9_send_175 rfl rfl ?_
          refine am_goto (pc' := 186) dX9_send_177 rfl ?_
          exact am_weak [false, false, false, false, false, false, false, false, false, false] (w_X9_send_186 v5 h hF)
        · refine am_icmp_ne_t (pc' := 180) dX9_send_172 rfl z5 ?_
          refine am_aload_n (pc' := 181) dX9_send_180 rfl rfl ?_
          refine am_iload_n (pc' := 182) dX9_send_181 rfl rfl ?_
          refine am_iload_n (pc' := 183) dX9_send_182 rfl rfl ?_
          obtain ⟨q6, eq6, hF⟩ := am_bind hF
          obtain ⟨oq6, pq6⟩ := t_X9_differ eq6
          refine am_callV1 (Mc := M_X9_differ) (As := [.int v1, .int v2]) (st := []) (pc' := 186) dX9_send_183 cw_X9_298 wd_6_29 sl_X9_differ ⟨_, rfl, rfl⟩ (by decide) (by decide) rfl rfl (Nat.le_of_ble_eq_true rfl) pq6 (c_X9_differ eq6) rfl ?_
          exact am_weak [false, false, false, false, false, false, false, false, false, false] (w_X9_send_186 q6.1 q6.2 hF)
    · refine am_icmp_ge_f (pc' := 54) (tgt := 161) dX9_send_51 rfl z3 rfl ?_
      refine am_aload_n (pc' := 55) dX9_send_54 rfl rfl ?_
      refine am_iload_n (pc' := 56) dX9_send_55 rfl rfl ?_
      refine am_iload (pc' := 58) dX9_send_56 rfl rfl ?_
      obtain ⟨x7, ex7, hF⟩ := am_bind hF
      obtain ⟨ox7, px7⟩ := t_X9_blockAt ex7
      refine am_callV1 (Mc := M_X9_blockAt) (As := [.int v2, .int v6]) (st := []) (pc' := 61) dX9_send_58 cw_X9_141 wd_5_45 sl_X9_blockAt ⟨_, rfl, rfl⟩ (by decide) (by decide) rfl rfl (Nat.le_of_ble_eq_true rfl) px7 (c_X9_blockAt ex7) rfl ?_
      refine am_istore (ls' := [some (.ref v0), some (.int v1), some (.int v2), some (.int v3), some (.int v4), some (.int v5), some (.int v6), some (.int x7), none, none]) (pc' := 63) dX9_send_61 (Nat.le_of_ble_eq_true rfl) rfl rfl ?_
      refine am_aload_n (pc' := 64) dX9_send_63 rfl rfl ?_
      refine am_iload_n (pc' := 65) dX9_send_64 rfl rfl ?_
      refine am_iload (pc' := 67) dX9_send_65 rfl rfl ?_
      obtain ⟨x8, ex8, hF⟩ := am_bind hF
      obtain ⟨ox8, px8⟩ := t_X9_has ex8
      refine am_callV1 (Mc := M_X9_has) (As := [.int v1, .int x7]) (st := []) (pc' := 70) dX9_send_67 cw_X9_187 wd_5_102 sl_X9_has ⟨_, rfl, rfl⟩ (by decide) (by decide) rfl rfl (Nat.le_of_ble_eq_true rfl) px8 (c_X9_has ex8) rfl ?_
      refine am_istore (ls' := [some (.ref v0), some (.int v1), some (.int v2), some (.int v3), some (.int v4), some (.int v5), some (.int v6), some (.int x7), some (.int x8), none]) (pc' := 72) dX9_send_70 (Nat.le_of_ble_eq_true rfl) rfl rfl ?_
      refine am_iconst (v := (0 : Int32)) (pc' := 73) dX9_send_72 rfl rfl ?_
      refine am_istore (ls' := [some (.ref v0), some (.int v1), some (.int v2), some (.int v3), some (.int v4), some (.int v5), some (.int v6), some (.int x7), some (.int x8), some (.int (0 : Int32))]) (pc' := 75) dX9_send_73 (Nat.le_of_ble_eq_true rfl) rfl rfl ?_
      exact w_X9_send_75 (w_X9_send_43 n) am_F v0 v1 v2 v3 v4 v5 v6 x7 x8 (0 : Int32) h hF
def F_X9_send_b (v0 : Nat) (v1 : Int32) (v2 : Int32) (v3 : Int32) (h : am_H) : Option (Int32 × am_H) :=
  (F_X9_noVersion v0 v1 h).bind fun x1 =>
  if x1 = 0 then
    (F_X9_noVersion v0 v2 h).bind fun x3 =>
    if x3 = 0 then
      (F_X9_in (Int32.toInt64 v3) (0 : Int64) (2 : Int64) h).bind fun x5 =>
      if x5 = 0 then
        some ((-100002 : Int32), h)
      else
        F_X9_send_43 am_F v0 v1 v2 v3 (0 : Int32) (0 : Int32) (0 : Int32) h
    else
      F_X9_send_16 h
  else
    F_X9_send_16 h
theorem w_X9_send {g : am_G} {l : Launch} {h0 : am_H} {x : Int32} {hf : am_H}  (v0 : Nat) (v1 : Int32) (v2 : Int32) (v3 : Int32) (h : am_H) (hF : F_X9_send_b v0 v1 v2 v3 h = some (x, hf)) : am_W g l M_X9_send h0 (some (.int x)) hf 0 [some (.ref v0), some (.int v1), some (.int v2), some (.int v3), none, none, none, none, none, none] [] h := by
  unfold F_X9_send_b at hF
  refine am_aload_n (pc' := 1) dX9_send_0 rfl rfl ?_
  refine am_iload_n (pc' := 2) dX9_send_1 rfl rfl ?_
  obtain ⟨x1, ex1, hF⟩ := am_bind hF
  obtain ⟨ox1, px1⟩ := t_X9_noVersion ex1
  refine am_callV1 (Mc := M_X9_noVersion) (As := [.int v1]) (st := []) (pc' := 5) dX9_send_2 cw_X9_154 wd_5_37 sl_X9_noVersion ⟨_, rfl, rfl⟩ (by decide) (by decide) rfl rfl (Nat.le_of_ble_eq_true rfl) px1 (c_X9_noVersion ex1) rfl ?_
  rcases am_ite hF with ⟨z2, hF⟩ | ⟨z2, hF⟩
  · refine am_if_ne_f (pc' := 8) (tgt := 16) dX9_send_5 rfl z2 rfl ?_
    refine am_aload_n (pc' := 9) dX9_send_8 rfl rfl ?_
    refine am_iload_n (pc' := 10) dX9_send_9 rfl rfl ?_
    obtain ⟨x3, ex3, hF⟩ := am_bind hF
    obtain ⟨ox3, px3⟩ := t_X9_noVersion ex3
    refine am_callV1 (Mc := M_X9_noVersion) (As := [.int v2]) (st := []) (pc' := 13) dX9_send_10 cw_X9_154 wd_5_37 sl_X9_noVersion ⟨_, rfl, rfl⟩ (by decide) (by decide) rfl rfl (Nat.le_of_ble_eq_true rfl) px3 (c_X9_noVersion ex3) rfl ?_
    rcases am_ite hF with ⟨z4, hF⟩ | ⟨z4, hF⟩
    · refine am_if_eq_t (pc' := 19) dX9_send_13 rfl z4 ?_
      refine am_iload_n (pc' := 20) dX9_send_19 rfl rfl ?_
      refine am_i2l (pc' := 21) dX9_send_20 rfl ?_
      refine am_lconst (v := (0 : Int64)) (pc' := 22) dX9_send_21 rfl rfl ?_
      refine am_ldc2 (v := (2 : Int64)) (pc' := 25) dX9_send_22 wd_5_181 rfl ?_
      obtain ⟨x5, ex5, hF⟩ := am_bind hF
      refine am_callS1 (Mc := M_X9_in) (As := [.long (Int32.toInt64 v3), .long (0 : Int64), .long (2 : Int64)]) (st := []) (pc' := 28) dX9_send_25 cw_X9_96 wd_4_234 (by decide) (by decide) rfl rfl (Nat.le_of_ble_eq_true rfl) (c_X9_in ex5) rfl ?_
      rcases am_ite hF with ⟨z6, hF⟩ | ⟨z6, hF⟩
      · refine am_if_ne_f (pc' := 31) (tgt := 34) dX9_send_28 rfl z6 rfl ?_
        refine am_ldc (v := (-100002 : Int32)) (pc' := 33) dX9_send_31 wd_4_236 rfl ?_
        cases hF
        exact am_iret dX9_send_33 rfl rfl
      · refine am_if_ne_t (pc' := 34) dX9_send_28 rfl z6 ?_
        refine am_iconst (v := (0 : Int32)) (pc' := 35) dX9_send_34 rfl rfl ?_
        refine am_istore (ls' := [some (.ref v0), some (.int v1), some (.int v2), some (.int v3), some (.int (0 : Int32)), none, none, none, none, none]) (pc' := 37) dX9_send_35 (Nat.le_of_ble_eq_true rfl) rfl rfl ?_
        refine am_iconst (v := (0 : Int32)) (pc' := 38) dX9_send_37 rfl rfl ?_
        refine am_istore (ls' := [some (.ref v0), some (.int v1), some (.int v2), some (.int v3), some (.int (0 : Int32)), some (.int (0 : Int32)), none, none, none, none]) (pc' := 40) dX9_send_38 (Nat.le_of_ble_eq_true rfl) rfl rfl ?_
        refine am_iconst (v := (0 : Int32)) (pc' := 41) dX9_send_40 rfl rfl ?_
        refine am_istore (ls' := [some (.ref v0), some (.int v1), some (.int v2), some (.int v3), some (.int (0 : Int32)), some (.int (0 : Int32)), some (.int (0 : Int32)), none, none, none]) (pc' := 43) dX9_send_41 (Nat.le_of_ble_eq_true rfl) rfl rfl ?_
        exact w_X9_send_43 am_F v0 v1 v2 v3 (0 : Int32) (0 : Int32) (0 : Int32) h hF
    · refine am_if_eq_f (pc' := 16) (tgt := 19) dX9_send_13 rfl z4 rfl ?_
      exact am_weak [false, false, false, false, false, false, false, false, false, false] (w_X9_send_16 h hF)
  · refine am_if_ne_t (pc' := 16) dX9_send_5 rfl z2 ?_
    exact am_weak [false, false, false, false, false, false, false, false, false, false] (w_X9_send_16 h hF)
def F_X9_send (v0 : Nat) (v1 : Int32) (v2 : Int32) (v3 : Int32) (h : am_H) : Option (Int32 × am_H) := (am_obj v0 9 h).bind fun _ => F_X9_send_b v0 v1 v2 v3 h
theorem t_X9_send {x : Int32} {hf : am_H}  {v0 : Nat} {v1 : Int32} {v2 : Int32} {v3 : Int32} {h : am_H} (hF : F_X9_send v0 v1 v2 v3 h = some (x, hf)) : ∃ fs, am_obj v0 9 h = some fs := by
  obtain ⟨fs, e, _⟩ := am_bind hF
  exact ⟨fs, e⟩
theorem c_X9_send {g : am_G} {l : Launch} {x : Int32} {hf : am_H}  {v0 : Nat} {v1 : Int32} {v2 : Int32} {v3 : Int32} {h : am_H} (hF : F_X9_send v0 v1 v2 v3 h = some (x, hf)) : am_Met g l M_X9_send [.ref v0, .int v1, .int v2, .int v3] h (some (.int x)) hf := by
  obtain ⟨fs, e0, e⟩ := am_bind hF
  exact am_met (n := 6) (by decide +kernel) rfl (Nat.le_of_ble_eq_true rfl) (w_X9_send v0 v1 v2 v3 h e)
def F_X8_refusalOfWays_35 (s0 : Int32) (h : am_H) : Option Int32 :=
  some s0
theorem w_X8_refusalOfWays_35 {g : am_G} {l : Launch} {h0 : am_H} {x : Int32}  (s0 : Int32) (h : am_H) (hF : F_X8_refusalOfWays_35 s0 h = some x) : am_W g l M_X8_refusalOfWays h0 (some (.int x)) h 35 [none] [.int s0] h := by
  unfold F_X8_refusalOfWays_35 at hF
  cases hF
  exact am_iret dX8_refusalOfWays_35 rfl rfl
def F_X8_refusalOfWays_b (v0 : Nat) (h : am_H) : Option Int32 :=
  if v0 = 0 then
    some (-100001 : Int32)
  else
    (am_gr 0 0 v0 h).bind fun x2 =>
    (F_X4_length x2 h).bind fun x3 =>
    if x3 ≤ (20 : Int32) then
      (am_gi 0 3 v0 h).bind fun x5 =>
      if x5 = 0 then
        F_X8_refusalOfWays_35 (0 : Int32) h
      else
        F_X8_refusalOfWays_35 (-100005 : Int32) h
    else
      some (-100003 : Int32)
theorem w_X8_refusalOfWays {g : am_G} {l : Launch} {h0 : am_H} {x : Int32}  (v0 : Nat) (h : am_H) (hF : F_X8_refusalOfWays_b v0 h = some x) : am_W g l M_X8_refusalOfWays h0 (some (.int x)) h 0 [some (.ref v0)] [] h := by
  unfold F_X8_refusalOfWays_b at hF
  refine am_aload_n (pc' := 1) dX8_refusalOfWays_0 rfl rfl ?_
  rcases am_ite hF with ⟨z1, hF⟩ | ⟨z1, hF⟩
  · refine am_ifnonnull_f (pc' := 4) dX8_refusalOfWays_1 z1 rfl ?_
    refine am_ldc (v := (-100001 : Int32)) (pc' := 6) dX8_refusalOfWays_4 wd_2_137 rfl ?_
    cases hF
    exact am_iret dX8_refusalOfWays_6 rfl rfl
  · refine am_ifnonnull_t (pc' := 7) dX8_refusalOfWays_1 rfl z1 ?_
    refine am_aload_n (pc' := 8) dX8_refusalOfWays_7 rfl rfl ?_
    obtain ⟨x2, ex2, hF⟩ := am_bind hF
    refine am_getr (pc' := 11) dX8_refusalOfWays_8 fw_X8_180 ex2 rfl ?_
    obtain ⟨x3, ex3, hF⟩ := am_bind hF
    obtain ⟨ox3, px3⟩ := t_X4_length ex3
    refine am_callV1 (Mc := M_X4_length) (As := []) (st := []) (pc' := 14) dX8_refusalOfWays_11 cw_X8_93 wd_1_235 wd_1_236 ⟨_, rfl, rfl⟩ (by decide) (by decide) rfl rfl (Nat.le_of_ble_eq_true rfl) px3 (c_X4_length ex3) rfl ?_
    refine am_bipush (v := (20 : Int32)) (pc' := 16) dX8_refusalOfWays_14 rfl rfl ?_
    rcases am_ite hF with ⟨z4, hF⟩ | ⟨z4, hF⟩
    · refine am_icmp_le_t (pc' := 22) dX8_refusalOfWays_16 rfl z4 ?_
      refine am_aload_n (pc' := 23) dX8_refusalOfWays_22 rfl rfl ?_
      obtain ⟨x5, ex5, hF⟩ := am_bind hF
      refine am_geti (pc' := 26) dX8_refusalOfWays_23 fw_X8_182 ex5 rfl ?_
      rcases am_ite hF with ⟨z6, hF⟩ | ⟨z6, hF⟩
      · refine am_if_eq_t (pc' := 34) dX8_refusalOfWays_26 rfl z6 ?_
        refine am_iconst (v := (0 : Int32)) (pc' := 35) dX8_refusalOfWays_34 rfl rfl ?_
        exact am_weak [false] (w_X8_refusalOfWays_35 (0 : Int32) h hF)
      · refine am_if_eq_f (pc' := 29) (tgt := 34) dX8_refusalOfWays_26 rfl z6 rfl ?_
        refine am_ldc (v := (-100005 : Int32)) (pc' := 31) dX8_refusalOfWays_29 wd_2_153 rfl ?_
        refine am_goto (pc' := 35) dX8_refusalOfWays_31 rfl ?_
        exact am_weak [false] (w_X8_refusalOfWays_35 (-100005 : Int32) h hF)
    · refine am_icmp_le_f (pc' := 19) (tgt := 22) dX8_refusalOfWays_16 rfl z4 rfl ?_
      refine am_ldc (v := (-100003 : Int32)) (pc' := 21) dX8_refusalOfWays_19 wd_2_7 rfl ?_
      cases hF
      exact am_iret dX8_refusalOfWays_21 rfl rfl
def F_X8_refusalOfWays (v0 : Nat) (h : am_H) : Option Int32 := F_X8_refusalOfWays_b v0 h
theorem c_X8_refusalOfWays {g : am_G} {l : Launch} {x : Int32}  {v0 : Nat} {h : am_H} (hF : F_X8_refusalOfWays v0 h = some x) : am_Met g l M_X8_refusalOfWays [.ref v0] h (some (.int x)) h := by
  exact am_met (n := 0) (by decide +kernel) rfl (Nat.le_of_ble_eq_true rfl) (w_X8_refusalOfWays v0 h hF)
theorem cw_X8_326 : am_cw "SignCellar" 326 M_X4_times 1 := ⟨wd_1_2, wd_3_54, ⟨by decide, by decide, by decide⟩, Or.inl wd_4_85⟩
def F_X8_waysOf_25 (k7 : Nat → Int64 → Int32 → Int32 → am_H → Option Int64) : Nat → Nat → Int64 → Int32 → Int32 → Int32 → Int32 → am_H → Option Int64
  | 0, _, _, _, _, _, _, _ => none
  | n + 1, v0, v1, v3, v4, v5, v6, h =>
  if v5 < v6 then
    k7 v0 v1 v3 (v4 + (1 : Int32)) h
  else
    if (Int32.toInt64 v6) = 0 then none else
    F_X8_waysOf_25 k7 n v0 ((v1 * (Int32.toInt64 (v3 + (1 : Int32)))) / (Int32.toInt64 v6)) (v3 + (1 : Int32)) v4 v5 (v6 + (1 : Int32)) h
theorem w_X8_waysOf_25 {g : am_G} {l : Launch} {h0 : am_H} {x : Int64}  {k7 : Nat → Int64 → Int32 → Int32 → am_H → Option Int64} (j7 : ∀ (v0 : Nat) (v1 : Int64) (v3 : Int32) (v4 : Int32) (h : am_H), k7 v0 v1 v3 v4 h = some x → am_W g l M_X8_waysOf h0 (some (.long x)) h 7 [some (.ref v0), some (.long v1), none, some (.int v3), some (.int v4), none, none] [] h) : ∀ (n : Nat) (v0 : Nat) (v1 : Int64) (v3 : Int32) (v4 : Int32) (v5 : Int32) (v6 : Int32) (h : am_H), F_X8_waysOf_25 k7 n v0 v1 v3 v4 v5 v6 h = some x → am_W g l M_X8_waysOf h0 (some (.long x)) h 25 [some (.ref v0), some (.long v1), none, some (.int v3), some (.int v4), some (.int v5), some (.int v6)] [] h
  | 0, _, _, _, _, _, _, _, hF => by cases hF
  | n + 1, v0, v1, v3, v4, v5, v6, h, hF => by
    rw [F_X8_waysOf_25] at hF
    refine am_iload (pc' := 27) dX8_waysOf_25 rfl rfl ?_
    refine am_iload (pc' := 29) dX8_waysOf_27 rfl rfl ?_
    rcases am_ite hF with ⟨z1, hF⟩ | ⟨z1, hF⟩
    · refine am_icmp_gt_t (pc' := 50) dX8_waysOf_29 rfl z1 ?_
      refine am_iinc (ls' := [some (.ref v0), some (.long v1), none, some (.int v3), some (.int (v4 + (1 : Int32))), some (.int v5), some (.int v6)]) (pc' := 53) (v := (v4 + (1 : Int32))) dX8_waysOf_50 rfl rfl (Nat.le_of_ble_eq_true rfl) rfl rfl ?_
      refine am_goto (pc' := 7) dX8_waysOf_53 rfl ?_
      exact am_weak [true, true, false, true, true, false, false] (j7 v0 v1 v3 (v4 + (1 : Int32)) h hF)
    · refine am_icmp_gt_f (pc' := 32) (tgt := 50) dX8_waysOf_29 rfl z1 rfl ?_
      refine am_iinc (ls' := [some (.ref v0), some (.long v1), none, some (.int (v3 + (1 : Int32))), some (.int v4), some (.int v5), some (.int v6)]) (pc' := 35) (v := (v3 + (1 : Int32))) dX8_waysOf_32 rfl rfl (Nat.le_of_ble_eq_true rfl) rfl rfl ?_
      refine am_lload_n (pc' := 36) dX8_waysOf_35 rfl rfl ?_
      refine am_iload_n (pc' := 37) dX8_waysOf_36 rfl rfl ?_
      refine am_i2l (pc' := 38) dX8_waysOf_37 rfl ?_
      refine am_lmul (pc' := 39) dX8_waysOf_38 rfl ?_
      refine am_iload (pc' := 41) dX8_waysOf_39 rfl rfl ?_
      refine am_i2l (pc' := 42) dX8_waysOf_41 rfl ?_
      rcases am_ite hF with ⟨z2, hF⟩ | ⟨z2, hF⟩
      · cases hF
      refine am_ldiv (pc' := 43) dX8_waysOf_42 z2 rfl ?_
      refine am_lstore_n (ls' := [some (.ref v0), some (.long ((v1 * (Int32.toInt64 (v3 + (1 : Int32)))) / (Int32.toInt64 v6))), none, some (.int (v3 + (1 : Int32))), some (.int v4), some (.int v5), some (.int v6)]) (pc' := 44) dX8_waysOf_43 (Nat.le_of_ble_eq_true rfl) rfl rfl ?_
      refine am_iinc (ls' := [some (.ref v0), some (.long ((v1 * (Int32.toInt64 (v3 + (1 : Int32)))) / (Int32.toInt64 v6))), none, some (.int (v3 + (1 : Int32))), some (.int v4), some (.int v5), some (.int (v6 + (1 : Int32)))]) (pc' := 47) (v := (v6 + (1 : Int32))) dX8_waysOf_44 rfl rfl (Nat.le_of_ble_eq_true rfl) rfl rfl ?_
      refine am_goto (pc' := 25) dX8_waysOf_47 rfl ?_
      exact w_X8_waysOf_25 j7 n v0 ((v1 * (Int32.toInt64 (v3 + (1 : Int32)))) / (Int32.toInt64 v6)) (v3 + (1 : Int32)) v4 v5 (v6 + (1 : Int32)) h hF
def F_X8_waysOf_7 : Nat → Nat → Int64 → Int32 → Int32 → am_H → Option Int64
  | 0, _, _, _, _, _ => none
  | n + 1, v0, v1, v3, v4, h =>
  if (16 : Int32) ≤ v4 then
    some v1
  else
    (F_X4_times v0 v4 h).bind fun x2 =>
    F_X8_waysOf_25 (F_X8_waysOf_7 n) am_F v0 v1 v3 v4 x2 (1 : Int32) h
theorem w_X8_waysOf_7 {g : am_G} {l : Launch} {h0 : am_H} {x : Int64}  : ∀ (n : Nat) (v0 : Nat) (v1 : Int64) (v3 : Int32) (v4 : Int32) (h : am_H), F_X8_waysOf_7 n v0 v1 v3 v4 h = some x → am_W g l M_X8_waysOf h0 (some (.long x)) h 7 [some (.ref v0), some (.long v1), none, some (.int v3), some (.int v4), none, none] [] h
  | 0, _, _, _, _, _, hF => by cases hF
  | n + 1, v0, v1, v3, v4, h, hF => by
    rw [F_X8_waysOf_7] at hF
    refine am_iload (pc' := 9) dX8_waysOf_7 rfl rfl ?_
    refine am_bipush (v := (16 : Int32)) (pc' := 11) dX8_waysOf_9 rfl rfl ?_
    rcases am_ite hF with ⟨z1, hF⟩ | ⟨z1, hF⟩
    · refine am_icmp_ge_t (pc' := 56) dX8_waysOf_11 rfl z1 ?_
      refine am_lload_n (pc' := 57) dX8_waysOf_56 rfl rfl ?_
      cases hF
      exact am_lret dX8_waysOf_57 rfl
    · refine am_icmp_ge_f (pc' := 14) (tgt := 56) dX8_waysOf_11 rfl z1 rfl ?_
      refine am_aload_n (pc' := 15) dX8_waysOf_14 rfl rfl ?_
      refine am_iload (pc' := 17) dX8_waysOf_15 rfl rfl ?_
      obtain ⟨x2, ex2, hF⟩ := am_bind hF
      obtain ⟨ox2, px2⟩ := t_X4_times ex2
      refine am_callV1 (Mc := M_X4_times) (As := [.int v4]) (st := []) (pc' := 20) dX8_waysOf_17 cw_X8_326 wd_3_52 wd_3_53 ⟨_, rfl, rfl⟩ (by decide) (by decide) rfl rfl (Nat.le_of_ble_eq_true rfl) px2 (c_X4_times ex2) rfl ?_
      refine am_istore (ls' := [some (.ref v0), some (.long v1), none, some (.int v3), some (.int v4), some (.int x2), none]) (pc' := 22) dX8_waysOf_20 (Nat.le_of_ble_eq_true rfl) rfl rfl ?_
      refine am_iconst (v := (1 : Int32)) (pc' := 23) dX8_waysOf_22 rfl rfl ?_
      refine am_istore (ls' := [some (.ref v0), some (.long v1), none, some (.int v3), some (.int v4), some (.int x2), some (.int (1 : Int32))]) (pc' := 25) dX8_waysOf_23 (Nat.le_of_ble_eq_true rfl) rfl rfl ?_
      exact w_X8_waysOf_25 (w_X8_waysOf_7 n) am_F v0 v1 v3 v4 x2 (1 : Int32) h hF
def F_X8_waysOf_b (v0 : Nat) (h : am_H) : Option Int64 :=
  F_X8_waysOf_7 am_F v0 (1 : Int64) (0 : Int32) (0 : Int32) h
theorem w_X8_waysOf {g : am_G} {l : Launch} {h0 : am_H} {x : Int64}  (v0 : Nat) (h : am_H) (hF : F_X8_waysOf_b v0 h = some x) : am_W g l M_X8_waysOf h0 (some (.long x)) h 0 [some (.ref v0), none, none, none, none, none, none] [] h := by
  unfold F_X8_waysOf_b at hF
  refine am_lconst (v := (1 : Int64)) (pc' := 1) dX8_waysOf_0 rfl rfl ?_
  refine am_lstore_n (ls' := [some (.ref v0), some (.long (1 : Int64)), none, none, none, none, none]) (pc' := 2) dX8_waysOf_1 (Nat.le_of_ble_eq_true rfl) rfl rfl ?_
  refine am_iconst (v := (0 : Int32)) (pc' := 3) dX8_waysOf_2 rfl rfl ?_
  refine am_istore_n (ls' := [some (.ref v0), some (.long (1 : Int64)), none, some (.int (0 : Int32)), none, none, none]) (pc' := 4) dX8_waysOf_3 (Nat.le_of_ble_eq_true rfl) rfl rfl ?_
  refine am_iconst (v := (0 : Int32)) (pc' := 5) dX8_waysOf_4 rfl rfl ?_
  refine am_istore (ls' := [some (.ref v0), some (.long (1 : Int64)), none, some (.int (0 : Int32)), some (.int (0 : Int32)), none, none]) (pc' := 7) dX8_waysOf_5 (Nat.le_of_ble_eq_true rfl) rfl rfl ?_
  exact w_X8_waysOf_7 am_F v0 (1 : Int64) (0 : Int32) (0 : Int32) h hF
def F_X8_waysOf (v0 : Nat) (h : am_H) : Option Int64 := F_X8_waysOf_b v0 h
theorem c_X8_waysOf {g : am_G} {l : Launch} {x : Int64}  {v0 : Nat} {h : am_H} (hF : F_X8_waysOf v0 h = some x) : am_Met g l M_X8_waysOf [.ref v0] h (some (.long x)) h := by
  exact am_met (n := 6) (by decide +kernel) rfl (Nat.le_of_ble_eq_true rfl) (w_X8_waysOf v0 h hF)
theorem cw_X8_318 : am_cw "SignCellar" 318 M_X8_refusalOfWays 1 := ⟨wd_1_1, wd_4_81, ⟨by decide, by decide, by decide⟩, Or.inl wd_4_79⟩
theorem cw_X8_322 : am_cw "SignCellar" 322 M_X8_waysOf 1 := ⟨wd_1_1, wd_4_84, ⟨by decide, by decide, by decide⟩, Or.inl wd_4_82⟩
def F_X8_ways_19 (v3 : Int32) (h : am_H) : Option Int64 :=
  some (Int32.toInt64 v3)
theorem w_X8_ways_19 {g : am_G} {l : Launch} {h0 : am_H} {x : Int64}  (v3 : Int32) (h : am_H) (hF : F_X8_ways_19 v3 h = some x) : am_W g l M_X8_ways h0 (some (.long x)) h 19 [none, none, none, some (.int v3)] [] h := by
  unfold F_X8_ways_19 at hF
  refine am_iload_n (pc' := 20) dX8_ways_19 rfl rfl ?_
  refine am_i2l (pc' := 21) dX8_ways_20 rfl ?_
  cases hF
  exact am_lret dX8_ways_21 rfl
def F_X8_ways_b (v0 : Nat) (v1 : Int32) (h : am_H) : Option Int64 :=
  (F_X8_blockOf v0 v1 h).bind fun x1 =>
  (F_X8_refusalOfWays x1 h).bind fun x2 =>
  if x1 = 0 then
    F_X8_ways_19 x2 h
  else
    if x2 = 0 then
      (am_gr 0 0 x1 h).bind fun x5 =>
      (F_X8_waysOf x5 h).bind fun x6 =>
      some x6
    else
      F_X8_ways_19 x2 h
theorem w_X8_ways {g : am_G} {l : Launch} {h0 : am_H} {x : Int64}  (v0 : Nat) (v1 : Int32) (h : am_H) (hF : F_X8_ways_b v0 v1 h = some x) : am_W g l M_X8_ways h0 (some (.long x)) h 0 [some (.ref v0), some (.int v1), none, none] [] h := by
  unfold F_X8_ways_b at hF
  refine am_aload_n (pc' := 1) dX8_ways_0 rfl rfl ?_
  refine am_iload_n (pc' := 2) dX8_ways_1 rfl rfl ?_
  obtain ⟨x1, ex1, hF⟩ := am_bind hF
  obtain ⟨ox1, px1⟩ := t_X8_blockOf ex1
  refine am_callV1 (Mc := M_X8_blockOf) (As := [.int v1]) (st := []) (pc' := 5) dX8_ways_2 cw_X8_176 wd_2_33 sl_X8_blockOf ⟨_, rfl, rfl⟩ (by decide) (by decide) rfl rfl (Nat.le_of_ble_eq_true rfl) px1 (c_X8_blockOf ex1) rfl ?_
  refine am_astore_n (ls' := [some (.ref v0), some (.int v1), some (.ref x1), none]) (pc' := 6) dX8_ways_5 (Nat.le_of_ble_eq_true rfl) rfl rfl ?_
  refine am_aload_n (pc' := 7) dX8_ways_6 rfl rfl ?_
  obtain ⟨x2, ex2, hF⟩ := am_bind hF
  refine am_callS1 (Mc := M_X8_refusalOfWays) (As := [.ref x1]) (st := []) (pc' := 10) dX8_ways_7 cw_X8_318 wd_4_80 (by decide) (by decide) rfl rfl (Nat.le_of_ble_eq_true rfl) (c_X8_refusalOfWays ex2) rfl ?_
  refine am_istore_n (ls' := [some (.ref v0), some (.int v1), some (.ref x1), some (.int x2)]) (pc' := 11) dX8_ways_10 (Nat.le_of_ble_eq_true rfl) rfl rfl ?_
  refine am_aload_n (pc' := 12) dX8_ways_11 rfl rfl ?_
  rcases am_ite hF with ⟨z3, hF⟩ | ⟨z3, hF⟩
  · refine am_ifnull_t (pc' := 19) dX8_ways_12 rfl z3 ?_
    exact am_weak [false, false, false, true] (w_X8_ways_19 x2 h hF)
  · refine am_ifnull_f (pc' := 15) dX8_ways_12 z3 rfl ?_
    refine am_iload_n (pc' := 16) dX8_ways_15 rfl rfl ?_
    rcases am_ite hF with ⟨z4, hF⟩ | ⟨z4, hF⟩
    · refine am_if_eq_t (pc' := 22) dX8_ways_16 rfl z4 ?_
      refine am_aload_n (pc' := 23) dX8_ways_22 rfl rfl ?_
      obtain ⟨x5, ex5, hF⟩ := am_bind hF
      refine am_getr (pc' := 26) dX8_ways_23 fw_X8_180 ex5 rfl ?_
      obtain ⟨x6, ex6, hF⟩ := am_bind hF
      refine am_callS1 (Mc := M_X8_waysOf) (As := [.ref x5]) (st := []) (pc' := 29) dX8_ways_26 cw_X8_322 wd_4_83 (by decide) (by decide) rfl rfl (Nat.le_of_ble_eq_true rfl) (c_X8_waysOf ex6) rfl ?_
      cases hF
      exact am_lret dX8_ways_29 rfl
    · refine am_if_eq_f (pc' := 19) (tgt := 22) dX8_ways_16 rfl z4 rfl ?_
      exact am_weak [false, false, false, true] (w_X8_ways_19 x2 h hF)
def F_X8_ways (v0 : Nat) (v1 : Int32) (h : am_H) : Option Int64 := (am_obj v0 8 h).bind fun _ => F_X8_ways_b v0 v1 h
theorem t_X8_ways {x : Int64}  {v0 : Nat} {v1 : Int32} {h : am_H} (hF : F_X8_ways v0 v1 h = some x) : ∃ fs, am_obj v0 8 h = some fs := by
  obtain ⟨fs, e, _⟩ := am_bind hF
  exact ⟨fs, e⟩
theorem c_X8_ways {g : am_G} {l : Launch} {x : Int64}  {v0 : Nat} {v1 : Int32} {h : am_H} (hF : F_X8_ways v0 v1 h = some x) : am_Met g l M_X8_ways [.ref v0, .int v1] h (some (.long x)) h := by
  obtain ⟨fs, e0, e⟩ := am_bind hF
  exact am_met (n := 2) (by decide +kernel) rfl (Nat.le_of_ble_eq_true rfl) (w_X8_ways v0 v1 h e)
def F_X9_whyNoWays_44 (s0 : Int32) (h : am_H) : Option Int32 :=
  some s0
theorem w_X9_whyNoWays_44 {g : am_G} {l : Launch} {h0 : am_H} {x : Int32}  (s0 : Int32) (h : am_H) (hF : F_X9_whyNoWays_44 s0 h = some x) : am_W g l M_X9_whyNoWays h0 (some (.int x)) h 44 [none, none] [.int s0] h := by
  unfold F_X9_whyNoWays_44 at hF
  cases hF
  exact am_iret dX9_whyNoWays_44 rfl rfl
def F_X9_whyNoWays_b (v0 : Nat) (v1 : Int32) (h : am_H) : Option Int32 :=
  (F_X9_noBlock v0 v1 h).bind fun x1 =>
  if x1 = 0 then
    (am_gr 9 3 v0 h).bind fun x3 =>
    (am_il 0 x3 v1 h).bind fun x4 =>
    if x4 ≤ (20 : Int32) then
      (am_gr 9 5 v0 h).bind fun x6 =>
      (am_il 1 x6 v1 h).bind fun x7 =>
      if x7 = 0 then
        F_X9_whyNoWays_44 (0 : Int32) h
      else
        F_X9_whyNoWays_44 (-100005 : Int32) h
    else
      F_X9_whyNoWays_44 (-100003 : Int32) h
  else
    F_X9_whyNoWays_44 (-100001 : Int32) h
theorem w_X9_whyNoWays {g : am_G} {l : Launch} {h0 : am_H} {x : Int32}  (v0 : Nat) (v1 : Int32) (h : am_H) (hF : F_X9_whyNoWays_b v0 v1 h = some x) : am_W g l M_X9_whyNoWays h0 (some (.int x)) h 0 [some (.ref v0), some (.int v1)] [] h := by
  unfold F_X9_whyNoWays_b at hF
  refine am_aload_n (pc' := 1) dX9_whyNoWays_0 rfl rfl ?_
  refine am_iload_n (pc' := 2) dX9_whyNoWays_1 rfl rfl ?_
  obtain ⟨x1, ex1, hF⟩ := am_bind hF
  obtain ⟨ox1, px1⟩ := t_X9_noBlock ex1
  refine am_callV1 (Mc := M_X9_noBlock) (As := [.int v1]) (st := []) (pc' := 5) dX9_whyNoWays_2 cw_X9_184 wd_5_98 sl_X9_noBlock ⟨_, rfl, rfl⟩ (by decide) (by decide) rfl rfl (Nat.le_of_ble_eq_true rfl) px1 (c_X9_noBlock ex1) rfl ?_
  rcases am_ite hF with ⟨z2, hF⟩ | ⟨z2, hF⟩
  · refine am_if_eq_t (pc' := 13) dX9_whyNoWays_5 rfl z2 ?_
    refine am_aload_n (pc' := 14) dX9_whyNoWays_13 rfl rfl ?_
    obtain ⟨x3, ex3, hF⟩ := am_bind hF
    refine am_getr (pc' := 17) dX9_whyNoWays_14 fw_X9_13 ex3 rfl ?_
    refine am_iload_n (pc' := 18) dX9_whyNoWays_17 rfl rfl ?_
    obtain ⟨x4, ex4, hF⟩ := am_bind hF
    refine am_iald (pc' := 19) dX9_whyNoWays_18 ex4 rfl ?_
    refine am_bipush (v := (20 : Int32)) (pc' := 21) dX9_whyNoWays_19 rfl rfl ?_
    rcases am_ite hF with ⟨z5, hF⟩ | ⟨z5, hF⟩
    · refine am_icmp_le_t (pc' := 29) dX9_whyNoWays_21 rfl z5 ?_
      refine am_aload_n (pc' := 30) dX9_whyNoWays_29 rfl rfl ?_
      obtain ⟨x6, ex6, hF⟩ := am_bind hF
      refine am_getr (pc' := 33) dX9_whyNoWays_30 fw_X9_19 ex6 rfl ?_
      refine am_iload_n (pc' := 34) dX9_whyNoWays_33 rfl rfl ?_
      obtain ⟨x7, ex7, hF⟩ := am_bind hF
      refine am_bald (pc' := 35) dX9_whyNoWays_34 ex7 rfl ?_
      rcases am_ite hF with ⟨z8, hF⟩ | ⟨z8, hF⟩
      · refine am_if_eq_t (pc' := 43) dX9_whyNoWays_35 rfl z8 ?_
        refine am_iconst (v := (0 : Int32)) (pc' := 44) dX9_whyNoWays_43 rfl rfl ?_
        exact am_weak [false, false] (w_X9_whyNoWays_44 (0 : Int32) h hF)
      · refine am_if_eq_f (pc' := 38) (tgt := 43) dX9_whyNoWays_35 rfl z8 rfl ?_
        refine am_ldc (v := (-100005 : Int32)) (pc' := 40) dX9_whyNoWays_38 wd_5_55 rfl ?_
        refine am_goto (pc' := 44) dX9_whyNoWays_40 rfl ?_
        exact am_weak [false, false] (w_X9_whyNoWays_44 (-100005 : Int32) h hF)
    · refine am_icmp_le_f (pc' := 24) (tgt := 29) dX9_whyNoWays_21 rfl z5 rfl ?_
      refine am_ldc (v := (-100003 : Int32)) (pc' := 26) dX9_whyNoWays_24 wd_5_2 rfl ?_
      refine am_goto (pc' := 44) dX9_whyNoWays_26 rfl ?_
      exact am_weak [false, false] (w_X9_whyNoWays_44 (-100003 : Int32) h hF)
  · refine am_if_eq_f (pc' := 8) (tgt := 13) dX9_whyNoWays_5 rfl z2 rfl ?_
    refine am_ldc (v := (-100001 : Int32)) (pc' := 10) dX9_whyNoWays_8 wd_5_47 rfl ?_
    refine am_goto (pc' := 44) dX9_whyNoWays_10 rfl ?_
    exact am_weak [false, false] (w_X9_whyNoWays_44 (-100001 : Int32) h hF)
def F_X9_whyNoWays (v0 : Nat) (v1 : Int32) (h : am_H) : Option Int32 := (am_obj v0 9 h).bind fun _ => F_X9_whyNoWays_b v0 v1 h
theorem t_X9_whyNoWays {x : Int32}  {v0 : Nat} {v1 : Int32} {h : am_H} (hF : F_X9_whyNoWays v0 v1 h = some x) : ∃ fs, am_obj v0 9 h = some fs := by
  obtain ⟨fs, e, _⟩ := am_bind hF
  exact ⟨fs, e⟩
theorem c_X9_whyNoWays {g : am_G} {l : Launch} {x : Int32}  {v0 : Nat} {v1 : Int32} {h : am_H} (hF : F_X9_whyNoWays v0 v1 h = some x) : am_Met g l M_X9_whyNoWays [.ref v0, .int v1] h (some (.int x)) h := by
  obtain ⟨fs, e0, e⟩ := am_bind hF
  exact am_met (n := 0) (by decide +kernel) rfl (Nat.le_of_ble_eq_true rfl) (w_X9_whyNoWays v0 v1 h e)
