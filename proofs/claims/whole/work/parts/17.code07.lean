abbrev M_X4_become : am_M := ((⟨"SignCellar$Row", "become", "(LSignCellar$Row;)V"⟩ : MethodName), prog_6_method_8_code, 2, none, 2, 45)
theorem dX4_become_0 : decode prog_6_method_8_code 0 = .ok (.aload_n 0, 1) := by decide +kernel
theorem dX4_become_1 : decode prog_6_method_8_code 1 = .ok (.invokevirtual 33, 3) := by decide +kernel
theorem dX4_become_4 : decode prog_6_method_8_code 4 = .ok (.aload_n 0, 1) := by decide +kernel
theorem dX4_become_5 : decode prog_6_method_8_code 5 = .ok (.aload_n 1, 1) := by decide +kernel
theorem dX4_become_6 : decode prog_6_method_8_code 6 = .ok (.iconst 0, 1) := by decide +kernel
theorem dX4_become_7 : decode prog_6_method_8_code 7 = .ok (.aload_n 1, 1) := by decide +kernel
theorem dX4_become_8 : decode prog_6_method_8_code 8 = .ok (.getfield 9, 3) := by decide +kernel
theorem dX4_become_11 : decode prog_6_method_8_code 11 = .ok (.invokevirtual 36, 3) := by decide +kernel
theorem dX4_become_14 : decode prog_6_method_8_code 14 = .ok (.return_, 1) := by decide +kernel
abbrev M_X5_timesOf : am_M := ((⟨"SignCellar$Rules", "timesOf", "(II)I"⟩ : MethodName), prog_7_method_8_code, 5, (some .int), 1, 21)
theorem dX5_timesOf_0 : decode prog_7_method_8_code 0 = .ok (.iconst 0, 1) := by decide +kernel
theorem dX5_timesOf_1 : decode prog_7_method_8_code 1 = .ok (.istore_n 3, 1) := by decide +kernel
theorem dX5_timesOf_2 : decode prog_7_method_8_code 2 = .ok (.iconst 0, 1) := by decide +kernel
theorem dX5_timesOf_3 : decode prog_7_method_8_code 3 = .ok (.istore 4, 2) := by decide +kernel
theorem dX5_timesOf_5 : decode prog_7_method_8_code 5 = .ok (.iload 4, 2) := by decide +kernel
theorem dX5_timesOf_7 : decode prog_7_method_8_code 7 = .ok (.iconst 1, 1) := by decide +kernel
theorem dX5_timesOf_8 : decode prog_7_method_8_code 8 = .ok (.iadd, 1) := by decide +kernel
theorem dX5_timesOf_9 : decode prog_7_method_8_code 9 = .ok (.aload_n 0, 1) := by decide +kernel
theorem dX5_timesOf_10 : decode prog_7_method_8_code 10 = .ok (.getfield 14, 3) := by decide +kernel
theorem dX5_timesOf_13 : decode prog_7_method_8_code 13 = .ok (.invokevirtual 64, 3) := by decide +kernel
theorem dX5_timesOf_16 : decode prog_7_method_8_code 16 = .ok (.if_icmp .ge 43, 3) := by decide +kernel
theorem dX5_timesOf_19 : decode prog_7_method_8_code 19 = .ok (.aload_n 0, 1) := by decide +kernel
theorem dX5_timesOf_20 : decode prog_7_method_8_code 20 = .ok (.getfield 14, 3) := by decide +kernel
theorem dX5_timesOf_23 : decode prog_7_method_8_code 23 = .ok (.iload 4, 2) := by decide +kernel
theorem dX5_timesOf_25 : decode prog_7_method_8_code 25 = .ok (.invokevirtual 71, 3) := by decide +kernel
theorem dX5_timesOf_28 : decode prog_7_method_8_code 28 = .ok (.iload_n 1, 1) := by decide +kernel
theorem dX5_timesOf_29 : decode prog_7_method_8_code 29 = .ok (.if_icmp .ne 24, 3) := by decide +kernel
theorem dX5_timesOf_32 : decode prog_7_method_8_code 32 = .ok (.aload_n 0, 1) := by decide +kernel
theorem dX5_timesOf_33 : decode prog_7_method_8_code 33 = .ok (.getfield 14, 3) := by decide +kernel
theorem dX5_timesOf_36 : decode prog_7_method_8_code 36 = .ok (.iload 4, 2) := by decide +kernel
theorem dX5_timesOf_38 : decode prog_7_method_8_code 38 = .ok (.iconst 1, 1) := by decide +kernel
theorem dX5_timesOf_39 : decode prog_7_method_8_code 39 = .ok (.iadd, 1) := by decide +kernel
theorem dX5_timesOf_40 : decode prog_7_method_8_code 40 = .ok (.invokevirtual 71, 3) := by decide +kernel
theorem dX5_timesOf_43 : decode prog_7_method_8_code 43 = .ok (.iload_n 2, 1) := by decide +kernel
theorem dX5_timesOf_44 : decode prog_7_method_8_code 44 = .ok (.if_icmp .ne 9, 3) := by decide +kernel
theorem dX5_timesOf_47 : decode prog_7_method_8_code 47 = .ok (.iinc 3 1, 3) := by decide +kernel
theorem dX5_timesOf_50 : decode prog_7_method_8_code 50 = .ok (.iinc 4 1, 3) := by decide +kernel
theorem dX5_timesOf_53 : decode prog_7_method_8_code 53 = .ok (.iinc 4 1, 3) := by decide +kernel
theorem dX5_timesOf_56 : decode prog_7_method_8_code 56 = .ok (.goto (-51), 3) := by decide +kernel
theorem dX5_timesOf_59 : decode prog_7_method_8_code 59 = .ok (.iload_n 3, 1) := by decide +kernel
theorem dX5_timesOf_60 : decode prog_7_method_8_code 60 = .ok (.ireturn, 1) := by decide +kernel
abbrev M_X5_findPair : am_M := ((⟨"SignCellar$Rules", "findPair", "()Z"⟩ : MethodName), prog_7_method_7_code, 7, (some .boolean), 2, 45)
theorem dX5_findPair_0 : decode prog_7_method_7_code 0 = .ok (.iconst 1, 1) := by decide +kernel
theorem dX5_findPair_1 : decode prog_7_method_7_code 1 = .ok (.istore_n 1, 1) := by decide +kernel
theorem dX5_findPair_2 : decode prog_7_method_7_code 2 = .ok (.iconst 0, 1) := by decide +kernel
theorem dX5_findPair_3 : decode prog_7_method_7_code 3 = .ok (.istore_n 2, 1) := by decide +kernel
theorem dX5_findPair_4 : decode prog_7_method_7_code 4 = .ok (.iload_n 2, 1) := by decide +kernel
theorem dX5_findPair_5 : decode prog_7_method_7_code 5 = .ok (.iconst 1, 1) := by decide +kernel
theorem dX5_findPair_6 : decode prog_7_method_7_code 6 = .ok (.iadd, 1) := by decide +kernel
theorem dX5_findPair_7 : decode prog_7_method_7_code 7 = .ok (.aload_n 0, 1) := by decide +kernel
theorem dX5_findPair_8 : decode prog_7_method_7_code 8 = .ok (.getfield 14, 3) := by decide +kernel
theorem dX5_findPair_11 : decode prog_7_method_7_code 11 = .ok (.invokevirtual 64, 3) := by decide +kernel
theorem dX5_findPair_14 : decode prog_7_method_7_code 14 = .ok (.if_icmp .ge 107, 3) := by decide +kernel
theorem dX5_findPair_17 : decode prog_7_method_7_code 17 = .ok (.aload_n 0, 1) := by decide +kernel
theorem dX5_findPair_18 : decode prog_7_method_7_code 18 = .ok (.getfield 14, 3) := by decide +kernel
theorem dX5_findPair_21 : decode prog_7_method_7_code 21 = .ok (.iload_n 2, 1) := by decide +kernel
theorem dX5_findPair_22 : decode prog_7_method_7_code 22 = .ok (.invokevirtual 71, 3) := by decide +kernel
theorem dX5_findPair_25 : decode prog_7_method_7_code 25 = .ok (.istore_n 3, 1) := by decide +kernel
theorem dX5_findPair_26 : decode prog_7_method_7_code 26 = .ok (.aload_n 0, 1) := by decide +kernel
theorem dX5_findPair_27 : decode prog_7_method_7_code 27 = .ok (.getfield 14, 3) := by decide +kernel
theorem dX5_findPair_30 : decode prog_7_method_7_code 30 = .ok (.iload_n 2, 1) := by decide +kernel
theorem dX5_findPair_31 : decode prog_7_method_7_code 31 = .ok (.iconst 1, 1) := by decide +kernel
theorem dX5_findPair_32 : decode prog_7_method_7_code 32 = .ok (.iadd, 1) := by decide +kernel
theorem dX5_findPair_33 : decode prog_7_method_7_code 33 = .ok (.invokevirtual 71, 3) := by decide +kernel
theorem dX5_findPair_36 : decode prog_7_method_7_code 36 = .ok (.istore 4, 2) := by decide +kernel
theorem dX5_findPair_38 : decode prog_7_method_7_code 38 = .ok (.aload_n 0, 1) := by decide +kernel
theorem dX5_findPair_39 : decode prog_7_method_7_code 39 = .ok (.iload_n 3, 1) := by decide +kernel
theorem dX5_findPair_40 : decode prog_7_method_7_code 40 = .ok (.iload 4, 2) := by decide +kernel
theorem dX5_findPair_42 : decode prog_7_method_7_code 42 = .ok (.invokevirtual 74, 3) := by decide +kernel
theorem dX5_findPair_45 : decode prog_7_method_7_code 45 = .ok (.istore 5, 2) := by decide +kernel
theorem dX5_findPair_47 : decode prog_7_method_7_code 47 = .ok (.iload_n 3, 1) := by decide +kernel
theorem dX5_findPair_48 : decode prog_7_method_7_code 48 = .ok (.aload_n 0, 1) := by decide +kernel
theorem dX5_findPair_49 : decode prog_7_method_7_code 49 = .ok (.getfield 31, 3) := by decide +kernel
theorem dX5_findPair_52 : decode prog_7_method_7_code 52 = .ok (.if_icmp .lt 20, 3) := by decide +kernel
theorem dX5_findPair_55 : decode prog_7_method_7_code 55 = .ok (.iload_n 3, 1) := by decide +kernel
theorem dX5_findPair_56 : decode prog_7_method_7_code 56 = .ok (.aload_n 0, 1) := by decide +kernel
theorem dX5_findPair_57 : decode prog_7_method_7_code 57 = .ok (.getfield 31, 3) := by decide +kernel
theorem dX5_findPair_60 : decode prog_7_method_7_code 60 = .ok (.if_icmp .ne 16, 3) := by decide +kernel
theorem dX5_findPair_63 : decode prog_7_method_7_code 63 = .ok (.iload 4, 2) := by decide +kernel
theorem dX5_findPair_65 : decode prog_7_method_7_code 65 = .ok (.aload_n 0, 1) := by decide +kernel
theorem dX5_findPair_66 : decode prog_7_method_7_code 66 = .ok (.getfield 34, 3) := by decide +kernel
theorem dX5_findPair_69 : decode prog_7_method_7_code 69 = .ok (.if_icmp .ge 7, 3) := by decide +kernel
theorem dX5_findPair_72 : decode prog_7_method_7_code 72 = .ok (.iconst 1, 1) := by decide +kernel
theorem dX5_findPair_73 : decode prog_7_method_7_code 73 = .ok (.goto 4, 3) := by decide +kernel
theorem dX5_findPair_76 : decode prog_7_method_7_code 76 = .ok (.iconst 0, 1) := by decide +kernel
theorem dX5_findPair_77 : decode prog_7_method_7_code 77 = .ok (.istore 6, 2) := by decide +kernel
theorem dX5_findPair_79 : decode prog_7_method_7_code 79 = .ok (.iload 5, 2) := by decide +kernel
theorem dX5_findPair_81 : decode prog_7_method_7_code 81 = .ok (.iload_n 1, 1) := by decide +kernel
theorem dX5_findPair_82 : decode prog_7_method_7_code 82 = .ok (.if_icmp .gt 19, 3) := by decide +kernel
theorem dX5_findPair_85 : decode prog_7_method_7_code 85 = .ok (.iload 5, 2) := by decide +kernel
theorem dX5_findPair_87 : decode prog_7_method_7_code 87 = .ok (.iload_n 1, 1) := by decide +kernel
theorem dX5_findPair_88 : decode prog_7_method_7_code 88 = .ok (.if_icmp .ne 27, 3) := by decide +kernel
theorem dX5_findPair_91 : decode prog_7_method_7_code 91 = .ok (.iload_n 1, 1) := by decide +kernel
theorem dX5_findPair_92 : decode prog_7_method_7_code 92 = .ok (.iconst 1, 1) := by decide +kernel
theorem dX5_findPair_93 : decode prog_7_method_7_code 93 = .ok (.if_icmp .le 22, 3) := by decide +kernel
theorem dX5_findPair_96 : decode prog_7_method_7_code 96 = .ok (.iload 6, 2) := by decide +kernel
theorem dX5_findPair_98 : decode prog_7_method_7_code 98 = .ok (.ifCond .eq 17, 3) := by decide +kernel
theorem dX5_findPair_101 : decode prog_7_method_7_code 101 = .ok (.iload 5, 2) := by decide +kernel
theorem dX5_findPair_103 : decode prog_7_method_7_code 103 = .ok (.istore_n 1, 1) := by decide +kernel
theorem dX5_findPair_104 : decode prog_7_method_7_code 104 = .ok (.aload_n 0, 1) := by decide +kernel
theorem dX5_findPair_105 : decode prog_7_method_7_code 105 = .ok (.iload_n 3, 1) := by decide +kernel
theorem dX5_findPair_106 : decode prog_7_method_7_code 106 = .ok (.putfield 31, 3) := by decide +kernel
theorem dX5_findPair_109 : decode prog_7_method_7_code 109 = .ok (.aload_n 0, 1) := by decide +kernel
theorem dX5_findPair_110 : decode prog_7_method_7_code 110 = .ok (.iload 4, 2) := by decide +kernel
theorem dX5_findPair_112 : decode prog_7_method_7_code 112 = .ok (.putfield 34, 3) := by decide +kernel
theorem dX5_findPair_115 : decode prog_7_method_7_code 115 = .ok (.iinc 2 1, 3) := by decide +kernel
theorem dX5_findPair_118 : decode prog_7_method_7_code 118 = .ok (.goto (-114), 3) := by decide +kernel
theorem dX5_findPair_121 : decode prog_7_method_7_code 121 = .ok (.iload_n 1, 1) := by decide +kernel
theorem dX5_findPair_122 : decode prog_7_method_7_code 122 = .ok (.iconst 1, 1) := by decide +kernel
theorem dX5_findPair_123 : decode prog_7_method_7_code 123 = .ok (.if_icmp .le 7, 3) := by decide +kernel
theorem dX5_findPair_126 : decode prog_7_method_7_code 126 = .ok (.iconst 1, 1) := by decide +kernel
theorem dX5_findPair_127 : decode prog_7_method_7_code 127 = .ok (.goto 4, 3) := by decide +kernel
theorem dX5_findPair_130 : decode prog_7_method_7_code 130 = .ok (.iconst 0, 1) := by decide +kernel
theorem dX5_findPair_131 : decode prog_7_method_7_code 131 = .ok (.ireturn, 1) := by decide +kernel
abbrev M_X5_join : am_M := ((⟨"SignCellar$Rules", "join", "(I)V"⟩ : MethodName), prog_7_method_9_code, 3, none, 3, 66)
theorem dX5_join_0 : decode prog_7_method_9_code 0 = .ok (.aload_n 0, 1) := by decide +kernel
theorem dX5_join_1 : decode prog_7_method_9_code 1 = .ok (.getfield 24, 3) := by decide +kernel
theorem dX5_join_4 : decode prog_7_method_9_code 4 = .ok (.invokevirtual 45, 3) := by decide +kernel
theorem dX5_join_7 : decode prog_7_method_9_code 7 = .ok (.iconst 0, 1) := by decide +kernel
theorem dX5_join_8 : decode prog_7_method_9_code 8 = .ok (.istore_n 2, 1) := by decide +kernel
theorem dX5_join_9 : decode prog_7_method_9_code 9 = .ok (.iload_n 2, 1) := by decide +kernel
theorem dX5_join_10 : decode prog_7_method_9_code 10 = .ok (.aload_n 0, 1) := by decide +kernel
theorem dX5_join_11 : decode prog_7_method_9_code 11 = .ok (.getfield 14, 3) := by decide +kernel
theorem dX5_join_14 : decode prog_7_method_9_code 14 = .ok (.invokevirtual 64, 3) := by decide +kernel
theorem dX5_join_17 : decode prog_7_method_9_code 17 = .ok (.if_icmp .ge 70, 3) := by decide +kernel
theorem dX5_join_20 : decode prog_7_method_9_code 20 = .ok (.aload_n 0, 1) := by decide +kernel
theorem dX5_join_21 : decode prog_7_method_9_code 21 = .ok (.getfield 14, 3) := by decide +kernel
theorem dX5_join_24 : decode prog_7_method_9_code 24 = .ok (.iload_n 2, 1) := by decide +kernel
theorem dX5_join_25 : decode prog_7_method_9_code 25 = .ok (.invokevirtual 71, 3) := by decide +kernel
theorem dX5_join_28 : decode prog_7_method_9_code 28 = .ok (.aload_n 0, 1) := by decide +kernel
theorem dX5_join_29 : decode prog_7_method_9_code 29 = .ok (.getfield 31, 3) := by decide +kernel
theorem dX5_join_32 : decode prog_7_method_9_code 32 = .ok (.if_icmp .ne 34, 3) := by decide +kernel
theorem dX5_join_35 : decode prog_7_method_9_code 35 = .ok (.aload_n 0, 1) := by decide +kernel
theorem dX5_join_36 : decode prog_7_method_9_code 36 = .ok (.getfield 14, 3) := by decide +kernel
theorem dX5_join_39 : decode prog_7_method_9_code 39 = .ok (.iload_n 2, 1) := by decide +kernel
theorem dX5_join_40 : decode prog_7_method_9_code 40 = .ok (.iconst 1, 1) := by decide +kernel
theorem dX5_join_41 : decode prog_7_method_9_code 41 = .ok (.iadd, 1) := by decide +kernel
theorem dX5_join_42 : decode prog_7_method_9_code 42 = .ok (.invokevirtual 71, 3) := by decide +kernel
theorem dX5_join_45 : decode prog_7_method_9_code 45 = .ok (.aload_n 0, 1) := by decide +kernel
theorem dX5_join_46 : decode prog_7_method_9_code 46 = .ok (.getfield 34, 3) := by decide +kernel
theorem dX5_join_49 : decode prog_7_method_9_code 49 = .ok (.if_icmp .ne 17, 3) := by decide +kernel
theorem dX5_join_52 : decode prog_7_method_9_code 52 = .ok (.aload_n 0, 1) := by decide +kernel
theorem dX5_join_53 : decode prog_7_method_9_code 53 = .ok (.getfield 24, 3) := by decide +kernel
theorem dX5_join_56 : decode prog_7_method_9_code 56 = .ok (.iload_n 1, 1) := by decide +kernel
theorem dX5_join_57 : decode prog_7_method_9_code 57 = .ok (.invokevirtual 48, 3) := by decide +kernel
theorem dX5_join_60 : decode prog_7_method_9_code 60 = .ok (.iinc 2 1, 3) := by decide +kernel
theorem dX5_join_63 : decode prog_7_method_9_code 63 = .ok (.goto 18, 3) := by decide +kernel
theorem dX5_join_66 : decode prog_7_method_9_code 66 = .ok (.aload_n 0, 1) := by decide +kernel
theorem dX5_join_67 : decode prog_7_method_9_code 67 = .ok (.getfield 24, 3) := by decide +kernel
theorem dX5_join_70 : decode prog_7_method_9_code 70 = .ok (.aload_n 0, 1) := by decide +kernel
theorem dX5_join_71 : decode prog_7_method_9_code 71 = .ok (.getfield 14, 3) := by decide +kernel
theorem dX5_join_74 : decode prog_7_method_9_code 74 = .ok (.iload_n 2, 1) := by decide +kernel
theorem dX5_join_75 : decode prog_7_method_9_code 75 = .ok (.invokevirtual 71, 3) := by decide +kernel
theorem dX5_join_78 : decode prog_7_method_9_code 78 = .ok (.invokevirtual 48, 3) := by decide +kernel
theorem dX5_join_81 : decode prog_7_method_9_code 81 = .ok (.iinc 2 1, 3) := by decide +kernel
theorem dX5_join_84 : decode prog_7_method_9_code 84 = .ok (.goto (-75), 3) := by decide +kernel
theorem dX5_join_87 : decode prog_7_method_9_code 87 = .ok (.aload_n 0, 1) := by decide +kernel
theorem dX5_join_88 : decode prog_7_method_9_code 88 = .ok (.getfield 14, 3) := by decide +kernel
theorem dX5_join_91 : decode prog_7_method_9_code 91 = .ok (.aload_n 0, 1) := by decide +kernel
theorem dX5_join_92 : decode prog_7_method_9_code 92 = .ok (.getfield 24, 3) := by decide +kernel
theorem dX5_join_95 : decode prog_7_method_9_code 95 = .ok (.invokevirtual 37, 3) := by decide +kernel
theorem dX5_join_98 : decode prog_7_method_9_code 98 = .ok (.return_, 1) := by decide +kernel
abbrev M_X4_timesWithin : am_M := ((⟨"SignCellar$Row", "timesWithin", "(III)I"⟩ : MethodName), prog_6_method_13_code, 6, (some .int), 1, 21)
theorem dX4_timesWithin_0 : decode prog_6_method_13_code 0 = .ok (.iconst 0, 1) := by decide +kernel
theorem dX4_timesWithin_1 : decode prog_6_method_13_code 1 = .ok (.istore 4, 2) := by decide +kernel
theorem dX4_timesWithin_3 : decode prog_6_method_13_code 3 = .ok (.iload_n 2, 1) := by decide +kernel
theorem dX4_timesWithin_4 : decode prog_6_method_13_code 4 = .ok (.istore 5, 2) := by decide +kernel
theorem dX4_timesWithin_6 : decode prog_6_method_13_code 6 = .ok (.iload 5, 2) := by decide +kernel
theorem dX4_timesWithin_8 : decode prog_6_method_13_code 8 = .ok (.iload_n 3, 1) := by decide +kernel
theorem dX4_timesWithin_9 : decode prog_6_method_13_code 9 = .ok (.if_icmp .ge 22, 3) := by decide +kernel
theorem dX4_timesWithin_12 : decode prog_6_method_13_code 12 = .ok (.aload_n 0, 1) := by decide +kernel
theorem dX4_timesWithin_13 : decode prog_6_method_13_code 13 = .ok (.iload 5, 2) := by decide +kernel
theorem dX4_timesWithin_15 : decode prog_6_method_13_code 15 = .ok (.invokevirtual 25, 3) := by decide +kernel
theorem dX4_timesWithin_18 : decode prog_6_method_13_code 18 = .ok (.iload_n 1, 1) := by decide +kernel
theorem dX4_timesWithin_19 : decode prog_6_method_13_code 19 = .ok (.if_icmp .ne 6, 3) := by decide +kernel
theorem dX4_timesWithin_22 : decode prog_6_method_13_code 22 = .ok (.iinc 4 1, 3) := by decide +kernel
theorem dX4_timesWithin_25 : decode prog_6_method_13_code 25 = .ok (.iinc 5 1, 3) := by decide +kernel
theorem dX4_timesWithin_28 : decode prog_6_method_13_code 28 = .ok (.goto (-22), 3) := by decide +kernel
theorem dX4_timesWithin_31 : decode prog_6_method_13_code 31 = .ok (.iload 4, 2) := by decide +kernel
theorem dX4_timesWithin_33 : decode prog_6_method_13_code 33 = .ok (.ireturn, 1) := by decide +kernel
abbrev M_X4_times : am_M := ((⟨"SignCellar$Row", "times", "(I)I"⟩ : MethodName), prog_6_method_12_code, 2, (some .int), 2, 46)
theorem dX4_times_0 : decode prog_6_method_12_code 0 = .ok (.aload_n 0, 1) := by decide +kernel
theorem dX4_times_1 : decode prog_6_method_12_code 1 = .ok (.iload_n 1, 1) := by decide +kernel
theorem dX4_times_2 : decode prog_6_method_12_code 2 = .ok (.iconst 0, 1) := by decide +kernel
theorem dX4_times_3 : decode prog_6_method_12_code 3 = .ok (.aload_n 0, 1) := by decide +kernel
theorem dX4_times_4 : decode prog_6_method_12_code 4 = .ok (.getfield 9, 3) := by decide +kernel
theorem dX4_times_7 : decode prog_6_method_12_code 7 = .ok (.invokevirtual 43, 3) := by decide +kernel
theorem dX4_times_10 : decode prog_6_method_12_code 10 = .ok (.ireturn, 1) := by decide +kernel
abbrev M_X5_standing : am_M := ((⟨"SignCellar$Rules", "standing", "(I)I"⟩ : MethodName), prog_7_method_10_code, 4, (some .int), 3, 67)
theorem dX5_standing_0 : decode prog_7_method_10_code 0 = .ok (.aload_n 0, 1) := by decide +kernel
theorem dX5_standing_1 : decode prog_7_method_10_code 1 = .ok (.getfield 14, 3) := by decide +kernel
theorem dX5_standing_4 : decode prog_7_method_10_code 4 = .ok (.iload_n 1, 1) := by decide +kernel
theorem dX5_standing_5 : decode prog_7_method_10_code 5 = .ok (.invokevirtual 78, 3) := by decide +kernel
theorem dX5_standing_8 : decode prog_7_method_10_code 8 = .ok (.istore_n 2, 1) := by decide +kernel
theorem dX5_standing_9 : decode prog_7_method_10_code 9 = .ok (.iconst 0, 1) := by decide +kernel
theorem dX5_standing_10 : decode prog_7_method_10_code 10 = .ok (.istore_n 3, 1) := by decide +kernel
theorem dX5_standing_11 : decode prog_7_method_10_code 11 = .ok (.iload_n 3, 1) := by decide +kernel
theorem dX5_standing_12 : decode prog_7_method_10_code 12 = .ok (.aload_n 0, 1) := by decide +kernel
theorem dX5_standing_13 : decode prog_7_method_10_code 13 = .ok (.getfield 27, 3) := by decide +kernel
theorem dX5_standing_16 : decode prog_7_method_10_code 16 = .ok (.if_icmp .ge 31, 3) := by decide +kernel
theorem dX5_standing_19 : decode prog_7_method_10_code 19 = .ok (.iload_n 3, 1) := by decide +kernel
theorem dX5_standing_20 : decode prog_7_method_10_code 20 = .ok (.aload_n 0, 1) := by decide +kernel
theorem dX5_standing_21 : decode prog_7_method_10_code 21 = .ok (.getfield 20, 3) := by decide +kernel
theorem dX5_standing_24 : decode prog_7_method_10_code 24 = .ok (.arraylength, 1) := by decide +kernel
theorem dX5_standing_25 : decode prog_7_method_10_code 25 = .ok (.if_icmp .ge 22, 3) := by decide +kernel
theorem dX5_standing_28 : decode prog_7_method_10_code 28 = .ok (.iload_n 2, 1) := by decide +kernel
theorem dX5_standing_29 : decode prog_7_method_10_code 29 = .ok (.aload_n 0, 1) := by decide +kernel
theorem dX5_standing_30 : decode prog_7_method_10_code 30 = .ok (.getfield 20, 3) := by decide +kernel
theorem dX5_standing_33 : decode prog_7_method_10_code 33 = .ok (.iload_n 3, 1) := by decide +kernel
theorem dX5_standing_34 : decode prog_7_method_10_code 34 = .ok (.aaload, 1) := by decide +kernel
theorem dX5_standing_35 : decode prog_7_method_10_code 35 = .ok (.iload_n 1, 1) := by decide +kernel
theorem dX5_standing_36 : decode prog_7_method_10_code 36 = .ok (.invokevirtual 78, 3) := by decide +kernel
theorem dX5_standing_39 : decode prog_7_method_10_code 39 = .ok (.iadd, 1) := by decide +kernel
theorem dX5_standing_40 : decode prog_7_method_10_code 40 = .ok (.istore_n 2, 1) := by decide +kernel
theorem dX5_standing_41 : decode prog_7_method_10_code 41 = .ok (.iinc 3 1, 3) := by decide +kernel
theorem dX5_standing_44 : decode prog_7_method_10_code 44 = .ok (.goto (-33), 3) := by decide +kernel
theorem dX5_standing_47 : decode prog_7_method_10_code 47 = .ok (.iload_n 2, 1) := by decide +kernel
theorem dX5_standing_48 : decode prog_7_method_10_code 48 = .ok (.ireturn, 1) := by decide +kernel
abbrev M_X5_expand : am_M := ((⟨"SignCellar$Rules", "expand", "(LSignCellar$Row;I)V"⟩ : MethodName), prog_7_method_12_code, 4, none, 3, 66)
theorem dX5_expand_0 : decode prog_7_method_12_code 0 = .ok (.aload_n 0, 1) := by decide +kernel
theorem dX5_expand_1 : decode prog_7_method_12_code 1 = .ok (.getfield 24, 3) := by decide +kernel
theorem dX5_expand_4 : decode prog_7_method_12_code 4 = .ok (.invokevirtual 45, 3) := by decide +kernel
theorem dX5_expand_7 : decode prog_7_method_12_code 7 = .ok (.iconst 0, 1) := by decide +kernel
theorem dX5_expand_8 : decode prog_7_method_12_code 8 = .ok (.istore_n 3, 1) := by decide +kernel
theorem dX5_expand_9 : decode prog_7_method_12_code 9 = .ok (.iload_n 3, 1) := by decide +kernel
theorem dX5_expand_10 : decode prog_7_method_12_code 10 = .ok (.aload_n 1, 1) := by decide +kernel
theorem dX5_expand_11 : decode prog_7_method_12_code 11 = .ok (.invokevirtual 64, 3) := by decide +kernel
theorem dX5_expand_14 : decode prog_7_method_12_code 14 = .ok (.if_icmp .ge 59, 3) := by decide +kernel
theorem dX5_expand_17 : decode prog_7_method_12_code 17 = .ok (.aload_n 1, 1) := by decide +kernel
theorem dX5_expand_18 : decode prog_7_method_12_code 18 = .ok (.iload_n 3, 1) := by decide +kernel
theorem dX5_expand_19 : decode prog_7_method_12_code 19 = .ok (.invokevirtual 71, 3) := by decide +kernel
theorem dX5_expand_22 : decode prog_7_method_12_code 22 = .ok (.bipush 16, 2) := by decide +kernel
theorem dX5_expand_24 : decode prog_7_method_12_code 24 = .ok (.iload_n 2, 1) := by decide +kernel
theorem dX5_expand_25 : decode prog_7_method_12_code 25 = .ok (.iadd, 1) := by decide +kernel
theorem dX5_expand_26 : decode prog_7_method_12_code 26 = .ok (.if_icmp .ne 29, 3) := by decide +kernel
theorem dX5_expand_29 : decode prog_7_method_12_code 29 = .ok (.aload_n 0, 1) := by decide +kernel
theorem dX5_expand_30 : decode prog_7_method_12_code 30 = .ok (.getfield 24, 3) := by decide +kernel
theorem dX5_expand_33 : decode prog_7_method_12_code 33 = .ok (.aload_n 0, 1) := by decide +kernel
theorem dX5_expand_34 : decode prog_7_method_12_code 34 = .ok (.getfield 20, 3) := by decide +kernel
theorem dX5_expand_37 : decode prog_7_method_12_code 37 = .ok (.iload_n 2, 1) := by decide +kernel
theorem dX5_expand_38 : decode prog_7_method_12_code 38 = .ok (.aaload, 1) := by decide +kernel
theorem dX5_expand_39 : decode prog_7_method_12_code 39 = .ok (.iconst 0, 1) := by decide +kernel
theorem dX5_expand_40 : decode prog_7_method_12_code 40 = .ok (.aload_n 0, 1) := by decide +kernel
theorem dX5_expand_41 : decode prog_7_method_12_code 41 = .ok (.getfield 20, 3) := by decide +kernel
theorem dX5_expand_44 : decode prog_7_method_12_code 44 = .ok (.iload_n 2, 1) := by decide +kernel
theorem dX5_expand_45 : decode prog_7_method_12_code 45 = .ok (.aaload, 1) := by decide +kernel
theorem dX5_expand_46 : decode prog_7_method_12_code 46 = .ok (.invokevirtual 64, 3) := by decide +kernel
theorem dX5_expand_49 : decode prog_7_method_12_code 49 = .ok (.invokevirtual 85, 3) := by decide +kernel
theorem dX5_expand_52 : decode prog_7_method_12_code 52 = .ok (.goto 15, 3) := by decide +kernel
theorem dX5_expand_55 : decode prog_7_method_12_code 55 = .ok (.aload_n 0, 1) := by decide +kernel
theorem dX5_expand_56 : decode prog_7_method_12_code 56 = .ok (.getfield 24, 3) := by decide +kernel
theorem dX5_expand_59 : decode prog_7_method_12_code 59 = .ok (.aload_n 1, 1) := by decide +kernel
theorem dX5_expand_60 : decode prog_7_method_12_code 60 = .ok (.iload_n 3, 1) := by decide +kernel
theorem dX5_expand_61 : decode prog_7_method_12_code 61 = .ok (.invokevirtual 71, 3) := by decide +kernel
theorem dX5_expand_64 : decode prog_7_method_12_code 64 = .ok (.invokevirtual 48, 3) := by decide +kernel
theorem dX5_expand_67 : decode prog_7_method_12_code 67 = .ok (.iinc 3 1, 3) := by decide +kernel
theorem dX5_expand_70 : decode prog_7_method_12_code 70 = .ok (.goto (-61), 3) := by decide +kernel
theorem dX5_expand_73 : decode prog_7_method_12_code 73 = .ok (.aload_n 1, 1) := by decide +kernel
theorem dX5_expand_74 : decode prog_7_method_12_code 74 = .ok (.aload_n 0, 1) := by decide +kernel
theorem dX5_expand_75 : decode prog_7_method_12_code 75 = .ok (.getfield 24, 3) := by decide +kernel
theorem dX5_expand_78 : decode prog_7_method_12_code 78 = .ok (.invokevirtual 37, 3) := by decide +kernel
theorem dX5_expand_81 : decode prog_7_method_12_code 81 = .ok (.return_, 1) := by decide +kernel
abbrev M_X5_putBack : am_M := ((⟨"SignCellar$Rules", "putBack", "(I)V"⟩ : MethodName), prog_7_method_11_code, 3, none, 4, 89)
theorem dX5_putBack_0 : decode prog_7_method_11_code 0 = .ok (.aload_n 0, 1) := by decide +kernel
theorem dX5_putBack_1 : decode prog_7_method_11_code 1 = .ok (.aload_n 0, 1) := by decide +kernel
theorem dX5_putBack_2 : decode prog_7_method_11_code 2 = .ok (.getfield 14, 3) := by decide +kernel
theorem dX5_putBack_5 : decode prog_7_method_11_code 5 = .ok (.iload_n 1, 1) := by decide +kernel
theorem dX5_putBack_6 : decode prog_7_method_11_code 6 = .ok (.invokevirtual 81, 3) := by decide +kernel
theorem dX5_putBack_9 : decode prog_7_method_11_code 9 = .ok (.iconst 0, 1) := by decide +kernel
theorem dX5_putBack_10 : decode prog_7_method_11_code 10 = .ok (.istore_n 2, 1) := by decide +kernel
theorem dX5_putBack_11 : decode prog_7_method_11_code 11 = .ok (.iload_n 2, 1) := by decide +kernel
theorem dX5_putBack_12 : decode prog_7_method_11_code 12 = .ok (.aload_n 0, 1) := by decide +kernel
theorem dX5_putBack_13 : decode prog_7_method_11_code 13 = .ok (.getfield 27, 3) := by decide +kernel
theorem dX5_putBack_16 : decode prog_7_method_11_code 16 = .ok (.if_icmp .ge 34, 3) := by decide +kernel
theorem dX5_putBack_19 : decode prog_7_method_11_code 19 = .ok (.iload_n 2, 1) := by decide +kernel
theorem dX5_putBack_20 : decode prog_7_method_11_code 20 = .ok (.aload_n 0, 1) := by decide +kernel
theorem dX5_putBack_21 : decode prog_7_method_11_code 21 = .ok (.getfield 20, 3) := by decide +kernel
theorem dX5_putBack_24 : decode prog_7_method_11_code 24 = .ok (.arraylength, 1) := by decide +kernel
theorem dX5_putBack_25 : decode prog_7_method_11_code 25 = .ok (.if_icmp .ge 25, 3) := by decide +kernel
theorem dX5_putBack_28 : decode prog_7_method_11_code 28 = .ok (.iload_n 2, 1) := by decide +kernel
theorem dX5_putBack_29 : decode prog_7_method_11_code 29 = .ok (.iload_n 1, 1) := by decide +kernel
theorem dX5_putBack_30 : decode prog_7_method_11_code 30 = .ok (.if_icmp .eq 14, 3) := by decide +kernel
theorem dX5_putBack_33 : decode prog_7_method_11_code 33 = .ok (.aload_n 0, 1) := by decide +kernel
theorem dX5_putBack_34 : decode prog_7_method_11_code 34 = .ok (.aload_n 0, 1) := by decide +kernel
theorem dX5_putBack_35 : decode prog_7_method_11_code 35 = .ok (.getfield 20, 3) := by decide +kernel
theorem dX5_putBack_38 : decode prog_7_method_11_code 38 = .ok (.iload_n 2, 1) := by decide +kernel
theorem dX5_putBack_39 : decode prog_7_method_11_code 39 = .ok (.aaload, 1) := by decide +kernel
theorem dX5_putBack_40 : decode prog_7_method_11_code 40 = .ok (.iload_n 1, 1) := by decide +kernel
theorem dX5_putBack_41 : decode prog_7_method_11_code 41 = .ok (.invokevirtual 81, 3) := by decide +kernel
theorem dX5_putBack_44 : decode prog_7_method_11_code 44 = .ok (.iinc 2 1, 3) := by decide +kernel
theorem dX5_putBack_47 : decode prog_7_method_11_code 47 = .ok (.goto (-36), 3) := by decide +kernel
theorem dX5_putBack_50 : decode prog_7_method_11_code 50 = .ok (.aload_n 0, 1) := by decide +kernel
theorem dX5_putBack_51 : decode prog_7_method_11_code 51 = .ok (.getfield 20, 3) := by decide +kernel
theorem dX5_putBack_54 : decode prog_7_method_11_code 54 = .ok (.iload_n 1, 1) := by decide +kernel
theorem dX5_putBack_55 : decode prog_7_method_11_code 55 = .ok (.aaload, 1) := by decide +kernel
theorem dX5_putBack_56 : decode prog_7_method_11_code 56 = .ok (.invokevirtual 45, 3) := by decide +kernel
theorem dX5_putBack_59 : decode prog_7_method_11_code 59 = .ok (.return_, 1) := by decide +kernel
abbrev M_X5_squeeze : am_M := ((⟨"SignCellar$Rules", "squeeze", "(LSignCellar$Row;)V"⟩ : MethodName), prog_7_method_2_code, 3, none, 5, 111)
theorem dX5_squeeze_0 : decode prog_7_method_2_code 0 = .ok (.aload_n 0, 1) := by decide +kernel
theorem dX5_squeeze_1 : decode prog_7_method_2_code 1 = .ok (.getfield 14, 3) := by decide +kernel
theorem dX5_squeeze_4 : decode prog_7_method_2_code 4 = .ok (.aload_n 1, 1) := by decide +kernel
theorem dX5_squeeze_5 : decode prog_7_method_2_code 5 = .ok (.invokevirtual 37, 3) := by decide +kernel
theorem dX5_squeeze_8 : decode prog_7_method_2_code 8 = .ok (.aload_n 0, 1) := by decide +kernel
theorem dX5_squeeze_9 : decode prog_7_method_2_code 9 = .ok (.iconst 0, 1) := by decide +kernel
theorem dX5_squeeze_10 : decode prog_7_method_2_code 10 = .ok (.putfield 27, 3) := by decide +kernel
theorem dX5_squeeze_13 : decode prog_7_method_2_code 13 = .ok (.iconst 0, 1) := by decide +kernel
theorem dX5_squeeze_14 : decode prog_7_method_2_code 14 = .ok (.istore_n 2, 1) := by decide +kernel
theorem dX5_squeeze_15 : decode prog_7_method_2_code 15 = .ok (.iload_n 2, 1) := by decide +kernel
theorem dX5_squeeze_16 : decode prog_7_method_2_code 16 = .ok (.aload_n 0, 1) := by decide +kernel
theorem dX5_squeeze_17 : decode prog_7_method_2_code 17 = .ok (.getfield 20, 3) := by decide +kernel
theorem dX5_squeeze_20 : decode prog_7_method_2_code 20 = .ok (.arraylength, 1) := by decide +kernel
theorem dX5_squeeze_21 : decode prog_7_method_2_code 21 = .ok (.if_icmp .ge 69, 3) := by decide +kernel
theorem dX5_squeeze_24 : decode prog_7_method_2_code 24 = .ok (.aload_n 0, 1) := by decide +kernel
theorem dX5_squeeze_25 : decode prog_7_method_2_code 25 = .ok (.invokevirtual 41, 3) := by decide +kernel
theorem dX5_squeeze_28 : decode prog_7_method_2_code 28 = .ok (.ifCond .eq 62, 3) := by decide +kernel
theorem dX5_squeeze_31 : decode prog_7_method_2_code 31 = .ok (.aload_n 0, 1) := by decide +kernel
theorem dX5_squeeze_32 : decode prog_7_method_2_code 32 = .ok (.getfield 20, 3) := by decide +kernel
theorem dX5_squeeze_35 : decode prog_7_method_2_code 35 = .ok (.iload_n 2, 1) := by decide +kernel
theorem dX5_squeeze_36 : decode prog_7_method_2_code 36 = .ok (.aaload, 1) := by decide +kernel
theorem dX5_squeeze_37 : decode prog_7_method_2_code 37 = .ok (.invokevirtual 45, 3) := by decide +kernel
theorem dX5_squeeze_40 : decode prog_7_method_2_code 40 = .ok (.aload_n 0, 1) := by decide +kernel
theorem dX5_squeeze_41 : decode prog_7_method_2_code 41 = .ok (.getfield 20, 3) := by decide +kernel
theorem dX5_squeeze_44 : decode prog_7_method_2_code 44 = .ok (.iload_n 2, 1) := by decide +kernel
theorem dX5_squeeze_45 : decode prog_7_method_2_code 45 = .ok (.aaload, 1) := by decide +kernel
theorem dX5_squeeze_46 : decode prog_7_method_2_code 46 = .ok (.aload_n 0, 1) := by decide +kernel
theorem dX5_squeeze_47 : decode prog_7_method_2_code 47 = .ok (.getfield 31, 3) := by decide +kernel
theorem dX5_squeeze_50 : decode prog_7_method_2_code 50 = .ok (.invokevirtual 48, 3) := by decide +kernel
theorem dX5_squeeze_53 : decode prog_7_method_2_code 53 = .ok (.aload_n 0, 1) := by decide +kernel
theorem dX5_squeeze_54 : decode prog_7_method_2_code 54 = .ok (.getfield 20, 3) := by decide +kernel
theorem dX5_squeeze_57 : decode prog_7_method_2_code 57 = .ok (.iload_n 2, 1) := by decide +kernel
theorem dX5_squeeze_58 : decode prog_7_method_2_code 58 = .ok (.aaload, 1) := by decide +kernel
theorem dX5_squeeze_59 : decode prog_7_method_2_code 59 = .ok (.aload_n 0, 1) := by decide +kernel
theorem dX5_squeeze_60 : decode prog_7_method_2_code 60 = .ok (.getfield 34, 3) := by decide +kernel
theorem dX5_squeeze_63 : decode prog_7_method_2_code 63 = .ok (.invokevirtual 48, 3) := by decide +kernel
theorem dX5_squeeze_66 : decode prog_7_method_2_code 66 = .ok (.aload_n 0, 1) := by decide +kernel
theorem dX5_squeeze_67 : decode prog_7_method_2_code 67 = .ok (.bipush 16, 2) := by decide +kernel
theorem dX5_squeeze_69 : decode prog_7_method_2_code 69 = .ok (.iload_n 2, 1) := by decide +kernel
theorem dX5_squeeze_70 : decode prog_7_method_2_code 70 = .ok (.iadd, 1) := by decide +kernel
theorem dX5_squeeze_71 : decode prog_7_method_2_code 71 = .ok (.invokevirtual 51, 3) := by decide +kernel
theorem dX5_squeeze_74 : decode prog_7_method_2_code 74 = .ok (.aload_n 0, 1) := by decide +kernel
theorem dX5_squeeze_75 : decode prog_7_method_2_code 75 = .ok (.dup, 1) := by decide +kernel
theorem dX5_squeeze_76 : decode prog_7_method_2_code 76 = .ok (.getfield 27, 3) := by decide +kernel
theorem dX5_squeeze_79 : decode prog_7_method_2_code 79 = .ok (.iconst 1, 1) := by decide +kernel
theorem dX5_squeeze_80 : decode prog_7_method_2_code 80 = .ok (.iadd, 1) := by decide +kernel
theorem dX5_squeeze_81 : decode prog_7_method_2_code 81 = .ok (.putfield 27, 3) := by decide +kernel
theorem dX5_squeeze_84 : decode prog_7_method_2_code 84 = .ok (.iinc 2 1, 3) := by decide +kernel
theorem dX5_squeeze_87 : decode prog_7_method_2_code 87 = .ok (.goto (-72), 3) := by decide +kernel
theorem dX5_squeeze_90 : decode prog_7_method_2_code 90 = .ok (.aload_n 0, 1) := by decide +kernel
theorem dX5_squeeze_91 : decode prog_7_method_2_code 91 = .ok (.getfield 27, 3) := by decide +kernel
theorem dX5_squeeze_94 : decode prog_7_method_2_code 94 = .ok (.iconst 1, 1) := by decide +kernel
theorem dX5_squeeze_95 : decode prog_7_method_2_code 95 = .ok (.isub, 1) := by decide +kernel
theorem dX5_squeeze_96 : decode prog_7_method_2_code 96 = .ok (.istore_n 2, 1) := by decide +kernel
theorem dX5_squeeze_97 : decode prog_7_method_2_code 97 = .ok (.iload_n 2, 1) := by decide +kernel
theorem dX5_squeeze_98 : decode prog_7_method_2_code 98 = .ok (.ifCond .lt 26, 3) := by decide +kernel
theorem dX5_squeeze_101 : decode prog_7_method_2_code 101 = .ok (.aload_n 0, 1) := by decide +kernel
theorem dX5_squeeze_102 : decode prog_7_method_2_code 102 = .ok (.bipush 16, 2) := by decide +kernel
theorem dX5_squeeze_104 : decode prog_7_method_2_code 104 = .ok (.iload_n 2, 1) := by decide +kernel
theorem dX5_squeeze_105 : decode prog_7_method_2_code 105 = .ok (.iadd, 1) := by decide +kernel
theorem dX5_squeeze_106 : decode prog_7_method_2_code 106 = .ok (.invokevirtual 54, 3) := by decide +kernel
theorem dX5_squeeze_109 : decode prog_7_method_2_code 109 = .ok (.iconst 2, 1) := by decide +kernel
theorem dX5_squeeze_110 : decode prog_7_method_2_code 110 = .ok (.if_icmp .ge 8, 3) := by decide +kernel
theorem dX5_squeeze_113 : decode prog_7_method_2_code 113 = .ok (.aload_n 0, 1) := by decide +kernel
theorem dX5_squeeze_114 : decode prog_7_method_2_code 114 = .ok (.iload_n 2, 1) := by decide +kernel
theorem dX5_squeeze_115 : decode prog_7_method_2_code 115 = .ok (.invokevirtual 58, 3) := by decide +kernel
theorem dX5_squeeze_118 : decode prog_7_method_2_code 118 = .ok (.iinc 2 (-1), 3) := by decide +kernel
theorem dX5_squeeze_121 : decode prog_7_method_2_code 121 = .ok (.goto (-24), 3) := by decide +kernel
theorem dX5_squeeze_124 : decode prog_7_method_2_code 124 = .ok (.return_, 1) := by decide +kernel
abbrev M_X3_learn : am_M := ((⟨"SignCellar$Odds", "learn", "(LSignCellar$Row;I)V"⟩ : MethodName), prog_5_method_3_code, 5, none, 1, 23)
theorem dX3_learn_0 : decode prog_5_method_3_code 0 = .ok (.aload_n 0, 1) := by decide +kernel
theorem dX3_learn_1 : decode prog_5_method_3_code 1 = .ok (.getfield 9, 3) := by decide +kernel
theorem dX3_learn_4 : decode prog_5_method_3_code 4 = .ok (.iconst 1, 1) := by decide +kernel
theorem dX3_learn_5 : decode prog_5_method_3_code 5 = .ok (.invokestatic 59, 3) := by decide +kernel
theorem dX3_learn_8 : decode prog_5_method_3_code 8 = .ok (.iconst 1, 1) := by decide +kernel
theorem dX3_learn_9 : decode prog_5_method_3_code 9 = .ok (.istore_n 3, 1) := by decide +kernel
theorem dX3_learn_10 : decode prog_5_method_3_code 10 = .ok (.iload_n 3, 1) := by decide +kernel
theorem dX3_learn_11 : decode prog_5_method_3_code 11 = .ok (.iload_n 2, 1) := by decide +kernel
theorem dX3_learn_12 : decode prog_5_method_3_code 12 = .ok (.if_icmp .ge 59, 3) := by decide +kernel
theorem dX3_learn_15 : decode prog_5_method_3_code 15 = .ok (.aload_n 1, 1) := by decide +kernel
theorem dX3_learn_16 : decode prog_5_method_3_code 16 = .ok (.iload_n 3, 1) := by decide +kernel
theorem dX3_learn_17 : decode prog_5_method_3_code 17 = .ok (.invokevirtual 46, 3) := by decide +kernel
theorem dX3_learn_20 : decode prog_5_method_3_code 20 = .ok (.istore 4, 2) := by decide +kernel
theorem dX3_learn_22 : decode prog_5_method_3_code 22 = .ok (.aload_n 1, 1) := by decide +kernel
theorem dX3_learn_23 : decode prog_5_method_3_code 23 = .ok (.iload_n 3, 1) := by decide +kernel
theorem dX3_learn_24 : decode prog_5_method_3_code 24 = .ok (.iconst 1, 1) := by decide +kernel
theorem dX3_learn_25 : decode prog_5_method_3_code 25 = .ok (.isub, 1) := by decide +kernel
theorem dX3_learn_26 : decode prog_5_method_3_code 26 = .ok (.invokevirtual 46, 3) := by decide +kernel
theorem dX3_learn_29 : decode prog_5_method_3_code 29 = .ok (.aload_n 1, 1) := by decide +kernel
theorem dX3_learn_30 : decode prog_5_method_3_code 30 = .ok (.iload_n 2, 1) := by decide +kernel
theorem dX3_learn_31 : decode prog_5_method_3_code 31 = .ok (.iconst 1, 1) := by decide +kernel
theorem dX3_learn_32 : decode prog_5_method_3_code 32 = .ok (.isub, 1) := by decide +kernel
theorem dX3_learn_33 : decode prog_5_method_3_code 33 = .ok (.invokevirtual 46, 3) := by decide +kernel
theorem dX3_learn_36 : decode prog_5_method_3_code 36 = .ok (.if_icmp .ne 29, 3) := by decide +kernel
theorem dX3_learn_39 : decode prog_5_method_3_code 39 = .ok (.iload 4, 2) := by decide +kernel
theorem dX3_learn_41 : decode prog_5_method_3_code 41 = .ok (.ifCond .lt 24, 3) := by decide +kernel
theorem dX3_learn_44 : decode prog_5_method_3_code 44 = .ok (.iload 4, 2) := by decide +kernel
theorem dX3_learn_46 : decode prog_5_method_3_code 46 = .ok (.aload_n 0, 1) := by decide +kernel
theorem dX3_learn_47 : decode prog_5_method_3_code 47 = .ok (.getfield 9, 3) := by decide +kernel
theorem dX3_learn_50 : decode prog_5_method_3_code 50 = .ok (.arraylength, 1) := by decide +kernel
theorem dX3_learn_51 : decode prog_5_method_3_code 51 = .ok (.if_icmp .ge 14, 3) := by decide +kernel
theorem dX3_learn_54 : decode prog_5_method_3_code 54 = .ok (.aload_n 0, 1) := by decide +kernel
theorem dX3_learn_55 : decode prog_5_method_3_code 55 = .ok (.getfield 9, 3) := by decide +kernel
theorem dX3_learn_58 : decode prog_5_method_3_code 58 = .ok (.iload 4, 2) := by decide +kernel
theorem dX3_learn_60 : decode prog_5_method_3_code 60 = .ok (.dup2, 1) := by decide +kernel
theorem dX3_learn_61 : decode prog_5_method_3_code 61 = .ok (.iaload, 1) := by decide +kernel
theorem dX3_learn_62 : decode prog_5_method_3_code 62 = .ok (.iconst 1, 1) := by decide +kernel
theorem dX3_learn_63 : decode prog_5_method_3_code 63 = .ok (.iadd, 1) := by decide +kernel
theorem dX3_learn_64 : decode prog_5_method_3_code 64 = .ok (.iastore, 1) := by decide +kernel
theorem dX3_learn_65 : decode prog_5_method_3_code 65 = .ok (.iinc 3 1, 3) := by decide +kernel
theorem dX3_learn_68 : decode prog_5_method_3_code 68 = .ok (.goto (-58), 3) := by decide +kernel
theorem dX3_learn_71 : decode prog_5_method_3_code 71 = .ok (.return_, 1) := by decide +kernel
theorem cw_X4_33 : am_cw "SignCellar$Row" 33 M_X4_empty 0 := ⟨wd_1_2, wd_2_19, ⟨by decide, by decide, by decide⟩, Or.inl wd_3_29⟩
theorem cw_X4_36 : am_cw "SignCellar$Row" 36 M_X4_addPart 3 := ⟨wd_1_2, wd_2_53, ⟨by decide, by decide, by decide⟩, Or.inl wd_3_30⟩
def F_X4_become_b (v0 : Nat) (v1 : Nat) (h : am_H) : Option am_H :=
  (F_X4_empty v0 h).bind fun h1 =>
  (am_gi 4 1 v1 h1).bind fun x2 =>
  (F_X4_addPart v0 v1 (0 : Int32) x2 h1).bind fun h3 =>
  some h3
theorem w_X4_become {g : am_G} {l : Launch} {h0 : am_H} {hf : am_H}  (v0 : Nat) (v1 : Nat) (h : am_H) (hF : F_X4_become_b v0 v1 h = some hf) : am_W g l M_X4_become h0 none hf 0 [some (.ref v0), some (.ref v1)] [] h := by
  unfold F_X4_become_b at hF
  refine am_aload_n (pc' := 1) dX4_become_0 rfl rfl ?_
  obtain ⟨h1, eh1, hF⟩ := am_bind hF
  obtain ⟨oh1, ph1⟩ := t_X4_empty eh1
  refine am_callV0 (Mc := M_X4_empty) (As := []) (st := []) (pc' := 4) dX4_become_1 cw_X4_33 wd_2_17 wd_2_18 ⟨_, rfl, rfl⟩ (by decide) (by decide) rfl rfl (Nat.le_of_ble_eq_true rfl) ph1 (c_X4_empty eh1) rfl ?_
  refine am_aload_n (pc' := 5) dX4_become_4 rfl rfl ?_
  refine am_aload_n (pc' := 6) dX4_become_5 rfl rfl ?_
  refine am_iconst (v := (0 : Int32)) (pc' := 7) dX4_become_6 rfl rfl ?_
  refine am_aload_n (pc' := 8) dX4_become_7 rfl rfl ?_
  obtain ⟨x2, ex2, hF⟩ := am_bind hF
  refine am_geti (pc' := 11) dX4_become_8 fw_X4_9 ex2 rfl ?_
  obtain ⟨h3, eh3, hF⟩ := am_bind hF
  obtain ⟨oh3, ph3⟩ := t_X4_addPart eh3
  refine am_callV0 (Mc := M_X4_addPart) (As := [.ref v1, .int (0 : Int32), .int x2]) (st := []) (pc' := 14) dX4_become_11 cw_X4_36 wd_2_51 wd_2_52 ⟨_, rfl, rfl⟩ (by decide) (by decide) rfl rfl (Nat.le_of_ble_eq_true rfl) ph3 (c_X4_addPart eh3) rfl ?_
  cases hF
  exact am_vret dX4_become_14 rfl
def F_X4_become (v0 : Nat) (v1 : Nat) (h : am_H) : Option am_H := (am_obj v0 4 h).bind fun _ => F_X4_become_b v0 v1 h
theorem t_X4_become {hf : am_H}  {v0 : Nat} {v1 : Nat} {h : am_H} (hF : F_X4_become v0 v1 h = some hf) : ∃ fs, am_obj v0 4 h = some fs := by
  obtain ⟨fs, e, _⟩ := am_bind hF
  exact ⟨fs, e⟩
theorem c_X4_become {g : am_G} {l : Launch} {hf : am_H}  {v0 : Nat} {v1 : Nat} {h : am_H} (hF : F_X4_become v0 v1 h = some hf) : am_Met g l M_X4_become [.ref v0, .ref v1] h none hf := by
  obtain ⟨fs, e0, e⟩ := am_bind hF
  exact am_met (n := 0) (by decide +kernel) rfl (Nat.le_of_ble_eq_true rfl) (w_X4_become v0 v1 h e)
theorem cw_X5_64 : am_cw "SignCellar$Rules" 64 M_X4_length 0 := ⟨wd_1_2, wd_1_237, ⟨by decide, by decide, by decide⟩, Or.inl wd_3_35⟩
theorem cw_X5_71 : am_cw "SignCellar$Rules" 71 M_X4_at 1 := ⟨wd_1_2, wd_2_42, ⟨by decide, by decide, by decide⟩, Or.inl wd_3_36⟩
theorem fw_X5_14 : am_fw "SignCellar$Rules" 14 5 0 := ⟨(RX5, TX5, 6), rfl, by decide, inX5, Or.inl wd_1_75⟩
def F_X5_timesOf_53 (k5 : Nat → Int32 → Int32 → Int32 → Int32 → am_H → Option Int32) (v0 : Nat) (v1 : Int32) (v2 : Int32) (v3 : Int32) (v4 : Int32) (h : am_H) : Option Int32 :=
  k5 v0 v1 v2 v3 (v4 + (1 : Int32)) h
theorem w_X5_timesOf_53 {g : am_G} {l : Launch} {h0 : am_H} {x : Int32}  {k5 : Nat → Int32 → Int32 → Int32 → Int32 → am_H → Option Int32} (j5 : ∀ (v0 : Nat) (v1 : Int32) (v2 : Int32) (v3 : Int32) (v4 : Int32) (h : am_H), k5 v0 v1 v2 v3 v4 h = some x → am_W g l M_X5_timesOf h0 (some (.int x)) h 5 [some (.ref v0), some (.int v1), some (.int v2), some (.int v3), some (.int v4)] [] h) (v0 : Nat) (v1 : Int32) (v2 : Int32) (v3 : Int32) (v4 : Int32) (h : am_H) (hF : F_X5_timesOf_53 k5 v0 v1 v2 v3 v4 h = some x) : am_W g l M_X5_timesOf h0 (some (.int x)) h 53 [some (.ref v0), some (.int v1), some (.int v2), some (.int v3), some (.int v4)] [] h := by
  unfold F_X5_timesOf_53 at hF
  refine am_iinc (ls' := [some (.ref v0), some (.int v1), some (.int v2), some (.int v3), some (.int (v4 + (1 : Int32)))]) (pc' := 56) (v := (v4 + (1 : Int32))) dX5_timesOf_53 rfl rfl (Nat.le_of_ble_eq_true rfl) rfl rfl ?_
  refine am_goto (pc' := 5) dX5_timesOf_56 rfl ?_
  exact j5 v0 v1 v2 v3 (v4 + (1 : Int32)) h hF
def F_X5_timesOf_5 : Nat → Nat → Int32 → Int32 → Int32 → Int32 → am_H → Option Int32
  | 0, _, _, _, _, _, _ => none
  | n + 1, v0, v1, v2, v3, v4, h =>
  (am_gr 5 0 v0 h).bind fun x1 =>
  (F_X4_length x1 h).bind fun x2 =>
  if x2 ≤ (v4 + (1 : Int32)) then
    some v3
  else
    (am_gr 5 0 v0 h).bind fun x4 =>
    (F_X4_at x4 v4 h).bind fun x5 =>
    if x5 = v1 then
      (am_gr 5 0 v0 h).bind fun x7 =>
      (F_X4_at x7 (v4 + (1 : Int32)) h).bind fun x8 =>
      if x8 = v2 then
        F_X5_timesOf_53 (F_X5_timesOf_5 n) v0 v1 v2 (v3 + (1 : Int32)) (v4 + (1 : Int32)) h
      else
        F_X5_timesOf_53 (F_X5_timesOf_5 n) v0 v1 v2 v3 v4 h
    else
      F_X5_timesOf_53 (F_X5_timesOf_5 n) v0 v1 v2 v3 v4 h
theorem w_X5_timesOf_5 {g : am_G} {l : Launch} {h0 : am_H} {x : Int32}  : ∀ (n : Nat) (v0 : Nat) (v1 : Int32) (v2 : Int32) (v3 : Int32) (v4 : Int32) (h : am_H), F_X5_timesOf_5 n v0 v1 v2 v3 v4 h = some x → am_W g l M_X5_timesOf h0 (some (.int x)) h 5 [some (.ref v0), some (.int v1), some (.int v2), some (.int v3), some (.int v4)] [] h
  | 0, _, _, _, _, _, _, hF => by cases hF
  | n + 1, v0, v1, v2, v3, v4, h, hF => by
    rw [F_X5_timesOf_5] at hF
    refine am_iload (pc' := 7) dX5_timesOf_5 rfl rfl ?_
    refine am_iconst (v := (1 : Int32)) (pc' := 8) dX5_timesOf_7 rfl rfl ?_
    refine am_iadd (pc' := 9) dX5_timesOf_8 rfl ?_
    refine am_aload_n (pc' := 10) dX5_timesOf_9 rfl rfl ?_
    obtain ⟨x1, ex1, hF⟩ := am_bind hF
    refine am_getr (pc' := 13) dX5_timesOf_10 fw_X5_14 ex1 rfl ?_
    obtain ⟨x2, ex2, hF⟩ := am_bind hF
    obtain ⟨ox2, px2⟩ := t_X4_length ex2
    refine am_callV1 (Mc := M_X4_length) (As := []) (st := [.int (v4 + (1 : Int32))]) (pc' := 16) dX5_timesOf_13 cw_X5_64 wd_1_235 wd_1_236 ⟨_, rfl, rfl⟩ (by decide) (by decide) rfl rfl (Nat.le_of_ble_eq_true rfl) px2 (c_X4_length ex2) rfl ?_
    rcases am_ite hF with ⟨z3, hF⟩ | ⟨z3, hF⟩
    · refine am_icmp_ge_t (pc' := 59) dX5_timesOf_16 rfl z3 ?_
      refine am_iload_n (pc' := 60) dX5_timesOf_59 rfl rfl ?_
      cases hF
      exact am_iret dX5_timesOf_60 rfl rfl
    · refine am_icmp_ge_f (pc' := 19) (tgt := 59) dX5_timesOf_16 rfl z3 rfl ?_
      refine am_aload_n (pc' := 20) dX5_timesOf_19 rfl rfl ?_
      obtain ⟨x4, ex4, hF⟩ := am_bind hF
      refine am_getr (pc' := 23) dX5_timesOf_20 fw_X5_14 ex4 rfl ?_
      refine am_iload (pc' := 25) dX5_timesOf_23 rfl rfl ?_
      obtain ⟨x5, ex5, hF⟩ := am_bind hF
      obtain ⟨ox5, px5⟩ := t_X4_at ex5
      refine am_callV1 (Mc := M_X4_at) (As := [.int v4]) (st := []) (pc' := 28) dX5_timesOf_25 cw_X5_71 wd_2_40 wd_2_41 ⟨_, rfl, rfl⟩ (by decide) (by decide) rfl rfl (Nat.le_of_ble_eq_true rfl) px5 (c_X4_at ex5) rfl ?_
      refine am_iload_n (pc' := 29) dX5_timesOf_28 rfl rfl ?_
      rcases am_ite hF with ⟨z6, hF⟩ | ⟨z6, hF⟩
      · refine am_icmp_ne_f (pc' := 32) (tgt := 53) dX5_timesOf_29 rfl z6 rfl ?_
        refine am_aload_n (pc' := 33) dX5_timesOf_32 rfl rfl ?_
        obtain ⟨x7, ex7, hF⟩ := am_bind hF
        refine am_getr (pc' := 36) dX5_timesOf_33 fw_X5_14 ex7 rfl ?_
        refine am_iload (pc' := 38) dX5_timesOf_36 rfl rfl ?_
        refine am_iconst (v := (1 : Int32)) (pc' := 39) dX5_timesOf_38 rfl rfl ?_
        refine am_iadd (pc' := 40) dX5_timesOf_39 rfl ?_
        obtain ⟨x8, ex8, hF⟩ := am_bind hF
        obtain ⟨ox8, px8⟩ := t_X4_at ex8
        refine am_callV1 (Mc := M_X4_at) (As := [.int (v4 + (1 : Int32))]) (st := []) (pc' := 43) dX5_timesOf_40 cw_X5_71 wd_2_40 wd_2_41 ⟨_, rfl, rfl⟩ (by decide) (by decide) rfl rfl (Nat.le_of_ble_eq_true rfl) px8 (c_X4_at ex8) rfl ?_
        refine am_iload_n (pc' := 44) dX5_timesOf_43 rfl rfl ?_
        rcases am_ite hF with ⟨z9, hF⟩ | ⟨z9, hF⟩
        · refine am_icmp_ne_f (pc' := 47) (tgt := 53) dX5_timesOf_44 rfl z9 rfl ?_
          refine am_iinc (ls' := [some (.ref v0), some (.int v1), some (.int v2), some (.int (v3 + (1 : Int32))), some (.int v4)]) (pc' := 50) (v := (v3 + (1 : Int32))) dX5_timesOf_47 rfl rfl (Nat.le_of_ble_eq_true rfl) rfl rfl ?_
          refine am_iinc (ls' := [some (.ref v0), some (.int v1), some (.int v2), some (.int (v3 + (1 : Int32))), some (.int (v4 + (1 : Int32)))]) (pc' := 53) (v := (v4 + (1 : Int32))) dX5_timesOf_50 rfl rfl (Nat.le_of_ble_eq_true rfl) rfl rfl ?_
          exact w_X5_timesOf_53 (w_X5_timesOf_5 n) v0 v1 v2 (v3 + (1 : Int32)) (v4 + (1 : Int32)) h hF
        · refine am_icmp_ne_t (pc' := 53) dX5_timesOf_44 rfl z9 ?_
          exact w_X5_timesOf_53 (w_X5_timesOf_5 n) v0 v1 v2 v3 v4 h hF
      · refine am_icmp_ne_t (pc' := 53) dX5_timesOf_29 rfl z6 ?_
        exact w_X5_timesOf_53 (w_X5_timesOf_5 n) v0 v1 v2 v3 v4 h hF
def F_X5_timesOf_b (v0 : Nat) (v1 : Int32) (v2 : Int32) (h : am_H) : Option Int32 :=
  F_X5_timesOf_5 am_F v0 v1 v2 (0 : Int32) (0 : Int32) h
theorem w_X5_timesOf {g : am_G} {l : Launch} {h0 : am_H} {x : Int32}  (v0 : Nat) (v1 : Int32) (v2 : Int32) (h : am_H) (hF : F_X5_timesOf_b v0 v1 v2 h = some x) : am_W g l M_X5_timesOf h0 (some (.int x)) h 0 [some (.ref v0), some (.int v1), some (.int v2), none, none] [] h := by
  unfold F_X5_timesOf_b at hF
  refine am_iconst (v := (0 : Int32)) (pc' := 1) dX5_timesOf_0 rfl rfl ?_
  refine am_istore_n (ls' := [some (.ref v0), some (.int v1), some (.int v2), some (.int (0 : Int32)), none]) (pc' := 2) dX5_timesOf_1 (Nat.le_of_ble_eq_true rfl) rfl rfl ?_
  refine am_iconst (v := (0 : Int32)) (pc' := 3) dX5_timesOf_2 rfl rfl ?_
  refine am_istore (ls' := [some (.ref v0), some (.int v1), some (.int v2), some (.int (0 : Int32)), some (.int (0 : Int32))]) (pc' := 5) dX5_timesOf_3 (Nat.le_of_ble_eq_true rfl) rfl rfl ?_
  exact w_X5_timesOf_5 am_F v0 v1 v2 (0 : Int32) (0 : Int32) h hF
def F_X5_timesOf (v0 : Nat) (v1 : Int32) (v2 : Int32) (h : am_H) : Option Int32 := (am_obj v0 5 h).bind fun _ => F_X5_timesOf_b v0 v1 v2 h
theorem t_X5_timesOf {x : Int32}  {v0 : Nat} {v1 : Int32} {v2 : Int32} {h : am_H} (hF : F_X5_timesOf v0 v1 v2 h = some x) : ∃ fs, am_obj v0 5 h = some fs := by
  obtain ⟨fs, e, _⟩ := am_bind hF
  exact ⟨fs, e⟩
theorem c_X5_timesOf {g : am_G} {l : Launch} {x : Int32}  {v0 : Nat} {v1 : Int32} {v2 : Int32} {h : am_H} (hF : F_X5_timesOf v0 v1 v2 h = some x) : am_Met g l M_X5_timesOf [.ref v0, .int v1, .int v2] h (some (.int x)) h := by
  obtain ⟨fs, e0, e⟩ := am_bind hF
  exact am_met (n := 2) (by decide +kernel) rfl (Nat.le_of_ble_eq_true rfl) (w_X5_timesOf v0 v1 v2 h e)
theorem cw_X5_74 : am_cw "SignCellar$Rules" 74 M_X5_timesOf 2 := ⟨wd_1_5, wd_3_40, ⟨by decide, by decide, by decide⟩, Or.inl wd_3_37⟩
theorem fw_X5_31 : am_fw "SignCellar$Rules" 31 5 4 := ⟨(RX5, TX5, 6), rfl, by decide, inX5, Or.inl wd_1_81⟩
theorem fw_X5_34 : am_fw "SignCellar$Rules" 34 5 5 := ⟨(RX5, TX5, 6), rfl, by decide, inX5, Or.inl wd_1_82⟩
theorem fx_X5_31 {nm : String} : am_fx "SignCellar$Rules" 31 5 4 .int nm := ⟨(RX5, TX5, 6), tyX5, rfl, by decide, inX5, tyX5_ok, nmX5, rfl, Or.inl ⟨wd_1_81, Or.inl rfl⟩⟩
theorem fx_X5_34 {nm : String} : am_fx "SignCellar$Rules" 34 5 5 .int nm := ⟨(RX5, TX5, 6), tyX5, rfl, by decide, inX5, tyX5_ok, nmX5, rfl, Or.inl ⟨wd_1_82, Or.inl rfl⟩⟩
theorem sl_X5_timesOf : Cond.selects (⟨"SignCellar$Rules", "timesOf", "(II)I"⟩ : MethodName).cls ⟨"SignCellar$Rules", "timesOf", "(II)I"⟩ ⟨"SignCellar$Rules", "timesOf", "(II)I"⟩ ∈ am_ts := am_in_p (q := (⟨"SignCellar$Rules", "timesOf", "(II)I"⟩, 6)) (by decide +kernel)
def F_X5_findPair_115 (k4 : Nat → Int32 → Int32 → am_H → Option (Int32 × am_H)) (v0 : Nat) (v1 : Int32) (v2 : Int32) (h : am_H) : Option (Int32 × am_H) :=
  k4 v0 v1 (v2 + (1 : Int32)) h
theorem w_X5_findPair_115 {g : am_G} {l : Launch} {h0 : am_H} {x : Int32} {hf : am_H}  {k4 : Nat → Int32 → Int32 → am_H → Option (Int32 × am_H)} (j4 : ∀ (v0 : Nat) (v1 : Int32) (v2 : Int32) (h : am_H), k4 v0 v1 v2 h = some (x, hf) → am_W g l M_X5_findPair h0 (some (.int x)) hf 4 [some (.ref v0), some (.int v1), some (.int v2), none, none, none, none] [] h) (v0 : Nat) (v1 : Int32) (v2 : Int32) (h : am_H) (hF : F_X5_findPair_115 k4 v0 v1 v2 h = some (x, hf)) : am_W g l M_X5_findPair h0 (some (.int x)) hf 115 [some (.ref v0), some (.int v1), some (.int v2), none, none, none, none] [] h := by
  unfold F_X5_findPair_115 at hF
  refine am_iinc (ls' := [some (.ref v0), some (.int v1), some (.int (v2 + (1 : Int32))), none, none, none, none]) (pc' := 118) (v := (v2 + (1 : Int32))) dX5_findPair_115 rfl rfl (Nat.le_of_ble_eq_true rfl) rfl rfl ?_
  refine am_goto (pc' := 4) dX5_findPair_118 rfl ?_
  exact j4 v0 v1 (v2 + (1 : Int32)) h hF
def F_X5_findPair_101 (k4 : Nat → Int32 → Int32 → am_H → Option (Int32 × am_H)) (v0 : Nat) (v2 : Int32) (v3 : Int32) (v4 : Int32) (v5 : Int32) (h : am_H) : Option (Int32 × am_H) :=
  (am_pi 5 4 v0 v3 h).bind fun h1 =>
  (am_pi 5 5 v0 v4 h1).bind fun h2 =>
  F_X5_findPair_115 k4 v0 v5 v2 h2
theorem w_X5_findPair_101 {g : am_G} {l : Launch} {h0 : am_H} {x : Int32} {hf : am_H}  {k4 : Nat → Int32 → Int32 → am_H → Option (Int32 × am_H)} (j4 : ∀ (v0 : Nat) (v1 : Int32) (v2 : Int32) (h : am_H), k4 v0 v1 v2 h = some (x, hf) → am_W g l M_X5_findPair h0 (some (.int x)) hf 4 [some (.ref v0), some (.int v1), some (.int v2), none, none, none, none] [] h) (v0 : Nat) (v2 : Int32) (v3 : Int32) (v4 : Int32) (v5 : Int32) (h : am_H) (hF : F_X5_findPair_101 k4 v0 v2 v3 v4 v5 h = some (x, hf)) : am_W g l M_X5_findPair h0 (some (.int x)) hf 101 [some (.ref v0), none, some (.int v2), some (.int v3), some (.int v4), some (.int v5), none] [] h := by
  unfold F_X5_findPair_101 at hF
  refine am_iload (pc' := 103) dX5_findPair_101 rfl rfl ?_
  refine am_istore_n (ls' := [some (.ref v0), some (.int v5), some (.int v2), some (.int v3), some (.int v4), some (.int v5), none]) (pc' := 104) dX5_findPair_103 (Nat.le_of_ble_eq_true rfl) rfl rfl ?_
  refine am_aload_n (pc' := 105) dX5_findPair_104 rfl rfl ?_
  refine am_iload_n (pc' := 106) dX5_findPair_105 rfl rfl ?_
  obtain ⟨h1, eh1, hF⟩ := am_bind hF
  refine am_puti (pc' := 109) dX5_findPair_106 fx_X5_31 eh1 rfl ?_
  refine am_aload_n (pc' := 110) dX5_findPair_109 rfl rfl ?_
  refine am_iload (pc' := 112) dX5_findPair_110 rfl rfl ?_
  obtain ⟨h2, eh2, hF⟩ := am_bind hF
  refine am_puti (pc' := 115) dX5_findPair_112 fx_X5_34 eh2 rfl ?_
  exact am_weak [true, true, true, false, false, false, false] (w_X5_findPair_115 j4 v0 v5 v2 h2 hF)
def F_X5_findPair_77 (k4 : Nat → Int32 → Int32 → am_H → Option (Int32 × am_H)) (v0 : Nat) (v1 : Int32) (v2 : Int32) (v3 : Int32) (v4 : Int32) (v5 : Int32) (s0 : Int32) (h : am_H) : Option (Int32 × am_H) :=
  if v1 < v5 then
    F_X5_findPair_101 k4 v0 v2 v3 v4 v5 h
  else
    if v5 = v1 then
      if v1 ≤ (1 : Int32) then
        F_X5_findPair_115 k4 v0 v1 v2 h
      else
        if s0 = 0 then
          F_X5_findPair_115 k4 v0 v1 v2 h
        else
          F_X5_findPair_101 k4 v0 v2 v3 v4 v5 h
    else
      F_X5_findPair_115 k4 v0 v1 v2 h
theorem w_X5_findPair_77 {g : am_G} {l : Launch} {h0 : am_H} {x : Int32} {hf : am_H}  {k4 : Nat → Int32 → Int32 → am_H → Option (Int32 × am_H)} (j4 : ∀ (v0 : Nat) (v1 : Int32) (v2 : Int32) (h : am_H), k4 v0 v1 v2 h = some (x, hf) → am_W g l M_X5_findPair h0 (some (.int x)) hf 4 [some (.ref v0), some (.int v1), some (.int v2), none, none, none, none] [] h) (v0 : Nat) (v1 : Int32) (v2 : Int32) (v3 : Int32) (v4 : Int32) (v5 : Int32) (s0 : Int32) (h : am_H) (hF : F_X5_findPair_77 k4 v0 v1 v2 v3 v4 v5 s0 h = some (x, hf)) : am_W g l M_X5_findPair h0 (some (.int x)) hf 77 [some (.ref v0), some (.int v1), some (.int v2), some (.int v3), some (.int v4), some (.int v5), none] [.int s0] h := by
  unfold F_X5_findPair_77 at hF
  refine am_istore (ls' := [some (.ref v0), some (.int v1), some (.int v2), some (.int v3), some (.int v4), some (.int v5), some (.int s0)]) (pc' := 79) dX5_findPair_77 (Nat.le_of_ble_eq_true rfl) rfl rfl ?_
  refine am_iload (pc' := 81) dX5_findPair_79 rfl rfl ?_
  refine am_iload_n (pc' := 82) dX5_findPair_81 rfl rfl ?_
  rcases am_ite hF with ⟨z1, hF⟩ | ⟨z1, hF⟩
  · refine am_icmp_gt_t (pc' := 101) dX5_findPair_82 rfl z1 ?_
    exact am_weak [true, false, true, true, true, true, false] (w_X5_findPair_101 j4 v0 v2 v3 v4 v5 h hF)
  · refine am_icmp_gt_f (pc' := 85) (tgt := 101) dX5_findPair_82 rfl z1 rfl ?_
    refine am_iload (pc' := 87) dX5_findPair_85 rfl rfl ?_
    refine am_iload_n (pc' := 88) dX5_findPair_87 rfl rfl ?_
    rcases am_ite hF with ⟨z2, hF⟩ | ⟨z2, hF⟩
    · refine am_icmp_ne_f (pc' := 91) (tgt := 115) dX5_findPair_88 rfl z2 rfl ?_
      refine am_iload_n (pc' := 92) dX5_findPair_91 rfl rfl ?_
      refine am_iconst (v := (1 : Int32)) (pc' := 93) dX5_findPair_92 rfl rfl ?_
      rcases am_ite hF with ⟨z3, hF⟩ | ⟨z3, hF⟩
      · refine am_icmp_le_t (pc' := 115) dX5_findPair_93 rfl z3 ?_
        exact am_weak [true, true, true, false, false, false, false] (w_X5_findPair_115 j4 v0 v1 v2 h hF)
      · refine am_icmp_le_f (pc' := 96) (tgt := 115) dX5_findPair_93 rfl z3 rfl ?_
        refine am_iload (pc' := 98) dX5_findPair_96 rfl rfl ?_
        rcases am_ite hF with ⟨z4, hF⟩ | ⟨z4, hF⟩
        · refine am_if_eq_t (pc' := 115) dX5_findPair_98 rfl z4 ?_
          exact am_weak [true, true, true, false, false, false, false] (w_X5_findPair_115 j4 v0 v1 v2 h hF)
        · refine am_if_eq_f (pc' := 101) (tgt := 115) dX5_findPair_98 rfl z4 rfl ?_
          exact am_weak [true, false, true, true, true, true, false] (w_X5_findPair_101 j4 v0 v2 v3 v4 v5 h hF)
    · refine am_icmp_ne_t (pc' := 115) dX5_findPair_88 rfl z2 ?_
      exact am_weak [true, true, true, false, false, false, false] (w_X5_findPair_115 j4 v0 v1 v2 h hF)
def F_X5_findPair_72 (k4 : Nat → Int32 → Int32 → am_H → Option (Int32 × am_H)) (v0 : Nat) (v1 : Int32) (v2 : Int32) (v3 : Int32) (v4 : Int32) (v5 : Int32) (h : am_H) : Option (Int32 × am_H) :=
  F_X5_findPair_77 k4 v0 v1 v2 v3 v4 v5 (1 : Int32) h
theorem w_X5_findPair_72 {g : am_G} {l : Launch} {h0 : am_H} {x : Int32} {hf : am_H}  {k4 : Nat → Int32 → Int32 → am_H → Option (Int32 × am_H)} (j4 : ∀ (v0 : Nat) (v1 : Int32) (v2 : Int32) (h : am_H), k4 v0 v1 v2 h = some (x, hf) → am_W g l M_X5_findPair h0 (some (.int x)) hf 4 [some (.ref v0), some (.int v1), some (.int v2), none, none, none, none] [] h) (v0 : Nat) (v1 : Int32) (v2 : Int32) (v3 : Int32) (v4 : Int32) (v5 : Int32) (h : am_H) (hF : F_X5_findPair_72 k4 v0 v1 v2 v3 v4 v5 h = some (x, hf)) : am_W g l M_X5_findPair h0 (some (.int x)) hf 72 [some (.ref v0), some (.int v1), some (.int v2), some (.int v3), some (.int v4), some (.int v5), none] [] h := by
  unfold F_X5_findPair_72 at hF
  refine am_iconst (v := (1 : Int32)) (pc' := 73) dX5_findPair_72 rfl rfl ?_
  refine am_goto (pc' := 77) dX5_findPair_73 rfl ?_
  exact w_X5_findPair_77 j4 v0 v1 v2 v3 v4 v5 (1 : Int32) h hF
def F_X5_findPair_76 (k4 : Nat → Int32 → Int32 → am_H → Option (Int32 × am_H)) (v0 : Nat) (v1 : Int32) (v2 : Int32) (v3 : Int32) (v4 : Int32) (v5 : Int32) (h : am_H) : Option (Int32 × am_H) :=
  F_X5_findPair_77 k4 v0 v1 v2 v3 v4 v5 (0 : Int32) h
theorem w_X5_findPair_76 {g : am_G} {l : Launch} {h0 : am_H} {x : Int32} {hf : am_H}  {k4 : Nat → Int32 → Int32 → am_H → Option (Int32 × am_H)} (j4 : ∀ (v0 : Nat) (v1 : Int32) (v2 : Int32) (h : am_H), k4 v0 v1 v2 h = some (x, hf) → am_W g l M_X5_findPair h0 (some (.int x)) hf 4 [some (.ref v0), some (.int v1), some (.int v2), none, none, none, none] [] h) (v0 : Nat) (v1 : Int32) (v2 : Int32) (v3 : Int32) (v4 : Int32) (v5 : Int32) (h : am_H) (hF : F_X5_findPair_76 k4 v0 v1 v2 v3 v4 v5 h = some (x, hf)) : am_W g l M_X5_findPair h0 (some (.int x)) hf 76 [some (.ref v0), some (.int v1), some (.int v2), some (.int v3), some (.int v4), some (.int v5), none] [] h := by
  unfold F_X5_findPair_76 at hF
  refine am_iconst (v := (0 : Int32)) (pc' := 77) dX5_findPair_76 rfl rfl ?_
  exact w_X5_findPair_77 j4 v0 v1 v2 v3 v4 v5 (0 : Int32) h hF
def F_X5_findPair_131 (s0 : Int32) (h : am_H) : Option (Int32 × am_H) :=
  (am_z s0).bind fun x1 =>
  some (x1, h)
theorem w_X5_findPair_131 {g : am_G} {l : Launch} {h0 : am_H} {x : Int32} {hf : am_H}  (s0 : Int32) (h : am_H) (hF : F_X5_findPair_131 s0 h = some (x, hf)) : am_W g l M_X5_findPair h0 (some (.int x)) hf 131 [none, none, none, none, none, none, none] [.int s0] h := by
  unfold F_X5_findPair_131 at hF
  obtain ⟨x1, ex1, hF⟩ := am_bind hF
  cases hF
  exact am_zret dX5_findPair_131 rfl ex1
def F_X5_findPair_4 : Nat → Nat → Int32 → Int32 → am_H → Option (Int32 × am_H)
  | 0, _, _, _, _ => none
  | n + 1, v0, v1, v2, h =>
  (am_gr 5 0 v0 h).bind fun x1 =>
  (F_X4_length x1 h).bind fun x2 =>
  if x2 ≤ (v2 + (1 : Int32)) then
    if v1 ≤ (1 : Int32) then
      F_X5_findPair_131 (0 : Int32) h
    else
      F_X5_findPair_131 (1 : Int32) h
  else
    (am_gr 5 0 v0 h).bind fun x5 =>
    (F_X4_at x5 v2 h).bind fun x6 =>
    (am_gr 5 0 v0 h).bind fun x7 =>
    (F_X4_at x7 (v2 + (1 : Int32)) h).bind fun x8 =>
    (F_X5_timesOf v0 x6 x8 h).bind fun x9 =>
    (am_gi 5 4 v0 h).bind fun x10 =>
    if x6 < x10 then
      F_X5_findPair_72 (F_X5_findPair_4 n) v0 v1 v2 x6 x8 x9 h
    else
      (am_gi 5 4 v0 h).bind fun x12 =>
      if x6 = x12 then
        (am_gi 5 5 v0 h).bind fun x14 =>
        if x14 ≤ x8 then
          F_X5_findPair_76 (F_X5_findPair_4 n) v0 v1 v2 x6 x8 x9 h
        else
          F_X5_findPair_72 (F_X5_findPair_4 n) v0 v1 v2 x6 x8 x9 h
      else
        F_X5_findPair_76 (F_X5_findPair_4 n) v0 v1 v2 x6 x8 x9 h
theorem w_X5_findPair_4 {g : am_G} {l : Launch} {h0 : am_H} {x : Int32} {hf : am_H}  : ∀ (n : Nat) (v0 : Nat) (v1 : Int32) (v2 : Int32) (h : am_H), F_X5_findPair_4 n v0 v1 v2 h = some (x, hf) → am_W g l M_X5_findPair h0 (some (.int x)) hf 4 [some (.ref v0), some (.int v1), some (.int v2), none, none, none, none] [] h
  | 0, _, _, _, _, hF => by cases hF
  | n + 1, v0, v1, v2, h, hF => by
    rw [F_X5_findPair_4] at hF
    refine am_iload_n (pc' := 5) dX5_findPair_4 rfl rfl ?_
    refine am_iconst (v := (1 : Int32)) (pc' := 6) dX5_findPair_5 rfl rfl ?_
    refine am_iadd (pc' := 7) dX5_findPair_6 rfl ?_
    refine am_aload_n (pc' := 8) dX5_findPair_7 rfl rfl ?_
    obtain ⟨x1, ex1, hF⟩ := am_bind hF
    refine am_getr (pc' := 11) dX5_findPair_8 fw_X5_14 ex1 rfl ?_
    obtain ⟨x2, ex2, hF⟩ := am_bind hF
    obtain ⟨ox2, px2⟩ := t_X4_length ex2
    refine am_callV1 (Mc := M_X4_length) (As := []) (st := [.int (v2 + (1 : Int32))]) (pc' := 14) dX5_findPair_11 cw_X5_64 wd_1_235 wd_1_236 ⟨_, rfl, rfl⟩ (by decide) (by decide) rfl rfl (Nat.le_of_ble_eq_true rfl) px2 (c_X4_length ex2) rfl ?_
    rcases am_ite hF with ⟨z3, hF⟩ | ⟨z3, hF⟩
    · refine am_icmp_ge_t (pc' := 121) dX5_findPair_14 rfl z3 ?_
      refine am_iload_n (pc' := 122) dX5_findPair_121 rfl rfl ?_
      refine am_iconst (v := (1 : Int32)) (pc' := 123) dX5_findPair_122 rfl rfl ?_
      rcases am_ite hF with ⟨z4, hF⟩ | ⟨z4, hF⟩
      · refine am_icmp_le_t (pc' := 130) dX5_findPair_123 rfl z4 ?_
        refine am_iconst (v := (0 : Int32)) (pc' := 131) dX5_findPair_130 rfl rfl ?_
        exact am_weak [false, false, false, false, false, false, false] (w_X5_findPair_131 (0 : Int32) h hF)
      · refine am_icmp_le_f (pc' := 126) (tgt := 130) dX5_findPair_123 rfl z4 rfl ?_
        refine am_iconst (v := (1 : Int32)) (pc' := 127) dX5_findPair_126 rfl rfl ?_
        refine am_goto (pc' := 131) dX5_findPair_127 rfl ?_
        exact am_weak [false, false, false, false, false, false, false] (w_X5_findPair_131 (1 : Int32) h hF)
    · refine am_icmp_ge_f (pc' := 17) (tgt := 121) dX5_findPair_14 rfl z3 rfl ?_
      refine am_aload_n (pc' := 18) dX5_findPair_17 rfl rfl ?_
      obtain ⟨x5, ex5, hF⟩ := am_bind hF
      refine am_getr (pc' := 21) dX5_findPair_18 fw_X5_14 ex5 rfl ?_
      refine am_iload_n (pc' := 22) dX5_findPair_21 rfl rfl ?_
      obtain ⟨x6, ex6, hF⟩ := am_bind hF
      obtain ⟨ox6, px6⟩ := t_X4_at ex6
      refine am_callV1 (Mc := M_X4_at) (As := [.int v2]) (st := []) (pc' := 25) dX5_findPair_22 cw_X5_71 wd_2_40 wd_2_41 ⟨_, rfl, rfl⟩ (by decide) (by decide) rfl rfl (Nat.le_of_ble_eq_true rfl) px6 (c_X4_at ex6) rfl ?_
      refine am_istore_n (ls' := [some (.ref v0), some (.int v1), some (.int v2), some (.int x6), none, none, none]) (pc' := 26) dX5_findPair_25 (Nat.le_of_ble_eq_true rfl) rfl rfl ?_
      refine am_aload_n (pc' := 27) dX5_findPair_26 rfl rfl ?_
      obtain ⟨x7, ex7, hF⟩ := am_bind hF
      refine am_getr (pc' := 30) dX5_findPair_27 fw_X5_14 ex7 rfl ?_
      refine am_iload_n (pc' := 31) dX5_findPair_30 rfl rfl ?_
      refine am_iconst (v := (1 : Int32)) (pc' := 32) dX5_findPair_31 rfl rfl ?_
      refine am_iadd (pc' := 33) dX5_findPair_32 rfl ?_
      obtain ⟨x8, ex8, hF⟩ := am_bind hF
      obtain ⟨ox8, px8⟩ := t_X4_at ex8
      refine am_callV1 (Mc := M_X4_at) (As := [.int (v2 + (1 : Int32))]) (st := []) (pc' := 36) dX5_findPair_33 cw_X5_71 wd_2_40 wd_2_41 ⟨_, rfl, rfl⟩ (by decide) (by decide) rfl rfl (Nat.le_of_ble_eq_true rfl) px8 (c_X4_at ex8) rfl ?_
      refine am_istore (ls' := [some (.ref v0), some (.int v1), some (.int v2), some (.int x6), some (.int x8), none, none]) (pc' := 38) dX5_findPair_36 (Nat.le_of_ble_eq_true rfl) rfl rfl ?_
      refine am_aload_n (pc' := 39) dX5_findPair_38 rfl rfl ?_
      refine am_iload_n (pc' := 40) dX5_findPair_39 rfl rfl ?_
      refine am_iload (pc' := 42) dX5_findPair_40 rfl rfl ?_
      obtain ⟨x9, ex9, hF⟩ := am_bind hF
      obtain ⟨ox9, px9⟩ := t_X5_timesOf ex9
      refine am_callV1 (Mc := M_X5_timesOf) (As := [.int x6, .int x8]) (st := []) (pc' := 45) dX5_findPair_42 cw_X5_74 wd_3_39 sl_X5_timesOf ⟨_, rfl, rfl⟩ (by decide) (by decide) rfl rfl (Nat.le_of_ble_eq_true rfl) px9 (c_X5_timesOf ex9) rfl ?_
      refine am_istore (ls' := [some (.ref v0), some (.int v1), some (.int v2), some (.int x6), some (.int x8), some (.int x9), none]) (pc' := 47) dX5_findPair_45 (Nat.le_of_ble_eq_true rfl) rfl rfl ?_
      refine am_iload_n (pc' := 48) dX5_findPair_47 rfl rfl ?_
      refine am_aload_n (pc' := 49) dX5_findPair_48 rfl rfl ?_
      obtain ⟨x10, ex10, hF⟩ := am_bind hF
      refine am_geti (pc' := 52) dX5_findPair_49 fw_X5_31 ex10 rfl ?_
      rcases am_ite hF with ⟨z11, hF⟩ | ⟨z11, hF⟩
      · refine am_icmp_lt_t (pc' := 72) dX5_findPair_52 rfl z11 ?_
        exact w_X5_findPair_72 (w_X5_findPair_4 n) v0 v1 v2 x6 x8 x9 h hF
      · refine am_icmp_lt_f (pc' := 55) (tgt := 72) dX5_findPair_52 rfl z11 rfl ?_
        refine am_iload_n (pc' := 56) dX5_findPair_55 rfl rfl ?_
        refine am_aload_n (pc' := 57) dX5_findPair_56 rfl rfl ?_
        obtain ⟨x12, ex12, hF⟩ := am_bind hF
        refine am_geti (pc' := 60) dX5_findPair_57 fw_X5_31 ex12 rfl ?_
        rcases am_ite hF with ⟨z13, hF⟩ | ⟨z13, hF⟩
        · refine am_icmp_ne_f (pc' := 63) (tgt := 76) dX5_findPair_60 rfl z13 rfl ?_
          refine am_iload (pc' := 65) dX5_findPair_63 rfl rfl ?_
          refine am_aload_n (pc' := 66) dX5_findPair_65 rfl rfl ?_
          obtain ⟨x14, ex14, hF⟩ := am_bind hF
          refine am_geti (pc' := 69) dX5_findPair_66 fw_X5_34 ex14 rfl ?_
          rcases am_ite hF with ⟨z15, hF⟩ | ⟨z15, hF⟩
          · refine am_icmp_ge_t (pc' := 76) dX5_findPair_69 rfl z15 ?_
            exact w_X5_findPair_76 (w_X5_findPair_4 n) v0 v1 v2 x6 x8 x9 h hF
          · refine am_icmp_ge_f (pc' := 72) (tgt := 76) dX5_findPair_69 rfl z15 rfl ?_
            exact w_X5_findPair_72 (w_X5_findPair_4 n) v0 v1 v2 x6 x8 x9 h hF
        · refine am_icmp_ne_t (pc' := 76) dX5_findPair_60 rfl z13 ?_
          exact w_X5_findPair_76 (w_X5_findPair_4 n) v0 v1 v2 x6 x8 x9 h hF
def F_X5_findPair_b (v0 : Nat) (h : am_H) : Option (Int32 × am_H) :=
  F_X5_findPair_4 am_F v0 (1 : Int32) (0 : Int32) h
theorem w_X5_findPair {g : am_G} {l : Launch} {h0 : am_H} {x : Int32} {hf : am_H}  (v0 : Nat) (h : am_H) (hF : F_X5_findPair_b v0 h = some (x, hf)) : am_W g l M_X5_findPair h0 (some (.int x)) hf 0 [some (.ref v0), none, none, none, none, none, none] [] h := by
  unfold F_X5_findPair_b at hF
  refine am_iconst (v := (1 : Int32)) (pc' := 1) dX5_findPair_0 rfl rfl ?_
  refine am_istore_n (ls' := [some (.ref v0), some (.int (1 : Int32)), none, none, none, none, none]) (pc' := 2) dX5_findPair_1 (Nat.le_of_ble_eq_true rfl) rfl rfl ?_
  refine am_iconst (v := (0 : Int32)) (pc' := 3) dX5_findPair_2 rfl rfl ?_
  refine am_istore_n (ls' := [some (.ref v0), some (.int (1 : Int32)), some (.int (0 : Int32)), none, none, none, none]) (pc' := 4) dX5_findPair_3 (Nat.le_of_ble_eq_true rfl) rfl rfl ?_
  exact w_X5_findPair_4 am_F v0 (1 : Int32) (0 : Int32) h hF
def F_X5_findPair (v0 : Nat) (h : am_H) : Option (Int32 × am_H) := (am_obj v0 5 h).bind fun _ => F_X5_findPair_b v0 h
theorem t_X5_findPair {x : Int32} {hf : am_H}  {v0 : Nat} {h : am_H} (hF : F_X5_findPair v0 h = some (x, hf)) : ∃ fs, am_obj v0 5 h = some fs := by
  obtain ⟨fs, e, _⟩ := am_bind hF
  exact ⟨fs, e⟩
theorem c_X5_findPair {g : am_G} {l : Launch} {x : Int32} {hf : am_H}  {v0 : Nat} {h : am_H} (hF : F_X5_findPair v0 h = some (x, hf)) : am_Met g l M_X5_findPair [.ref v0] h (some (.int x)) hf := by
  obtain ⟨fs, e0, e⟩ := am_bind hF
  exact am_met (n := 6) (by decide +kernel) rfl (Nat.le_of_ble_eq_true rfl) (w_X5_findPair v0 h e)
theorem cw_X5_37 : am_cw "SignCellar$Rules" 37 M_X4_become 1 := ⟨wd_1_2, wd_3_28, ⟨by decide, by decide, by decide⟩, Or.inl wd_3_25⟩
theorem cw_X5_45 : am_cw "SignCellar$Rules" 45 M_X4_empty 0 := ⟨wd_1_2, wd_2_19, ⟨by decide, by decide, by decide⟩, Or.inl wd_3_41⟩
theorem cw_X5_48 : am_cw "SignCellar$Rules" 48 M_X4_add 1 := ⟨wd_1_2, wd_2_2, ⟨by decide, by decide, by decide⟩, Or.inl wd_3_42⟩
theorem fw_X5_24 : am_fw "SignCellar$Rules" 24 5 2 := ⟨(RX5, TX5, 6), rfl, by decide, inX5, Or.inl wd_1_78⟩
def F_X5_join_81 (k9 : Nat → Int32 → Int32 → am_H → Option am_H) (v0 : Nat) (v1 : Int32) (v2 : Int32) (h : am_H) : Option am_H :=
  k9 v0 v1 (v2 + (1 : Int32)) h
theorem w_X5_join_81 {g : am_G} {l : Launch} {h0 : am_H} {hf : am_H}  {k9 : Nat → Int32 → Int32 → am_H → Option am_H} (j9 : ∀ (v0 : Nat) (v1 : Int32) (v2 : Int32) (h : am_H), k9 v0 v1 v2 h = some hf → am_W g l M_X5_join h0 none hf 9 [some (.ref v0), some (.int v1), some (.int v2)] [] h) (v0 : Nat) (v1 : Int32) (v2 : Int32) (h : am_H) (hF : F_X5_join_81 k9 v0 v1 v2 h = some hf) : am_W g l M_X5_join h0 none hf 81 [some (.ref v0), some (.int v1), some (.int v2)] [] h := by
  unfold F_X5_join_81 at hF
  refine am_iinc (ls' := [some (.ref v0), some (.int v1), some (.int (v2 + (1 : Int32)))]) (pc' := 84) (v := (v2 + (1 : Int32))) dX5_join_81 rfl rfl (Nat.le_of_ble_eq_true rfl) rfl rfl ?_
  refine am_goto (pc' := 9) dX5_join_84 rfl ?_
  exact j9 v0 v1 (v2 + (1 : Int32)) h hF
def F_X5_join_66 (k9 : Nat → Int32 → Int32 → am_H → Option am_H) (v0 : Nat) (v1 : Int32) (v2 : Int32) (h : am_H) : Option am_H :=
  (am_gr 5 2 v0 h).bind fun x1 =>
  (am_gr 5 0 v0 h).bind fun x2 =>
  (F_X4_at x2 v2 h).bind fun x3 =>
  (F_X4_add x1 x3 h).bind fun h4 =>
  F_X5_join_81 k9 v0 v1 v2 h4
theorem w_X5_join_66 {g : am_G} {l : Launch} {h0 : am_H} {hf : am_H}  {k9 : Nat → Int32 → Int32 → am_H → Option am_H} (j9 : ∀ (v0 : Nat) (v1 : Int32) (v2 : Int32) (h : am_H), k9 v0 v1 v2 h = some hf → am_W g l M_X5_join h0 none hf 9 [some (.ref v0), some (.int v1), some (.int v2)] [] h) (v0 : Nat) (v1 : Int32) (v2 : Int32) (h : am_H) (hF : F_X5_join_66 k9 v0 v1 v2 h = some hf) : am_W g l M_X5_join h0 none hf 66 [some (.ref v0), some (.int v1), some (.int v2)] [] h := by
  unfold F_X5_join_66 at hF
  refine am_aload_n (pc' := 67) dX5_join_66 rfl rfl ?_
  obtain ⟨x1, ex1, hF⟩ := am_bind hF
  refine am_getr (pc' := 70) dX5_join_67 fw_X5_24 ex1 rfl ?_
  refine am_aload_n (pc' := 71) dX5_join_70 rfl rfl ?_
  obtain ⟨x2, ex2, hF⟩ := am_bind hF
  refine am_getr (pc' := 74) dX5_join_71 fw_X5_14 ex2 rfl ?_
  refine am_iload_n (pc' := 75) dX5_join_74 rfl rfl ?_
  obtain ⟨x3, ex3, hF⟩ := am_bind hF
  obtain ⟨ox3, px3⟩ := t_X4_at ex3
  refine am_callV1 (Mc := M_X4_at) (As := [.int v2]) (st := [.ref x1]) (pc' := 78) dX5_join_75 cw_X5_71 wd_2_40 wd_2_41 ⟨_, rfl, rfl⟩ (by decide) (by decide) rfl rfl (Nat.le_of_ble_eq_true rfl) px3 (c_X4_at ex3) rfl ?_
  obtain ⟨h4, eh4, hF⟩ := am_bind hF
  obtain ⟨oh4, ph4⟩ := t_X4_add eh4
  refine am_callV0 (Mc := M_X4_add) (As := [.int x3]) (st := []) (pc' := 81) dX5_join_78 cw_X5_48 wd_2_0 wd_2_1 ⟨_, rfl, rfl⟩ (by decide) (by decide) rfl rfl (Nat.le_of_ble_eq_true rfl) ph4 (c_X4_add eh4) rfl ?_
  exact w_X5_join_81 j9 v0 v1 v2 h4 hF
def F_X5_join_9 : Nat → Nat → Int32 → Int32 → am_H → Option am_H
  | 0, _, _, _, _ => none
  | n + 1, v0, v1, v2, h =>
  (am_gr 5 0 v0 h).bind fun x1 =>
  (F_X4_length x1 h).bind fun x2 =>
  if x2 ≤ v2 then
    (am_gr 5 0 v0 h).bind fun x4 =>
    (am_gr 5 2 v0 h).bind fun x5 =>
    (F_X4_become x4 x5 h).bind fun h6 =>
    some h6
  else
    (am_gr 5 0 v0 h).bind fun x7 =>
    (F_X4_at x7 v2 h).bind fun x8 =>
    (am_gi 5 4 v0 h).bind fun x9 =>
    if x8 = x9 then
      (am_gr 5 0 v0 h).bind fun x11 =>
      (F_X4_at x11 (v2 + (1 : Int32)) h).bind fun x12 =>
      (am_gi 5 5 v0 h).bind fun x13 =>
      if x12 = x13 then
        (am_gr 5 2 v0 h).bind fun x15 =>
        (F_X4_add x15 v1 h).bind fun h16 =>
        F_X5_join_81 (F_X5_join_9 n) v0 v1 (v2 + (1 : Int32)) h16
      else
        F_X5_join_66 (F_X5_join_9 n) v0 v1 v2 h
    else
      F_X5_join_66 (F_X5_join_9 n) v0 v1 v2 h
theorem w_X5_join_9 {g : am_G} {l : Launch} {h0 : am_H} {hf : am_H}  : ∀ (n : Nat) (v0 : Nat) (v1 : Int32) (v2 : Int32) (h : am_H), F_X5_join_9 n v0 v1 v2 h = some hf → am_W g l M_X5_join h0 none hf 9 [some (.ref v0), some (.int v1), some (.int v2)] [] h
  | 0, _, _, _, _, hF => by cases hF
  | n + 1, v0, v1, v2, h, hF => by
    rw [F_X5_join_9] at hF
    refine am_iload_n (pc' := 10) dX5_join_9 rfl rfl ?_
    refine am_aload_n (pc' := 11) dX5_join_10 rfl rfl ?_
    obtain ⟨x1, ex1, hF⟩ := am_bind hF
    refine am_getr (pc' := 14) dX5_join_11 fw_X5_14 ex1 rfl ?_
    obtain ⟨x2, ex2, hF⟩ := am_bind hF
    obtain ⟨ox2, px2⟩ := t_X4_length ex2
    refine am_callV1 (Mc := M_X4_length) (As := []) (st := [.int v2]) (pc' := 17) dX5_join_14 cw_X5_64 wd_1_235 wd_1_236 ⟨_, rfl, rfl⟩ (by decide) (by decide) rfl rfl (Nat.le_of_ble_eq_true rfl) px2 (c_X4_length ex2) rfl ?_
    rcases am_ite hF with ⟨z3, hF⟩ | ⟨z3, hF⟩
    · refine am_icmp_ge_t (pc' := 87) dX5_join_17 rfl z3 ?_
      refine am_aload_n (pc' := 88) dX5_join_87 rfl rfl ?_
      obtain ⟨x4, ex4, hF⟩ := am_bind hF
      refine am_getr (pc' := 91) dX5_join_88 fw_X5_14 ex4 rfl ?_
      refine am_aload_n (pc' := 92) dX5_join_91 rfl rfl ?_
      obtain ⟨x5, ex5, hF⟩ := am_bind hF
      refine am_getr (pc' := 95) dX5_join_92 fw_X5_24 ex5 rfl ?_
      obtain ⟨h6, eh6, hF⟩ := am_bind hF
      obtain ⟨oh6, ph6⟩ := t_X4_become eh6
      refine am_callV0 (Mc := M_X4_become) (As := [.ref x5]) (st := []) (pc' := 98) dX5_join_95 cw_X5_37 wd_3_26 wd_3_27 ⟨_, rfl, rfl⟩ (by decide) (by decide) rfl rfl (Nat.le_of_ble_eq_true rfl) ph6 (c_X4_become eh6) rfl ?_
      cases hF
      exact am_vret dX5_join_98 rfl
    · refine am_icmp_ge_f (pc' := 20) (tgt := 87) dX5_join_17 rfl z3 rfl ?_
      refine am_aload_n (pc' := 21) dX5_join_20 rfl rfl ?_
      obtain ⟨x7, ex7, hF⟩ := am_bind hF
      refine am_getr (pc' := 24) dX5_join_21 fw_X5_14 ex7 rfl ?_
      refine am_iload_n (pc' := 25) dX5_join_24 rfl rfl ?_
      obtain ⟨x8, ex8, hF⟩ := am_bind hF
      obtain ⟨ox8, px8⟩ := t_X4_at ex8
      refine am_callV1 (Mc := M_X4_at) (As := [.int v2]) (st := []) (pc' := 28) dX5_join_25 cw_X5_71 wd_2_40 wd_2_41 ⟨_, rfl, rfl⟩ (by decide) (by decide) rfl rfl (Nat.le_of_ble_eq_true rfl) px8 (c_X4_at ex8) rfl ?_
      refine am_aload_n (pc' := 29) dX5_join_28 rfl rfl ?_
      obtain ⟨x9, ex9, hF⟩ := am_bind hF
      refine am_geti (pc' := 32) dX5_join_29 fw_X5_31 ex9 rfl ?_
      rcases am_ite hF with ⟨z10, hF⟩ | ⟨z10, hF⟩
      · refine am_icmp_ne_f (pc' := 35) (tgt := 66) dX5_join_32 rfl z10 rfl ?_
        refine am_aload_n (pc' := 36) dX5_join_35 rfl rfl ?_
        obtain ⟨x11, ex11, hF⟩ := am_bind hF
        refine am_getr (pc' := 39) dX5_join_36 fw_X5_14 ex11 rfl ?_
        refine am_iload_n (pc' := 40) dX5_join_39 rfl rfl ?_
        refine am_iconst (v := (1 : Int32)) (pc' := 41) dX5_join_40 rfl rfl ?_
        refine am_iadd (pc' := 42) dX5_join_41 rfl ?_
        obtain ⟨x12, ex12, hF⟩ := am_bind hF
        obtain ⟨ox12, px12⟩ := t_X4_at ex12
        refine am_callV1 (Mc := M_X4_at) (As := [.int (v2 + (1 : Int32))]) (st := []) (pc' := 45) dX5_join_42 cw_X5_71 wd_2_40 wd_2_41 ⟨_, rfl, rfl⟩ (by decide) (by decide) rfl rfl (Nat.le_of_ble_eq_true rfl) px12 (c_X4_at ex12) rfl ?_
        refine am_aload_n (pc' := 46) dX5_join_45 rfl rfl ?_
        obtain ⟨x13, ex13, hF⟩ := am_bind hF
        refine am_geti (pc' := 49) dX5_join_46 fw_X5_34 ex13 rfl ?_
        rcases am_ite hF with ⟨z14, hF⟩ | ⟨z14, hF⟩
        · refine am_icmp_ne_f (pc' := 52) (tgt := 66) dX5_join_49 rfl z14 rfl ?_
          refine am_aload_n (pc' := 53) dX5_join_52 rfl rfl ?_
          obtain ⟨x15, ex15, hF⟩ := am_bind hF
          refine am_getr (pc' := 56) dX5_join_53 fw_X5_24 ex15 rfl ?_
          refine am_iload_n (pc' := 57) dX5_join_56 rfl rfl ?_
          obtain ⟨h16, eh16, hF⟩ := am_bind hF
          obtain ⟨oh16, ph16⟩ := t_X4_add eh16
          refine am_callV0 (Mc := M_X4_add) (As := [.int v1]) (st := []) (pc' := 60) dX5_join_57 cw_X5_48 wd_2_0 wd_2_1 ⟨_, rfl, rfl⟩ (by decide) (by decide) rfl rfl (Nat.le_of_ble_eq_true rfl) ph16 (c_X4_add eh16) rfl ?_
          refine am_iinc (ls' := [some (.ref v0), some (.int v1), some (.int (v2 + (1 : Int32)))]) (pc' := 63) (v := (v2 + (1 : Int32))) dX5_join_60 rfl rfl (Nat.le_of_ble_eq_true rfl) rfl rfl ?_
          refine am_goto (pc' := 81) dX5_join_63 rfl ?_
          exact w_X5_join_81 (w_X5_join_9 n) v0 v1 (v2 + (1 : Int32)) h16 hF
        · refine am_icmp_ne_t (pc' := 66) dX5_join_49 rfl z14 ?_
          exact w_X5_join_66 (w_X5_join_9 n) v0 v1 v2 h hF
      · refine am_icmp_ne_t (pc' := 66) dX5_join_32 rfl z10 ?_
        exact w_X5_join_66 (w_X5_join_9 n) v0 v1 v2 h hF
def F_X5_join_b (v0 : Nat) (v1 : Int32) (h : am_H) : Option am_H :=
  (am_gr 5 2 v0 h).bind fun x1 =>
  (F_X4_empty x1 h).bind fun h2 =>
  F_X5_join_9 am_F v0 v1 (0 : Int32) h2
theorem w_X5_join {g : am_G} {l : Launch} {h0 : am_H} {hf : am_H}  (v0 : Nat) (v1 : Int32) (h : am_H) (hF : F_X5_join_b v0 v1 h = some hf) : am_W g l M_X5_join h0 none hf 0 [some (.ref v0), some (.int v1), none] [] h := by
  unfold F_X5_join_b at hF
  refine am_aload_n (pc' := 1) dX5_join_0 rfl rfl ?_
  obtain ⟨x1, ex1, hF⟩ := am_bind hF
  refine am_getr (pc' := 4) dX5_join_1 fw_X5_24 ex1 rfl ?_
  obtain ⟨h2, eh2, hF⟩ := am_bind hF
  obtain ⟨oh2, ph2⟩ := t_X4_empty eh2
  refine am_callV0 (Mc := M_X4_empty) (As := []) (st := []) (pc' := 7) dX5_join_4 cw_X5_45 wd_2_17 wd_2_18 ⟨_, rfl, rfl⟩ (by decide) (by decide) rfl rfl (Nat.le_of_ble_eq_true rfl) ph2 (c_X4_empty eh2) rfl ?_
  refine am_iconst (v := (0 : Int32)) (pc' := 8) dX5_join_7 rfl rfl ?_
  refine am_istore_n (ls' := [some (.ref v0), some (.int v1), some (.int (0 : Int32))]) (pc' := 9) dX5_join_8 (Nat.le_of_ble_eq_true rfl) rfl rfl ?_
  exact w_X5_join_9 am_F v0 v1 (0 : Int32) h2 hF
def F_X5_join (v0 : Nat) (v1 : Int32) (h : am_H) : Option am_H := (am_obj v0 5 h).bind fun _ => F_X5_join_b v0 v1 h
theorem t_X5_join {hf : am_H}  {v0 : Nat} {v1 : Int32} {h : am_H} (hF : F_X5_join v0 v1 h = some hf) : ∃ fs, am_obj v0 5 h = some fs := by
  obtain ⟨fs, e, _⟩ := am_bind hF
  exact ⟨fs, e⟩
theorem c_X5_join {g : am_G} {l : Launch} {hf : am_H}  {v0 : Nat} {v1 : Int32} {h : am_H} (hF : F_X5_join v0 v1 h = some hf) : am_Met g l M_X5_join [.ref v0, .int v1] h none hf := by
  obtain ⟨fs, e0, e⟩ := am_bind hF
  exact am_met (n := 1) (by decide +kernel) rfl (Nat.le_of_ble_eq_true rfl) (w_X5_join v0 v1 h e)
def F_X4_timesWithin_25 (k6 : Nat → Int32 → Int32 → Int32 → Int32 → am_H → Option Int32) (v0 : Nat) (v1 : Int32) (v3 : Int32) (v4 : Int32) (v5 : Int32) (h : am_H) : Option Int32 :=
  k6 v0 v1 v3 v4 (v5 + (1 : Int32)) h
theorem w_X4_timesWithin_25 {g : am_G} {l : Launch} {h0 : am_H} {x : Int32}  {k6 : Nat → Int32 → Int32 → Int32 → Int32 → am_H → Option Int32} (j6 : ∀ (v0 : Nat) (v1 : Int32) (v3 : Int32) (v4 : Int32) (v5 : Int32) (h : am_H), k6 v0 v1 v3 v4 v5 h = some x → am_W g l M_X4_timesWithin h0 (some (.int x)) h 6 [some (.ref v0), some (.int v1), none, some (.int v3), some (.int v4), some (.int v5)] [] h) (v0 : Nat) (v1 : Int32) (v3 : Int32) (v4 : Int32) (v5 : Int32) (h : am_H) (hF : F_X4_timesWithin_25 k6 v0 v1 v3 v4 v5 h = some x) : am_W g l M_X4_timesWithin h0 (some (.int x)) h 25 [some (.ref v0), some (.int v1), none, some (.int v3), some (.int v4), some (.int v5)] [] h := by
  unfold F_X4_timesWithin_25 at hF
  refine am_iinc (ls' := [some (.ref v0), some (.int v1), none, some (.int v3), some (.int v4), some (.int (v5 + (1 : Int32)))]) (pc' := 28) (v := (v5 + (1 : Int32))) dX4_timesWithin_25 rfl rfl (Nat.le_of_ble_eq_true rfl) rfl rfl ?_
  refine am_goto (pc' := 6) dX4_timesWithin_28 rfl ?_
  exact j6 v0 v1 v3 v4 (v5 + (1 : Int32)) h hF
def F_X4_timesWithin_6 : Nat → Nat → Int32 → Int32 → Int32 → Int32 → am_H → Option Int32
  | 0, _, _, _, _, _, _ => none
  | n + 1, v0, v1, v3, v4, v5, h =>
  if v3 ≤ v5 then
    some v4
  else
    (F_X4_at v0 v5 h).bind fun x2 =>
    if x2 = v1 then
      F_X4_timesWithin_25 (F_X4_timesWithin_6 n) v0 v1 v3 (v4 + (1 : Int32)) v5 h
    else
      F_X4_timesWithin_25 (F_X4_timesWithin_6 n) v0 v1 v3 v4 v5 h
theorem w_X4_timesWithin_6 {g : am_G} {l : Launch} {h0 : am_H} {x : Int32}  : ∀ (n : Nat) (v0 : Nat) (v1 : Int32) (v3 : Int32) (v4 : Int32) (v5 : Int32) (h : am_H), F_X4_timesWithin_6 n v0 v1 v3 v4 v5 h = some x → am_W g l M_X4_timesWithin h0 (some (.int x)) h 6 [some (.ref v0), some (.int v1), none, some (.int v3), some (.int v4), some (.int v5)] [] h
  | 0, _, _, _, _, _, _, hF => by cases hF
  | n + 1, v0, v1, v3, v4, v5, h, hF => by
    rw [F_X4_timesWithin_6] at hF
    refine am_iload (pc' := 8) dX4_timesWithin_6 rfl rfl ?_
    refine am_iload_n (pc' := 9) dX4_timesWithin_8 rfl rfl ?_
    rcases am_ite hF with ⟨z1, hF⟩ | ⟨z1, hF⟩
    · refine am_icmp_ge_t (pc' := 31) dX4_timesWithin_9 rfl z1 ?_
      refine am_iload (pc' := 33) dX4_timesWithin_31 rfl rfl ?_
      cases hF
      exact am_iret dX4_timesWithin_33 rfl rfl
    · refine am_icmp_ge_f (pc' := 12) (tgt := 31) dX4_timesWithin_9 rfl z1 rfl ?_
      refine am_aload_n (pc' := 13) dX4_timesWithin_12 rfl rfl ?_
      refine am_iload (pc' := 15) dX4_timesWithin_13 rfl rfl ?_
      obtain ⟨x2, ex2, hF⟩ := am_bind hF
      obtain ⟨ox2, px2⟩ := t_X4_at ex2
      refine am_callV1 (Mc := M_X4_at) (As := [.int v5]) (st := []) (pc' := 18) dX4_timesWithin_15 cw_X4_25 wd_2_40 wd_2_41 ⟨_, rfl, rfl⟩ (by decide) (by decide) rfl rfl (Nat.le_of_ble_eq_true rfl) px2 (c_X4_at ex2) rfl ?_
      refine am_iload_n (pc' := 19) dX4_timesWithin_18 rfl rfl ?_
      rcases am_ite hF with ⟨z3, hF⟩ | ⟨z3, hF⟩
      · refine am_icmp_ne_f (pc' := 22) (tgt := 25) dX4_timesWithin_19 rfl z3 rfl ?_
        refine am_iinc (ls' := [some (.ref v0), some (.int v1), none, some (.int v3), some (.int (v4 + (1 : Int32))), some (.int v5)]) (pc' := 25) (v := (v4 + (1 : Int32))) dX4_timesWithin_22 rfl rfl (Nat.le_of_ble_eq_true rfl) rfl rfl ?_
        exact w_X4_timesWithin_25 (w_X4_timesWithin_6 n) v0 v1 v3 (v4 + (1 : Int32)) v5 h hF
      · refine am_icmp_ne_t (pc' := 25) dX4_timesWithin_19 rfl z3 ?_
        exact w_X4_timesWithin_25 (w_X4_timesWithin_6 n) v0 v1 v3 v4 v5 h hF
def F_X4_timesWithin_b (v0 : Nat) (v1 : Int32) (v2 : Int32) (v3 : Int32) (h : am_H) : Option Int32 :=
  F_X4_timesWithin_6 am_F v0 v1 v3 (0 : Int32) v2 h
theorem w_X4_timesWithin {g : am_G} {l : Launch} {h0 : am_H} {x : Int32}  (v0 : Nat) (v1 : Int32) (v2 : Int32) (v3 : Int32) (h : am_H) (hF : F_X4_timesWithin_b v0 v1 v2 v3 h = some x) : am_W g l M_X4_timesWithin h0 (some (.int x)) h 0 [some (.ref v0), some (.int v1), some (.int v2), some (.int v3), none, none] [] h := by
  unfold F_X4_timesWithin_b at hF
  refine am_iconst (v := (0 : Int32)) (pc' := 1) dX4_timesWithin_0 rfl rfl ?_
  refine am_istore (ls' := [some (.ref v0), some (.int v1), some (.int v2), some (.int v3), some (.int (0 : Int32)), none]) (pc' := 3) dX4_timesWithin_1 (Nat.le_of_ble_eq_true rfl) rfl rfl ?_
  refine am_iload_n (pc' := 4) dX4_timesWithin_3 rfl rfl ?_
  refine am_istore (ls' := [some (.ref v0), some (.int v1), some (.int v2), some (.int v3), some (.int (0 : Int32)), some (.int v2)]) (pc' := 6) dX4_timesWithin_4 (Nat.le_of_ble_eq_true rfl) rfl rfl ?_
  exact am_weak [true, true, false, true, true, true] (w_X4_timesWithin_6 am_F v0 v1 v3 (0 : Int32) v2 h hF)
def F_X4_timesWithin (v0 : Nat) (v1 : Int32) (v2 : Int32) (v3 : Int32) (h : am_H) : Option Int32 := (am_obj v0 4 h).bind fun _ => F_X4_timesWithin_b v0 v1 v2 v3 h
theorem t_X4_timesWithin {x : Int32}  {v0 : Nat} {v1 : Int32} {v2 : Int32} {v3 : Int32} {h : am_H} (hF : F_X4_timesWithin v0 v1 v2 v3 h = some x) : ∃ fs, am_obj v0 4 h = some fs := by
  obtain ⟨fs, e, _⟩ := am_bind hF
  exact ⟨fs, e⟩
theorem c_X4_timesWithin {g : am_G} {l : Launch} {x : Int32}  {v0 : Nat} {v1 : Int32} {v2 : Int32} {v3 : Int32} {h : am_H} (hF : F_X4_timesWithin v0 v1 v2 v3 h = some x) : am_Met g l M_X4_timesWithin [.ref v0, .int v1, .int v2, .int v3] h (some (.int x)) h := by
  obtain ⟨fs, e0, e⟩ := am_bind hF
  exact am_met (n := 2) (by decide +kernel) rfl (Nat.le_of_ble_eq_true rfl) (w_X4_timesWithin v0 v1 v2 v3 h e)
theorem cw_X4_43 : am_cw "SignCellar$Row" 43 M_X4_timesWithin 3 := ⟨wd_1_2, wd_3_58, ⟨by decide, by decide, by decide⟩, Or.inl wd_3_55⟩
def F_X4_times_b (v0 : Nat) (v1 : Int32) (h : am_H) : Option Int32 :=
  (am_gi 4 1 v0 h).bind fun x1 =>
  (F_X4_timesWithin v0 v1 (0 : Int32) x1 h).bind fun x2 =>
  some x2
theorem w_X4_times {g : am_G} {l : Launch} {h0 : am_H} {x : Int32}  (v0 : Nat) (v1 : Int32) (h : am_H) (hF : F_X4_times_b v0 v1 h = some x) : am_W g l M_X4_times h0 (some (.int x)) h 0 [some (.ref v0), some (.int v1)] [] h := by
  unfold F_X4_times_b at hF
  refine am_aload_n (pc' := 1) dX4_times_0 rfl rfl ?_
  refine am_iload_n (pc' := 2) dX4_times_1 rfl rfl ?_
  refine am_iconst (v := (0 : Int32)) (pc' := 3) dX4_times_2 rfl rfl ?_
  refine am_aload_n (pc' := 4) dX4_times_3 rfl rfl ?_
  obtain ⟨x1, ex1, hF⟩ := am_bind hF
  refine am_geti (pc' := 7) dX4_times_4 fw_X4_9 ex1 rfl ?_
  obtain ⟨x2, ex2, hF⟩ := am_bind hF
  obtain ⟨ox2, px2⟩ := t_X4_timesWithin ex2
  refine am_callV1 (Mc := M_X4_timesWithin) (As := [.int v1, .int (0 : Int32), .int x1]) (st := []) (pc' := 10) dX4_times_7 cw_X4_43 wd_3_56 wd_3_57 ⟨_, rfl, rfl⟩ (by decide) (by decide) rfl rfl (Nat.le_of_ble_eq_true rfl) px2 (c_X4_timesWithin ex2) rfl ?_
  cases hF
  exact am_iret dX4_times_10 rfl rfl
def F_X4_times (v0 : Nat) (v1 : Int32) (h : am_H) : Option Int32 := (am_obj v0 4 h).bind fun _ => F_X4_times_b v0 v1 h
theorem t_X4_times {x : Int32}  {v0 : Nat} {v1 : Int32} {h : am_H} (hF : F_X4_times v0 v1 h = some x) : ∃ fs, am_obj v0 4 h = some fs := by
  obtain ⟨fs, e, _⟩ := am_bind hF
  exact ⟨fs, e⟩
theorem c_X4_times {g : am_G} {l : Launch} {x : Int32}  {v0 : Nat} {v1 : Int32} {h : am_H} (hF : F_X4_times v0 v1 h = some x) : am_Met g l M_X4_times [.ref v0, .int v1] h (some (.int x)) h := by
  obtain ⟨fs, e0, e⟩ := am_bind hF
  exact am_met (n := 0) (by decide +kernel) rfl (Nat.le_of_ble_eq_true rfl) (w_X4_times v0 v1 h e)
theorem cw_X5_78 : am_cw "SignCellar$Rules" 78 M_X4_times 1 := ⟨wd_1_2, wd_3_54, ⟨by decide, by decide, by decide⟩, Or.inl wd_3_51⟩
theorem fw_X5_27 : am_fw "SignCellar$Rules" 27 5 3 := ⟨(RX5, TX5, 6), rfl, by decide, inX5, Or.inl wd_1_79⟩
def F_X5_standing_47 (v2 : Int32) (h : am_H) : Option Int32 :=
  some v2
theorem w_X5_standing_47 {g : am_G} {l : Launch} {h0 : am_H} {x : Int32}  (v2 : Int32) (h : am_H) (hF : F_X5_standing_47 v2 h = some x) : am_W g l M_X5_standing h0 (some (.int x)) h 47 [none, none, some (.int v2), none] [] h := by
  unfold F_X5_standing_47 at hF
  refine am_iload_n (pc' := 48) dX5_standing_47 rfl rfl ?_
  cases hF
  exact am_iret dX5_standing_48 rfl rfl
def F_X5_standing_11 : Nat → Nat → Int32 → Int32 → Int32 → am_H → Option Int32
  | 0, _, _, _, _, _ => none
  | n + 1, v0, v1, v2, v3, h =>
  (am_gi 5 3 v0 h).bind fun x1 =>
  if x1 ≤ v3 then
    F_X5_standing_47 v2 h
  else
    (am_gr 5 1 v0 h).bind fun x3 =>
    (am_ln x3 h).bind fun x4 =>
    if x4 ≤ v3 then
      F_X5_standing_47 v2 h
    else
      (am_gr 5 1 v0 h).bind fun x6 =>
      (am_al 4 x6 v3 h).bind fun x7 =>
      (F_X4_times x7 v1 h).bind fun x8 =>
      F_X5_standing_11 n v0 v1 (v2 + x8) (v3 + (1 : Int32)) h
theorem w_X5_standing_11 {g : am_G} {l : Launch} {h0 : am_H} {x : Int32}  : ∀ (n : Nat) (v0 : Nat) (v1 : Int32) (v2 : Int32) (v3 : Int32) (h : am_H), F_X5_standing_11 n v0 v1 v2 v3 h = some x → am_W g l M_X5_standing h0 (some (.int x)) h 11 [some (.ref v0), some (.int v1), some (.int v2), some (.int v3)] [] h
  | 0, _, _, _, _, _, hF => by cases hF
  | n + 1, v0, v1, v2, v3, h, hF => by
    rw [F_X5_standing_11] at hF
    refine am_iload_n (pc' := 12) dX5_standing_11 rfl rfl ?_
    refine am_aload_n (pc' := 13) dX5_standing_12 rfl rfl ?_
    obtain ⟨x1, ex1, hF⟩ := am_bind hF
    refine am_geti (pc' := 16) dX5_standing_13 fw_X5_27 ex1 rfl ?_
    rcases am_ite hF with ⟨z2, hF⟩ | ⟨z2, hF⟩
    · refine am_icmp_ge_t (pc' := 47) dX5_standing_16 rfl z2 ?_
      exact am_weak [false, false, true, false] (w_X5_standing_47 v2 h hF)
    · refine am_icmp_ge_f (pc' := 19) (tgt := 47) dX5_standing_16 rfl z2 rfl ?_
      refine am_iload_n (pc' := 20) dX5_standing_19 rfl rfl ?_
      refine am_aload_n (pc' := 21) dX5_standing_20 rfl rfl ?_
      obtain ⟨x3, ex3, hF⟩ := am_bind hF
      refine am_getr (pc' := 24) dX5_standing_21 fw_X5_20 ex3 rfl ?_
      obtain ⟨x4, ex4, hF⟩ := am_bind hF
      refine am_alen (pc' := 25) dX5_standing_24 ex4 rfl ?_
      rcases am_ite hF with ⟨z5, hF⟩ | ⟨z5, hF⟩
      · refine am_icmp_ge_t (pc' := 47) dX5_standing_25 rfl z5 ?_
        exact am_weak [false, false, true, false] (w_X5_standing_47 v2 h hF)
      · refine am_icmp_ge_f (pc' := 28) (tgt := 47) dX5_standing_25 rfl z5 rfl ?_
        refine am_iload_n (pc' := 29) dX5_standing_28 rfl rfl ?_
        refine am_aload_n (pc' := 30) dX5_standing_29 rfl rfl ?_
        obtain ⟨x6, ex6, hF⟩ := am_bind hF
        refine am_getr (pc' := 33) dX5_standing_30 fw_X5_20 ex6 rfl ?_
        refine am_iload_n (pc' := 34) dX5_standing_33 rfl rfl ?_
        obtain ⟨x7, ex7, hF⟩ := am_bind hF
        refine am_aald (pc' := 35) dX5_standing_34 rfl ex7 rfl ?_
        refine am_iload_n (pc' := 36) dX5_standing_35 rfl rfl ?_
        obtain ⟨x8, ex8, hF⟩ := am_bind hF
        obtain ⟨ox8, px8⟩ := t_X4_times ex8
        refine am_callV1 (Mc := M_X4_times) (As := [.int v1]) (st := [.int v2]) (pc' := 39) dX5_standing_36 cw_X5_78 wd_3_52 wd_3_53 ⟨_, rfl, rfl⟩ (by decide) (by decide) rfl rfl (Nat.le_of_ble_eq_true rfl) px8 (c_X4_times ex8) rfl ?_
        refine am_iadd (pc' := 40) dX5_standing_39 rfl ?_
        refine am_istore_n (ls' := [some (.ref v0), some (.int v1), some (.int (v2 + x8)), some (.int v3)]) (pc' := 41) dX5_standing_40 (Nat.le_of_ble_eq_true rfl) rfl rfl ?_
        refine am_iinc (ls' := [some (.ref v0), some (.int v1), some (.int (v2 + x8)), some (.int (v3 + (1 : Int32)))]) (pc' := 44) (v := (v3 + (1 : Int32))) dX5_standing_41 rfl rfl (Nat.le_of_ble_eq_true rfl) rfl rfl ?_
        refine am_goto (pc' := 11) dX5_standing_44 rfl ?_
        exact w_X5_standing_11 n v0 v1 (v2 + x8) (v3 + (1 : Int32)) h hF
def F_X5_standing_b (v0 : Nat) (v1 : Int32) (h : am_H) : Option Int32 :=
  (am_gr 5 0 v0 h).bind fun x1 =>
  (F_X4_times x1 v1 h).bind fun x2 =>
  F_X5_standing_11 am_F v0 v1 x2 (0 : Int32) h
theorem w_X5_standing {g : am_G} {l : Launch} {h0 : am_H} {x : Int32}  (v0 : Nat) (v1 : Int32) (h : am_H) (hF : F_X5_standing_b v0 v1 h = some x) : am_W g l M_X5_standing h0 (some (.int x)) h 0 [some (.ref v0), some (.int v1), none, none] [] h := by
  unfold F_X5_standing_b at hF
  refine am_aload_n (pc' := 1) dX5_standing_0 rfl rfl ?_
  obtain ⟨x1, ex1, hF⟩ := am_bind hF
  refine am_getr (pc' := 4) dX5_standing_1 fw_X5_14 ex1 rfl ?_
  refine am_iload_n (pc' := 5) dX5_standing_4 rfl rfl ?_
  obtain ⟨x2, ex2, hF⟩ := am_bind hF
  obtain ⟨ox2, px2⟩ := t_X4_times ex2
  refine am_callV1 (Mc := M_X4_times) (As := [.int v1]) (st := []) (pc' := 8) dX5_standing_5 cw_X5_78 wd_3_52 wd_3_53 ⟨_, rfl, rfl⟩ (by decide) (by decide) rfl rfl (Nat.le_of_ble_eq_true rfl) px2 (c_X4_times ex2) rfl ?_
  refine am_istore_n (ls' := [some (.ref v0), some (.int v1), some (.int x2), none]) (pc' := 9) dX5_standing_8 (Nat.le_of_ble_eq_true rfl) rfl rfl ?_
  refine am_iconst (v := (0 : Int32)) (pc' := 10) dX5_standing_9 rfl rfl ?_
  refine am_istore_n (ls' := [some (.ref v0), some (.int v1), some (.int x2), some (.int (0 : Int32))]) (pc' := 11) dX5_standing_10 (Nat.le_of_ble_eq_true rfl) rfl rfl ?_
  exact w_X5_standing_11 am_F v0 v1 x2 (0 : Int32) h hF
def F_X5_standing (v0 : Nat) (v1 : Int32) (h : am_H) : Option Int32 := (am_obj v0 5 h).bind fun _ => F_X5_standing_b v0 v1 h
theorem t_X5_standing {x : Int32}  {v0 : Nat} {v1 : Int32} {h : am_H} (hF : F_X5_standing v0 v1 h = some x) : ∃ fs, am_obj v0 5 h = some fs := by
  obtain ⟨fs, e, _⟩ := am_bind hF
  exact ⟨fs, e⟩
theorem c_X5_standing {g : am_G} {l : Launch} {x : Int32}  {v0 : Nat} {v1 : Int32} {h : am_H} (hF : F_X5_standing v0 v1 h = some x) : am_Met g l M_X5_standing [.ref v0, .int v1] h (some (.int x)) h := by
  obtain ⟨fs, e0, e⟩ := am_bind hF
  exact am_met (n := 2) (by decide +kernel) rfl (Nat.le_of_ble_eq_true rfl) (w_X5_standing v0 v1 h e)
theorem cw_X5_85 : am_cw "SignCellar$Rules" 85 M_X4_addPart 3 := ⟨wd_1_2, wd_2_53, ⟨by decide, by decide, by decide⟩, Or.inl wd_3_67⟩
def F_X5_expand_67 (k9 : Nat → Nat → Int32 → Int32 → am_H → Option am_H) (v0 : Nat) (v1 : Nat) (v2 : Int32) (v3 : Int32) (h : am_H) : Option am_H :=
  k9 v0 v1 v2 (v3 + (1 : Int32)) h
theorem w_X5_expand_67 {g : am_G} {l : Launch} {h0 : am_H} {hf : am_H}  {k9 : Nat → Nat → Int32 → Int32 → am_H → Option am_H} (j9 : ∀ (v0 : Nat) (v1 : Nat) (v2 : Int32) (v3 : Int32) (h : am_H), k9 v0 v1 v2 v3 h = some hf → am_W g l M_X5_expand h0 none hf 9 [some (.ref v0), some (.ref v1), some (.int v2), some (.int v3)] [] h) (v0 : Nat) (v1 : Nat) (v2 : Int32) (v3 : Int32) (h : am_H) (hF : F_X5_expand_67 k9 v0 v1 v2 v3 h = some hf) : am_W g l M_X5_expand h0 none hf 67 [some (.ref v0), some (.ref v1), some (.int v2), some (.int v3)] [] h := by
  unfold F_X5_expand_67 at hF
  refine am_iinc (ls' := [some (.ref v0), some (.ref v1), some (.int v2), some (.int (v3 + (1 : Int32)))]) (pc' := 70) (v := (v3 + (1 : Int32))) dX5_expand_67 rfl rfl (Nat.le_of_ble_eq_true rfl) rfl rfl ?_
  refine am_goto (pc' := 9) dX5_expand_70 rfl ?_
  exact j9 v0 v1 v2 (v3 + (1 : Int32)) h hF
def F_X5_expand_9 : Nat → Nat → Nat → Int32 → Int32 → am_H → Option am_H
  | 0, _, _, _, _, _ => none
  | n + 1, v0, v1, v2, v3, h =>
  (F_X4_length v1 h).bind fun x1 =>
  if x1 ≤ v3 then
    (am_gr 5 2 v0 h).bind fun x3 =>
    (F_X4_become v1 x3 h).bind fun h4 =>
    some h4
  else
    (F_X4_at v1 v3 h).bind fun x5 =>
    if x5 = ((16 : Int32) + v2) then
      (am_gr 5 2 v0 h).bind fun x7 =>
      (am_gr 5 1 v0 h).bind fun x8 =>
      (am_al 4 x8 v2 h).bind fun x9 =>
      (am_gr 5 1 v0 h).bind fun x10 =>
      (am_al 4 x10 v2 h).bind fun x11 =>
      (F_X4_length x11 h).bind fun x12 =>
      (F_X4_addPart x7 x9 (0 : Int32) x12 h).bind fun h13 =>
      F_X5_expand_67 (F_X5_expand_9 n) v0 v1 v2 v3 h13
    else
      (am_gr 5 2 v0 h).bind fun x14 =>
      (F_X4_at v1 v3 h).bind fun x15 =>
      (F_X4_add x14 x15 h).bind fun h16 =>
      F_X5_expand_67 (F_X5_expand_9 n) v0 v1 v2 v3 h16
theorem w_X5_expand_9 {g : am_G} {l : Launch} {h0 : am_H} {hf : am_H}  : ∀ (n : Nat) (v0 : Nat) (v1 : Nat) (v2 : Int32) (v3 : Int32) (h : am_H), F_X5_expand_9 n v0 v1 v2 v3 h = some hf → am_W g l M_X5_expand h0 none hf 9 [some (.ref v0), some (.ref v1), some (.int v2), some (.int v3)] [] h
  | 0, _, _, _, _, _, hF => by cases hF
  | n + 1, v0, v1, v2, v3, h, hF => by
    rw [F_X5_expand_9] at hF
    refine am_iload_n (pc' := 10) dX5_expand_9 rfl rfl ?_
    refine am_aload_n (pc' := 11) dX5_expand_10 rfl rfl ?_
    obtain ⟨x1, ex1, hF⟩ := am_bind hF
    obtain ⟨ox1, px1⟩ := t_X4_length ex1
    refine am_callV1 (Mc := M_X4_length) (As := []) (st := [.int v3]) (pc' := 14) dX5_expand_11 cw_X5_64 wd_1_235 wd_1_236 ⟨_, rfl, rfl⟩ (by decide) (by decide) rfl rfl (Nat.le_of_ble_eq_true rfl) px1 (c_X4_length ex1) rfl ?_
    rcases am_ite hF with ⟨z2, hF⟩ | ⟨z2, hF⟩
    · refine am_icmp_ge_t (pc' := 73) dX5_expand_14 rfl z2 ?_
      refine am_aload_n (pc' := 74) dX5_expand_73 rfl rfl ?_
      refine am_aload_n (pc' := 75) dX5_expand_74 rfl rfl ?_
      obtain ⟨x3, ex3, hF⟩ := am_bind hF
      refine am_getr (pc' := 78) dX5_expand_75 fw_X5_24 ex3 rfl ?_
      obtain ⟨h4, eh4, hF⟩ := am_bind hF
      obtain ⟨oh4, ph4⟩ := t_X4_become eh4
      refine am_callV0 (Mc := M_X4_become) (As := [.ref x3]) (st := []) (pc' := 81) dX5_expand_78 cw_X5_37 wd_3_26 wd_3_27 ⟨_, rfl, rfl⟩ (by decide) (by decide) rfl rfl (Nat.le_of_ble_eq_true rfl) ph4 (c_X4_become eh4) rfl ?_
      cases hF
      exact am_vret dX5_expand_81 rfl
    · refine am_icmp_ge_f (pc' := 17) (tgt := 73) dX5_expand_14 rfl z2 rfl ?_
      refine am_aload_n (pc' := 18) dX5_expand_17 rfl rfl ?_
      refine am_iload_n (pc' := 19) dX5_expand_18 rfl rfl ?_
      obtain ⟨x5, ex5, hF⟩ := am_bind hF
      obtain ⟨ox5, px5⟩ := t_X4_at ex5
      refine am_callV1 (Mc := M_X4_at) (As := [.int v3]) (st := []) (pc' := 22) dX5_expand_19 cw_X5_71 wd_2_40 wd_2_41 ⟨_, rfl, rfl⟩ (by decide) (by decide) rfl rfl (Nat.le_of_ble_eq_true rfl) px5 (c_X4_at ex5) rfl ?_
      refine am_bipush (v := (16 : Int32)) (pc' := 24) dX5_expand_22 rfl rfl ?_
      refine am_iload_n (pc' := 25) dX5_expand_24 rfl rfl ?_
      refine am_iadd (pc' := 26) dX5_expand_25 rfl ?_
      rcases am_ite hF with ⟨z6, hF⟩ | ⟨z6, hF⟩
      · refine am_icmp_ne_f (pc' := 29) (tgt := 55) dX5_expand_26 rfl z6 rfl ?_
        refine am_aload_n (pc' := 30) dX5_expand_29 rfl rfl ?_
        obtain ⟨x7, ex7, hF⟩ := am_bind hF
        refine am_getr (pc' := 33) dX5_expand_30 fw_X5_24 ex7 rfl ?_
        refine am_aload_n (pc' := 34) dX5_expand_33 rfl rfl ?_
        obtain ⟨x8, ex8, hF⟩ := am_bind hF
        refine am_getr (pc' := 37) dX5_expand_34 fw_X5_20 ex8 rfl ?_
        refine am_iload_n (pc' := 38) dX5_expand_37 rfl rfl ?_
        obtain ⟨x9, ex9, hF⟩ := am_bind hF
        refine am_aald (pc' := 39) dX5_expand_38 rfl ex9 rfl ?_
        refine am_iconst (v := (0 : Int32)) (pc' := 40) dX5_expand_39 rfl rfl ?_
        refine am_aload_n (pc' := 41) dX5_expand_40 rfl rfl ?_
        obtain ⟨x10, ex10, hF⟩ := am_bind hF
        refine am_getr (pc' := 44) dX5_expand_41 fw_X5_20 ex10 rfl ?_
        refine am_iload_n (pc' := 45) dX5_expand_44 rfl rfl ?_
        obtain ⟨x11, ex11, hF⟩ := am_bind hF
        refine am_aald (pc' := 46) dX5_expand_45 rfl ex11 rfl ?_
        obtain ⟨x12, ex12, hF⟩ := am_bind hF
        obtain ⟨ox12, px12⟩ := t_X4_length ex12
        refine am_callV1 (Mc := M_X4_length) (As := []) (st := [.int (0 : Int32), .ref x9, .ref x7]) (pc' := 49) dX5_expand_46 cw_X5_64 wd_1_235 wd_1_236 ⟨_, rfl, rfl⟩ (by decide) (by decide) rfl rfl (Nat.le_of_ble_eq_true rfl) px12 (c_X4_length ex12) rfl ?_
        obtain ⟨h13, eh13, hF⟩ := am_bind hF
        obtain ⟨oh13, ph13⟩ := t_X4_addPart eh13
        refine am_callV0 (Mc := M_X4_addPart) (As := [.ref x9, .int (0 : Int32), .int x12]) (st := []) (pc' := 52) dX5_expand_49 cw_X5_85 wd_2_51 wd_2_52 ⟨_, rfl, rfl⟩ (by decide) (by decide) rfl rfl (Nat.le_of_ble_eq_true rfl) ph13 (c_X4_addPart eh13) rfl ?_
        refine am_goto (pc' := 67) dX5_expand_52 rfl ?_
        exact w_X5_expand_67 (w_X5_expand_9 n) v0 v1 v2 v3 h13 hF
      · refine am_icmp_ne_t (pc' := 55) dX5_expand_26 rfl z6 ?_
        refine am_aload_n (pc' := 56) dX5_expand_55 rfl rfl ?_
        obtain ⟨x14, ex14, hF⟩ := am_bind hF
        refine am_getr (pc' := 59) dX5_expand_56 fw_X5_24 ex14 rfl ?_
        refine am_aload_n (pc' := 60) dX5_expand_59 rfl rfl ?_
        refine am_iload_n (pc' := 61) dX5_expand_60 rfl rfl ?_
        obtain ⟨x15, ex15, hF⟩ := am_bind hF
        obtain ⟨ox15, px15⟩ := t_X4_at ex15
        refine am_callV1 (Mc := M_X4_at) (As := [.int v3]) (st := [.ref x14]) (pc' := 64) dX5_expand_61 cw_X5_71 wd_2_40 wd_2_41 ⟨_, rfl, rfl⟩ (by decide) (by decide) rfl rfl (Nat.le_of_ble_eq_true rfl) px15 (c_X4_at ex15) rfl ?_
        obtain ⟨h16, eh16, hF⟩ := am_bind hF
        obtain ⟨oh16, ph16⟩ := t_X4_add eh16
        refine am_callV0 (Mc := M_X4_add) (As := [.int x15]) (st := []) (pc' := 67) dX5_expand_64 cw_X5_48 wd_2_0 wd_2_1 ⟨_, rfl, rfl⟩ (by decide) (by decide) rfl rfl (Nat.le_of_ble_eq_true rfl) ph16 (c_X4_add eh16) rfl ?_
        exact w_X5_expand_67 (w_X5_expand_9 n) v0 v1 v2 v3 h16 hF
def F_X5_expand_b (v0 : Nat) (v1 : Nat) (v2 : Int32) (h : am_H) : Option am_H :=
  (am_gr 5 2 v0 h).bind fun x1 =>
  (F_X4_empty x1 h).bind fun h2 =>
  F_X5_expand_9 am_F v0 v1 v2 (0 : Int32) h2
theorem w_X5_expand {g : am_G} {l : Launch} {h0 : am_H} {hf : am_H}  (v0 : Nat) (v1 : Nat) (v2 : Int32) (h : am_H) (hF : F_X5_expand_b v0 v1 v2 h = some hf) : am_W g l M_X5_expand h0 none hf 0 [some (.ref v0), some (.ref v1), some (.int v2), none] [] h := by
  unfold F_X5_expand_b at hF
  refine am_aload_n (pc' := 1) dX5_expand_0 rfl rfl ?_
  obtain ⟨x1, ex1, hF⟩ := am_bind hF
  refine am_getr (pc' := 4) dX5_expand_1 fw_X5_24 ex1 rfl ?_
  obtain ⟨h2, eh2, hF⟩ := am_bind hF
  obtain ⟨oh2, ph2⟩ := t_X4_empty eh2
  refine am_callV0 (Mc := M_X4_empty) (As := []) (st := []) (pc' := 7) dX5_expand_4 cw_X5_45 wd_2_17 wd_2_18 ⟨_, rfl, rfl⟩ (by decide) (by decide) rfl rfl (Nat.le_of_ble_eq_true rfl) ph2 (c_X4_empty eh2) rfl ?_
  refine am_iconst (v := (0 : Int32)) (pc' := 8) dX5_expand_7 rfl rfl ?_
  refine am_istore_n (ls' := [some (.ref v0), some (.ref v1), some (.int v2), some (.int (0 : Int32))]) (pc' := 9) dX5_expand_8 (Nat.le_of_ble_eq_true rfl) rfl rfl ?_
  exact w_X5_expand_9 am_F v0 v1 v2 (0 : Int32) h2 hF
def F_X5_expand (v0 : Nat) (v1 : Nat) (v2 : Int32) (h : am_H) : Option am_H := (am_obj v0 5 h).bind fun _ => F_X5_expand_b v0 v1 v2 h
theorem t_X5_expand {hf : am_H}  {v0 : Nat} {v1 : Nat} {v2 : Int32} {h : am_H} (hF : F_X5_expand v0 v1 v2 h = some hf) : ∃ fs, am_obj v0 5 h = some fs := by
  obtain ⟨fs, e, _⟩ := am_bind hF
  exact ⟨fs, e⟩
theorem c_X5_expand {g : am_G} {l : Launch} {hf : am_H}  {v0 : Nat} {v1 : Nat} {v2 : Int32} {h : am_H} (hF : F_X5_expand v0 v1 v2 h = some hf) : am_Met g l M_X5_expand [.ref v0, .ref v1, .int v2] h none hf := by
  obtain ⟨fs, e0, e⟩ := am_bind hF
  exact am_met (n := 1) (by decide +kernel) rfl (Nat.le_of_ble_eq_true rfl) (w_X5_expand v0 v1 v2 h e)
theorem cw_X5_81 : am_cw "SignCellar$Rules" 81 M_X5_expand 2 := ⟨wd_1_5, wd_3_66, ⟨by decide, by decide, by decide⟩, Or.inl wd_3_63⟩
theorem sl_X5_expand : Cond.selects (⟨"SignCellar$Rules", "expand", "(LSignCellar$Row;I)V"⟩ : MethodName).cls ⟨"SignCellar$Rules", "expand", "(LSignCellar$Row;I)V"⟩ ⟨"SignCellar$Rules", "expand", "(LSignCellar$Row;I)V"⟩ ∈ am_ts := am_in_p (q := (⟨"SignCellar$Rules", "expand", "(LSignCellar$Row;I)V"⟩, 6)) (by decide +kernel)
def F_X5_putBack_50 (v0 : Nat) (v1 : Int32) (h : am_H) : Option am_H :=
  (am_gr 5 1 v0 h).bind fun x1 =>
  (am_al 4 x1 v1 h).bind fun x2 =>
  (F_X4_empty x2 h).bind fun h3 =>
  some h3
theorem w_X5_putBack_50 {g : am_G} {l : Launch} {h0 : am_H} {hf : am_H}  (v0 : Nat) (v1 : Int32) (h : am_H) (hF : F_X5_putBack_50 v0 v1 h = some hf) : am_W g l M_X5_putBack h0 none hf 50 [some (.ref v0), some (.int v1), none] [] h := by
  unfold F_X5_putBack_50 at hF
  refine am_aload_n (pc' := 51) dX5_putBack_50 rfl rfl ?_
  obtain ⟨x1, ex1, hF⟩ := am_bind hF
  refine am_getr (pc' := 54) dX5_putBack_51 fw_X5_20 ex1 rfl ?_
  refine am_iload_n (pc' := 55) dX5_putBack_54 rfl rfl ?_
  obtain ⟨x2, ex2, hF⟩ := am_bind hF
  refine am_aald (pc' := 56) dX5_putBack_55 rfl ex2 rfl ?_
  obtain ⟨h3, eh3, hF⟩ := am_bind hF
  obtain ⟨oh3, ph3⟩ := t_X4_empty eh3
  refine am_callV0 (Mc := M_X4_empty) (As := []) (st := []) (pc' := 59) dX5_putBack_56 cw_X5_45 wd_2_17 wd_2_18 ⟨_, rfl, rfl⟩ (by decide) (by decide) rfl rfl (Nat.le_of_ble_eq_true rfl) ph3 (c_X4_empty eh3) rfl ?_
  cases hF
  exact am_vret dX5_putBack_59 rfl
def F_X5_putBack_44 (k11 : Nat → Int32 → Int32 → am_H → Option am_H) (v0 : Nat) (v1 : Int32) (v2 : Int32) (h : am_H) : Option am_H :=
  k11 v0 v1 (v2 + (1 : Int32)) h
theorem w_X5_putBack_44 {g : am_G} {l : Launch} {h0 : am_H} {hf : am_H}  {k11 : Nat → Int32 → Int32 → am_H → Option am_H} (j11 : ∀ (v0 : Nat) (v1 : Int32) (v2 : Int32) (h : am_H), k11 v0 v1 v2 h = some hf → am_W g l M_X5_putBack h0 none hf 11 [some (.ref v0), some (.int v1), some (.int v2)] [] h) (v0 : Nat) (v1 : Int32) (v2 : Int32) (h : am_H) (hF : F_X5_putBack_44 k11 v0 v1 v2 h = some hf) : am_W g l M_X5_putBack h0 none hf 44 [some (.ref v0), some (.int v1), some (.int v2)] [] h := by
  unfold F_X5_putBack_44 at hF
  refine am_iinc (ls' := [some (.ref v0), some (.int v1), some (.int (v2 + (1 : Int32)))]) (pc' := 47) (v := (v2 + (1 : Int32))) dX5_putBack_44 rfl rfl (Nat.le_of_ble_eq_true rfl) rfl rfl ?_
  refine am_goto (pc' := 11) dX5_putBack_47 rfl ?_
  exact j11 v0 v1 (v2 + (1 : Int32)) h hF
def F_X5_putBack_11 : Nat → Nat → Int32 → Int32 → am_H → Option am_H
  | 0, _, _, _, _ => none
  | n + 1, v0, v1, v2, h =>
  (am_gi 5 3 v0 h).bind fun x1 =>
  if x1 ≤ v2 then
    F_X5_putBack_50 v0 v1 h
  else
    (am_gr 5 1 v0 h).bind fun x3 =>
    (am_ln x3 h).bind fun x4 =>
    if x4 ≤ v2 then
      F_X5_putBack_50 v0 v1 h
    else
      if v2 = v1 then
        F_X5_putBack_44 (F_X5_putBack_11 n) v0 v1 v2 h
      else
        (am_gr 5 1 v0 h).bind fun x7 =>
        (am_al 4 x7 v2 h).bind fun x8 =>
        (F_X5_expand v0 x8 v1 h).bind fun h9 =>
        F_X5_putBack_44 (F_X5_putBack_11 n) v0 v1 v2 h9
theorem w_X5_putBack_11 {g : am_G} {l : Launch} {h0 : am_H} {hf : am_H}  : ∀ (n : Nat) (v0 : Nat) (v1 : Int32) (v2 : Int32) (h : am_H), F_X5_putBack_11 n v0 v1 v2 h = some hf → am_W g l M_X5_putBack h0 none hf 11 [some (.ref v0), some (.int v1), some (.int v2)] [] h
  | 0, _, _, _, _, hF => by cases hF
  | n + 1, v0, v1, v2, h, hF => by
    rw [F_X5_putBack_11] at hF
    refine am_iload_n (pc' := 12) dX5_putBack_11 rfl rfl ?_
    refine am_aload_n (pc' := 13) dX5_putBack_12 rfl rfl ?_
    obtain ⟨x1, ex1, hF⟩ := am_bind hF
    refine am_geti (pc' := 16) dX5_putBack_13 fw_X5_27 ex1 rfl ?_
    rcases am_ite hF with ⟨z2, hF⟩ | ⟨z2, hF⟩
    · refine am_icmp_ge_t (pc' := 50) dX5_putBack_16 rfl z2 ?_
      exact am_weak [true, true, false] (w_X5_putBack_50 v0 v1 h hF)
    · refine am_icmp_ge_f (pc' := 19) (tgt := 50) dX5_putBack_16 rfl z2 rfl ?_
      refine am_iload_n (pc' := 20) dX5_putBack_19 rfl rfl ?_
      refine am_aload_n (pc' := 21) dX5_putBack_20 rfl rfl ?_
      obtain ⟨x3, ex3, hF⟩ := am_bind hF
      refine am_getr (pc' := 24) dX5_putBack_21 fw_X5_20 ex3 rfl ?_
      obtain ⟨x4, ex4, hF⟩ := am_bind hF
      refine am_alen (pc' := 25) dX5_putBack_24 ex4 rfl ?_
      rcases am_ite hF with ⟨z5, hF⟩ | ⟨z5, hF⟩
      · refine am_icmp_ge_t (pc' := 50) dX5_putBack_25 rfl z5 ?_
        exact am_weak [true, true, false] (w_X5_putBack_50 v0 v1 h hF)
      · refine am_icmp_ge_f (pc' := 28) (tgt := 50) dX5_putBack_25 rfl z5 rfl ?_
        refine am_iload_n (pc' := 29) dX5_putBack_28 rfl rfl ?_
        refine am_iload_n (pc' := 30) dX5_putBack_29 rfl rfl ?_
        rcases am_ite hF with ⟨z6, hF⟩ | ⟨z6, hF⟩
        · refine am_icmp_eq_t (pc' := 44) dX5_putBack_30 rfl z6 ?_
          exact w_X5_putBack_44 (w_X5_putBack_11 n) v0 v1 v2 h hF
        · refine am_icmp_eq_f (pc' := 33) (tgt := 44) dX5_putBack_30 rfl z6 rfl ?_
          refine am_aload_n (pc' := 34) dX5_putBack_33 rfl rfl ?_
          refine am_aload_n (pc' := 35) dX5_putBack_34 rfl rfl ?_
          obtain ⟨x7, ex7, hF⟩ := am_bind hF
          refine am_getr (pc' := 38) dX5_putBack_35 fw_X5_20 ex7 rfl ?_
          refine am_iload_n (pc' := 39) dX5_putBack_38 rfl rfl ?_
          obtain ⟨x8, ex8, hF⟩ := am_bind hF
          refine am_aald (pc' := 40) dX5_putBack_39 rfl ex8 rfl ?_
          refine am_iload_n (pc' := 41) dX5_putBack_40 rfl rfl ?_
          obtain ⟨h9, eh9, hF⟩ := am_bind hF
          obtain ⟨oh9, ph9⟩ := t_X5_expand eh9
          refine am_callV0 (Mc := M_X5_expand) (As := [.ref x8, .int v1]) (st := []) (pc' := 44) dX5_putBack_41 cw_X5_81 wd_3_65 sl_X5_expand ⟨_, rfl, rfl⟩ (by decide) (by decide) rfl rfl (Nat.le_of_ble_eq_true rfl) ph9 (c_X5_expand eh9) rfl ?_
          exact w_X5_putBack_44 (w_X5_putBack_11 n) v0 v1 v2 h9 hF
def F_X5_putBack_b (v0 : Nat) (v1 : Int32) (h : am_H) : Option am_H :=
  (am_gr 5 0 v0 h).bind fun x1 =>
  (F_X5_expand v0 x1 v1 h).bind fun h2 =>
  F_X5_putBack_11 am_F v0 v1 (0 : Int32) h2
theorem w_X5_putBack {g : am_G} {l : Launch} {h0 : am_H} {hf : am_H}  (v0 : Nat) (v1 : Int32) (h : am_H) (hF : F_X5_putBack_b v0 v1 h = some hf) : am_W g l M_X5_putBack h0 none hf 0 [some (.ref v0), some (.int v1), none] [] h := by
  unfold F_X5_putBack_b at hF
  refine am_aload_n (pc' := 1) dX5_putBack_0 rfl rfl ?_
  refine am_aload_n (pc' := 2) dX5_putBack_1 rfl rfl ?_
  obtain ⟨x1, ex1, hF⟩ := am_bind hF
  refine am_getr (pc' := 5) dX5_putBack_2 fw_X5_14 ex1 rfl ?_
  refine am_iload_n (pc' := 6) dX5_putBack_5 rfl rfl ?_
  obtain ⟨h2, eh2, hF⟩ := am_bind hF
  obtain ⟨oh2, ph2⟩ := t_X5_expand eh2
  refine am_callV0 (Mc := M_X5_expand) (As := [.ref x1, .int v1]) (st := []) (pc' := 9) dX5_putBack_6 cw_X5_81 wd_3_65 sl_X5_expand ⟨_, rfl, rfl⟩ (by decide) (by decide) rfl rfl (Nat.le_of_ble_eq_true rfl) ph2 (c_X5_expand eh2) rfl ?_
  refine am_iconst (v := (0 : Int32)) (pc' := 10) dX5_putBack_9 rfl rfl ?_
  refine am_istore_n (ls' := [some (.ref v0), some (.int v1), some (.int (0 : Int32))]) (pc' := 11) dX5_putBack_10 (Nat.le_of_ble_eq_true rfl) rfl rfl ?_
  exact w_X5_putBack_11 am_F v0 v1 (0 : Int32) h2 hF
def F_X5_putBack (v0 : Nat) (v1 : Int32) (h : am_H) : Option am_H := (am_obj v0 5 h).bind fun _ => F_X5_putBack_b v0 v1 h
theorem t_X5_putBack {hf : am_H}  {v0 : Nat} {v1 : Int32} {h : am_H} (hF : F_X5_putBack v0 v1 h = some hf) : ∃ fs, am_obj v0 5 h = some fs := by
  obtain ⟨fs, e, _⟩ := am_bind hF
  exact ⟨fs, e⟩
theorem c_X5_putBack {g : am_G} {l : Launch} {hf : am_H}  {v0 : Nat} {v1 : Int32} {h : am_H} (hF : F_X5_putBack v0 v1 h = some hf) : am_Met g l M_X5_putBack [.ref v0, .int v1] h none hf := by
  obtain ⟨fs, e0, e⟩ := am_bind hF
  exact am_met (n := 1) (by decide +kernel) rfl (Nat.le_of_ble_eq_true rfl) (w_X5_putBack v0 v1 h e)
theorem cw_X5_41 : am_cw "SignCellar$Rules" 41 M_X5_findPair 0 := ⟨wd_1_5, wd_3_34, ⟨by decide, by decide, by decide⟩, Or.inl wd_3_31⟩
theorem cw_X5_51 : am_cw "SignCellar$Rules" 51 M_X5_join 1 := ⟨wd_1_5, wd_3_46, ⟨by decide, by decide, by decide⟩, Or.inl wd_3_43⟩
theorem cw_X5_54 : am_cw "SignCellar$Rules" 54 M_X5_standing 1 := ⟨wd_1_5, wd_3_50, ⟨by decide, by decide, by decide⟩, Or.inl wd_3_47⟩
theorem cw_X5_58 : am_cw "SignCellar$Rules" 58 M_X5_putBack 1 := ⟨wd_1_5, wd_3_62, ⟨by decide, by decide, by decide⟩, Or.inl wd_3_59⟩
theorem fx_X5_27 {nm : String} : am_fx "SignCellar$Rules" 27 5 3 .int nm := ⟨(RX5, TX5, 6), tyX5, rfl, by decide, inX5, tyX5_ok, nmX5, rfl, Or.inl ⟨wd_1_79, Or.inl rfl⟩⟩
theorem sl_X5_findPair : Cond.selects (⟨"SignCellar$Rules", "findPair", "()Z"⟩ : MethodName).cls ⟨"SignCellar$Rules", "findPair", "()Z"⟩ ⟨"SignCellar$Rules", "findPair", "()Z"⟩ ∈ am_ts := am_in_p (q := (⟨"SignCellar$Rules", "findPair", "()Z"⟩, 6)) (by decide +kernel)
theorem sl_X5_join : Cond.selects (⟨"SignCellar$Rules", "join", "(I)V"⟩ : MethodName).cls ⟨"SignCellar$Rules", "join", "(I)V"⟩ ⟨"SignCellar$Rules", "join", "(I)V"⟩ ∈ am_ts := am_in_p (q := (⟨"SignCellar$Rules", "join", "(I)V"⟩, 6)) (by decide +kernel)
theorem sl_X5_putBack : Cond.selects (⟨"SignCellar$Rules", "putBack", "(I)V"⟩ : MethodName).cls ⟨"SignCellar$Rules", "putBack", "(I)V"⟩ ⟨"SignCellar$Rules", "putBack", "(I)V"⟩ ∈ am_ts := am_in_p (q := (⟨"SignCellar$Rules", "putBack", "(I)V"⟩, 6)) (by decide +kernel)
theorem sl_X5_standing : Cond.selects (⟨"SignCellar$Rules", "standing", "(I)I"⟩ : MethodName).cls ⟨"SignCellar$Rules", "standing", "(I)I"⟩ ⟨"SignCellar$Rules", "standing", "(I)I"⟩ ∈ am_ts := am_in_p (q := (⟨"SignCellar$Rules", "standing", "(I)I"⟩, 6)) (by decide +kernel)
def F_X5_squeeze_118 (k97 : Nat → Int32 → am_H → Option am_H) (v0 : Nat) (v2 : Int32) (h : am_H) : Option am_H :=
  k97 v0 (v2 + (-1 : Int32)) h
theorem w_X5_squeeze_118 {g : am_G} {l : Launch} {h0 : am_H} {hf : am_H}  {k97 : Nat → Int32 → am_H → Option am_H} (j97 : ∀ (v0 : Nat) (v2 : Int32) (h : am_H), k97 v0 v2 h = some hf → am_W g l M_X5_squeeze h0 none hf 97 [some (.ref v0), none, some (.int v2)] [] h) (v0 : Nat) (v2 : Int32) (h : am_H) (hF : F_X5_squeeze_118 k97 v0 v2 h = some hf) : am_W g l M_X5_squeeze h0 none hf 118 [some (.ref v0), none, some (.int v2)] [] h := by
  unfold F_X5_squeeze_118 at hF
  refine am_iinc (ls' := [some (.ref v0), none, some (.int (v2 + (-1 : Int32)))]) (pc' := 121) (v := (v2 + (-1 : Int32))) dX5_squeeze_118 rfl rfl (Nat.le_of_ble_eq_true rfl) rfl rfl ?_
  refine am_goto (pc' := 97) dX5_squeeze_121 rfl ?_
  exact j97 v0 (v2 + (-1 : Int32)) h hF
def F_X5_squeeze_97 : Nat → Nat → Int32 → am_H → Option am_H
  | 0, _, _, _ => none
  | n + 1, v0, v2, h =>
  if v2 < 0 then
    some h
  else
    (F_X5_standing v0 ((16 : Int32) + v2) h).bind fun x2 =>
    if (2 : Int32) ≤ x2 then
      F_X5_squeeze_118 (F_X5_squeeze_97 n) v0 v2 h
    else
      (F_X5_putBack v0 v2 h).bind fun h4 =>
      F_X5_squeeze_118 (F_X5_squeeze_97 n) v0 v2 h4
theorem w_X5_squeeze_97 {g : am_G} {l : Launch} {h0 : am_H} {hf : am_H}  : ∀ (n : Nat) (v0 : Nat) (v2 : Int32) (h : am_H), F_X5_squeeze_97 n v0 v2 h = some hf → am_W g l M_X5_squeeze h0 none hf 97 [some (.ref v0), none, some (.int v2)] [] h
  | 0, _, _, _, hF => by cases hF
  | n + 1, v0, v2, h, hF => by
    rw [F_X5_squeeze_97] at hF
    refine am_iload_n (pc' := 98) dX5_squeeze_97 rfl rfl ?_
    rcases am_ite hF with ⟨z1, hF⟩ | ⟨z1, hF⟩
    · refine am_if_lt_t (pc' := 124) dX5_squeeze_98 rfl z1 ?_
      cases hF
      exact am_vret dX5_squeeze_124 rfl
    · refine am_if_lt_f (pc' := 101) (tgt := 124) dX5_squeeze_98 rfl z1 rfl ?_
      refine am_aload_n (pc' := 102) dX5_squeeze_101 rfl rfl ?_
      refine am_bipush (v := (16 : Int32)) (pc' := 104) dX5_squeeze_102 rfl rfl ?_
      refine am_iload_n (pc' := 105) dX5_squeeze_104 rfl rfl ?_
      refine am_iadd (pc' := 106) dX5_squeeze_105 rfl ?_
      obtain ⟨x2, ex2, hF⟩ := am_bind hF
      obtain ⟨ox2, px2⟩ := t_X5_standing ex2
      refine am_callV1 (Mc := M_X5_standing) (As := [.int ((16 : Int32) + v2)]) (st := []) (pc' := 109) dX5_squeeze_106 cw_X5_54 wd_3_49 sl_X5_standing ⟨_, rfl, rfl⟩ (by decide) (by decide) rfl rfl (Nat.le_of_ble_eq_true rfl) px2 (c_X5_standing ex2) rfl ?_
      refine am_iconst (v := (2 : Int32)) (pc' := 110) dX5_squeeze_109 rfl rfl ?_
      rcases am_ite hF with ⟨z3, hF⟩ | ⟨z3, hF⟩
      · refine am_icmp_ge_t (pc' := 118) dX5_squeeze_110 rfl z3 ?_
        exact w_X5_squeeze_118 (w_X5_squeeze_97 n) v0 v2 h hF
      · refine am_icmp_ge_f (pc' := 113) (tgt := 118) dX5_squeeze_110 rfl z3 rfl ?_
        refine am_aload_n (pc' := 114) dX5_squeeze_113 rfl rfl ?_
        refine am_iload_n (pc' := 115) dX5_squeeze_114 rfl rfl ?_
        obtain ⟨h4, eh4, hF⟩ := am_bind hF
        obtain ⟨oh4, ph4⟩ := t_X5_putBack eh4
        refine am_callV0 (Mc := M_X5_putBack) (As := [.int v2]) (st := []) (pc' := 118) dX5_squeeze_115 cw_X5_58 wd_3_61 sl_X5_putBack ⟨_, rfl, rfl⟩ (by decide) (by decide) rfl rfl (Nat.le_of_ble_eq_true rfl) ph4 (c_X5_putBack eh4) rfl ?_
        exact w_X5_squeeze_118 (w_X5_squeeze_97 n) v0 v2 h4 hF
def F_X5_squeeze_90 (v0 : Nat) (h : am_H) : Option am_H :=
  (am_gi 5 3 v0 h).bind fun x1 =>
  F_X5_squeeze_97 am_F v0 (x1 - (1 : Int32)) h
theorem w_X5_squeeze_90 {g : am_G} {l : Launch} {h0 : am_H} {hf : am_H}  (v0 : Nat) (h : am_H) (hF : F_X5_squeeze_90 v0 h = some hf) : am_W g l M_X5_squeeze h0 none hf 90 [some (.ref v0), none, none] [] h := by
  unfold F_X5_squeeze_90 at hF
  refine am_aload_n (pc' := 91) dX5_squeeze_90 rfl rfl ?_
  obtain ⟨x1, ex1, hF⟩ := am_bind hF
  refine am_geti (pc' := 94) dX5_squeeze_91 fw_X5_27 ex1 rfl ?_
  refine am_iconst (v := (1 : Int32)) (pc' := 95) dX5_squeeze_94 rfl rfl ?_
  refine am_isub (pc' := 96) dX5_squeeze_95 rfl ?_
  refine am_istore_n (ls' := [some (.ref v0), none, some (.int (x1 - (1 : Int32)))]) (pc' := 97) dX5_squeeze_96 (Nat.le_of_ble_eq_true rfl) rfl rfl ?_
  exact w_X5_squeeze_97 am_F v0 (x1 - (1 : Int32)) h hF
def F_X5_squeeze_15 : Nat → Nat → Int32 → am_H → Option am_H
  | 0, _, _, _ => none
  | n + 1, v0, v2, h =>
  (am_gr 5 1 v0 h).bind fun x1 =>
  (am_ln x1 h).bind fun x2 =>
  if x2 ≤ v2 then
    F_X5_squeeze_90 v0 h
  else
    (F_X5_findPair v0 h).bind fun q4 =>
    if q4.1 = 0 then
      F_X5_squeeze_90 v0 q4.2
    else
      (am_gr 5 1 v0 q4.2).bind fun x6 =>
      (am_al 4 x6 v2 q4.2).bind fun x7 =>
      (F_X4_empty x7 q4.2).bind fun h8 =>
      (am_gr 5 1 v0 h8).bind fun x9 =>
      (am_al 4 x9 v2 h8).bind fun x10 =>
      (am_gi 5 4 v0 h8).bind fun x11 =>
      (F_X4_add x10 x11 h8).bind fun h12 =>
      (am_gr 5 1 v0 h12).bind fun x13 =>
      (am_al 4 x13 v2 h12).bind fun x14 =>
      (am_gi 5 5 v0 h12).bind fun x15 =>
      (F_X4_add x14 x15 h12).bind fun h16 =>
      (F_X5_join v0 ((16 : Int32) + v2) h16).bind fun h17 =>
      (am_gi 5 3 v0 h17).bind fun x18 =>
      (am_pi 5 3 v0 (x18 + (1 : Int32)) h17).bind fun h19 =>
      F_X5_squeeze_15 n v0 (v2 + (1 : Int32)) h19
theorem w_X5_squeeze_15 {g : am_G} {l : Launch} {h0 : am_H} {hf : am_H}  : ∀ (n : Nat) (v0 : Nat) (v2 : Int32) (h : am_H), F_X5_squeeze_15 n v0 v2 h = some hf → am_W g l M_X5_squeeze h0 none hf 15 [some (.ref v0), none, some (.int v2)] [] h
  | 0, _, _, _, hF => by cases hF
  | n + 1, v0, v2, h, hF => by
    rw [F_X5_squeeze_15] at hF
    refine am_iload_n (pc' := 16) dX5_squeeze_15 rfl rfl ?_
    refine am_aload_n (pc' := 17) dX5_squeeze_16 rfl rfl ?_
    obtain ⟨x1, ex1, hF⟩ := am_bind hF
    refine am_getr (pc' := 20) dX5_squeeze_17 fw_X5_20 ex1 rfl ?_
    obtain ⟨x2, ex2, hF⟩ := am_bind hF
    refine am_alen (pc' := 21) dX5_squeeze_20 ex2 rfl ?_
    rcases am_ite hF with ⟨z3, hF⟩ | ⟨z3, hF⟩
    · refine am_icmp_ge_t (pc' := 90) dX5_squeeze_21 rfl z3 ?_
      exact am_weak [true, false, false] (w_X5_squeeze_90 v0 h hF)
    · refine am_icmp_ge_f (pc' := 24) (tgt := 90) dX5_squeeze_21 rfl z3 rfl ?_
      refine am_aload_n (pc' := 25) dX5_squeeze_24 rfl rfl ?_
      obtain ⟨q4, eq4, hF⟩ := am_bind hF
      obtain ⟨oq4, pq4⟩ := t_X5_findPair eq4
      refine am_callV1 (Mc := M_X5_findPair) (As := []) (st := []) (pc' := 28) dX5_squeeze_25 cw_X5_41 wd_3_33 sl_X5_findPair ⟨_, rfl, rfl⟩ (by decide) (by decide) rfl rfl (Nat.le_of_ble_eq_true rfl) pq4 (c_X5_findPair eq4) rfl ?_
      rcases am_ite hF with ⟨z5, hF⟩ | ⟨z5, hF⟩
      · refine am_if_eq_t (pc' := 90) dX5_squeeze_28 rfl z5 ?_
        exact am_weak [true, false, false] (w_X5_squeeze_90 v0 q4.2 hF)
      · refine am_if_eq_f (pc' := 31) (tgt := 90) dX5_squeeze_28 rfl z5 rfl ?_
        refine am_aload_n (pc' := 32) dX5_squeeze_31 rfl rfl ?_
        obtain ⟨x6, ex6, hF⟩ := am_bind hF
        refine am_getr (pc' := 35) dX5_squeeze_32 fw_X5_20 ex6 rfl ?_
        refine am_iload_n (pc' := 36) dX5_squeeze_35 rfl rfl ?_
        obtain ⟨x7, ex7, hF⟩ := am_bind hF
        refine am_aald (pc' := 37) dX5_squeeze_36 rfl ex7 rfl ?_
        obtain ⟨h8, eh8, hF⟩ := am_bind hF
        obtain ⟨oh8, ph8⟩ := t_X4_empty eh8
        refine am_callV0 (Mc := M_X4_empty) (As := []) (st := []) (pc' := 40) dX5_squeeze_37 cw_X5_45 wd_2_17 wd_2_18 ⟨_, rfl, rfl⟩ (by decide) (by decide) rfl rfl (Nat.le_of_ble_eq_true rfl) ph8 (c_X4_empty eh8) rfl ?_
        refine am_aload_n (pc' := 41) dX5_squeeze_40 rfl rfl ?_
        obtain ⟨x9, ex9, hF⟩ := am_bind hF
        refine am_getr (pc' := 44) dX5_squeeze_41 fw_X5_20 ex9 rfl ?_
        refine am_iload_n (pc' := 45) dX5_squeeze_44 rfl rfl ?_
        obtain ⟨x10, ex10, hF⟩ := am_bind hF
        refine am_aald (pc' := 46) dX5_squeeze_45 rfl ex10 rfl ?_
        refine am_aload_n (pc' := 47) dX5_squeeze_46 rfl rfl ?_
        obtain ⟨x11, ex11, hF⟩ := am_bind hF
        refine am_geti (pc' := 50) dX5_squeeze_47 fw_X5_31 ex11 rfl ?_
        obtain ⟨h12, eh12, hF⟩ := am_bind hF
        obtain ⟨oh12, ph12⟩ := t_X4_add eh12
        refine am_callV0 (Mc := M_X4_add) (As := [.int x11]) (st := []) (pc' := 53) dX5_squeeze_50 cw_X5_48 wd_2_0 wd_2_1 ⟨_, rfl, rfl⟩ (by decide) (by decide) rfl rfl (Nat.le_of_ble_eq_true rfl) ph12 (c_X4_add eh12) rfl ?_
        refine am_aload_n (pc' := 54) dX5_squeeze_53 rfl rfl ?_
        obtain ⟨x13, ex13, hF⟩ := am_bind hF
        refine am_getr (pc' := 57) dX5_squeeze_54 fw_X5_20 ex13 rfl ?_
        refine am_iload_n (pc' := 58) dX5_squeeze_57 rfl rfl ?_
        obtain ⟨x14, ex14, hF⟩ := am_bind hF
        refine am_aald (pc' := 59) dX5_squeeze_58 rfl ex14 rfl ?_
        refine am_aload_n (pc' := 60) dX5_squeeze_59 rfl rfl ?_
        obtain ⟨x15, ex15, hF⟩ := am_bind hF
        refine am_geti (pc' := 63) dX5_squeeze_60 fw_X5_34 ex15 rfl ?_
        obtain ⟨h16, eh16, hF⟩ := am_bind hF
        obtain ⟨oh16, ph16⟩ := t_X4_add eh16
        refine am_callV0 (Mc := M_X4_add) (As := [.int x15]) (st := []) (pc' := 66) dX5_squeeze_63 cw_X5_48 wd_2_0 wd_2_1 ⟨_, rfl, rfl⟩ (by decide) (by decide) rfl rfl (Nat.le_of_ble_eq_true rfl) ph16 (c_X4_add eh16) rfl ?_
        refine am_aload_n (pc' := 67) dX5_squeeze_66 rfl rfl ?_
        refine am_bipush (v := (16 : Int32)) (pc' := 69) dX5_squeeze_67 rfl rfl ?_
        refine am_iload_n (pc' := 70) dX5_squeeze_69 rfl rfl ?_
        refine am_iadd (pc' := 71) dX5_squeeze_70 rfl ?_
        obtain ⟨h17, eh17, hF⟩ := am_bind hF
        obtain ⟨oh17, ph17⟩ := t_X5_join eh17
        refine am_callV0 (Mc := M_X5_join) (As := [.int ((16 : Int32) + v2)]) (st := []) (pc' := 74) dX5_squeeze_71 cw_X5_51 wd_3_45 sl_X5_join ⟨_, rfl, rfl⟩ (by decide) (by decide) rfl rfl (Nat.le_of_ble_eq_true rfl) ph17 (c_X5_join eh17) rfl ?_
        refine am_aload_n (pc' := 75) dX5_squeeze_74 rfl rfl ?_
        refine am_dup (pc' := 76) dX5_squeeze_75 rfl rfl ?_
        obtain ⟨x18, ex18, hF⟩ := am_bind hF
        refine am_geti (pc' := 79) dX5_squeeze_76 fw_X5_27 ex18 rfl ?_
        refine am_iconst (v := (1 : Int32)) (pc' := 80) dX5_squeeze_79 rfl rfl ?_
        refine am_iadd (pc' := 81) dX5_squeeze_80 rfl ?_
        obtain ⟨h19, eh19, hF⟩ := am_bind hF
        refine am_puti (pc' := 84) dX5_squeeze_81 fx_X5_27 eh19 rfl ?_
        refine am_iinc (ls' := [some (.ref v0), none, some (.int (v2 + (1 : Int32)))]) (pc' := 87) (v := (v2 + (1 : Int32))) dX5_squeeze_84 rfl rfl (Nat.le_of_ble_eq_true rfl) rfl rfl ?_
        refine am_goto (pc' := 15) dX5_squeeze_87 rfl ?_
        exact w_X5_squeeze_15 n v0 (v2 + (1 : Int32)) h19 hF
def F_X5_squeeze_b (v0 : Nat) (v1 : Nat) (h : am_H) : Option am_H :=
  (am_gr 5 0 v0 h).bind fun x1 =>
  (F_X4_become x1 v1 h).bind fun h2 =>
  (am_pi 5 3 v0 (0 : Int32) h2).bind fun h3 =>
  F_X5_squeeze_15 am_F v0 (0 : Int32) h3
theorem w_X5_squeeze {g : am_G} {l : Launch} {h0 : am_H} {hf : am_H}  (v0 : Nat) (v1 : Nat) (h : am_H) (hF : F_X5_squeeze_b v0 v1 h = some hf) : am_W g l M_X5_squeeze h0 none hf 0 [some (.ref v0), some (.ref v1), none] [] h := by
  unfold F_X5_squeeze_b at hF
  refine am_aload_n (pc' := 1) dX5_squeeze_0 rfl rfl ?_
  obtain ⟨x1, ex1, hF⟩ := am_bind hF
  refine am_getr (pc' := 4) dX5_squeeze_1 fw_X5_14 ex1 rfl ?_
  refine am_aload_n (pc' := 5) dX5_squeeze_4 rfl rfl ?_
  obtain ⟨h2, eh2, hF⟩ := am_bind hF
  obtain ⟨oh2, ph2⟩ := t_X4_become eh2
  refine am_callV0 (Mc := M_X4_become) (As := [.ref v1]) (st := []) (pc' := 8) dX5_squeeze_5 cw_X5_37 wd_3_26 wd_3_27 ⟨_, rfl, rfl⟩ (by decide) (by decide) rfl rfl (Nat.le_of_ble_eq_true rfl) ph2 (c_X4_become eh2) rfl ?_
  refine am_aload_n (pc' := 9) dX5_squeeze_8 rfl rfl ?_
  refine am_iconst (v := (0 : Int32)) (pc' := 10) dX5_squeeze_9 rfl rfl ?_
  obtain ⟨h3, eh3, hF⟩ := am_bind hF
  refine am_puti (pc' := 13) dX5_squeeze_10 fx_X5_27 eh3 rfl ?_
  refine am_iconst (v := (0 : Int32)) (pc' := 14) dX5_squeeze_13 rfl rfl ?_
  refine am_istore_n (ls' := [some (.ref v0), some (.ref v1), some (.int (0 : Int32))]) (pc' := 15) dX5_squeeze_14 (Nat.le_of_ble_eq_true rfl) rfl rfl ?_
  exact am_weak [true, false, true] (w_X5_squeeze_15 am_F v0 (0 : Int32) h3 hF)
def F_X5_squeeze (v0 : Nat) (v1 : Nat) (h : am_H) : Option am_H := (am_obj v0 5 h).bind fun _ => F_X5_squeeze_b v0 v1 h
theorem t_X5_squeeze {hf : am_H}  {v0 : Nat} {v1 : Nat} {h : am_H} (hF : F_X5_squeeze v0 v1 h = some hf) : ∃ fs, am_obj v0 5 h = some fs := by
  obtain ⟨fs, e, _⟩ := am_bind hF
  exact ⟨fs, e⟩
theorem c_X5_squeeze {g : am_G} {l : Launch} {hf : am_H}  {v0 : Nat} {v1 : Nat} {h : am_H} (hF : F_X5_squeeze v0 v1 h = some hf) : am_Met g l M_X5_squeeze [.ref v0, .ref v1] h none hf := by
  obtain ⟨fs, e0, e⟩ := am_bind hF
  exact am_met (n := 1) (by decide +kernel) rfl (Nat.le_of_ble_eq_true rfl) (w_X5_squeeze v0 v1 h e)
theorem cw_X3_46 : am_cw "SignCellar$Odds" 46 M_X4_at 1 := ⟨wd_1_2, wd_2_42, ⟨by decide, by decide, by decide⟩, Or.inl wd_3_79⟩
theorem cw_X3_59 : am_cw "SignCellar$Odds" 59 M_J7_fill_53178 2 := ⟨wd_1_12, wd_3_16, ⟨by decide, by decide, by decide⟩, Or.inl wd_3_78⟩
theorem fw_X3_9 : am_fw "SignCellar$Odds" 9 3 0 := ⟨(RX3, TX3, 5), rfl, by decide, inX3, Or.inl wd_1_105⟩
def F_X3_learn_65 (k10 : Nat → Nat → Int32 → Int32 → am_H → Option am_H) (v0 : Nat) (v1 : Nat) (v2 : Int32) (v3 : Int32) (h : am_H) : Option am_H :=
  k10 v0 v1 v2 (v3 + (1 : Int32)) h
theorem w_X3_learn_65 {g : am_G} {l : Launch} {h0 : am_H} {hf : am_H}  {k10 : Nat → Nat → Int32 → Int32 → am_H → Option am_H} (j10 : ∀ (v0 : Nat) (v1 : Nat) (v2 : Int32) (v3 : Int32) (h : am_H), k10 v0 v1 v2 v3 h = some hf → am_W g l M_X3_learn h0 none hf 10 [some (.ref v0), some (.ref v1), some (.int v2), some (.int v3), none] [] h) (v0 : Nat) (v1 : Nat) (v2 : Int32) (v3 : Int32) (h : am_H) (hF : F_X3_learn_65 k10 v0 v1 v2 v3 h = some hf) : am_W g l M_X3_learn h0 none hf 65 [some (.ref v0), some (.ref v1), some (.int v2), some (.int v3), none] [] h := by
  unfold F_X3_learn_65 at hF
  refine am_iinc (ls' := [some (.ref v0), some (.ref v1), some (.int v2), some (.int (v3 + (1 : Int32))), none]) (pc' := 68) (v := (v3 + (1 : Int32))) dX3_learn_65 rfl rfl (Nat.le_of_ble_eq_true rfl) rfl rfl ?_
  refine am_goto (pc' := 10) dX3_learn_68 rfl ?_
  exact j10 v0 v1 v2 (v3 + (1 : Int32)) h hF
def F_X3_learn_10 : Nat → Nat → Nat → Int32 → Int32 → am_H → Option am_H
  | 0, _, _, _, _, _ => none
  | n + 1, v0, v1, v2, v3, h =>
  if v2 ≤ v3 then
    some h
  else
    (F_X4_at v1 v3 h).bind fun x2 =>
    (F_X4_at v1 (v3 - (1 : Int32)) h).bind fun x3 =>
    (F_X4_at v1 (v2 - (1 : Int32)) h).bind fun x4 =>
    if x3 = x4 then
      if x2 < 0 then
        F_X3_learn_65 (F_X3_learn_10 n) v0 v1 v2 v3 h
      else
        (am_gr 3 0 v0 h).bind fun x7 =>
        (am_ln x7 h).bind fun x8 =>
        if x8 ≤ x2 then
          F_X3_learn_65 (F_X3_learn_10 n) v0 v1 v2 v3 h
        else
          (am_gr 3 0 v0 h).bind fun x10 =>
          (am_il 0 x10 x2 h).bind fun x11 =>
          (am_is 0 x10 x2 (x11 + (1 : Int32)) h).bind fun h12 =>
          F_X3_learn_65 (F_X3_learn_10 n) v0 v1 v2 v3 h12
    else
      F_X3_learn_65 (F_X3_learn_10 n) v0 v1 v2 v3 h
theorem w_X3_learn_10 {g : am_G} {l : Launch} {h0 : am_H} {hf : am_H}  : ∀ (n : Nat) (v0 : Nat) (v1 : Nat) (v2 : Int32) (v3 : Int32) (h : am_H), F_X3_learn_10 n v0 v1 v2 v3 h = some hf → am_W g l M_X3_learn h0 none hf 10 [some (.ref v0), some (.ref v1), some (.int v2), some (.int v3), none] [] h
  | 0, _, _, _, _, _, hF => by cases hF
  | n + 1, v0, v1, v2, v3, h, hF => by
    rw [F_X3_learn_10] at hF
    refine am_iload_n (pc' := 11) dX3_learn_10 rfl rfl ?_
    refine am_iload_n (pc' := 12) dX3_learn_11 rfl rfl ?_
    rcases am_ite hF with ⟨z1, hF⟩ | ⟨z1, hF⟩
    · refine am_icmp_ge_t (pc' := 71) dX3_learn_12 rfl z1 ?_
      cases hF
      exact am_vret dX3_learn_71 rfl
    · refine am_icmp_ge_f (pc' := 15) (tgt := 71) dX3_learn_12 rfl z1 rfl ?_
      refine am_aload_n (pc' := 16) dX3_learn_15 rfl rfl ?_
      refine am_iload_n (pc' := 17) dX3_learn_16 rfl rfl ?_
      obtain ⟨x2, ex2, hF⟩ := am_bind hF
      obtain ⟨ox2, px2⟩ := t_X4_at ex2
      refine am_callV1 (Mc := M_X4_at) (As := [.int v3]) (st := []) (pc' := 20) dX3_learn_17 cw_X3_46 wd_2_40 wd_2_41 ⟨_, rfl, rfl⟩ (by decide) (by decide) rfl rfl (Nat.le_of_ble_eq_true rfl) px2 (c_X4_at ex2) rfl ?_
      refine am_istore (ls' := [some (.ref v0), some (.ref v1), some (.int v2), some (.int v3), some (.int x2)]) (pc' := 22) dX3_learn_20 (Nat.le_of_ble_eq_true rfl) rfl rfl ?_
      refine am_aload_n (pc' := 23) dX3_learn_22 rfl rfl ?_
      refine am_iload_n (pc' := 24) dX3_learn_23 rfl rfl ?_
      refine am_iconst (v := (1 : Int32)) (pc' := 25) dX3_learn_24 rfl rfl ?_
      refine am_isub (pc' := 26) dX3_learn_25 rfl ?_
      obtain ⟨x3, ex3, hF⟩ := am_bind hF
      obtain ⟨ox3, px3⟩ := t_X4_at ex3
      refine am_callV1 (Mc := M_X4_at) (As := [.int (v3 - (1 : Int32))]) (st := []) (pc' := 29) dX3_learn_26 cw_X3_46 wd_2_40 wd_2_41 ⟨_, rfl, rfl⟩ (by decide) (by decide) rfl rfl (Nat.le_of_ble_eq_true rfl) px3 (c_X4_at ex3) rfl ?_
      refine am_aload_n (pc' := 30) dX3_learn_29 rfl rfl ?_
      refine am_iload_n (pc' := 31) dX3_learn_30 rfl rfl ?_
      refine am_iconst (v := (1 : Int32)) (pc' := 32) dX3_learn_31 rfl rfl ?_
      refine am_isub (pc' := 33) dX3_learn_32 rfl ?_
      obtain ⟨x4, ex4, hF⟩ := am_bind hF
      obtain ⟨ox4, px4⟩ := t_X4_at ex4
      refine am_callV1 (Mc := M_X4_at) (As := [.int (v2 - (1 : Int32))]) (st := [.int x3]) (pc' := 36) dX3_learn_33 cw_X3_46 wd_2_40 wd_2_41 ⟨_, rfl, rfl⟩ (by decide) (by decide) rfl rfl (Nat.le_of_ble_eq_true rfl) px4 (c_X4_at ex4) rfl ?_
      rcases am_ite hF with ⟨z5, hF⟩ | ⟨z5, hF⟩
      · refine am_icmp_ne_f (pc' := 39) (tgt := 65) dX3_learn_36 rfl z5 rfl ?_
        refine am_iload (pc' := 41) dX3_learn_39 rfl rfl ?_
        rcases am_ite hF with ⟨z6, hF⟩ | ⟨z6, hF⟩
        · refine am_if_lt_t (pc' := 65) dX3_learn_41 rfl z6 ?_
          exact am_weak [true, true, true, true, false] (w_X3_learn_65 (w_X3_learn_10 n) v0 v1 v2 v3 h hF)
        · refine am_if_lt_f (pc' := 44) (tgt := 65) dX3_learn_41 rfl z6 rfl ?_
          refine am_iload (pc' := 46) dX3_learn_44 rfl rfl ?_
          refine am_aload_n (pc' := 47) dX3_learn_46 rfl rfl ?_
          obtain ⟨x7, ex7, hF⟩ := am_bind hF
          refine am_getr (pc' := 50) dX3_learn_47 fw_X3_9 ex7 rfl ?_
          obtain ⟨x8, ex8, hF⟩ := am_bind hF
          refine am_alen (pc' := 51) dX3_learn_50 ex8 rfl ?_
          rcases am_ite hF with ⟨z9, hF⟩ | ⟨z9, hF⟩
          · refine am_icmp_ge_t (pc' := 65) dX3_learn_51 rfl z9 ?_
            exact am_weak [true, true, true, true, false] (w_X3_learn_65 (w_X3_learn_10 n) v0 v1 v2 v3 h hF)
          · refine am_icmp_ge_f (pc' := 54) (tgt := 65) dX3_learn_51 rfl z9 rfl ?_
            refine am_aload_n (pc' := 55) dX3_learn_54 rfl rfl ?_
            obtain ⟨x10, ex10, hF⟩ := am_bind hF
            refine am_getr (pc' := 58) dX3_learn_55 fw_X3_9 ex10 rfl ?_
            refine am_iload (pc' := 60) dX3_learn_58 rfl rfl ?_
            refine am_dup2 (pc' := 61) dX3_learn_60 rfl rfl rfl ?_
            obtain ⟨x11, ex11, hF⟩ := am_bind hF
            refine am_iald (pc' := 62) dX3_learn_61 ex11 rfl ?_
            refine am_iconst (v := (1 : Int32)) (pc' := 63) dX3_learn_62 rfl rfl ?_
            refine am_iadd (pc' := 64) dX3_learn_63 rfl ?_
            obtain ⟨h12, eh12, hF⟩ := am_bind hF
            refine am_iast (pc' := 65) dX3_learn_64 eh12 rfl ?_
            exact am_weak [true, true, true, true, false] (w_X3_learn_65 (w_X3_learn_10 n) v0 v1 v2 v3 h12 hF)
      · refine am_icmp_ne_t (pc' := 65) dX3_learn_36 rfl z5 ?_
        exact am_weak [true, true, true, true, false] (w_X3_learn_65 (w_X3_learn_10 n) v0 v1 v2 v3 h hF)
def F_X3_learn_b (v0 : Nat) (v1 : Nat) (v2 : Int32) (h : am_H) : Option am_H :=
  (am_gr 3 0 v0 h).bind fun x1 =>
  (F_J7_fill_53178 x1 (1 : Int32) h).bind fun h2 =>
  F_X3_learn_10 am_F v0 v1 v2 (1 : Int32) h2
theorem w_X3_learn {g : am_G} {l : Launch} {h0 : am_H} {hf : am_H}  (v0 : Nat) (v1 : Nat) (v2 : Int32) (h : am_H) (hF : F_X3_learn_b v0 v1 v2 h = some hf) : am_W g l M_X3_learn h0 none hf 0 [some (.ref v0), some (.ref v1), some (.int v2), none, none] [] h := by
  unfold F_X3_learn_b at hF
  refine am_aload_n (pc' := 1) dX3_learn_0 rfl rfl ?_
  obtain ⟨x1, ex1, hF⟩ := am_bind hF
  refine am_getr (pc' := 4) dX3_learn_1 fw_X3_9 ex1 rfl ?_
  refine am_iconst (v := (1 : Int32)) (pc' := 5) dX3_learn_4 rfl rfl ?_
  obtain ⟨h2, eh2, hF⟩ := am_bind hF
  refine am_callS0 (Mc := M_J7_fill_53178) (As := [.ref x1, .int (1 : Int32)]) (st := []) (pc' := 8) dX3_learn_5 cw_X3_59 wd_3_15 (by decide) (by decide) rfl rfl (Nat.le_of_ble_eq_true rfl) (c_J7_fill_53178 eh2) rfl ?_
  refine am_iconst (v := (1 : Int32)) (pc' := 9) dX3_learn_8 rfl rfl ?_
  refine am_istore_n (ls' := [some (.ref v0), some (.ref v1), some (.int v2), some (.int (1 : Int32)), none]) (pc' := 10) dX3_learn_9 (Nat.le_of_ble_eq_true rfl) rfl rfl ?_
  exact w_X3_learn_10 am_F v0 v1 v2 (1 : Int32) h2 hF
def F_X3_learn (v0 : Nat) (v1 : Nat) (v2 : Int32) (h : am_H) : Option am_H := (am_obj v0 3 h).bind fun _ => F_X3_learn_b v0 v1 v2 h
theorem t_X3_learn {hf : am_H}  {v0 : Nat} {v1 : Nat} {v2 : Int32} {h : am_H} (hF : F_X3_learn v0 v1 v2 h = some hf) : ∃ fs, am_obj v0 3 h = some fs := by
  obtain ⟨fs, e, _⟩ := am_bind hF
  exact ⟨fs, e⟩
theorem c_X3_learn {g : am_G} {l : Launch} {hf : am_H}  {v0 : Nat} {v1 : Nat} {v2 : Int32} {h : am_H} (hF : F_X3_learn v0 v1 v2 h = some hf) : am_Met g l M_X3_learn [.ref v0, .ref v1, .int v2] h none hf := by
  obtain ⟨fs, e0, e⟩ := am_bind hF
  exact am_met (n := 2) (by decide +kernel) rfl (Nat.le_of_ble_eq_true rfl) (w_X3_learn v0 v1 v2 h e)
