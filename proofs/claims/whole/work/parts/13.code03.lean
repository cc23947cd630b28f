abbrev M_X8_versionOf : am_M := ((⟨"SignCellar", "versionOf", "(I)LSignCellar$Version;"⟩ : MethodName), prog_1_method_33_code, 2, (some (.object "SignCellar$Version")), 0, 0)
theorem dX8_versionOf_0 : decode prog_1_method_33_code 0 = .ok (.iload_n 1, 1) := by decide +kernel
theorem dX8_versionOf_1 : decode prog_1_method_33_code 1 = .ok (.ifCond .lt 29, 3) := by decide +kernel
theorem dX8_versionOf_4 : decode prog_1_method_33_code 4 = .ok (.iload_n 1, 1) := by decide +kernel
theorem dX8_versionOf_5 : decode prog_1_method_33_code 5 = .ok (.aload_n 0, 1) := by decide +kernel
theorem dX8_versionOf_6 : decode prog_1_method_33_code 6 = .ok (.getfield 37, 3) := by decide +kernel
theorem dX8_versionOf_9 : decode prog_1_method_33_code 9 = .ok (.if_icmp .ge 21, 3) := by decide +kernel
theorem dX8_versionOf_12 : decode prog_1_method_33_code 12 = .ok (.iload_n 1, 1) := by decide +kernel
theorem dX8_versionOf_13 : decode prog_1_method_33_code 13 = .ok (.aload_n 0, 1) := by decide +kernel
theorem dX8_versionOf_14 : decode prog_1_method_33_code 14 = .ok (.getfield 33, 3) := by decide +kernel
theorem dX8_versionOf_17 : decode prog_1_method_33_code 17 = .ok (.arraylength, 1) := by decide +kernel
theorem dX8_versionOf_18 : decode prog_1_method_33_code 18 = .ok (.if_icmp .ge 12, 3) := by decide +kernel
theorem dX8_versionOf_21 : decode prog_1_method_33_code 21 = .ok (.aload_n 0, 1) := by decide +kernel
theorem dX8_versionOf_22 : decode prog_1_method_33_code 22 = .ok (.getfield 33, 3) := by decide +kernel
theorem dX8_versionOf_25 : decode prog_1_method_33_code 25 = .ok (.iload_n 1, 1) := by decide +kernel
theorem dX8_versionOf_26 : decode prog_1_method_33_code 26 = .ok (.aaload, 1) := by decide +kernel
theorem dX8_versionOf_27 : decode prog_1_method_33_code 27 = .ok (.goto 4, 3) := by decide +kernel
theorem dX8_versionOf_30 : decode prog_1_method_33_code 30 = .ok (.aconst_null, 1) := by decide +kernel
theorem dX8_versionOf_31 : decode prog_1_method_33_code 31 = .ok (.areturn, 1) := by decide +kernel
abbrev M_X8_isSign : am_M := ((⟨"SignCellar", "isSign", "(I)Z"⟩ : MethodName), prog_1_method_31_code, 1, (some .boolean), 0, 0)
theorem dX8_isSign_0 : decode prog_1_method_31_code 0 = .ok (.iload_n 0, 1) := by decide +kernel
theorem dX8_isSign_1 : decode prog_1_method_31_code 1 = .ok (.ifCond .lt 13, 3) := by decide +kernel
theorem dX8_isSign_4 : decode prog_1_method_31_code 4 = .ok (.iload_n 0, 1) := by decide +kernel
theorem dX8_isSign_5 : decode prog_1_method_31_code 5 = .ok (.bipush 16, 2) := by decide +kernel
theorem dX8_isSign_7 : decode prog_1_method_31_code 7 = .ok (.if_icmp .ge 7, 3) := by decide +kernel
theorem dX8_isSign_10 : decode prog_1_method_31_code 10 = .ok (.iconst 1, 1) := by decide +kernel
theorem dX8_isSign_11 : decode prog_1_method_31_code 11 = .ok (.goto 4, 3) := by decide +kernel
theorem dX8_isSign_14 : decode prog_1_method_31_code 14 = .ok (.iconst 0, 1) := by decide +kernel
theorem dX8_isSign_15 : decode prog_1_method_31_code 15 = .ok (.ireturn, 1) := by decide +kernel
abbrev M_X8_isTornIn : am_M := ((⟨"SignCellar", "isTornIn", "(LSignCellar$Version;I)Z"⟩ : MethodName), prog_1_method_37_code, 4, (some .boolean), 1, 21)
theorem dX8_isTornIn_0 : decode prog_1_method_37_code 0 = .ok (.aload_n 0, 1) := by decide +kernel
theorem dX8_isTornIn_1 : decode prog_1_method_37_code 1 = .ok (.aload_n 1, 1) := by decide +kernel
theorem dX8_isTornIn_2 : decode prog_1_method_37_code 2 = .ok (.getfield 148, 3) := by decide +kernel
theorem dX8_isTornIn_5 : decode prog_1_method_37_code 5 = .ok (.iload_n 2, 1) := by decide +kernel
theorem dX8_isTornIn_6 : decode prog_1_method_37_code 6 = .ok (.invokevirtual 161, 3) := by decide +kernel
theorem dX8_isTornIn_9 : decode prog_1_method_37_code 9 = .ok (.invokevirtual 176, 3) := by decide +kernel
theorem dX8_isTornIn_12 : decode prog_1_method_37_code 12 = .ok (.astore_n 3, 1) := by decide +kernel
theorem dX8_isTornIn_13 : decode prog_1_method_37_code 13 = .ok (.aload_n 3, 1) := by decide +kernel
theorem dX8_isTornIn_14 : decode prog_1_method_37_code 14 = .ok (.ifnull 14, 3) := by decide +kernel
theorem dX8_isTornIn_17 : decode prog_1_method_37_code 17 = .ok (.aload_n 3, 1) := by decide +kernel
theorem dX8_isTornIn_18 : decode prog_1_method_37_code 18 = .ok (.getfield 182, 3) := by decide +kernel
theorem dX8_isTornIn_21 : decode prog_1_method_37_code 21 = .ok (.ifCond .eq 7, 3) := by decide +kernel
theorem dX8_isTornIn_24 : decode prog_1_method_37_code 24 = .ok (.iconst 1, 1) := by decide +kernel
theorem dX8_isTornIn_25 : decode prog_1_method_37_code 25 = .ok (.goto 4, 3) := by decide +kernel
theorem dX8_isTornIn_28 : decode prog_1_method_37_code 28 = .ok (.iconst 0, 1) := by decide +kernel
theorem dX8_isTornIn_29 : decode prog_1_method_37_code 29 = .ok (.ireturn, 1) := by decide +kernel
abbrev M_X8_tornBlocks : am_M := ((⟨"SignCellar", "tornBlocks", "(LSignCellar$Version;)I"⟩ : MethodName), prog_1_method_39_code, 4, (some .int), 2, 44)
theorem dX8_tornBlocks_0 : decode prog_1_method_39_code 0 = .ok (.iconst 0, 1) := by decide +kernel
theorem dX8_tornBlocks_1 : decode prog_1_method_39_code 1 = .ok (.istore_n 2, 1) := by decide +kernel
theorem dX8_tornBlocks_2 : decode prog_1_method_39_code 2 = .ok (.iconst 0, 1) := by decide +kernel
theorem dX8_tornBlocks_3 : decode prog_1_method_39_code 3 = .ok (.istore_n 3, 1) := by decide +kernel
theorem dX8_tornBlocks_4 : decode prog_1_method_39_code 4 = .ok (.iload_n 3, 1) := by decide +kernel
theorem dX8_tornBlocks_5 : decode prog_1_method_39_code 5 = .ok (.aload_n 1, 1) := by decide +kernel
theorem dX8_tornBlocks_6 : decode prog_1_method_39_code 6 = .ok (.getfield 148, 3) := by decide +kernel
theorem dX8_tornBlocks_9 : decode prog_1_method_39_code 9 = .ok (.invokevirtual 93, 3) := by decide +kernel
theorem dX8_tornBlocks_12 : decode prog_1_method_39_code 12 = .ok (.if_icmp .ge 21, 3) := by decide +kernel
theorem dX8_tornBlocks_15 : decode prog_1_method_39_code 15 = .ok (.aload_n 0, 1) := by decide +kernel
theorem dX8_tornBlocks_16 : decode prog_1_method_39_code 16 = .ok (.aload_n 1, 1) := by decide +kernel
theorem dX8_tornBlocks_17 : decode prog_1_method_39_code 17 = .ok (.iload_n 3, 1) := by decide +kernel
theorem dX8_tornBlocks_18 : decode prog_1_method_39_code 18 = .ok (.invokevirtual 164, 3) := by decide +kernel
theorem dX8_tornBlocks_21 : decode prog_1_method_39_code 21 = .ok (.ifCond .eq 6, 3) := by decide +kernel
theorem dX8_tornBlocks_24 : decode prog_1_method_39_code 24 = .ok (.iinc 2 1, 3) := by decide +kernel
theorem dX8_tornBlocks_27 : decode prog_1_method_39_code 27 = .ok (.iinc 3 1, 3) := by decide +kernel
theorem dX8_tornBlocks_30 : decode prog_1_method_39_code 30 = .ok (.goto (-26), 3) := by decide +kernel
theorem dX8_tornBlocks_33 : decode prog_1_method_39_code 33 = .ok (.iload_n 2, 1) := by decide +kernel
theorem dX8_tornBlocks_34 : decode prog_1_method_39_code 34 = .ok (.ireturn, 1) := by decide +kernel
abbrev M_X8_indexAt : am_M := ((⟨"SignCellar", "indexAt", "(LSignCellar$Version;I)I"⟩ : MethodName), prog_1_method_34_code, 5, (some .int), 2, 44)
theorem dX8_indexAt_0 : decode prog_1_method_34_code 0 = .ok (.iconst 0, 1) := by decide +kernel
theorem dX8_indexAt_1 : decode prog_1_method_34_code 1 = .ok (.istore_n 3, 1) := by decide +kernel
theorem dX8_indexAt_2 : decode prog_1_method_34_code 2 = .ok (.iconst 0, 1) := by decide +kernel
theorem dX8_indexAt_3 : decode prog_1_method_34_code 3 = .ok (.istore 4, 2) := by decide +kernel
theorem dX8_indexAt_5 : decode prog_1_method_34_code 5 = .ok (.iload 4, 2) := by decide +kernel
theorem dX8_indexAt_7 : decode prog_1_method_34_code 7 = .ok (.aload_n 1, 1) := by decide +kernel
theorem dX8_indexAt_8 : decode prog_1_method_34_code 8 = .ok (.getfield 148, 3) := by decide +kernel
theorem dX8_indexAt_11 : decode prog_1_method_34_code 11 = .ok (.invokevirtual 93, 3) := by decide +kernel
theorem dX8_indexAt_14 : decode prog_1_method_34_code 14 = .ok (.if_icmp .ge 27, 3) := by decide +kernel
theorem dX8_indexAt_17 : decode prog_1_method_34_code 17 = .ok (.iload_n 3, 1) := by decide +kernel
theorem dX8_indexAt_18 : decode prog_1_method_34_code 18 = .ok (.aload_n 0, 1) := by decide +kernel
theorem dX8_indexAt_19 : decode prog_1_method_34_code 19 = .ok (.aload_n 1, 1) := by decide +kernel
theorem dX8_indexAt_20 : decode prog_1_method_34_code 20 = .ok (.iload 4, 2) := by decide +kernel
theorem dX8_indexAt_22 : decode prog_1_method_34_code 22 = .ok (.invokevirtual 145, 3) := by decide +kernel
theorem dX8_indexAt_25 : decode prog_1_method_34_code 25 = .ok (.iadd, 1) := by decide +kernel
theorem dX8_indexAt_26 : decode prog_1_method_34_code 26 = .ok (.istore_n 3, 1) := by decide +kernel
theorem dX8_indexAt_27 : decode prog_1_method_34_code 27 = .ok (.iload_n 2, 1) := by decide +kernel
theorem dX8_indexAt_28 : decode prog_1_method_34_code 28 = .ok (.iload_n 3, 1) := by decide +kernel
theorem dX8_indexAt_29 : decode prog_1_method_34_code 29 = .ok (.if_icmp .ge 6, 3) := by decide +kernel
theorem dX8_indexAt_32 : decode prog_1_method_34_code 32 = .ok (.iload 4, 2) := by decide +kernel
theorem dX8_indexAt_34 : decode prog_1_method_34_code 34 = .ok (.ireturn, 1) := by decide +kernel
theorem dX8_indexAt_35 : decode prog_1_method_34_code 35 = .ok (.iinc 4 1, 3) := by decide +kernel
theorem dX8_indexAt_38 : decode prog_1_method_34_code 38 = .ok (.goto (-33), 3) := by decide +kernel
theorem dX8_indexAt_41 : decode prog_1_method_34_code 41 = .ok (.iconst 0, 1) := by decide +kernel
theorem dX8_indexAt_42 : decode prog_1_method_34_code 42 = .ok (.aload_n 1, 1) := by decide +kernel
theorem dX8_indexAt_43 : decode prog_1_method_34_code 43 = .ok (.getfield 148, 3) := by decide +kernel
theorem dX8_indexAt_46 : decode prog_1_method_34_code 46 = .ok (.invokevirtual 93, 3) := by decide +kernel
theorem dX8_indexAt_49 : decode prog_1_method_34_code 49 = .ok (.iconst 1, 1) := by decide +kernel
theorem dX8_indexAt_50 : decode prog_1_method_34_code 50 = .ok (.isub, 1) := by decide +kernel
theorem dX8_indexAt_51 : decode prog_1_method_34_code 51 = .ok (.invokestatic 328, 3) := by decide +kernel
theorem dX8_indexAt_54 : decode prog_1_method_34_code 54 = .ok (.ireturn, 1) := by decide +kernel
abbrev M_X8_startOf : am_M := ((⟨"SignCellar", "startOf", "(LSignCellar$Version;I)I"⟩ : MethodName), prog_1_method_35_code, 5, (some .int), 2, 44)
theorem dX8_startOf_0 : decode prog_1_method_35_code 0 = .ok (.iconst 0, 1) := by decide +kernel
theorem dX8_startOf_1 : decode prog_1_method_35_code 1 = .ok (.istore_n 3, 1) := by decide +kernel
theorem dX8_startOf_2 : decode prog_1_method_35_code 2 = .ok (.iconst 0, 1) := by decide +kernel
theorem dX8_startOf_3 : decode prog_1_method_35_code 3 = .ok (.istore 4, 2) := by decide +kernel
theorem dX8_startOf_5 : decode prog_1_method_35_code 5 = .ok (.iload 4, 2) := by decide +kernel
theorem dX8_startOf_7 : decode prog_1_method_35_code 7 = .ok (.iload_n 2, 1) := by decide +kernel
theorem dX8_startOf_8 : decode prog_1_method_35_code 8 = .ok (.if_icmp .ge 31, 3) := by decide +kernel
theorem dX8_startOf_11 : decode prog_1_method_35_code 11 = .ok (.iload 4, 2) := by decide +kernel
theorem dX8_startOf_13 : decode prog_1_method_35_code 13 = .ok (.aload_n 1, 1) := by decide +kernel
theorem dX8_startOf_14 : decode prog_1_method_35_code 14 = .ok (.getfield 148, 3) := by decide +kernel
theorem dX8_startOf_17 : decode prog_1_method_35_code 17 = .ok (.invokevirtual 93, 3) := by decide +kernel
theorem dX8_startOf_20 : decode prog_1_method_35_code 20 = .ok (.if_icmp .ge 19, 3) := by decide +kernel
theorem dX8_startOf_23 : decode prog_1_method_35_code 23 = .ok (.iload_n 3, 1) := by decide +kernel
theorem dX8_startOf_24 : decode prog_1_method_35_code 24 = .ok (.aload_n 0, 1) := by decide +kernel
theorem dX8_startOf_25 : decode prog_1_method_35_code 25 = .ok (.aload_n 1, 1) := by decide +kernel
theorem dX8_startOf_26 : decode prog_1_method_35_code 26 = .ok (.iload 4, 2) := by decide +kernel
theorem dX8_startOf_28 : decode prog_1_method_35_code 28 = .ok (.invokevirtual 145, 3) := by decide +kernel
theorem dX8_startOf_31 : decode prog_1_method_35_code 31 = .ok (.iadd, 1) := by decide +kernel
theorem dX8_startOf_32 : decode prog_1_method_35_code 32 = .ok (.istore_n 3, 1) := by decide +kernel
theorem dX8_startOf_33 : decode prog_1_method_35_code 33 = .ok (.iinc 4 1, 3) := by decide +kernel
theorem dX8_startOf_36 : decode prog_1_method_35_code 36 = .ok (.goto (-31), 3) := by decide +kernel
theorem dX8_startOf_39 : decode prog_1_method_35_code 39 = .ok (.iload_n 3, 1) := by decide +kernel
theorem dX8_startOf_40 : decode prog_1_method_35_code 40 = .ok (.ireturn, 1) := by decide +kernel
abbrev M_X8_spell : am_M := ((⟨"SignCellar", "spell", "(LSignCellar$Version;IIII)V"⟩ : MethodName), prog_1_method_47_code, 7, none, 2, 45)
theorem dX8_spell_0 : decode prog_1_method_47_code 0 = .ok (.aload_n 0, 1) := by decide +kernel
theorem dX8_spell_1 : decode prog_1_method_47_code 1 = .ok (.aload_n 1, 1) := by decide +kernel
theorem dX8_spell_2 : decode prog_1_method_47_code 2 = .ok (.getfield 148, 3) := by decide +kernel
theorem dX8_spell_5 : decode prog_1_method_47_code 5 = .ok (.iload_n 2, 1) := by decide +kernel
theorem dX8_spell_6 : decode prog_1_method_47_code 6 = .ok (.invokevirtual 161, 3) := by decide +kernel
theorem dX8_spell_9 : decode prog_1_method_47_code 9 = .ok (.invokevirtual 176, 3) := by decide +kernel
theorem dX8_spell_12 : decode prog_1_method_47_code 12 = .ok (.astore 6, 2) := by decide +kernel
theorem dX8_spell_14 : decode prog_1_method_47_code 14 = .ok (.aload_n 0, 1) := by decide +kernel
theorem dX8_spell_15 : decode prog_1_method_47_code 15 = .ok (.getfield 46, 3) := by decide +kernel
theorem dX8_spell_18 : decode prog_1_method_47_code 18 = .ok (.invokevirtual 119, 3) := by decide +kernel
theorem dX8_spell_21 : decode prog_1_method_47_code 21 = .ok (.aload 6, 2) := by decide +kernel
theorem dX8_spell_23 : decode prog_1_method_47_code 23 = .ok (.ifnull 17, 3) := by decide +kernel
theorem dX8_spell_26 : decode prog_1_method_47_code 26 = .ok (.aload_n 0, 1) := by decide +kernel
theorem dX8_spell_27 : decode prog_1_method_47_code 27 = .ok (.getfield 46, 3) := by decide +kernel
theorem dX8_spell_30 : decode prog_1_method_47_code 30 = .ok (.aload 6, 2) := by decide +kernel
theorem dX8_spell_32 : decode prog_1_method_47_code 32 = .ok (.getfield 180, 3) := by decide +kernel
theorem dX8_spell_35 : decode prog_1_method_47_code 35 = .ok (.iconst 0, 1) := by decide +kernel
theorem dX8_spell_36 : decode prog_1_method_47_code 36 = .ok (.iload_n 3, 1) := by decide +kernel
theorem dX8_spell_37 : decode prog_1_method_47_code 37 = .ok (.invokevirtual 335, 3) := by decide +kernel
theorem dX8_spell_40 : decode prog_1_method_47_code 40 = .ok (.iload 4, 2) := by decide +kernel
theorem dX8_spell_42 : decode prog_1_method_47_code 42 = .ok (.iconst (-1), 1) := by decide +kernel
theorem dX8_spell_43 : decode prog_1_method_47_code 43 = .ok (.if_icmp .eq 12, 3) := by decide +kernel
theorem dX8_spell_46 : decode prog_1_method_47_code 46 = .ok (.aload_n 0, 1) := by decide +kernel
theorem dX8_spell_47 : decode prog_1_method_47_code 47 = .ok (.getfield 46, 3) := by decide +kernel
theorem dX8_spell_50 : decode prog_1_method_47_code 50 = .ok (.iload 4, 2) := by decide +kernel
theorem dX8_spell_52 : decode prog_1_method_47_code 52 = .ok (.invokevirtual 98, 3) := by decide +kernel
theorem dX8_spell_55 : decode prog_1_method_47_code 55 = .ok (.aload 6, 2) := by decide +kernel
theorem dX8_spell_57 : decode prog_1_method_47_code 57 = .ok (.ifnull 27, 3) := by decide +kernel
theorem dX8_spell_60 : decode prog_1_method_47_code 60 = .ok (.aload_n 0, 1) := by decide +kernel
theorem dX8_spell_61 : decode prog_1_method_47_code 61 = .ok (.getfield 46, 3) := by decide +kernel
theorem dX8_spell_64 : decode prog_1_method_47_code 64 = .ok (.aload 6, 2) := by decide +kernel
theorem dX8_spell_66 : decode prog_1_method_47_code 66 = .ok (.getfield 180, 3) := by decide +kernel
theorem dX8_spell_69 : decode prog_1_method_47_code 69 = .ok (.iload_n 3, 1) := by decide +kernel
theorem dX8_spell_70 : decode prog_1_method_47_code 70 = .ok (.iload 5, 2) := by decide +kernel
theorem dX8_spell_72 : decode prog_1_method_47_code 72 = .ok (.iadd, 1) := by decide +kernel
theorem dX8_spell_73 : decode prog_1_method_47_code 73 = .ok (.aload 6, 2) := by decide +kernel
theorem dX8_spell_75 : decode prog_1_method_47_code 75 = .ok (.getfield 180, 3) := by decide +kernel
theorem dX8_spell_78 : decode prog_1_method_47_code 78 = .ok (.invokevirtual 93, 3) := by decide +kernel
theorem dX8_spell_81 : decode prog_1_method_47_code 81 = .ok (.invokevirtual 335, 3) := by decide +kernel
theorem dX8_spell_84 : decode prog_1_method_47_code 84 = .ok (.return_, 1) := by decide +kernel
abbrev M_X8_planSpelled : am_M := ((⟨"SignCellar", "planSpelled", "()V"⟩ : MethodName), prog_1_method_49_code, 3, none, 4, 94)
theorem dX8_planSpelled_0 : decode prog_1_method_49_code 0 = .ok (.aload_n 0, 1) := by decide +kernel
theorem dX8_planSpelled_1 : decode prog_1_method_49_code 1 = .ok (.getfield 46, 3) := by decide +kernel
theorem dX8_planSpelled_4 : decode prog_1_method_49_code 4 = .ok (.invokevirtual 93, 3) := by decide +kernel
theorem dX8_planSpelled_7 : decode prog_1_method_49_code 7 = .ok (.istore_n 1, 1) := by decide +kernel
theorem dX8_planSpelled_8 : decode prog_1_method_49_code 8 = .ok (.iload_n 1, 1) := by decide +kernel
theorem dX8_planSpelled_9 : decode prog_1_method_49_code 9 = .ok (.bipush 24, 2) := by decide +kernel
theorem dX8_planSpelled_11 : decode prog_1_method_49_code 11 = .ok (.if_icmp .le 8, 3) := by decide +kernel
theorem dX8_planSpelled_14 : decode prog_1_method_49_code 14 = .ok (.bipush 12, 2) := by decide +kernel
theorem dX8_planSpelled_16 : decode prog_1_method_49_code 16 = .ok (.goto 4, 3) := by decide +kernel
theorem dX8_planSpelled_19 : decode prog_1_method_49_code 19 = .ok (.iload_n 1, 1) := by decide +kernel
theorem dX8_planSpelled_20 : decode prog_1_method_49_code 20 = .ok (.istore_n 2, 1) := by decide +kernel
theorem dX8_planSpelled_21 : decode prog_1_method_49_code 21 = .ok (.aload_n 0, 1) := by decide +kernel
theorem dX8_planSpelled_22 : decode prog_1_method_49_code 22 = .ok (.aload_n 0, 1) := by decide +kernel
theorem dX8_planSpelled_23 : decode prog_1_method_49_code 23 = .ok (.getfield 46, 3) := by decide +kernel
theorem dX8_planSpelled_26 : decode prog_1_method_49_code 26 = .ok (.iconst 0, 1) := by decide +kernel
theorem dX8_planSpelled_27 : decode prog_1_method_49_code 27 = .ok (.iload_n 2, 1) := by decide +kernel
theorem dX8_planSpelled_28 : decode prog_1_method_49_code 28 = .ok (.invokevirtual 115, 3) := by decide +kernel
theorem dX8_planSpelled_31 : decode prog_1_method_49_code 31 = .ok (.aload_n 0, 1) := by decide +kernel
theorem dX8_planSpelled_32 : decode prog_1_method_49_code 32 = .ok (.aload_n 0, 1) := by decide +kernel
theorem dX8_planSpelled_33 : decode prog_1_method_49_code 33 = .ok (.getfield 46, 3) := by decide +kernel
theorem dX8_planSpelled_36 : decode prog_1_method_49_code 36 = .ok (.iload_n 2, 1) := by decide +kernel
theorem dX8_planSpelled_37 : decode prog_1_method_49_code 37 = .ok (.iload_n 1, 1) := by decide +kernel
theorem dX8_planSpelled_38 : decode prog_1_method_49_code 38 = .ok (.invokevirtual 115, 3) := by decide +kernel
theorem dX8_planSpelled_41 : decode prog_1_method_49_code 41 = .ok (.return_, 1) := by decide +kernel
abbrev M_X8_edited : am_M := ((⟨"SignCellar", "edited", "(IIII)I"⟩ : MethodName), prog_1_method_46_code, 7, (some .int), 5, 119)
theorem dX8_edited_0 : decode prog_1_method_46_code 0 = .ok (.aload_n 0, 1) := by decide +kernel
theorem dX8_edited_1 : decode prog_1_method_46_code 1 = .ok (.iload_n 1, 1) := by decide +kernel
theorem dX8_edited_2 : decode prog_1_method_46_code 2 = .ok (.invokevirtual 126, 3) := by decide +kernel
theorem dX8_edited_5 : decode prog_1_method_46_code 5 = .ok (.astore 5, 2) := by decide +kernel
theorem dX8_edited_7 : decode prog_1_method_46_code 7 = .ok (.aload 5, 2) := by decide +kernel
theorem dX8_edited_9 : decode prog_1_method_46_code 9 = .ok (.ifnonnull 6, 3) := by decide +kernel
theorem dX8_edited_12 : decode prog_1_method_46_code 12 = .ok (.ldc 133, 2) := by decide +kernel
theorem dX8_edited_14 : decode prog_1_method_46_code 14 = .ok (.ireturn, 1) := by decide +kernel
theorem dX8_edited_15 : decode prog_1_method_46_code 15 = .ok (.aload_n 0, 1) := by decide +kernel
theorem dX8_edited_16 : decode prog_1_method_46_code 16 = .ok (.aload 5, 2) := by decide +kernel
theorem dX8_edited_18 : decode prog_1_method_46_code 18 = .ok (.invokevirtual 157, 3) := by decide +kernel
theorem dX8_edited_21 : decode prog_1_method_46_code 21 = .ok (.ifCond .le 6, 3) := by decide +kernel
theorem dX8_edited_24 : decode prog_1_method_46_code 24 = .ok (.ldc 168, 2) := by decide +kernel
theorem dX8_edited_26 : decode prog_1_method_46_code 26 = .ok (.ireturn, 1) := by decide +kernel
theorem dX8_edited_27 : decode prog_1_method_46_code 27 = .ok (.aload_n 0, 1) := by decide +kernel
theorem dX8_edited_28 : decode prog_1_method_46_code 28 = .ok (.aload 5, 2) := by decide +kernel
theorem dX8_edited_30 : decode prog_1_method_46_code 30 = .ok (.iload_n 2, 1) := by decide +kernel
theorem dX8_edited_31 : decode prog_1_method_46_code 31 = .ok (.invokevirtual 141, 3) := by decide +kernel
theorem dX8_edited_34 : decode prog_1_method_46_code 34 = .ok (.istore 6, 2) := by decide +kernel
theorem dX8_edited_36 : decode prog_1_method_46_code 36 = .ok (.aload_n 0, 1) := by decide +kernel
theorem dX8_edited_37 : decode prog_1_method_46_code 37 = .ok (.aload 5, 2) := by decide +kernel
theorem dX8_edited_39 : decode prog_1_method_46_code 39 = .ok (.iload 6, 2) := by decide +kernel
theorem dX8_edited_41 : decode prog_1_method_46_code 41 = .ok (.iload_n 2, 1) := by decide +kernel
theorem dX8_edited_42 : decode prog_1_method_46_code 42 = .ok (.aload_n 0, 1) := by decide +kernel
theorem dX8_edited_43 : decode prog_1_method_46_code 43 = .ok (.aload 5, 2) := by decide +kernel
theorem dX8_edited_45 : decode prog_1_method_46_code 45 = .ok (.iload 6, 2) := by decide +kernel
theorem dX8_edited_47 : decode prog_1_method_46_code 47 = .ok (.invokevirtual 169, 3) := by decide +kernel
theorem dX8_edited_50 : decode prog_1_method_46_code 50 = .ok (.isub, 1) := by decide +kernel
theorem dX8_edited_51 : decode prog_1_method_46_code 51 = .ok (.iload_n 3, 1) := by decide +kernel
theorem dX8_edited_52 : decode prog_1_method_46_code 52 = .ok (.iload 4, 2) := by decide +kernel
theorem dX8_edited_54 : decode prog_1_method_46_code 54 = .ok (.invokevirtual 331, 3) := by decide +kernel
theorem dX8_edited_57 : decode prog_1_method_46_code 57 = .ok (.aload_n 0, 1) := by decide +kernel
theorem dX8_edited_58 : decode prog_1_method_46_code 58 = .ok (.invokevirtual 106, 3) := by decide +kernel
theorem dX8_edited_61 : decode prog_1_method_46_code 61 = .ok (.aload_n 0, 1) := by decide +kernel
theorem dX8_edited_62 : decode prog_1_method_46_code 62 = .ok (.getfield 40, 3) := by decide +kernel
theorem dX8_edited_65 : decode prog_1_method_46_code 65 = .ok (.aload 5, 2) := by decide +kernel
theorem dX8_edited_67 : decode prog_1_method_46_code 67 = .ok (.getfield 148, 3) := by decide +kernel
theorem dX8_edited_70 : decode prog_1_method_46_code 70 = .ok (.iconst 0, 1) := by decide +kernel
theorem dX8_edited_71 : decode prog_1_method_46_code 71 = .ok (.iload 6, 2) := by decide +kernel
theorem dX8_edited_73 : decode prog_1_method_46_code 73 = .ok (.invokevirtual 335, 3) := by decide +kernel
theorem dX8_edited_76 : decode prog_1_method_46_code 76 = .ok (.aload_n 0, 1) := by decide +kernel
theorem dX8_edited_77 : decode prog_1_method_46_code 77 = .ok (.invokevirtual 338, 3) := by decide +kernel
theorem dX8_edited_80 : decode prog_1_method_46_code 80 = .ok (.aload_n 0, 1) := by decide +kernel
theorem dX8_edited_81 : decode prog_1_method_46_code 81 = .ok (.getfield 40, 3) := by decide +kernel
theorem dX8_edited_84 : decode prog_1_method_46_code 84 = .ok (.aload 5, 2) := by decide +kernel
theorem dX8_edited_86 : decode prog_1_method_46_code 86 = .ok (.getfield 148, 3) := by decide +kernel
theorem dX8_edited_89 : decode prog_1_method_46_code 89 = .ok (.iload 6, 2) := by decide +kernel
theorem dX8_edited_91 : decode prog_1_method_46_code 91 = .ok (.iconst 1, 1) := by decide +kernel
theorem dX8_edited_92 : decode prog_1_method_46_code 92 = .ok (.iadd, 1) := by decide +kernel
theorem dX8_edited_93 : decode prog_1_method_46_code 93 = .ok (.aload 5, 2) := by decide +kernel
theorem dX8_edited_95 : decode prog_1_method_46_code 95 = .ok (.getfield 148, 3) := by decide +kernel
theorem dX8_edited_98 : decode prog_1_method_46_code 98 = .ok (.invokevirtual 93, 3) := by decide +kernel
theorem dX8_edited_101 : decode prog_1_method_46_code 101 = .ok (.invokevirtual 335, 3) := by decide +kernel
theorem dX8_edited_104 : decode prog_1_method_46_code 104 = .ok (.aload_n 0, 1) := by decide +kernel
theorem dX8_edited_105 : decode prog_1_method_46_code 105 = .ok (.iload_n 1, 1) := by decide +kernel
theorem dX8_edited_106 : decode prog_1_method_46_code 106 = .ok (.invokevirtual 122, 3) := by decide +kernel
theorem dX8_edited_109 : decode prog_1_method_46_code 109 = .ok (.ireturn, 1) := by decide +kernel
abbrev M_X8_change : am_M := ((⟨"SignCellar", "change", "(III)I"⟩ : MethodName), prog_1_method_4_code, 5, (some .int), 6, 145)
theorem dX8_change_0 : decode prog_1_method_4_code 0 = .ok (.aload_n 0, 1) := by decide +kernel
theorem dX8_change_1 : decode prog_1_method_4_code 1 = .ok (.iload_n 1, 1) := by decide +kernel
theorem dX8_change_2 : decode prog_1_method_4_code 2 = .ok (.invokevirtual 126, 3) := by decide +kernel
theorem dX8_change_5 : decode prog_1_method_4_code 5 = .ok (.astore 4, 2) := by decide +kernel
theorem dX8_change_7 : decode prog_1_method_4_code 7 = .ok (.aload 4, 2) := by decide +kernel
theorem dX8_change_9 : decode prog_1_method_4_code 9 = .ok (.ifnull 16, 3) := by decide +kernel
theorem dX8_change_12 : decode prog_1_method_4_code 12 = .ok (.iload_n 2, 1) := by decide +kernel
theorem dX8_change_13 : decode prog_1_method_4_code 13 = .ok (.ifCond .lt 12, 3) := by decide +kernel
theorem dX8_change_16 : decode prog_1_method_4_code 16 = .ok (.iload_n 2, 1) := by decide +kernel
theorem dX8_change_17 : decode prog_1_method_4_code 17 = .ok (.aload 4, 2) := by decide +kernel
theorem dX8_change_19 : decode prog_1_method_4_code 19 = .ok (.getfield 130, 3) := by decide +kernel
theorem dX8_change_22 : decode prog_1_method_4_code 22 = .ok (.if_icmp .lt 6, 3) := by decide +kernel
theorem dX8_change_25 : decode prog_1_method_4_code 25 = .ok (.ldc 133, 2) := by decide +kernel
theorem dX8_change_27 : decode prog_1_method_4_code 27 = .ok (.ireturn, 1) := by decide +kernel
theorem dX8_change_28 : decode prog_1_method_4_code 28 = .ok (.iload_n 3, 1) := by decide +kernel
theorem dX8_change_29 : decode prog_1_method_4_code 29 = .ok (.invokestatic 134, 3) := by decide +kernel
theorem dX8_change_32 : decode prog_1_method_4_code 32 = .ok (.ifCond .ne 6, 3) := by decide +kernel
theorem dX8_change_35 : decode prog_1_method_4_code 35 = .ok (.ldc 92, 2) := by decide +kernel
theorem dX8_change_37 : decode prog_1_method_4_code 37 = .ok (.ireturn, 1) := by decide +kernel
theorem dX8_change_38 : decode prog_1_method_4_code 38 = .ok (.aload_n 0, 1) := by decide +kernel
theorem dX8_change_39 : decode prog_1_method_4_code 39 = .ok (.iconst 1, 1) := by decide +kernel
theorem dX8_change_40 : decode prog_1_method_4_code 40 = .ok (.invokevirtual 102, 3) := by decide +kernel
theorem dX8_change_43 : decode prog_1_method_4_code 43 = .ok (.ifCond .ne 6, 3) := by decide +kernel
theorem dX8_change_46 : decode prog_1_method_4_code 46 = .ok (.ldc 97, 2) := by decide +kernel
theorem dX8_change_48 : decode prog_1_method_4_code 48 = .ok (.ireturn, 1) := by decide +kernel
theorem dX8_change_49 : decode prog_1_method_4_code 49 = .ok (.aload_n 0, 1) := by decide +kernel
theorem dX8_change_50 : decode prog_1_method_4_code 50 = .ok (.iload_n 1, 1) := by decide +kernel
theorem dX8_change_51 : decode prog_1_method_4_code 51 = .ok (.iload_n 2, 1) := by decide +kernel
theorem dX8_change_52 : decode prog_1_method_4_code 52 = .ok (.iload_n 3, 1) := by decide +kernel
theorem dX8_change_53 : decode prog_1_method_4_code 53 = .ok (.iconst 1, 1) := by decide +kernel
theorem dX8_change_54 : decode prog_1_method_4_code 54 = .ok (.invokevirtual 137, 3) := by decide +kernel
theorem dX8_change_57 : decode prog_1_method_4_code 57 = .ok (.ireturn, 1) := by decide +kernel
abbrev M_X9_noVersion : am_M := ((⟨"SignCellarModel", "noVersion", "(I)Z"⟩ : MethodName), prog_11_method_5_code, 2, (some .boolean), 1, 25)
theorem dX9_noVersion_0 : decode prog_11_method_5_code 0 = .ok (.iload_n 1, 1) := by decide +kernel
theorem dX9_noVersion_1 : decode prog_11_method_5_code 1 = .ok (.i2l, 1) := by decide +kernel
theorem dX9_noVersion_2 : decode prog_11_method_5_code 2 = .ok (.lconst 0, 1) := by decide +kernel
theorem dX9_noVersion_3 : decode prog_11_method_5_code 3 = .ok (.aload_n 0, 1) := by decide +kernel
theorem dX9_noVersion_4 : decode prog_11_method_5_code 4 = .ok (.getfield 92, 3) := by decide +kernel
theorem dX9_noVersion_7 : decode prog_11_method_5_code 7 = .ok (.iconst 1, 1) := by decide +kernel
theorem dX9_noVersion_8 : decode prog_11_method_5_code 8 = .ok (.isub, 1) := by decide +kernel
theorem dX9_noVersion_9 : decode prog_11_method_5_code 9 = .ok (.i2l, 1) := by decide +kernel
theorem dX9_noVersion_10 : decode prog_11_method_5_code 10 = .ok (.invokestatic 96, 3) := by decide +kernel
theorem dX9_noVersion_13 : decode prog_11_method_5_code 13 = .ok (.ifCond .ne 7, 3) := by decide +kernel
theorem dX9_noVersion_16 : decode prog_11_method_5_code 16 = .ok (.iconst 1, 1) := by decide +kernel
theorem dX9_noVersion_17 : decode prog_11_method_5_code 17 = .ok (.goto 4, 3) := by decide +kernel
theorem dX9_noVersion_20 : decode prog_11_method_5_code 20 = .ok (.iconst 0, 1) := by decide +kernel
theorem dX9_noVersion_21 : decode prog_11_method_5_code 21 = .ok (.ireturn, 1) := by decide +kernel
abbrev M_X9_blockAt : am_M := ((⟨"SignCellarModel", "blockAt", "(II)I"⟩ : MethodName), prog_11_method_7_code, 3, (some .int), 0, 0)
theorem dX9_blockAt_0 : decode prog_11_method_7_code 0 = .ok (.aload_n 0, 1) := by decide +kernel
theorem dX9_blockAt_1 : decode prog_11_method_7_code 1 = .ok (.getfield 26, 3) := by decide +kernel
theorem dX9_blockAt_4 : decode prog_11_method_7_code 4 = .ok (.bipush 8, 2) := by decide +kernel
theorem dX9_blockAt_6 : decode prog_11_method_7_code 6 = .ok (.iload_n 1, 1) := by decide +kernel
theorem dX9_blockAt_7 : decode prog_11_method_7_code 7 = .ok (.imul, 1) := by decide +kernel
theorem dX9_blockAt_8 : decode prog_11_method_7_code 8 = .ok (.iload_n 2, 1) := by decide +kernel
theorem dX9_blockAt_9 : decode prog_11_method_7_code 9 = .ok (.iadd, 1) := by decide +kernel
theorem dX9_blockAt_10 : decode prog_11_method_7_code 10 = .ok (.iaload, 1) := by decide +kernel
theorem dX9_blockAt_11 : decode prog_11_method_7_code 11 = .ok (.ireturn, 1) := by decide +kernel
abbrev M_X9_placesOf : am_M := ((⟨"SignCellarModel", "placesOf", "(I)I"⟩ : MethodName), prog_11_method_16_code, 4, (some .int), 1, 22)
theorem dX9_placesOf_0 : decode prog_11_method_16_code 0 = .ok (.iconst 0, 1) := by decide +kernel
theorem dX9_placesOf_1 : decode prog_11_method_16_code 1 = .ok (.istore_n 2, 1) := by decide +kernel
theorem dX9_placesOf_2 : decode prog_11_method_16_code 2 = .ok (.iconst 0, 1) := by decide +kernel
theorem dX9_placesOf_3 : decode prog_11_method_16_code 3 = .ok (.istore_n 3, 1) := by decide +kernel
theorem dX9_placesOf_4 : decode prog_11_method_16_code 4 = .ok (.iload_n 3, 1) := by decide +kernel
theorem dX9_placesOf_5 : decode prog_11_method_16_code 5 = .ok (.aload_n 0, 1) := by decide +kernel
theorem dX9_placesOf_6 : decode prog_11_method_16_code 6 = .ok (.getfield 23, 3) := by decide +kernel
theorem dX9_placesOf_9 : decode prog_11_method_16_code 9 = .ok (.iload_n 1, 1) := by decide +kernel
theorem dX9_placesOf_10 : decode prog_11_method_16_code 10 = .ok (.iaload, 1) := by decide +kernel
theorem dX9_placesOf_11 : decode prog_11_method_16_code 11 = .ok (.if_icmp .ge 23, 3) := by decide +kernel
theorem dX9_placesOf_14 : decode prog_11_method_16_code 14 = .ok (.iload_n 2, 1) := by decide +kernel
theorem dX9_placesOf_15 : decode prog_11_method_16_code 15 = .ok (.aload_n 0, 1) := by decide +kernel
theorem dX9_placesOf_16 : decode prog_11_method_16_code 16 = .ok (.getfield 13, 3) := by decide +kernel
theorem dX9_placesOf_19 : decode prog_11_method_16_code 19 = .ok (.aload_n 0, 1) := by decide +kernel
theorem dX9_placesOf_20 : decode prog_11_method_16_code 20 = .ok (.iload_n 1, 1) := by decide +kernel
theorem dX9_placesOf_21 : decode prog_11_method_16_code 21 = .ok (.iload_n 3, 1) := by decide +kernel
theorem dX9_placesOf_22 : decode prog_11_method_16_code 22 = .ok (.invokevirtual 141, 3) := by decide +kernel
theorem dX9_placesOf_25 : decode prog_11_method_16_code 25 = .ok (.iaload, 1) := by decide +kernel
theorem dX9_placesOf_26 : decode prog_11_method_16_code 26 = .ok (.iadd, 1) := by decide +kernel
theorem dX9_placesOf_27 : decode prog_11_method_16_code 27 = .ok (.istore_n 2, 1) := by decide +kernel
theorem dX9_placesOf_28 : decode prog_11_method_16_code 28 = .ok (.iinc 3 1, 3) := by decide +kernel
theorem dX9_placesOf_31 : decode prog_11_method_16_code 31 = .ok (.goto (-27), 3) := by decide +kernel
theorem dX9_placesOf_34 : decode prog_11_method_16_code 34 = .ok (.iload_n 2, 1) := by decide +kernel
theorem dX9_placesOf_35 : decode prog_11_method_16_code 35 = .ok (.ireturn, 1) := by decide +kernel
abbrev M_X9_noPlace : am_M := ((⟨"SignCellarModel", "noPlace", "(III)Z"⟩ : MethodName), prog_11_method_21_code, 4, (some .boolean), 2, 46)
theorem dX9_noPlace_0 : decode prog_11_method_21_code 0 = .ok (.aload_n 0, 1) := by decide +kernel
theorem dX9_noPlace_1 : decode prog_11_method_21_code 1 = .ok (.iload_n 1, 1) := by decide +kernel
theorem dX9_noPlace_2 : decode prog_11_method_21_code 2 = .ok (.invokevirtual 154, 3) := by decide +kernel
theorem dX9_noPlace_5 : decode prog_11_method_21_code 5 = .ok (.ifCond .ne 22, 3) := by decide +kernel
theorem dX9_noPlace_8 : decode prog_11_method_21_code 8 = .ok (.iload_n 2, 1) := by decide +kernel
theorem dX9_noPlace_9 : decode prog_11_method_21_code 9 = .ok (.i2l, 1) := by decide +kernel
theorem dX9_noPlace_10 : decode prog_11_method_21_code 10 = .ok (.lconst 0, 1) := by decide +kernel
theorem dX9_noPlace_11 : decode prog_11_method_21_code 11 = .ok (.aload_n 0, 1) := by decide +kernel
theorem dX9_noPlace_12 : decode prog_11_method_21_code 12 = .ok (.iload_n 1, 1) := by decide +kernel
theorem dX9_noPlace_13 : decode prog_11_method_21_code 13 = .ok (.invokevirtual 157, 3) := by decide +kernel
theorem dX9_noPlace_16 : decode prog_11_method_21_code 16 = .ok (.iconst 1, 1) := by decide +kernel
theorem dX9_noPlace_17 : decode prog_11_method_21_code 17 = .ok (.isub, 1) := by decide +kernel
theorem dX9_noPlace_18 : decode prog_11_method_21_code 18 = .ok (.iload_n 3, 1) := by decide +kernel
theorem dX9_noPlace_19 : decode prog_11_method_21_code 19 = .ok (.iadd, 1) := by decide +kernel
theorem dX9_noPlace_20 : decode prog_11_method_21_code 20 = .ok (.i2l, 1) := by decide +kernel
theorem dX9_noPlace_21 : decode prog_11_method_21_code 21 = .ok (.invokestatic 96, 3) := by decide +kernel
theorem dX9_noPlace_24 : decode prog_11_method_21_code 24 = .ok (.ifCond .ne 7, 3) := by decide +kernel
theorem dX9_noPlace_27 : decode prog_11_method_21_code 27 = .ok (.iconst 1, 1) := by decide +kernel
theorem dX9_noPlace_28 : decode prog_11_method_21_code 28 = .ok (.goto 4, 3) := by decide +kernel
theorem dX9_noPlace_31 : decode prog_11_method_21_code 31 = .ok (.iconst 0, 1) := by decide +kernel
theorem dX9_noPlace_32 : decode prog_11_method_21_code 32 = .ok (.ireturn, 1) := by decide +kernel
abbrev M_X9_one : am_M := ((⟨"SignCellarModel", "one", "(Z)I"⟩ : MethodName), prog_11_method_4_code, 1, (some .int), 0, 0)
theorem dX9_one_0 : decode prog_11_method_4_code 0 = .ok (.iload_n 0, 1) := by decide +kernel
theorem dX9_one_1 : decode prog_11_method_4_code 1 = .ok (.ifCond .eq 7, 3) := by decide +kernel
theorem dX9_one_4 : decode prog_11_method_4_code 4 = .ok (.iconst 1, 1) := by decide +kernel
theorem dX9_one_5 : decode prog_11_method_4_code 5 = .ok (.goto 4, 3) := by decide +kernel
theorem dX9_one_8 : decode prog_11_method_4_code 8 = .ok (.iconst 0, 1) := by decide +kernel
theorem dX9_one_9 : decode prog_11_method_4_code 9 = .ok (.ireturn, 1) := by decide +kernel
abbrev M_X9_tornIn : am_M := ((⟨"SignCellarModel", "tornIn", "(I)I"⟩ : MethodName), prog_11_method_18_code, 4, (some .int), 1, 22)
theorem dX9_tornIn_0 : decode prog_11_method_18_code 0 = .ok (.iconst 0, 1) := by decide +kernel
theorem dX9_tornIn_1 : decode prog_11_method_18_code 1 = .ok (.istore_n 2, 1) := by decide +kernel
theorem dX9_tornIn_2 : decode prog_11_method_18_code 2 = .ok (.iconst 0, 1) := by decide +kernel
theorem dX9_tornIn_3 : decode prog_11_method_18_code 3 = .ok (.istore_n 3, 1) := by decide +kernel
theorem dX9_tornIn_4 : decode prog_11_method_18_code 4 = .ok (.iload_n 3, 1) := by decide +kernel
theorem dX9_tornIn_5 : decode prog_11_method_18_code 5 = .ok (.aload_n 0, 1) := by decide +kernel
theorem dX9_tornIn_6 : decode prog_11_method_18_code 6 = .ok (.getfield 23, 3) := by decide +kernel
theorem dX9_tornIn_9 : decode prog_11_method_18_code 9 = .ok (.iload_n 1, 1) := by decide +kernel
theorem dX9_tornIn_10 : decode prog_11_method_18_code 10 = .ok (.iaload, 1) := by decide +kernel
theorem dX9_tornIn_11 : decode prog_11_method_18_code 11 = .ok (.if_icmp .ge 26, 3) := by decide +kernel
theorem dX9_tornIn_14 : decode prog_11_method_18_code 14 = .ok (.iload_n 2, 1) := by decide +kernel
theorem dX9_tornIn_15 : decode prog_11_method_18_code 15 = .ok (.aload_n 0, 1) := by decide +kernel
theorem dX9_tornIn_16 : decode prog_11_method_18_code 16 = .ok (.getfield 19, 3) := by decide +kernel
theorem dX9_tornIn_19 : decode prog_11_method_18_code 19 = .ok (.aload_n 0, 1) := by decide +kernel
theorem dX9_tornIn_20 : decode prog_11_method_18_code 20 = .ok (.iload_n 1, 1) := by decide +kernel
theorem dX9_tornIn_21 : decode prog_11_method_18_code 21 = .ok (.iload_n 3, 1) := by decide +kernel
theorem dX9_tornIn_22 : decode prog_11_method_18_code 22 = .ok (.invokevirtual 141, 3) := by decide +kernel
theorem dX9_tornIn_25 : decode prog_11_method_18_code 25 = .ok (.baload, 1) := by decide +kernel
theorem dX9_tornIn_26 : decode prog_11_method_18_code 26 = .ok (.invokestatic 150, 3) := by decide +kernel
theorem dX9_tornIn_29 : decode prog_11_method_18_code 29 = .ok (.iadd, 1) := by decide +kernel
theorem dX9_tornIn_30 : decode prog_11_method_18_code 30 = .ok (.istore_n 2, 1) := by decide +kernel
theorem dX9_tornIn_31 : decode prog_11_method_18_code 31 = .ok (.iinc 3 1, 3) := by decide +kernel
theorem dX9_tornIn_34 : decode prog_11_method_18_code 34 = .ok (.goto (-30), 3) := by decide +kernel
theorem dX9_tornIn_37 : decode prog_11_method_18_code 37 = .ok (.iload_n 2, 1) := by decide +kernel
theorem dX9_tornIn_38 : decode prog_11_method_18_code 38 = .ok (.ireturn, 1) := by decide +kernel
abbrev M_X9_find : am_M := ((⟨"SignCellarModel", "find", "(II)V"⟩ : MethodName), prog_11_method_17_code, 3, none, 1, 22)
theorem dX9_find_0 : decode prog_11_method_17_code 0 = .ok (.aload_n 0, 1) := by decide +kernel
theorem dX9_find_1 : decode prog_11_method_17_code 1 = .ok (.iconst 0, 1) := by decide +kernel
theorem dX9_find_2 : decode prog_11_method_17_code 2 = .ok (.putfield 144, 3) := by decide +kernel
theorem dX9_find_5 : decode prog_11_method_17_code 5 = .ok (.aload_n 0, 1) := by decide +kernel
theorem dX9_find_6 : decode prog_11_method_17_code 6 = .ok (.iload_n 2, 1) := by decide +kernel
theorem dX9_find_7 : decode prog_11_method_17_code 7 = .ok (.putfield 147, 3) := by decide +kernel
theorem dX9_find_10 : decode prog_11_method_17_code 10 = .ok (.aload_n 0, 1) := by decide +kernel
theorem dX9_find_11 : decode prog_11_method_17_code 11 = .ok (.getfield 147, 3) := by decide +kernel
theorem dX9_find_14 : decode prog_11_method_17_code 14 = .ok (.aload_n 0, 1) := by decide +kernel
theorem dX9_find_15 : decode prog_11_method_17_code 15 = .ok (.getfield 13, 3) := by decide +kernel
theorem dX9_find_18 : decode prog_11_method_17_code 18 = .ok (.aload_n 0, 1) := by decide +kernel
theorem dX9_find_19 : decode prog_11_method_17_code 19 = .ok (.iload_n 1, 1) := by decide +kernel
theorem dX9_find_20 : decode prog_11_method_17_code 20 = .ok (.aload_n 0, 1) := by decide +kernel
theorem dX9_find_21 : decode prog_11_method_17_code 21 = .ok (.getfield 144, 3) := by decide +kernel
theorem dX9_find_24 : decode prog_11_method_17_code 24 = .ok (.invokevirtual 141, 3) := by decide +kernel
theorem dX9_find_27 : decode prog_11_method_17_code 27 = .ok (.iaload, 1) := by decide +kernel
theorem dX9_find_28 : decode prog_11_method_17_code 28 = .ok (.if_icmp .lt 39, 3) := by decide +kernel
theorem dX9_find_31 : decode prog_11_method_17_code 31 = .ok (.aload_n 0, 1) := by decide +kernel
theorem dX9_find_32 : decode prog_11_method_17_code 32 = .ok (.dup, 1) := by decide +kernel
theorem dX9_find_33 : decode prog_11_method_17_code 33 = .ok (.getfield 147, 3) := by decide +kernel
theorem dX9_find_36 : decode prog_11_method_17_code 36 = .ok (.aload_n 0, 1) := by decide +kernel
theorem dX9_find_37 : decode prog_11_method_17_code 37 = .ok (.getfield 13, 3) := by decide +kernel
theorem dX9_find_40 : decode prog_11_method_17_code 40 = .ok (.aload_n 0, 1) := by decide +kernel
theorem dX9_find_41 : decode prog_11_method_17_code 41 = .ok (.iload_n 1, 1) := by decide +kernel
theorem dX9_find_42 : decode prog_11_method_17_code 42 = .ok (.aload_n 0, 1) := by decide +kernel
theorem dX9_find_43 : decode prog_11_method_17_code 43 = .ok (.getfield 144, 3) := by decide +kernel
theorem dX9_find_46 : decode prog_11_method_17_code 46 = .ok (.invokevirtual 141, 3) := by decide +kernel
theorem dX9_find_49 : decode prog_11_method_17_code 49 = .ok (.iaload, 1) := by decide +kernel
theorem dX9_find_50 : decode prog_11_method_17_code 50 = .ok (.isub, 1) := by decide +kernel
theorem dX9_find_51 : decode prog_11_method_17_code 51 = .ok (.putfield 147, 3) := by decide +kernel
theorem dX9_find_54 : decode prog_11_method_17_code 54 = .ok (.aload_n 0, 1) := by decide +kernel
theorem dX9_find_55 : decode prog_11_method_17_code 55 = .ok (.dup, 1) := by decide +kernel
theorem dX9_find_56 : decode prog_11_method_17_code 56 = .ok (.getfield 144, 3) := by decide +kernel
theorem dX9_find_59 : decode prog_11_method_17_code 59 = .ok (.iconst 1, 1) := by decide +kernel
theorem dX9_find_60 : decode prog_11_method_17_code 60 = .ok (.iadd, 1) := by decide +kernel
theorem dX9_find_61 : decode prog_11_method_17_code 61 = .ok (.putfield 144, 3) := by decide +kernel
theorem dX9_find_64 : decode prog_11_method_17_code 64 = .ok (.goto (-54), 3) := by decide +kernel
theorem dX9_find_67 : decode prog_11_method_17_code 67 = .ok (.return_, 1) := by decide +kernel
abbrev M_X9_takeBlocks : am_M := ((⟨"SignCellarModel", "takeBlocks", "(III)V"⟩ : MethodName), prog_11_method_19_code, 5, none, 1, 22)
theorem dX9_takeBlocks_0 : decode prog_11_method_19_code 0 = .ok (.iload_n 2, 1) := by decide +kernel
theorem dX9_takeBlocks_1 : decode prog_11_method_19_code 1 = .ok (.istore 4, 2) := by decide +kernel
theorem dX9_takeBlocks_3 : decode prog_11_method_19_code 3 = .ok (.iload 4, 2) := by decide +kernel
theorem dX9_takeBlocks_5 : decode prog_11_method_19_code 5 = .ok (.iload_n 3, 1) := by decide +kernel
theorem dX9_takeBlocks_6 : decode prog_11_method_19_code 6 = .ok (.if_icmp .ge 35, 3) := by decide +kernel
theorem dX9_takeBlocks_9 : decode prog_11_method_19_code 9 = .ok (.aload_n 0, 1) := by decide +kernel
theorem dX9_takeBlocks_10 : decode prog_11_method_19_code 10 = .ok (.getfield 44, 3) := by decide +kernel
theorem dX9_takeBlocks_13 : decode prog_11_method_19_code 13 = .ok (.aload_n 0, 1) := by decide +kernel
theorem dX9_takeBlocks_14 : decode prog_11_method_19_code 14 = .ok (.getfield 124, 3) := by decide +kernel
theorem dX9_takeBlocks_17 : decode prog_11_method_19_code 17 = .ok (.aload_n 0, 1) := by decide +kernel
theorem dX9_takeBlocks_18 : decode prog_11_method_19_code 18 = .ok (.iload_n 1, 1) := by decide +kernel
theorem dX9_takeBlocks_19 : decode prog_11_method_19_code 19 = .ok (.iload 4, 2) := by decide +kernel
theorem dX9_takeBlocks_21 : decode prog_11_method_19_code 21 = .ok (.invokevirtual 141, 3) := by decide +kernel
theorem dX9_takeBlocks_24 : decode prog_11_method_19_code 24 = .ok (.iastore, 1) := by decide +kernel
theorem dX9_takeBlocks_25 : decode prog_11_method_19_code 25 = .ok (.aload_n 0, 1) := by decide +kernel
theorem dX9_takeBlocks_26 : decode prog_11_method_19_code 26 = .ok (.dup, 1) := by decide +kernel
theorem dX9_takeBlocks_27 : decode prog_11_method_19_code 27 = .ok (.getfield 124, 3) := by decide +kernel
theorem dX9_takeBlocks_30 : decode prog_11_method_19_code 30 = .ok (.iconst 1, 1) := by decide +kernel
theorem dX9_takeBlocks_31 : decode prog_11_method_19_code 31 = .ok (.iadd, 1) := by decide +kernel
theorem dX9_takeBlocks_32 : decode prog_11_method_19_code 32 = .ok (.putfield 124, 3) := by decide +kernel
theorem dX9_takeBlocks_35 : decode prog_11_method_19_code 35 = .ok (.iinc 4 1, 3) := by decide +kernel
theorem dX9_takeBlocks_38 : decode prog_11_method_19_code 38 = .ok (.goto (-35), 3) := by decide +kernel
theorem dX9_takeBlocks_41 : decode prog_11_method_19_code 41 = .ok (.return_, 1) := by decide +kernel
def F_X8_versionOf_31 (s0 : Nat) (h : am_H) : Option Nat :=
  some s0
theorem w_X8_versionOf_31 {g : am_G} {l : Launch} {h0 : am_H} {x : Nat}  (s0 : Nat) (h : am_H) (hF : F_X8_versionOf_31 s0 h = some x) : am_W g l M_X8_versionOf h0 (some (.ref x)) h 31 [none, none] [.ref s0] h := by
  unfold F_X8_versionOf_31 at hF
  cases hF
  exact am_aret dX8_versionOf_31 rfl
def F_X8_versionOf_30 (h : am_H) : Option Nat :=
  F_X8_versionOf_31 0 h
theorem w_X8_versionOf_30 {g : am_G} {l : Launch} {h0 : am_H} {x : Nat}  (h : am_H) (hF : F_X8_versionOf_30 h = some x) : am_W g l M_X8_versionOf h0 (some (.ref x)) h 30 [none, none] [] h := by
  unfold F_X8_versionOf_30 at hF
  refine am_null (pc' := 31) dX8_versionOf_30 rfl ?_
  exact w_X8_versionOf_31 0 h hF
def F_X8_versionOf_b (v0 : Nat) (v1 : Int32) (h : am_H) : Option Nat :=
  if v1 < 0 then
    F_X8_versionOf_30 h
  else
    (am_gi 8 5 v0 h).bind fun x2 =>
    if x2 ≤ v1 then
      F_X8_versionOf_30 h
    else
      (am_gr 8 4 v0 h).bind fun x4 =>
      (am_ln x4 h).bind fun x5 =>
      if x5 ≤ v1 then
        F_X8_versionOf_30 h
      else
        (am_gr 8 4 v0 h).bind fun x7 =>
        (am_al 3 x7 v1 h).bind fun x8 =>
        F_X8_versionOf_31 x8 h
theorem w_X8_versionOf {g : am_G} {l : Launch} {h0 : am_H} {x : Nat}  (v0 : Nat) (v1 : Int32) (h : am_H) (hF : F_X8_versionOf_b v0 v1 h = some x) : am_W g l M_X8_versionOf h0 (some (.ref x)) h 0 [some (.ref v0), some (.int v1)] [] h := by
  unfold F_X8_versionOf_b at hF
  refine am_iload_n (pc' := 1) dX8_versionOf_0 rfl rfl ?_
  rcases am_ite hF with ⟨z1, hF⟩ | ⟨z1, hF⟩
  · refine am_if_lt_t (pc' := 30) dX8_versionOf_1 rfl z1 ?_
    exact am_weak [false, false] (w_X8_versionOf_30 h hF)
  · refine am_if_lt_f (pc' := 4) (tgt := 30) dX8_versionOf_1 rfl z1 rfl ?_
    refine am_iload_n (pc' := 5) dX8_versionOf_4 rfl rfl ?_
    refine am_aload_n (pc' := 6) dX8_versionOf_5 rfl rfl ?_
    obtain ⟨x2, ex2, hF⟩ := am_bind hF
    refine am_geti (pc' := 9) dX8_versionOf_6 fw_X8_37 ex2 rfl ?_
    rcases am_ite hF with ⟨z3, hF⟩ | ⟨z3, hF⟩
    · refine am_icmp_ge_t (pc' := 30) dX8_versionOf_9 rfl z3 ?_
      exact am_weak [false, false] (w_X8_versionOf_30 h hF)
    · refine am_icmp_ge_f (pc' := 12) (tgt := 30) dX8_versionOf_9 rfl z3 rfl ?_
      refine am_iload_n (pc' := 13) dX8_versionOf_12 rfl rfl ?_
      refine am_aload_n (pc' := 14) dX8_versionOf_13 rfl rfl ?_
      obtain ⟨x4, ex4, hF⟩ := am_bind hF
      refine am_getr (pc' := 17) dX8_versionOf_14 fw_X8_33 ex4 rfl ?_
      obtain ⟨x5, ex5, hF⟩ := am_bind hF
      refine am_alen (pc' := 18) dX8_versionOf_17 ex5 rfl ?_
      rcases am_ite hF with ⟨z6, hF⟩ | ⟨z6, hF⟩
      · refine am_icmp_ge_t (pc' := 30) dX8_versionOf_18 rfl z6 ?_
        exact am_weak [false, false] (w_X8_versionOf_30 h hF)
      · refine am_icmp_ge_f (pc' := 21) (tgt := 30) dX8_versionOf_18 rfl z6 rfl ?_
        refine am_aload_n (pc' := 22) dX8_versionOf_21 rfl rfl ?_
        obtain ⟨x7, ex7, hF⟩ := am_bind hF
        refine am_getr (pc' := 25) dX8_versionOf_22 fw_X8_33 ex7 rfl ?_
        refine am_iload_n (pc' := 26) dX8_versionOf_25 rfl rfl ?_
        obtain ⟨x8, ex8, hF⟩ := am_bind hF
        refine am_aald (pc' := 27) dX8_versionOf_26 rfl ex8 rfl ?_
        refine am_goto (pc' := 31) dX8_versionOf_27 rfl ?_
        exact am_weak [false, false] (w_X8_versionOf_31 x8 h hF)
def F_X8_versionOf (v0 : Nat) (v1 : Int32) (h : am_H) : Option Nat := (am_obj v0 8 h).bind fun _ => F_X8_versionOf_b v0 v1 h
theorem t_X8_versionOf {x : Nat}  {v0 : Nat} {v1 : Int32} {h : am_H} (hF : F_X8_versionOf v0 v1 h = some x) : ∃ fs, am_obj v0 8 h = some fs := by
  obtain ⟨fs, e, _⟩ := am_bind hF
  exact ⟨fs, e⟩
theorem c_X8_versionOf {g : am_G} {l : Launch} {x : Nat}  {v0 : Nat} {v1 : Int32} {h : am_H} (hF : F_X8_versionOf v0 v1 h = some x) : am_Met g l M_X8_versionOf [.ref v0, .int v1] h (some (.ref x)) h := by
  obtain ⟨fs, e0, e⟩ := am_bind hF
  exact am_met (n := 0) (by decide +kernel) rfl (Nat.le_of_ble_eq_true rfl) (w_X8_versionOf v0 v1 h e)
def F_X8_isSign_15 (s0 : Int32) (h : am_H) : Option Int32 :=
  am_z s0
theorem w_X8_isSign_15 {g : am_G} {l : Launch} {h0 : am_H} {x : Int32}  (s0 : Int32) (h : am_H) (hF : F_X8_isSign_15 s0 h = some x) : am_W g l M_X8_isSign h0 (some (.int x)) h 15 [none] [.int s0] h := by
  unfold F_X8_isSign_15 at hF
  exact am_zret dX8_isSign_15 rfl hF
def F_X8_isSign_14 (h : am_H) : Option Int32 :=
  F_X8_isSign_15 (0 : Int32) h
theorem w_X8_isSign_14 {g : am_G} {l : Launch} {h0 : am_H} {x : Int32}  (h : am_H) (hF : F_X8_isSign_14 h = some x) : am_W g l M_X8_isSign h0 (some (.int x)) h 14 [none] [] h := by
  unfold F_X8_isSign_14 at hF
  refine am_iconst (v := (0 : Int32)) (pc' := 15) dX8_isSign_14 rfl rfl ?_
  exact w_X8_isSign_15 (0 : Int32) h hF
def F_X8_isSign_b (v0 : Int32) (h : am_H) : Option Int32 :=
  if v0 < 0 then
    F_X8_isSign_14 h
  else
    if (16 : Int32) ≤ v0 then
      F_X8_isSign_14 h
    else
      F_X8_isSign_15 (1 : Int32) h
theorem w_X8_isSign {g : am_G} {l : Launch} {h0 : am_H} {x : Int32}  (v0 : Int32) (h : am_H) (hF : F_X8_isSign_b v0 h = some x) : am_W g l M_X8_isSign h0 (some (.int x)) h 0 [some (.int v0)] [] h := by
  unfold F_X8_isSign_b at hF
  refine am_iload_n (pc' := 1) dX8_isSign_0 rfl rfl ?_
  rcases am_ite hF with ⟨z1, hF⟩ | ⟨z1, hF⟩
  · refine am_if_lt_t (pc' := 14) dX8_isSign_1 rfl z1 ?_
    exact am_weak [false] (w_X8_isSign_14 h hF)
  · refine am_if_lt_f (pc' := 4) (tgt := 14) dX8_isSign_1 rfl z1 rfl ?_
    refine am_iload_n (pc' := 5) dX8_isSign_4 rfl rfl ?_
    refine am_bipush (v := (16 : Int32)) (pc' := 7) dX8_isSign_5 rfl rfl ?_
    rcases am_ite hF with ⟨z2, hF⟩ | ⟨z2, hF⟩
    · refine am_icmp_ge_t (pc' := 14) dX8_isSign_7 rfl z2 ?_
      exact am_weak [false] (w_X8_isSign_14 h hF)
    · refine am_icmp_ge_f (pc' := 10) (tgt := 14) dX8_isSign_7 rfl z2 rfl ?_
      refine am_iconst (v := (1 : Int32)) (pc' := 11) dX8_isSign_10 rfl rfl ?_
      refine am_goto (pc' := 15) dX8_isSign_11 rfl ?_
      exact am_weak [false] (w_X8_isSign_15 (1 : Int32) h hF)
def F_X8_isSign (v0 : Int32) (h : am_H) : Option Int32 := F_X8_isSign_b v0 h
theorem c_X8_isSign {g : am_G} {l : Launch} {x : Int32}  {v0 : Int32} {h : am_H} (hF : F_X8_isSign v0 h = some x) : am_Met g l M_X8_isSign [.int v0] h (some (.int x)) h := by
  exact am_met (n := 0) (by decide +kernel) rfl (Nat.le_of_ble_eq_true rfl) (w_X8_isSign v0 h hF)
def F_X8_isTornIn_29 (s0 : Int32) (h : am_H) : Option Int32 :=
  am_z s0
theorem w_X8_isTornIn_29 {g : am_G} {l : Launch} {h0 : am_H} {x : Int32}  (s0 : Int32) (h : am_H) (hF : F_X8_isTornIn_29 s0 h = some x) : am_W g l M_X8_isTornIn h0 (some (.int x)) h 29 [none, none, none, none] [.int s0] h := by
  unfold F_X8_isTornIn_29 at hF
  exact am_zret dX8_isTornIn_29 rfl hF
def F_X8_isTornIn_28 (h : am_H) : Option Int32 :=
  F_X8_isTornIn_29 (0 : Int32) h
theorem w_X8_isTornIn_28 {g : am_G} {l : Launch} {h0 : am_H} {x : Int32}  (h : am_H) (hF : F_X8_isTornIn_28 h = some x) : am_W g l M_X8_isTornIn h0 (some (.int x)) h 28 [none, none, none, none] [] h := by
  unfold F_X8_isTornIn_28 at hF
  refine am_iconst (v := (0 : Int32)) (pc' := 29) dX8_isTornIn_28 rfl rfl ?_
  exact w_X8_isTornIn_29 (0 : Int32) h hF
def F_X8_isTornIn_b (v0 : Nat) (v1 : Nat) (v2 : Int32) (h : am_H) : Option Int32 :=
  (am_gr 7 0 v1 h).bind fun x1 =>
  (F_X4_at x1 v2 h).bind fun x2 =>
  (F_X8_blockOf v0 x2 h).bind fun x3 =>
  if x3 = 0 then
    F_X8_isTornIn_28 h
  else
    (am_gi 0 3 x3 h).bind fun x5 =>
    if x5 = 0 then
      F_X8_isTornIn_28 h
    else
      F_X8_isTornIn_29 (1 : Int32) h
theorem w_X8_isTornIn {g : am_G} {l : Launch} {h0 : am_H} {x : Int32}  (v0 : Nat) (v1 : Nat) (v2 : Int32) (h : am_H) (hF : F_X8_isTornIn_b v0 v1 v2 h = some x) : am_W g l M_X8_isTornIn h0 (some (.int x)) h 0 [some (.ref v0), some (.ref v1), some (.int v2), none] [] h := by
  unfold F_X8_isTornIn_b at hF
  refine am_aload_n (pc' := 1) dX8_isTornIn_0 rfl rfl ?_
  refine am_aload_n (pc' := 2) dX8_isTornIn_1 rfl rfl ?_
  obtain ⟨x1, ex1, hF⟩ := am_bind hF
  refine am_getr (pc' := 5) dX8_isTornIn_2 fw_X8_148 ex1 rfl ?_
  refine am_iload_n (pc' := 6) dX8_isTornIn_5 rfl rfl ?_
  obtain ⟨x2, ex2, hF⟩ := am_bind hF
  obtain ⟨ox2, px2⟩ := t_X4_at ex2
  refine am_callV1 (Mc := M_X4_at) (As := [.int v2]) (st := [.ref v0]) (pc' := 9) dX8_isTornIn_6 cw_X8_161 wd_2_40 wd_2_41 ⟨_, rfl, rfl⟩ (by decide) (by decide) rfl rfl (Nat.le_of_ble_eq_true rfl) px2 (c_X4_at ex2) rfl ?_
  obtain ⟨x3, ex3, hF⟩ := am_bind hF
  obtain ⟨ox3, px3⟩ := t_X8_blockOf ex3
  refine am_callV1 (Mc := M_X8_blockOf) (As := [.int x2]) (st := []) (pc' := 12) dX8_isTornIn_9 cw_X8_176 wd_2_33 sl_X8_blockOf ⟨_, rfl, rfl⟩ (by decide) (by decide) rfl rfl (Nat.le_of_ble_eq_true rfl) px3 (c_X8_blockOf ex3) rfl ?_
  refine am_astore_n (ls' := [some (.ref v0), some (.ref v1), some (.int v2), some (.ref x3)]) (pc' := 13) dX8_isTornIn_12 (Nat.le_of_ble_eq_true rfl) rfl rfl ?_
  refine am_aload_n (pc' := 14) dX8_isTornIn_13 rfl rfl ?_
  rcases am_ite hF with ⟨z4, hF⟩ | ⟨z4, hF⟩
  · refine am_ifnull_t (pc' := 28) dX8_isTornIn_14 rfl z4 ?_
    exact am_weak [false, false, false, false] (w_X8_isTornIn_28 h hF)
  · refine am_ifnull_f (pc' := 17) dX8_isTornIn_14 z4 rfl ?_
    refine am_aload_n (pc' := 18) dX8_isTornIn_17 rfl rfl ?_
    obtain ⟨x5, ex5, hF⟩ := am_bind hF
    refine am_geti (pc' := 21) dX8_isTornIn_18 fw_X8_182 ex5 rfl ?_
    rcases am_ite hF with ⟨z6, hF⟩ | ⟨z6, hF⟩
    · refine am_if_eq_t (pc' := 28) dX8_isTornIn_21 rfl z6 ?_
      exact am_weak [false, false, false, false] (w_X8_isTornIn_28 h hF)
    · refine am_if_eq_f (pc' := 24) (tgt := 28) dX8_isTornIn_21 rfl z6 rfl ?_
      refine am_iconst (v := (1 : Int32)) (pc' := 25) dX8_isTornIn_24 rfl rfl ?_
      refine am_goto (pc' := 29) dX8_isTornIn_25 rfl ?_
      exact am_weak [false, false, false, false] (w_X8_isTornIn_29 (1 : Int32) h hF)
def F_X8_isTornIn (v0 : Nat) (v1 : Nat) (v2 : Int32) (h : am_H) : Option Int32 := (am_obj v0 8 h).bind fun _ => F_X8_isTornIn_b v0 v1 v2 h
theorem t_X8_isTornIn {x : Int32}  {v0 : Nat} {v1 : Nat} {v2 : Int32} {h : am_H} (hF : F_X8_isTornIn v0 v1 v2 h = some x) : ∃ fs, am_obj v0 8 h = some fs := by
  obtain ⟨fs, e, _⟩ := am_bind hF
  exact ⟨fs, e⟩
theorem c_X8_isTornIn {g : am_G} {l : Launch} {x : Int32}  {v0 : Nat} {v1 : Nat} {v2 : Int32} {h : am_H} (hF : F_X8_isTornIn v0 v1 v2 h = some x) : am_Met g l M_X8_isTornIn [.ref v0, .ref v1, .int v2] h (some (.int x)) h := by
  obtain ⟨fs, e0, e⟩ := am_bind hF
  exact am_met (n := 1) (by decide +kernel) rfl (Nat.le_of_ble_eq_true rfl) (w_X8_isTornIn v0 v1 v2 h e)
theorem cw_X8_164 : am_cw "SignCellar" 164 M_X8_isTornIn 2 := ⟨wd_1_1, wd_2_152, ⟨by decide, by decide, by decide⟩, Or.inl wd_2_149⟩
theorem sl_X8_isTornIn : Cond.selects (⟨"SignCellar", "isTornIn", "(LSignCellar$Version;I)Z"⟩ : MethodName).cls ⟨"SignCellar", "isTornIn", "(LSignCellar$Version;I)Z"⟩ ⟨"SignCellar", "isTornIn", "(LSignCellar$Version;I)Z"⟩ ∈ am_ts := am_in_p (q := (⟨"SignCellar", "isTornIn", "(LSignCellar$Version;I)Z"⟩, 16)) (by decide +kernel)
def F_X8_tornBlocks_27 (k4 : Nat → Nat → Int32 → Int32 → am_H → Option Int32) (v0 : Nat) (v1 : Nat) (v2 : Int32) (v3 : Int32) (h : am_H) : Option Int32 :=
  k4 v0 v1 v2 (v3 + (1 : Int32)) h
theorem w_X8_tornBlocks_27 {g : am_G} {l : Launch} {h0 : am_H} {x : Int32}  {k4 : Nat → Nat → Int32 → Int32 → am_H → Option Int32} (j4 : ∀ (v0 : Nat) (v1 : Nat) (v2 : Int32) (v3 : Int32) (h : am_H), k4 v0 v1 v2 v3 h = some x → am_W g l M_X8_tornBlocks h0 (some (.int x)) h 4 [some (.ref v0), some (.ref v1), some (.int v2), some (.int v3)] [] h) (v0 : Nat) (v1 : Nat) (v2 : Int32) (v3 : Int32) (h : am_H) (hF : F_X8_tornBlocks_27 k4 v0 v1 v2 v3 h = some x) : am_W g l M_X8_tornBlocks h0 (some (.int x)) h 27 [some (.ref v0), some (.ref v1), some (.int v2), some (.int v3)] [] h := by
  unfold F_X8_tornBlocks_27 at hF
  refine am_iinc (ls' := [some (.ref v0), some (.ref v1), some (.int v2), some (.int (v3 + (1 : Int32)))]) (pc' := 30) (v := (v3 + (1 : Int32))) dX8_tornBlocks_27 rfl rfl (Nat.le_of_ble_eq_true rfl) rfl rfl ?_
  refine am_goto (pc' := 4) dX8_tornBlocks_30 rfl ?_
  exact j4 v0 v1 v2 (v3 + (1 : Int32)) h hF
def F_X8_tornBlocks_4 : Nat → Nat → Nat → Int32 → Int32 → am_H → Option Int32
  | 0, _, _, _, _, _ => none
  | n + 1, v0, v1, v2, v3, h =>
  (am_gr 7 0 v1 h).bind fun x1 =>
  (F_X4_length x1 h).bind fun x2 =>
  if x2 ≤ v3 then
    some v2
  else
    (F_X8_isTornIn v0 v1 v3 h).bind fun x4 =>
    if x4 = 0 then
      F_X8_tornBlocks_27 (F_X8_tornBlocks_4 n) v0 v1 v2 v3 h
    else
      F_X8_tornBlocks_27 (F_X8_tornBlocks_4 n) v0 v1 (v2 + (1 : Int32)) v3 h
theorem w_X8_tornBlocks_4 {g : am_G} {l : Launch} {h0 : am_H} {x : Int32}  : ∀ (n : Nat) (v0 : Nat) (v1 : Nat) (v2 : Int32) (v3 : Int32) (h : am_H), F_X8_tornBlocks_4 n v0 v1 v2 v3 h = some x → am_W g l M_X8_tornBlocks h0 (some (.int x)) h 4 [some (.ref v0), some (.ref v1), some (.int v2), some (.int v3)] [] h
  | 0, _, _, _, _, _, hF => by cases hF
  | n + 1, v0, v1, v2, v3, h, hF => by
    rw [F_X8_tornBlocks_4] at hF
    refine am_iload_n (pc' := 5) dX8_tornBlocks_4 rfl rfl ?_
    refine am_aload_n (pc' := 6) dX8_tornBlocks_5 rfl rfl ?_
    obtain ⟨x1, ex1, hF⟩ := am_bind hF
    refine am_getr (pc' := 9) dX8_tornBlocks_6 fw_X8_148 ex1 rfl ?_
    obtain ⟨x2, ex2, hF⟩ := am_bind hF
    obtain ⟨ox2, px2⟩ := t_X4_length ex2
    refine am_callV1 (Mc := M_X4_length) (As := []) (st := [.int v3]) (pc' := 12) dX8_tornBlocks_9 cw_X8_93 wd_1_235 wd_1_236 ⟨_, rfl, rfl⟩ (by decide) (by decide) rfl rfl (Nat.le_of_ble_eq_true rfl) px2 (c_X4_length ex2) rfl ?_
    rcases am_ite hF with ⟨z3, hF⟩ | ⟨z3, hF⟩
    · refine am_icmp_ge_t (pc' := 33) dX8_tornBlocks_12 rfl z3 ?_
      refine am_iload_n (pc' := 34) dX8_tornBlocks_33 rfl rfl ?_
      cases hF
      exact am_iret dX8_tornBlocks_34 rfl rfl
    · refine am_icmp_ge_f (pc' := 15) (tgt := 33) dX8_tornBlocks_12 rfl z3 rfl ?_
      refine am_aload_n (pc' := 16) dX8_tornBlocks_15 rfl rfl ?_
      refine am_aload_n (pc' := 17) dX8_tornBlocks_16 rfl rfl ?_
      refine am_iload_n (pc' := 18) dX8_tornBlocks_17 rfl rfl ?_
      obtain ⟨x4, ex4, hF⟩ := am_bind hF
      obtain ⟨ox4, px4⟩ := t_X8_isTornIn ex4
      refine am_callV1 (Mc := M_X8_isTornIn) (As := [.ref v1, .int v3]) (st := []) (pc' := 21) dX8_tornBlocks_18 cw_X8_164 wd_2_151 sl_X8_isTornIn ⟨_, rfl, rfl⟩ (by decide) (by decide) rfl rfl (Nat.le_of_ble_eq_true rfl) px4 (c_X8_isTornIn ex4) rfl ?_
      rcases am_ite hF with ⟨z5, hF⟩ | ⟨z5, hF⟩
      · refine am_if_eq_t (pc' := 27) dX8_tornBlocks_21 rfl z5 ?_
        exact w_X8_tornBlocks_27 (w_X8_tornBlocks_4 n) v0 v1 v2 v3 h hF
      · refine am_if_eq_f (pc' := 24) (tgt := 27) dX8_tornBlocks_21 rfl z5 rfl ?_
        refine am_iinc (ls' := [some (.ref v0), some (.ref v1), some (.int (v2 + (1 : Int32))), some (.int v3)]) (pc' := 27) (v := (v2 + (1 : Int32))) dX8_tornBlocks_24 rfl rfl (Nat.le_of_ble_eq_true rfl) rfl rfl ?_
        exact w_X8_tornBlocks_27 (w_X8_tornBlocks_4 n) v0 v1 (v2 + (1 : Int32)) v3 h hF
def F_X8_tornBlocks_b (v0 : Nat) (v1 : Nat) (h : am_H) : Option Int32 :=
  F_X8_tornBlocks_4 am_F v0 v1 (0 : Int32) (0 : Int32) h
theorem w_X8_tornBlocks {g : am_G} {l : Launch} {h0 : am_H} {x : Int32}  (v0 : Nat) (v1 : Nat) (h : am_H) (hF : F_X8_tornBlocks_b v0 v1 h = some x) : am_W g l M_X8_tornBlocks h0 (some (.int x)) h 0 [some (.ref v0), some (.ref v1), none, none] [] h := by
  unfold F_X8_tornBlocks_b at hF
  refine am_iconst (v := (0 : Int32)) (pc' := 1) dX8_tornBlocks_0 rfl rfl ?_
  refine am_istore_n (ls' := [some (.ref v0), some (.ref v1), some (.int (0 : Int32)), none]) (pc' := 2) dX8_tornBlocks_1 (Nat.le_of_ble_eq_true rfl) rfl rfl ?_
  refine am_iconst (v := (0 : Int32)) (pc' := 3) dX8_tornBlocks_2 rfl rfl ?_
  refine am_istore_n (ls' := [some (.ref v0), some (.ref v1), some (.int (0 : Int32)), some (.int (0 : Int32))]) (pc' := 4) dX8_tornBlocks_3 (Nat.le_of_ble_eq_true rfl) rfl rfl ?_
  exact w_X8_tornBlocks_4 am_F v0 v1 (0 : Int32) (0 : Int32) h hF
def F_X8_tornBlocks (v0 : Nat) (v1 : Nat) (h : am_H) : Option Int32 := (am_obj v0 8 h).bind fun _ => F_X8_tornBlocks_b v0 v1 h
theorem t_X8_tornBlocks {x : Int32}  {v0 : Nat} {v1 : Nat} {h : am_H} (hF : F_X8_tornBlocks v0 v1 h = some x) : ∃ fs, am_obj v0 8 h = some fs := by
  obtain ⟨fs, e, _⟩ := am_bind hF
  exact ⟨fs, e⟩
theorem c_X8_tornBlocks {g : am_G} {l : Launch} {x : Int32}  {v0 : Nat} {v1 : Nat} {h : am_H} (hF : F_X8_tornBlocks v0 v1 h = some x) : am_Met g l M_X8_tornBlocks [.ref v0, .ref v1] h (some (.int x)) h := by
  obtain ⟨fs, e0, e⟩ := am_bind hF
  exact am_met (n := 2) (by decide +kernel) rfl (Nat.le_of_ble_eq_true rfl) (w_X8_tornBlocks v0 v1 h e)
theorem cw_X8_328 : am_cw "SignCellar" 328 M_J9_max_7cf53 2 := ⟨wd_1_3, wd_1_29, ⟨by decide, by decide, by decide⟩, Or.inl wd_2_158⟩
def F_X8_indexAt_5 : Nat → Nat → Nat → Int32 → Int32 → Int32 → am_H → Option Int32
  | 0, _, _, _, _, _, _ => none
  | n + 1, v0, v1, v2, v3, v4, h =>
  (am_gr 7 0 v1 h).bind fun x1 =>
  (F_X4_length x1 h).bind fun x2 =>
  if x2 ≤ v4 then
    (am_gr 7 0 v1 h).bind fun x4 =>
    (F_X4_length x4 h).bind fun x5 =>
    (F_J9_max_7cf53 (0 : Int32) (x5 - (1 : Int32)) h).bind fun x6 =>
    some x6
  else
    (F_X8_lengthIn v0 v1 v4 h).bind fun x7 =>
    if (v3 + x7) ≤ v2 then
      F_X8_indexAt_5 n v0 v1 v2 (v3 + x7) (v4 + (1 : Int32)) h
    else
      some v4
theorem w_X8_indexAt_5 {g : am_G} {l : Launch} {h0 : am_H} {x : Int32}  : ∀ (n : Nat) (v0 : Nat) (v1 : Nat) (v2 : Int32) (v3 : Int32) (v4 : Int32) (h : am_H), F_X8_indexAt_5 n v0 v1 v2 v3 v4 h = some x → am_W g l M_X8_indexAt h0 (some (.int x)) h 5 [some (.ref v0), some (.ref v1), some (.int v2), some (.int v3), some (.int v4)] [] h
  | 0, _, _, _, _, _, _, hF => by cases hF
  | n + 1, v0, v1, v2, v3, v4, h, hF => by
    rw [F_X8_indexAt_5] at hF
    refine am_iload (pc' := 7) dX8_indexAt_5 rfl rfl ?_
    refine am_aload_n (pc' := 8) dX8_indexAt_7 rfl rfl ?_
    obtain ⟨x1, ex1, hF⟩ := am_bind hF
    refine am_getr (pc' := 11) dX8_indexAt_8 fw_X8_148 ex1 rfl ?_
    obtain ⟨x2, ex2, hF⟩ := am_bind hF
    obtain ⟨ox2, px2⟩ := t_X4_length ex2
    refine am_callV1 (Mc := M_X4_length) (As := []) (st := [.int v4]) (pc' := 14) dX8_indexAt_11 cw_X8_93 wd_1_235 wd_1_236 ⟨_, rfl, rfl⟩ (by decide) (by decide) rfl rfl (Nat.le_of_ble_eq_true rfl) px2 (c_X4_length ex2) rfl ?_
    rcases am_ite hF with ⟨z3, hF⟩ | ⟨z3, hF⟩
    · refine am_icmp_ge_t (pc' := 41) dX8_indexAt_14 rfl z3 ?_
      refine am_iconst (v := (0 : Int32)) (pc' := 42) dX8_indexAt_41 rfl rfl ?_
      refine am_aload_n (pc' := 43) dX8_indexAt_42 rfl rfl ?_
      obtain ⟨x4, ex4, hF⟩ := am_bind hF
      refine am_getr (pc' := 46) dX8_indexAt_43 fw_X8_148 ex4 rfl ?_
      obtain ⟨x5, ex5, hF⟩ := am_bind hF
      obtain ⟨ox5, px5⟩ := t_X4_length ex5
      refine am_callV1 (Mc := M_X4_length) (As := []) (st := [.int (0 : Int32)]) (pc' := 49) dX8_indexAt_46 cw_X8_93 wd_1_235 wd_1_236 ⟨_, rfl, rfl⟩ (by decide) (by decide) rfl rfl (Nat.le_of_ble_eq_true rfl) px5 (c_X4_length ex5) rfl ?_
      refine am_iconst (v := (1 : Int32)) (pc' := 50) dX8_indexAt_49 rfl rfl ?_
      refine am_isub (pc' := 51) dX8_indexAt_50 rfl ?_
      obtain ⟨x6, ex6, hF⟩ := am_bind hF
      refine am_callS1 (Mc := M_J9_max_7cf53) (As := [.int (0 : Int32), .int (x5 - (1 : Int32))]) (st := []) (pc' := 54) dX8_indexAt_51 cw_X8_328 wd_1_28 (by decide) (by decide) rfl rfl (Nat.le_of_ble_eq_true rfl) (c_J9_max_7cf53 ex6) rfl ?_
      cases hF
      exact am_iret dX8_indexAt_54 rfl rfl
    · refine am_icmp_ge_f (pc' := 17) (tgt := 41) dX8_indexAt_14 rfl z3 rfl ?_
      refine am_iload_n (pc' := 18) dX8_indexAt_17 rfl rfl ?_
      refine am_aload_n (pc' := 19) dX8_indexAt_18 rfl rfl ?_
      refine am_aload_n (pc' := 20) dX8_indexAt_19 rfl rfl ?_
      refine am_iload (pc' := 22) dX8_indexAt_20 rfl rfl ?_
      obtain ⟨x7, ex7, hF⟩ := am_bind hF
      obtain ⟨ox7, px7⟩ := t_X8_lengthIn ex7
      refine am_callV1 (Mc := M_X8_lengthIn) (As := [.ref v1, .int v4]) (st := [.int v3]) (pc' := 25) dX8_indexAt_22 cw_X8_145 wd_2_114 sl_X8_lengthIn ⟨_, rfl, rfl⟩ (by decide) (by decide) rfl rfl (Nat.le_of_ble_eq_true rfl) px7 (c_X8_lengthIn ex7) rfl ?_
      refine am_iadd (pc' := 26) dX8_indexAt_25 rfl ?_
      refine am_istore_n (ls' := [some (.ref v0), some (.ref v1), some (.int v2), some (.int (v3 + x7)), some (.int v4)]) (pc' := 27) dX8_indexAt_26 (Nat.le_of_ble_eq_true rfl) rfl rfl ?_
      refine am_iload_n (pc' := 28) dX8_indexAt_27 rfl rfl ?_
      refine am_iload_n (pc' := 29) dX8_indexAt_28 rfl rfl ?_
      rcases am_ite hF with ⟨z8, hF⟩ | ⟨z8, hF⟩
      · refine am_icmp_ge_t (pc' := 35) dX8_indexAt_29 rfl z8 ?_
        refine am_iinc (ls' := [some (.ref v0), some (.ref v1), some (.int v2), some (.int (v3 + x7)), some (.int (v4 + (1 : Int32)))]) (pc' := 38) (v := (v4 + (1 : Int32))) dX8_indexAt_35 rfl rfl (Nat.le_of_ble_eq_true rfl) rfl rfl ?_
        refine am_goto (pc' := 5) dX8_indexAt_38 rfl ?_
        exact w_X8_indexAt_5 n v0 v1 v2 (v3 + x7) (v4 + (1 : Int32)) h hF
      · refine am_icmp_ge_f (pc' := 32) (tgt := 35) dX8_indexAt_29 rfl z8 rfl ?_
        refine am_iload (pc' := 34) dX8_indexAt_32 rfl rfl ?_
        cases hF
        exact am_iret dX8_indexAt_34 rfl rfl
def F_X8_indexAt_b (v0 : Nat) (v1 : Nat) (v2 : Int32) (h : am_H) : Option Int32 :=
  F_X8_indexAt_5 am_F v0 v1 v2 (0 : Int32) (0 : Int32) h
theorem w_X8_indexAt {g : am_G} {l : Launch} {h0 : am_H} {x : Int32}  (v0 : Nat) (v1 : Nat) (v2 : Int32) (h : am_H) (hF : F_X8_indexAt_b v0 v1 v2 h = some x) : am_W g l M_X8_indexAt h0 (some (.int x)) h 0 [some (.ref v0), some (.ref v1), some (.int v2), none, none] [] h := by
  unfold F_X8_indexAt_b at hF
  refine am_iconst (v := (0 : Int32)) (pc' := 1) dX8_indexAt_0 rfl rfl ?_
  refine am_istore_n (ls' := [some (.ref v0), some (.ref v1), some (.int v2), some (.int (0 : Int32)), none]) (pc' := 2) dX8_indexAt_1 (Nat.le_of_ble_eq_true rfl) rfl rfl ?_
  refine am_iconst (v := (0 : Int32)) (pc' := 3) dX8_indexAt_2 rfl rfl ?_
  refine am_istore (ls' := [some (.ref v0), some (.ref v1), some (.int v2), some (.int (0 : Int32)), some (.int (0 : Int32))]) (pc' := 5) dX8_indexAt_3 (Nat.le_of_ble_eq_true rfl) rfl rfl ?_
  exact w_X8_indexAt_5 am_F v0 v1 v2 (0 : Int32) (0 : Int32) h hF
def F_X8_indexAt (v0 : Nat) (v1 : Nat) (v2 : Int32) (h : am_H) : Option Int32 := (am_obj v0 8 h).bind fun _ => F_X8_indexAt_b v0 v1 v2 h
theorem t_X8_indexAt {x : Int32}  {v0 : Nat} {v1 : Nat} {v2 : Int32} {h : am_H} (hF : F_X8_indexAt v0 v1 v2 h = some x) : ∃ fs, am_obj v0 8 h = some fs := by
  obtain ⟨fs, e, _⟩ := am_bind hF
  exact ⟨fs, e⟩
theorem c_X8_indexAt {g : am_G} {l : Launch} {x : Int32}  {v0 : Nat} {v1 : Nat} {v2 : Int32} {h : am_H} (hF : F_X8_indexAt v0 v1 v2 h = some x) : am_Met g l M_X8_indexAt [.ref v0, .ref v1, .int v2] h (some (.int x)) h := by
  obtain ⟨fs, e0, e⟩ := am_bind hF
  exact am_met (n := 2) (by decide +kernel) rfl (Nat.le_of_ble_eq_true rfl) (w_X8_indexAt v0 v1 v2 h e)
def F_X8_startOf_39 (v3 : Int32) (h : am_H) : Option Int32 :=
  some v3
theorem w_X8_startOf_39 {g : am_G} {l : Launch} {h0 : am_H} {x : Int32}  (v3 : Int32) (h : am_H) (hF : F_X8_startOf_39 v3 h = some x) : am_W g l M_X8_startOf h0 (some (.int x)) h 39 [none, none, none, some (.int v3), none] [] h := by
  unfold F_X8_startOf_39 at hF
  refine am_iload_n (pc' := 40) dX8_startOf_39 rfl rfl ?_
  cases hF
  exact am_iret dX8_startOf_40 rfl rfl
def F_X8_startOf_5 : Nat → Nat → Nat → Int32 → Int32 → Int32 → am_H → Option Int32
  | 0, _, _, _, _, _, _ => none
  | n + 1, v0, v1, v2, v3, v4, h =>
  if v2 ≤ v4 then
    F_X8_startOf_39 v3 h
  else
    (am_gr 7 0 v1 h).bind fun x2 =>
    (F_X4_length x2 h).bind fun x3 =>
    if x3 ≤ v4 then
      F_X8_startOf_39 v3 h
    else
      (F_X8_lengthIn v0 v1 v4 h).bind fun x5 =>
      F_X8_startOf_5 n v0 v1 v2 (v3 + x5) (v4 + (1 : Int32)) h
theorem w_X8_startOf_5 {g : am_G} {l : Launch} {h0 : am_H} {x : Int32}  : ∀ (n : Nat) (v0 : Nat) (v1 : Nat) (v2 : Int32) (v3 : Int32) (v4 : Int32) (h : am_H), F_X8_startOf_5 n v0 v1 v2 v3 v4 h = some x → am_W g l M_X8_startOf h0 (some (.int x)) h 5 [some (.ref v0), some (.ref v1), some (.int v2), some (.int v3), some (.int v4)] [] h
  | 0, _, _, _, _, _, _, hF => by cases hF
  | n + 1, v0, v1, v2, v3, v4, h, hF => by
    rw [F_X8_startOf_5] at hF
    refine am_iload (pc' := 7) dX8_startOf_5 rfl rfl ?_
    refine am_iload_n (pc' := 8) dX8_startOf_7 rfl rfl ?_
    rcases am_ite hF with ⟨z1, hF⟩ | ⟨z1, hF⟩
    · refine am_icmp_ge_t (pc' := 39) dX8_startOf_8 rfl z1 ?_
      exact am_weak [false, false, false, true, false] (w_X8_startOf_39 v3 h hF)
    · refine am_icmp_ge_f (pc' := 11) (tgt := 39) dX8_startOf_8 rfl z1 rfl ?_
      refine am_iload (pc' := 13) dX8_startOf_11 rfl rfl ?_
      refine am_aload_n (pc' := 14) dX8_startOf_13 rfl rfl ?_
      obtain ⟨x2, ex2, hF⟩ := am_bind hF
      refine am_getr (pc' := 17) dX8_startOf_14 fw_X8_148 ex2 rfl ?_
      obtain ⟨x3, ex3, hF⟩ := am_bind hF
      obtain ⟨ox3, px3⟩ := t_X4_length ex3
      refine am_callV1 (Mc := M_X4_length) (As := []) (st := [.int v4]) (pc' := 20) dX8_startOf_17 cw_X8_93 wd_1_235 wd_1_236 ⟨_, rfl, rfl⟩ (by decide) (by decide) rfl rfl (Nat.le_of_ble_eq_true rfl) px3 (c_X4_length ex3) rfl ?_
      rcases am_ite hF with ⟨z4, hF⟩ | ⟨z4, hF⟩
      · refine am_icmp_ge_t (pc' := 39) dX8_startOf_20 rfl z4 ?_
        exact am_weak [false, false, false, true, false] (w_X8_startOf_39 v3 h hF)
      · refine am_icmp_ge_f (pc' := 23) (tgt := 39) dX8_startOf_20 rfl z4 rfl ?_
        refine am_iload_n (pc' := 24) dX8_startOf_23 rfl rfl ?_
        refine am_aload_n (pc' := 25) dX8_startOf_24 rfl rfl ?_
        refine am_aload_n (pc' := 26) dX8_startOf_25 rfl rfl ?_
        refine am_iload (pc' := 28) dX8_startOf_26 rfl rfl ?_
        obtain ⟨x5, ex5, hF⟩ := am_bind hF
        obtain ⟨ox5, px5⟩ := t_X8_lengthIn ex5
        refine am_callV1 (Mc := M_X8_lengthIn) (As := [.ref v1, .int v4]) (st := [.int v3]) (pc' := 31) dX8_startOf_28 cw_X8_145 wd_2_114 sl_X8_lengthIn ⟨_, rfl, rfl⟩ (by decide) (by decide) rfl rfl (Nat.le_of_ble_eq_true rfl) px5 (c_X8_lengthIn ex5) rfl ?_
        refine am_iadd (pc' := 32) dX8_startOf_31 rfl ?_
        refine am_istore_n (ls' := [some (.ref v0), some (.ref v1), some (.int v2), some (.int (v3 + x5)), some (.int v4)]) (pc' := 33) dX8_startOf_32 (Nat.le_of_ble_eq_true rfl) rfl rfl ?_
        refine am_iinc (ls' := [some (.ref v0), some (.ref v1), some (.int v2), some (.int (v3 + x5)), some (.int (v4 + (1 : Int32)))]) (pc' := 36) (v := (v4 + (1 : Int32))) dX8_startOf_33 rfl rfl (Nat.le_of_ble_eq_true rfl) rfl rfl ?_
        refine am_goto (pc' := 5) dX8_startOf_36 rfl ?_
        exact w_X8_startOf_5 n v0 v1 v2 (v3 + x5) (v4 + (1 : Int32)) h hF
def F_X8_startOf_b (v0 : Nat) (v1 : Nat) (v2 : Int32) (h : am_H) : Option Int32 :=
  F_X8_startOf_5 am_F v0 v1 v2 (0 : Int32) (0 : Int32) h
theorem w_X8_startOf {g : am_G} {l : Launch} {h0 : am_H} {x : Int32}  (v0 : Nat) (v1 : Nat) (v2 : Int32) (h : am_H) (hF : F_X8_startOf_b v0 v1 v2 h = some x) : am_W g l M_X8_startOf h0 (some (.int x)) h 0 [some (.ref v0), some (.ref v1), some (.int v2), none, none] [] h := by
  unfold F_X8_startOf_b at hF
  refine am_iconst (v := (0 : Int32)) (pc' := 1) dX8_startOf_0 rfl rfl ?_
  refine am_istore_n (ls' := [some (.ref v0), some (.ref v1), some (.int v2), some (.int (0 : Int32)), none]) (pc' := 2) dX8_startOf_1 (Nat.le_of_ble_eq_true rfl) rfl rfl ?_
  refine am_iconst (v := (0 : Int32)) (pc' := 3) dX8_startOf_2 rfl rfl ?_
  refine am_istore (ls' := [some (.ref v0), some (.ref v1), some (.int v2), some (.int (0 : Int32)), some (.int (0 : Int32))]) (pc' := 5) dX8_startOf_3 (Nat.le_of_ble_eq_true rfl) rfl rfl ?_
  exact w_X8_startOf_5 am_F v0 v1 v2 (0 : Int32) (0 : Int32) h hF
def F_X8_startOf (v0 : Nat) (v1 : Nat) (v2 : Int32) (h : am_H) : Option Int32 := (am_obj v0 8 h).bind fun _ => F_X8_startOf_b v0 v1 v2 h
theorem t_X8_startOf {x : Int32}  {v0 : Nat} {v1 : Nat} {v2 : Int32} {h : am_H} (hF : F_X8_startOf v0 v1 v2 h = some x) : ∃ fs, am_obj v0 8 h = some fs := by
  obtain ⟨fs, e, _⟩ := am_bind hF
  exact ⟨fs, e⟩
theorem c_X8_startOf {g : am_G} {l : Launch} {x : Int32}  {v0 : Nat} {v1 : Nat} {v2 : Int32} {h : am_H} (hF : F_X8_startOf v0 v1 v2 h = some x) : am_Met g l M_X8_startOf [.ref v0, .ref v1, .int v2] h (some (.int x)) h := by
  obtain ⟨fs, e0, e⟩ := am_bind hF
  exact am_met (n := 2) (by decide +kernel) rfl (Nat.le_of_ble_eq_true rfl) (w_X8_startOf v0 v1 v2 h e)
theorem cw_X8_335 : am_cw "SignCellar" 335 M_X4_addPart 3 := ⟨wd_1_2, wd_2_53, ⟨by decide, by decide, by decide⟩, Or.inl wd_2_167⟩
theorem fw_X8_46 : am_fw "SignCellar" 46 8 8 := ⟨(RX8, TX8, 16), rfl, by decide, inX8, Or.inl wd_1_188⟩
def F_X8_spell_84 (h : am_H) : Option am_H :=
  some h
theorem w_X8_spell_84 {g : am_G} {l : Launch} {h0 : am_H} {hf : am_H}  (h : am_H) (hF : F_X8_spell_84 h = some hf) : am_W g l M_X8_spell h0 none hf 84 [none, none, none, none, none, none, none] [] h := by
  unfold F_X8_spell_84 at hF
  cases hF
  exact am_vret dX8_spell_84 rfl
def F_X8_spell_55 (v0 : Nat) (v3 : Int32) (v5 : Int32) (v6 : Nat) (h : am_H) : Option am_H :=
  if v6 = 0 then
    F_X8_spell_84 h
  else
    (am_gr 8 8 v0 h).bind fun x2 =>
    (am_gr 0 0 v6 h).bind fun x3 =>
    (am_gr 0 0 v6 h).bind fun x4 =>
    (F_X4_length x4 h).bind fun x5 =>
    (F_X4_addPart x2 x3 (v3 + v5) x5 h).bind fun h6 =>
    F_X8_spell_84 h6
theorem w_X8_spell_55 {g : am_G} {l : Launch} {h0 : am_H} {hf : am_H}  (v0 : Nat) (v3 : Int32) (v5 : Int32) (v6 : Nat) (h : am_H) (hF : F_X8_spell_55 v0 v3 v5 v6 h = some hf) : am_W g l M_X8_spell h0 none hf 55 [some (.ref v0), none, none, some (.int v3), none, some (.int v5), some (.ref v6)] [] h := by
  unfold F_X8_spell_55 at hF
  refine am_aload (pc' := 57) dX8_spell_55 rfl rfl ?_
  rcases am_ite hF with ⟨z1, hF⟩ | ⟨z1, hF⟩
  · refine am_ifnull_t (pc' := 84) dX8_spell_57 rfl z1 ?_
    exact am_weak [false, false, false, false, false, false, false] (w_X8_spell_84 h hF)
  · refine am_ifnull_f (pc' := 60) dX8_spell_57 z1 rfl ?_
    refine am_aload_n (pc' := 61) dX8_spell_60 rfl rfl ?_
    obtain ⟨x2, ex2, hF⟩ := am_bind hF
    refine am_getr (pc' := 64) dX8_spell_61 fw_X8_46 ex2 rfl ?_
    refine am_aload (pc' := 66) dX8_spell_64 rfl rfl ?_
    obtain ⟨x3, ex3, hF⟩ := am_bind hF
    refine am_getr (pc' := 69) dX8_spell_66 fw_X8_180 ex3 rfl ?_
    refine am_iload_n (pc' := 70) dX8_spell_69 rfl rfl ?_
    refine am_iload (pc' := 72) dX8_spell_70 rfl rfl ?_
    refine am_iadd (pc' := 73) dX8_spell_72 rfl ?_
    refine am_aload (pc' := 75) dX8_spell_73 rfl rfl ?_
    obtain ⟨x4, ex4, hF⟩ := am_bind hF
    refine am_getr (pc' := 78) dX8_spell_75 fw_X8_180 ex4 rfl ?_
    obtain ⟨x5, ex5, hF⟩ := am_bind hF
    obtain ⟨ox5, px5⟩ := t_X4_length ex5
    refine am_callV1 (Mc := M_X4_length) (As := []) (st := [.int (v3 + v5), .ref x3, .ref x2]) (pc' := 81) dX8_spell_78 cw_X8_93 wd_1_235 wd_1_236 ⟨_, rfl, rfl⟩ (by decide) (by decide) rfl rfl (Nat.le_of_ble_eq_true rfl) px5 (c_X4_length ex5) rfl ?_
    obtain ⟨h6, eh6, hF⟩ := am_bind hF
    obtain ⟨oh6, ph6⟩ := t_X4_addPart eh6
    refine am_callV0 (Mc := M_X4_addPart) (As := [.ref x3, .int (v3 + v5), .int x5]) (st := []) (pc' := 84) dX8_spell_81 cw_X8_335 wd_2_51 wd_2_52 ⟨_, rfl, rfl⟩ (by decide) (by decide) rfl rfl (Nat.le_of_ble_eq_true rfl) ph6 (c_X4_addPart eh6) rfl ?_
    exact am_weak [false, false, false, false, false, false, false] (w_X8_spell_84 h6 hF)
def F_X8_spell_40 (v0 : Nat) (v3 : Int32) (v4 : Int32) (v5 : Int32) (v6 : Nat) (h : am_H) : Option am_H :=
  if v4 = (-1 : Int32) then
    F_X8_spell_55 v0 v3 v5 v6 h
  else
    (am_gr 8 8 v0 h).bind fun x2 =>
    (F_X4_add x2 v4 h).bind fun h3 =>
    F_X8_spell_55 v0 v3 v5 v6 h3
theorem w_X8_spell_40 {g : am_G} {l : Launch} {h0 : am_H} {hf : am_H}  (v0 : Nat) (v3 : Int32) (v4 : Int32) (v5 : Int32) (v6 : Nat) (h : am_H) (hF : F_X8_spell_40 v0 v3 v4 v5 v6 h = some hf) : am_W g l M_X8_spell h0 none hf 40 [some (.ref v0), none, none, some (.int v3), some (.int v4), some (.int v5), some (.ref v6)] [] h := by
  unfold F_X8_spell_40 at hF
  refine am_iload (pc' := 42) dX8_spell_40 rfl rfl ?_
  refine am_iconst (v := (-1 : Int32)) (pc' := 43) dX8_spell_42 rfl rfl ?_
  rcases am_ite hF with ⟨z1, hF⟩ | ⟨z1, hF⟩
  · refine am_icmp_eq_t (pc' := 55) dX8_spell_43 rfl z1 ?_
    exact am_weak [true, false, false, true, false, true, true] (w_X8_spell_55 v0 v3 v5 v6 h hF)
  · refine am_icmp_eq_f (pc' := 46) (tgt := 55) dX8_spell_43 rfl z1 rfl ?_
    refine am_aload_n (pc' := 47) dX8_spell_46 rfl rfl ?_
    obtain ⟨x2, ex2, hF⟩ := am_bind hF
    refine am_getr (pc' := 50) dX8_spell_47 fw_X8_46 ex2 rfl ?_
    refine am_iload (pc' := 52) dX8_spell_50 rfl rfl ?_
    obtain ⟨h3, eh3, hF⟩ := am_bind hF
    obtain ⟨oh3, ph3⟩ := t_X4_add eh3
    refine am_callV0 (Mc := M_X4_add) (As := [.int v4]) (st := []) (pc' := 55) dX8_spell_52 cw_X8_98 wd_2_0 wd_2_1 ⟨_, rfl, rfl⟩ (by decide) (by decide) rfl rfl (Nat.le_of_ble_eq_true rfl) ph3 (c_X4_add eh3) rfl ?_
    exact am_weak [true, false, false, true, false, true, true] (w_X8_spell_55 v0 v3 v5 v6 h3 hF)
def F_X8_spell_b (v0 : Nat) (v1 : Nat) (v2 : Int32) (v3 : Int32) (v4 : Int32) (v5 : Int32) (h : am_H) : Option am_H :=
  (am_gr 7 0 v1 h).bind fun x1 =>
  (F_X4_at x1 v2 h).bind fun x2 =>
  (F_X8_blockOf v0 x2 h).bind fun x3 =>
  (am_gr 8 8 v0 h).bind fun x4 =>
  (F_X4_empty x4 h).bind fun h5 =>
  if x3 = 0 then
    F_X8_spell_40 v0 v3 v4 v5 x3 h5
  else
    (am_gr 8 8 v0 h5).bind fun x7 =>
    (am_gr 0 0 x3 h5).bind fun x8 =>
    (F_X4_addPart x7 x8 (0 : Int32) v3 h5).bind fun h9 =>
    F_X8_spell_40 v0 v3 v4 v5 x3 h9
theorem w_X8_spell {g : am_G} {l : Launch} {h0 : am_H} {hf : am_H}  (v0 : Nat) (v1 : Nat) (v2 : Int32) (v3 : Int32) (v4 : Int32) (v5 : Int32) (h : am_H) (hF : F_X8_spell_b v0 v1 v2 v3 v4 v5 h = some hf) : am_W g l M_X8_spell h0 none hf 0 [some (.ref v0), some (.ref v1), some (.int v2), some (.int v3), some (.int v4), some (.int v5), none] [] h := by
  unfold F_X8_spell_b at hF
  refine am_aload_n (pc' := 1) dX8_spell_0 rfl rfl ?_
  refine am_aload_n (pc' := 2) dX8_spell_1 rfl rfl ?_
  obtain ⟨x1, ex1, hF⟩ := am_bind hF
  refine am_getr (pc' := 5) dX8_spell_2 fw_X8_148 ex1 rfl ?_
  refine am_iload_n (pc' := 6) dX8_spell_5 rfl rfl ?_
  obtain ⟨x2, ex2, hF⟩ := am_bind hF
  obtain ⟨ox2, px2⟩ := t_X4_at ex2
  refine am_callV1 (Mc := M_X4_at) (As := [.int v2]) (st := [.ref v0]) (pc' := 9) dX8_spell_6 cw_X8_161 wd_2_40 wd_2_41 ⟨_, rfl, rfl⟩ (by decide) (by decide) rfl rfl (Nat.le_of_ble_eq_true rfl) px2 (c_X4_at ex2) rfl ?_
  obtain ⟨x3, ex3, hF⟩ := am_bind hF
  obtain ⟨ox3, px3⟩ := t_X8_blockOf ex3
  refine am_callV1 (Mc := M_X8_blockOf) (As := [.int x2]) (st := []) (pc' := 12) dX8_spell_9 cw_X8_176 wd_2_33 sl_X8_blockOf ⟨_, rfl, rfl⟩ (by decide) (by decide) rfl rfl (Nat.le_of_ble_eq_true rfl) px3 (c_X8_blockOf ex3) rfl ?_
  refine am_astore (ls' := [some (.ref v0), some (.ref v1), some (.int v2), some (.int v3), some (.int v4), some (.int v5), some (.ref x3)]) (pc' := 14) dX8_spell_12 (Nat.le_of_ble_eq_true rfl) rfl rfl ?_
  refine am_aload_n (pc' := 15) dX8_spell_14 rfl rfl ?_
  obtain ⟨x4, ex4, hF⟩ := am_bind hF
  refine am_getr (pc' := 18) dX8_spell_15 fw_X8_46 ex4 rfl ?_
  obtain ⟨h5, eh5, hF⟩ := am_bind hF
  obtain ⟨oh5, ph5⟩ := t_X4_empty eh5
  refine am_callV0 (Mc := M_X4_empty) (As := []) (st := []) (pc' := 21) dX8_spell_18 cw_X8_119 wd_2_17 wd_2_18 ⟨_, rfl, rfl⟩ (by decide) (by decide) rfl rfl (Nat.le_of_ble_eq_true rfl) ph5 (c_X4_empty eh5) rfl ?_
  refine am_aload (pc' := 23) dX8_spell_21 rfl rfl ?_
  rcases am_ite hF with ⟨z6, hF⟩ | ⟨z6, hF⟩
  · refine am_ifnull_t (pc' := 40) dX8_spell_23 rfl z6 ?_
    exact am_weak [true, false, false, true, true, true, true] (w_X8_spell_40 v0 v3 v4 v5 x3 h5 hF)
  · refine am_ifnull_f (pc' := 26) dX8_spell_23 z6 rfl ?_
    refine am_aload_n (pc' := 27) dX8_spell_26 rfl rfl ?_
    obtain ⟨x7, ex7, hF⟩ := am_bind hF
    refine am_getr (pc' := 30) dX8_spell_27 fw_X8_46 ex7 rfl ?_
    refine am_aload (pc' := 32) dX8_spell_30 rfl rfl ?_
    obtain ⟨x8, ex8, hF⟩ := am_bind hF
    refine am_getr (pc' := 35) dX8_spell_32 fw_X8_180 ex8 rfl ?_
    refine am_iconst (v := (0 : Int32)) (pc' := 36) dX8_spell_35 rfl rfl ?_
    refine am_iload_n (pc' := 37) dX8_spell_36 rfl rfl ?_
    obtain ⟨h9, eh9, hF⟩ := am_bind hF
    obtain ⟨oh9, ph9⟩ := t_X4_addPart eh9
    refine am_callV0 (Mc := M_X4_addPart) (As := [.ref x8, .int (0 : Int32), .int v3]) (st := []) (pc' := 40) dX8_spell_37 cw_X8_335 wd_2_51 wd_2_52 ⟨_, rfl, rfl⟩ (by decide) (by decide) rfl rfl (Nat.le_of_ble_eq_true rfl) ph9 (c_X4_addPart eh9) rfl ?_
    exact am_weak [true, false, false, true, true, true, true] (w_X8_spell_40 v0 v3 v4 v5 x3 h9 hF)
def F_X8_spell (v0 : Nat) (v1 : Nat) (v2 : Int32) (v3 : Int32) (v4 : Int32) (v5 : Int32) (h : am_H) : Option am_H := (am_obj v0 8 h).bind fun _ => F_X8_spell_b v0 v1 v2 v3 v4 v5 h
theorem t_X8_spell {hf : am_H}  {v0 : Nat} {v1 : Nat} {v2 : Int32} {v3 : Int32} {v4 : Int32} {v5 : Int32} {h : am_H} (hF : F_X8_spell v0 v1 v2 v3 v4 v5 h = some hf) : ∃ fs, am_obj v0 8 h = some fs := by
  obtain ⟨fs, e, _⟩ := am_bind hF
  exact ⟨fs, e⟩
theorem c_X8_spell {g : am_G} {l : Launch} {hf : am_H}  {v0 : Nat} {v1 : Nat} {v2 : Int32} {v3 : Int32} {v4 : Int32} {v5 : Int32} {h : am_H} (hF : F_X8_spell v0 v1 v2 v3 v4 v5 h = some hf) : am_Met g l M_X8_spell [.ref v0, .ref v1, .int v2, .int v3, .int v4, .int v5] h none hf := by
  obtain ⟨fs, e0, e⟩ := am_bind hF
  exact am_met (n := 1) (by decide +kernel) rfl (Nat.le_of_ble_eq_true rfl) (w_X8_spell v0 v1 v2 v3 v4 v5 h e)
def F_X8_planSpelled_20 (v0 : Nat) (v1 : Int32) (s0 : Int32) (h : am_H) : Option am_H :=
  (am_gr 8 8 v0 h).bind fun x1 =>
  (F_X8_planBlock v0 x1 (0 : Int32) s0 h).bind fun h2 =>
  (am_gr 8 8 v0 h2).bind fun x3 =>
  (F_X8_planBlock v0 x3 s0 v1 h2).bind fun h4 =>
  some h4
theorem w_X8_planSpelled_20 {g : am_G} {l : Launch} {h0 : am_H} {hf : am_H}  (v0 : Nat) (v1 : Int32) (s0 : Int32) (h : am_H) (hF : F_X8_planSpelled_20 v0 v1 s0 h = some hf) : am_W g l M_X8_planSpelled h0 none hf 20 [some (.ref v0), some (.int v1), none] [.int s0] h := by
  unfold F_X8_planSpelled_20 at hF
  refine am_istore_n (ls' := [some (.ref v0), some (.int v1), some (.int s0)]) (pc' := 21) dX8_planSpelled_20 (Nat.le_of_ble_eq_true rfl) rfl rfl ?_
  refine am_aload_n (pc' := 22) dX8_planSpelled_21 rfl rfl ?_
  refine am_aload_n (pc' := 23) dX8_planSpelled_22 rfl rfl ?_
  obtain ⟨x1, ex1, hF⟩ := am_bind hF
  refine am_getr (pc' := 26) dX8_planSpelled_23 fw_X8_46 ex1 rfl ?_
  refine am_iconst (v := (0 : Int32)) (pc' := 27) dX8_planSpelled_26 rfl rfl ?_
  refine am_iload_n (pc' := 28) dX8_planSpelled_27 rfl rfl ?_
  obtain ⟨h2, eh2, hF⟩ := am_bind hF
  obtain ⟨oh2, ph2⟩ := t_X8_planBlock eh2
  refine am_callV0 (Mc := M_X8_planBlock) (As := [.ref x1, .int (0 : Int32), .int s0]) (st := []) (pc' := 31) dX8_planSpelled_28 cw_X8_115 wd_2_25 sl_X8_planBlock ⟨_, rfl, rfl⟩ (by decide) (by decide) rfl rfl (Nat.le_of_ble_eq_true rfl) ph2 (c_X8_planBlock eh2) rfl ?_
  refine am_aload_n (pc' := 32) dX8_planSpelled_31 rfl rfl ?_
  refine am_aload_n (pc' := 33) dX8_planSpelled_32 rfl rfl ?_
  obtain ⟨x3, ex3, hF⟩ := am_bind hF
  refine am_getr (pc' := 36) dX8_planSpelled_33 fw_X8_46 ex3 rfl ?_
  refine am_iload_n (pc' := 37) dX8_planSpelled_36 rfl rfl ?_
  refine am_iload_n (pc' := 38) dX8_planSpelled_37 rfl rfl ?_
  obtain ⟨h4, eh4, hF⟩ := am_bind hF
  obtain ⟨oh4, ph4⟩ := t_X8_planBlock eh4
  refine am_callV0 (Mc := M_X8_planBlock) (As := [.ref x3, .int s0, .int v1]) (st := []) (pc' := 41) dX8_planSpelled_38 cw_X8_115 wd_2_25 sl_X8_planBlock ⟨_, rfl, rfl⟩ (by decide) (by decide) rfl rfl (Nat.le_of_ble_eq_true rfl) ph4 (c_X8_planBlock eh4) rfl ?_
  cases hF
  exact am_vret dX8_planSpelled_41 rfl
def F_X8_planSpelled_b (v0 : Nat) (h : am_H) : Option am_H :=
  (am_gr 8 8 v0 h).bind fun x1 =>
  (F_X4_length x1 h).bind fun x2 =>
  if x2 ≤ (24 : Int32) then
    F_X8_planSpelled_20 v0 x2 x2 h
  else
    F_X8_planSpelled_20 v0 x2 (12 : Int32) h
theorem w_X8_planSpelled {g : am_G} {l : Launch} {h0 : am_H} {hf : am_H}  (v0 : Nat) (h : am_H) (hF : F_X8_planSpelled_b v0 h = some hf) : am_W g l M_X8_planSpelled h0 none hf 0 [some (.ref v0), none, none] [] h := by
  unfold F_X8_planSpelled_b at hF
  refine am_aload_n (pc' := 1) dX8_planSpelled_0 rfl rfl ?_
  obtain ⟨x1, ex1, hF⟩ := am_bind hF
  refine am_getr (pc' := 4) dX8_planSpelled_1 fw_X8_46 ex1 rfl ?_
  obtain ⟨x2, ex2, hF⟩ := am_bind hF
  obtain ⟨ox2, px2⟩ := t_X4_length ex2
  refine am_callV1 (Mc := M_X4_length) (As := []) (st := []) (pc' := 7) dX8_planSpelled_4 cw_X8_93 wd_1_235 wd_1_236 ⟨_, rfl, rfl⟩ (by decide) (by decide) rfl rfl (Nat.le_of_ble_eq_true rfl) px2 (c_X4_length ex2) rfl ?_
  refine am_istore_n (ls' := [some (.ref v0), some (.int x2), none]) (pc' := 8) dX8_planSpelled_7 (Nat.le_of_ble_eq_true rfl) rfl rfl ?_
  refine am_iload_n (pc' := 9) dX8_planSpelled_8 rfl rfl ?_
  refine am_bipush (v := (24 : Int32)) (pc' := 11) dX8_planSpelled_9 rfl rfl ?_
  rcases am_ite hF with ⟨z3, hF⟩ | ⟨z3, hF⟩
  · refine am_icmp_le_t (pc' := 19) dX8_planSpelled_11 rfl z3 ?_
    refine am_iload_n (pc' := 20) dX8_planSpelled_19 rfl rfl ?_
    exact w_X8_planSpelled_20 v0 x2 x2 h hF
  · refine am_icmp_le_f (pc' := 14) (tgt := 19) dX8_planSpelled_11 rfl z3 rfl ?_
    refine am_bipush (v := (12 : Int32)) (pc' := 16) dX8_planSpelled_14 rfl rfl ?_
    refine am_goto (pc' := 20) dX8_planSpelled_16 rfl ?_
    exact w_X8_planSpelled_20 v0 x2 (12 : Int32) h hF
def F_X8_planSpelled (v0 : Nat) (h : am_H) : Option am_H := (am_obj v0 8 h).bind fun _ => F_X8_planSpelled_b v0 h
theorem t_X8_planSpelled {hf : am_H}  {v0 : Nat} {h : am_H} (hF : F_X8_planSpelled v0 h = some hf) : ∃ fs, am_obj v0 8 h = some fs := by
  obtain ⟨fs, e, _⟩ := am_bind hF
  exact ⟨fs, e⟩
theorem c_X8_planSpelled {g : am_G} {l : Launch} {hf : am_H}  {v0 : Nat} {h : am_H} (hF : F_X8_planSpelled v0 h = some hf) : am_Met g l M_X8_planSpelled [.ref v0] h none hf := by
  obtain ⟨fs, e0, e⟩ := am_bind hF
  exact am_met (n := 2) (by decide +kernel) rfl (Nat.le_of_ble_eq_true rfl) (w_X8_planSpelled v0 h e)
theorem cw_X8_126 : am_cw "SignCellar" 126 M_X8_versionOf 1 := ⟨wd_1_1, wd_2_136, ⟨by decide, by decide, by decide⟩, Or.inl wd_2_133⟩
theorem cw_X8_141 : am_cw "SignCellar" 141 M_X8_indexAt 2 := ⟨wd_1_1, wd_2_157, ⟨by decide, by decide, by decide⟩, Or.inl wd_2_154⟩
theorem cw_X8_157 : am_cw "SignCellar" 157 M_X8_tornBlocks 1 := ⟨wd_1_1, wd_2_148, ⟨by decide, by decide, by decide⟩, Or.inl wd_2_145⟩
theorem cw_X8_169 : am_cw "SignCellar" 169 M_X8_startOf 2 := ⟨wd_1_1, wd_2_162, ⟨by decide, by decide, by decide⟩, Or.inl wd_2_159⟩
theorem cw_X8_331 : am_cw "SignCellar" 331 M_X8_spell 5 := ⟨wd_1_1, wd_2_166, ⟨by decide, by decide, by decide⟩, Or.inl wd_2_163⟩
theorem cw_X8_338 : am_cw "SignCellar" 338 M_X8_planSpelled 0 := ⟨wd_1_1, wd_2_171, ⟨by decide, by decide, by decide⟩, Or.inl wd_2_168⟩
theorem sl_X8_indexAt : Cond.selects (⟨"SignCellar", "indexAt", "(LSignCellar$Version;I)I"⟩ : MethodName).cls ⟨"SignCellar", "indexAt", "(LSignCellar$Version;I)I"⟩ ⟨"SignCellar", "indexAt", "(LSignCellar$Version;I)I"⟩ ∈ am_ts := am_in_p (q := (⟨"SignCellar", "indexAt", "(LSignCellar$Version;I)I"⟩, 16)) (by decide +kernel)
theorem sl_X8_planSpelled : Cond.selects (⟨"SignCellar", "planSpelled", "()V"⟩ : MethodName).cls ⟨"SignCellar", "planSpelled", "()V"⟩ ⟨"SignCellar", "planSpelled", "()V"⟩ ∈ am_ts := am_in_p (q := (⟨"SignCellar", "planSpelled", "()V"⟩, 16)) (by decide +kernel)
theorem sl_X8_spell : Cond.selects (⟨"SignCellar", "spell", "(LSignCellar$Version;IIII)V"⟩ : MethodName).cls ⟨"SignCellar", "spell", "(LSignCellar$Version;IIII)V"⟩ ⟨"SignCellar", "spell", "(LSignCellar$Version;IIII)V"⟩ ∈ am_ts := am_in_p (q := (⟨"SignCellar", "spell", "(LSignCellar$Version;IIII)V"⟩, 16)) (by decide +kernel)
theorem sl_X8_startOf : Cond.selects (⟨"SignCellar", "startOf", "(LSignCellar$Version;I)I"⟩ : MethodName).cls ⟨"SignCellar", "startOf", "(LSignCellar$Version;I)I"⟩ ⟨"SignCellar", "startOf", "(LSignCellar$Version;I)I"⟩ ∈ am_ts := am_in_p (q := (⟨"SignCellar", "startOf", "(LSignCellar$Version;I)I"⟩, 16)) (by decide +kernel)
theorem sl_X8_tornBlocks : Cond.selects (⟨"SignCellar", "tornBlocks", "(LSignCellar$Version;)I"⟩ : MethodName).cls ⟨"SignCellar", "tornBlocks", "(LSignCellar$Version;)I"⟩ ⟨"SignCellar", "tornBlocks", "(LSignCellar$Version;)I"⟩ ∈ am_ts := am_in_p (q := (⟨"SignCellar", "tornBlocks", "(LSignCellar$Version;)I"⟩, 16)) (by decide +kernel)
theorem sl_X8_versionOf : Cond.selects (⟨"SignCellar", "versionOf", "(I)LSignCellar$Version;"⟩ : MethodName).cls ⟨"SignCellar", "versionOf", "(I)LSignCellar$Version;"⟩ ⟨"SignCellar", "versionOf", "(I)LSignCellar$Version;"⟩ ∈ am_ts := am_in_p (q := (⟨"SignCellar", "versionOf", "(I)LSignCellar$Version;"⟩, 16)) (by decide +kernel)
def F_X8_edited_b (v0 : Nat) (v1 : Int32) (v2 : Int32) (v3 : Int32) (v4 : Int32) (h : am_H) : Option (Int32 × am_H) :=
  (F_X8_versionOf v0 v1 h).bind fun x1 =>
  if x1 = 0 then
    some ((-100001 : Int32), h)
  else
    (F_X8_tornBlocks v0 x1 h).bind fun x3 =>
    if x3 ≤ 0 then
      (F_X8_indexAt v0 x1 v2 h).bind fun x5 =>
      (F_X8_startOf v0 x1 x5 h).bind fun x6 =>
      (F_X8_spell v0 x1 x5 (v2 - x6) v3 v4 h).bind fun h7 =>
      (F_X8_startPlan v0 h7).bind fun h8 =>
      (am_gr 8 6 v0 h8).bind fun x9 =>
      (am_gr 7 0 x1 h8).bind fun x10 =>
      (F_X4_addPart x9 x10 (0 : Int32) x5 h8).bind fun h11 =>
      (F_X8_planSpelled v0 h11).bind fun h12 =>
      (am_gr 8 6 v0 h12).bind fun x13 =>
      (am_gr 7 0 x1 h12).bind fun x14 =>
      (am_gr 7 0 x1 h12).bind fun x15 =>
      (F_X4_length x15 h12).bind fun x16 =>
      (F_X4_addPart x13 x14 (x5 + (1 : Int32)) x16 h12).bind fun h17 =>
      (F_X8_keepPlan v0 v1 h17).bind fun q18 =>
      some (q18.1, q18.2)
    else
      some ((-100005 : Int32), h)
theorem w_X8_edited {g : am_G} {l : Launch} {h0 : am_H} {x : Int32} {hf : am_H}  (v0 : Nat) (v1 : Int32) (v2 : Int32) (v3 : Int32) (v4 : Int32) (h : am_H) (hF : F_X8_edited_b v0 v1 v2 v3 v4 h = some (x, hf)) : am_W g l M_X8_edited h0 (some (.int x)) hf 0 [some (.ref v0), some (.int v1), some (.int v2), some (.int v3), some (.int v4), none, none] [] h := by
  unfold F_X8_edited_b at hF
  refine am_aload_n (pc' := 1) dX8_edited_0 rfl rfl ?_
  refine am_iload_n (pc' := 2) dX8_edited_1 rfl rfl ?_
  obtain ⟨x1, ex1, hF⟩ := am_bind hF
  obtain ⟨ox1, px1⟩ := t_X8_versionOf ex1
  refine am_callV1 (Mc := M_X8_versionOf) (As := [.int v1]) (st := []) (pc' := 5) dX8_edited_2 cw_X8_126 wd_2_135 sl_X8_versionOf ⟨_, rfl, rfl⟩ (by decide) (by decide) rfl rfl (Nat.le_of_ble_eq_true rfl) px1 (c_X8_versionOf ex1) rfl ?_
  refine am_astore (ls' := [some (.ref v0), some (.int v1), some (.int v2), some (.int v3), some (.int v4), some (.ref x1), none]) (pc' := 7) dX8_edited_5 (Nat.le_of_ble_eq_true rfl) rfl rfl ?_
  refine am_aload (pc' := 9) dX8_edited_7 rfl rfl ?_
  rcases am_ite hF with ⟨z2, hF⟩ | ⟨z2, hF⟩
  · refine am_ifnonnull_f (pc' := 12) dX8_edited_9 z2 rfl ?_
    refine am_ldc (v := (-100001 : Int32)) (pc' := 14) dX8_edited_12 wd_2_137 rfl ?_
    cases hF
    exact am_iret dX8_edited_14 rfl rfl
  · refine am_ifnonnull_t (pc' := 15) dX8_edited_9 rfl z2 ?_
    refine am_aload_n (pc' := 16) dX8_edited_15 rfl rfl ?_
    refine am_aload (pc' := 18) dX8_edited_16 rfl rfl ?_
    obtain ⟨x3, ex3, hF⟩ := am_bind hF
    obtain ⟨ox3, px3⟩ := t_X8_tornBlocks ex3
    refine am_callV1 (Mc := M_X8_tornBlocks) (As := [.ref x1]) (st := []) (pc' := 21) dX8_edited_18 cw_X8_157 wd_2_147 sl_X8_tornBlocks ⟨_, rfl, rfl⟩ (by decide) (by decide) rfl rfl (Nat.le_of_ble_eq_true rfl) px3 (c_X8_tornBlocks ex3) rfl ?_
    rcases am_ite hF with ⟨z4, hF⟩ | ⟨z4, hF⟩
    · refine am_if_le_t (pc' := 27) dX8_edited_21 rfl z4 ?_
      refine am_aload_n (pc' := 28) dX8_edited_27 rfl rfl ?_
      refine am_aload (pc' := 30) dX8_edited_28 rfl rfl ?_
      refine am_iload_n (pc' := 31) dX8_edited_30 rfl rfl ?_
      obtain ⟨x5, ex5, hF⟩ := am_bind hF
      obtain ⟨ox5, px5⟩ := t_X8_indexAt ex5
      refine am_callV1 (Mc := M_X8_indexAt) (As := [.ref x1, .int v2]) (st := []) (pc' := 34) dX8_edited_31 cw_X8_141 wd_2_156 sl_X8_indexAt ⟨_, rfl, rfl⟩ (by decide) (by decide) rfl rfl (Nat.le_of_ble_eq_true rfl) px5 (c_X8_indexAt ex5) rfl ?_
      refine am_istore (ls' := [some (.ref v0), some (.int v1), some (.int v2), some (.int v3), some (.int v4), some (.ref x1), some (.int x5)]) (pc' := 36) dX8_edited_34 (Nat.le_of_ble_eq_true rfl) rfl rfl ?_
      refine am_aload_n (pc' := 37) dX8_edited_36 rfl rfl ?_
      refine am_aload (pc' := 39) dX8_edited_37 rfl rfl ?_
      refine am_iload (pc' := 41) dX8_edited_39 rfl rfl ?_
      refine am_iload_n (pc' := 42) dX8_edited_41 rfl rfl ?_
      refine am_aload_n (pc' := 43) dX8_edited_42 rfl rfl ?_
      refine am_aload (pc' := 45) dX8_edited_43 rfl rfl ?_
      refine am_iload (pc' := 47) dX8_edited_45 rfl rfl ?_
      obtain ⟨x6, ex6, hF⟩ := am_bind hF
      obtain ⟨ox6, px6⟩ := t_X8_startOf ex6
      refine am_callV1 (Mc := M_X8_startOf) (As := [.ref x1, .int x5]) (st := [.int v2, .int x5, .ref x1, .ref v0]) (pc' := 50) dX8_edited_47 cw_X8_169 wd_2_161 sl_X8_startOf ⟨_, rfl, rfl⟩ (by decide) (by decide) rfl rfl (Nat.le_of_ble_eq_true rfl) px6 (c_X8_startOf ex6) rfl ?_
      refine am_isub (pc' := 51) dX8_edited_50 rfl ?_
      refine am_iload_n (pc' := 52) dX8_edited_51 rfl rfl ?_
      refine am_iload (pc' := 54) dX8_edited_52 rfl rfl ?_
      obtain ⟨h7, eh7, hF⟩ := am_bind hF
      obtain ⟨oh7, ph7⟩ := t_X8_spell eh7
      refine am_callV0 (Mc := M_X8_spell) (As := [.ref x1, .int x5, .int (v2 - x6), .int v3, .int v4]) (st := []) (pc' := 57) dX8_edited_54 cw_X8_331 wd_2_165 sl_X8_spell ⟨_, rfl, rfl⟩ (by decide) (by decide) rfl rfl (Nat.le_of_ble_eq_true rfl) ph7 (c_X8_spell eh7) rfl ?_
      refine am_aload_n (pc' := 58) dX8_edited_57 rfl rfl ?_
      obtain ⟨h8, eh8, hF⟩ := am_bind hF
      obtain ⟨oh8, ph8⟩ := t_X8_startPlan eh8
      refine am_callV0 (Mc := M_X8_startPlan) (As := []) (st := []) (pc' := 61) dX8_edited_58 cw_X8_106 wd_2_14 sl_X8_startPlan ⟨_, rfl, rfl⟩ (by decide) (by decide) rfl rfl (Nat.le_of_ble_eq_true rfl) ph8 (c_X8_startPlan eh8) rfl ?_
      refine am_aload_n (pc' := 62) dX8_edited_61 rfl rfl ?_
      obtain ⟨x9, ex9, hF⟩ := am_bind hF
      refine am_getr (pc' := 65) dX8_edited_62 fw_X8_40 ex9 rfl ?_
      refine am_aload (pc' := 67) dX8_edited_65 rfl rfl ?_
      obtain ⟨x10, ex10, hF⟩ := am_bind hF
      refine am_getr (pc' := 70) dX8_edited_67 fw_X8_148 ex10 rfl ?_
      refine am_iconst (v := (0 : Int32)) (pc' := 71) dX8_edited_70 rfl rfl ?_
      refine am_iload (pc' := 73) dX8_edited_71 rfl rfl ?_
      obtain ⟨h11, eh11, hF⟩ := am_bind hF
      obtain ⟨oh11, ph11⟩ := t_X4_addPart eh11
      refine am_callV0 (Mc := M_X4_addPart) (As := [.ref x10, .int (0 : Int32), .int x5]) (st := []) (pc' := 76) dX8_edited_73 cw_X8_335 wd_2_51 wd_2_52 ⟨_, rfl, rfl⟩ (by decide) (by decide) rfl rfl (Nat.le_of_ble_eq_true rfl) ph11 (c_X4_addPart eh11) rfl ?_
      refine am_aload_n (pc' := 77) dX8_edited_76 rfl rfl ?_
      obtain ⟨h12, eh12, hF⟩ := am_bind hF
      obtain ⟨oh12, ph12⟩ := t_X8_planSpelled eh12
      refine am_callV0 (Mc := M_X8_planSpelled) (As := []) (st := []) (pc' := 80) dX8_edited_77 cw_X8_338 wd_2_170 sl_X8_planSpelled ⟨_, rfl, rfl⟩ (by decide) (by decide) rfl rfl (Nat.le_of_ble_eq_true rfl) ph12 (c_X8_planSpelled eh12) rfl ?_
      refine am_aload_n (pc' := 81) dX8_edited_80 rfl rfl ?_
      obtain ⟨x13, ex13, hF⟩ := am_bind hF
      refine am_getr (pc' := 84) dX8_edited_81 fw_X8_40 ex13 rfl ?_
      refine am_aload (pc' := 86) dX8_edited_84 rfl rfl ?_
      obtain ⟨x14, ex14, hF⟩ := am_bind hF
      refine am_getr (pc' := 89) dX8_edited_86 fw_X8_148 ex14 rfl ?_
      refine am_iload (pc' := 91) dX8_edited_89 rfl rfl ?_
      refine am_iconst (v := (1 : Int32)) (pc' := 92) dX8_edited_91 rfl rfl ?_
      refine am_iadd (pc' := 93) dX8_edited_92 rfl ?_
      refine am_aload (pc' := 95) dX8_edited_93 rfl rfl ?_
      obtain ⟨x15, ex15, hF⟩ := am_bind hF
      refine am_getr (pc' := 98) dX8_edited_95 fw_X8_148 ex15 rfl ?_
      obtain ⟨x16, ex16, hF⟩ := am_bind hF
      obtain ⟨ox16, px16⟩ := t_X4_length ex16
      refine am_callV1 (Mc := M_X4_length) (As := []) (st := [.int (x5 + (1 : Int32)), .ref x14, .ref x13]) (pc' := 101) dX8_edited_98 cw_X8_93 wd_1_235 wd_1_236 ⟨_, rfl, rfl⟩ (by decide) (by decide) rfl rfl (Nat.le_of_ble_eq_true rfl) px16 (c_X4_length ex16) rfl ?_
      obtain ⟨h17, eh17, hF⟩ := am_bind hF
      obtain ⟨oh17, ph17⟩ := t_X4_addPart eh17
      refine am_callV0 (Mc := M_X4_addPart) (As := [.ref x14, .int (x5 + (1 : Int32)), .int x16]) (st := []) (pc' := 104) dX8_edited_101 cw_X8_335 wd_2_51 wd_2_52 ⟨_, rfl, rfl⟩ (by decide) (by decide) rfl rfl (Nat.le_of_ble_eq_true rfl) ph17 (c_X4_addPart eh17) rfl ?_
      refine am_aload_n (pc' := 105) dX8_edited_104 rfl rfl ?_
      refine am_iload_n (pc' := 106) dX8_edited_105 rfl rfl ?_
      obtain ⟨q18, eq18, hF⟩ := am_bind hF
      obtain ⟨oq18, pq18⟩ := t_X8_keepPlan eq18
      refine am_callV1 (Mc := M_X8_keepPlan) (As := [.int v1]) (st := []) (pc' := 109) dX8_edited_106 cw_X8_122 wd_2_76 sl_X8_keepPlan ⟨_, rfl, rfl⟩ (by decide) (by decide) rfl rfl (Nat.le_of_ble_eq_true rfl) pq18 (c_X8_keepPlan eq18) rfl ?_
      cases hF
      exact am_iret dX8_edited_109 rfl rfl
    · refine am_if_le_f (pc' := 24) (tgt := 27) dX8_edited_21 rfl z4 rfl ?_
      refine am_ldc (v := (-100005 : Int32)) (pc' := 26) dX8_edited_24 wd_2_153 rfl ?_
      cases hF
      exact am_iret dX8_edited_26 rfl rfl
def F_X8_edited (v0 : Nat) (v1 : Int32) (v2 : Int32) (v3 : Int32) (v4 : Int32) (h : am_H) : Option (Int32 × am_H) := (am_obj v0 8 h).bind fun _ => F_X8_edited_b v0 v1 v2 v3 v4 h
theorem t_X8_edited {x : Int32} {hf : am_H}  {v0 : Nat} {v1 : Int32} {v2 : Int32} {v3 : Int32} {v4 : Int32} {h : am_H} (hF : F_X8_edited v0 v1 v2 v3 v4 h = some (x, hf)) : ∃ fs, am_obj v0 8 h = some fs := by
  obtain ⟨fs, e, _⟩ := am_bind hF
  exact ⟨fs, e⟩
theorem c_X8_edited {g : am_G} {l : Launch} {x : Int32} {hf : am_H}  {v0 : Nat} {v1 : Int32} {v2 : Int32} {v3 : Int32} {v4 : Int32} {h : am_H} (hF : F_X8_edited v0 v1 v2 v3 v4 h = some (x, hf)) : am_Met g l M_X8_edited [.ref v0, .int v1, .int v2, .int v3, .int v4] h (some (.int x)) hf := by
  obtain ⟨fs, e0, e⟩ := am_bind hF
  exact am_met (n := 2) (by decide +kernel) rfl (Nat.le_of_ble_eq_true rfl) (w_X8_edited v0 v1 v2 v3 v4 h e)
theorem cw_X8_134 : am_cw "SignCellar" 134 M_X8_isSign 1 := ⟨wd_1_1, wd_2_140, ⟨by decide, by decide, by decide⟩, Or.inl wd_2_138⟩
theorem cw_X8_137 : am_cw "SignCellar" 137 M_X8_edited 4 := ⟨wd_1_1, wd_2_144, ⟨by decide, by decide, by decide⟩, Or.inl wd_2_141⟩
theorem sl_X8_edited : Cond.selects (⟨"SignCellar", "edited", "(IIII)I"⟩ : MethodName).cls ⟨"SignCellar", "edited", "(IIII)I"⟩ ⟨"SignCellar", "edited", "(IIII)I"⟩ ∈ am_ts := am_in_p (q := (⟨"SignCellar", "edited", "(IIII)I"⟩, 16)) (by decide +kernel)
def F_X8_change_25 (h : am_H) : Option (Int32 × am_H) :=
  some ((-100001 : Int32), h)
theorem w_X8_change_25 {g : am_G} {l : Launch} {h0 : am_H} {x : Int32} {hf : am_H}  (h : am_H) (hF : F_X8_change_25 h = some (x, hf)) : am_W g l M_X8_change h0 (some (.int x)) hf 25 [none, none, none, none, none] [] h := by
  unfold F_X8_change_25 at hF
  refine am_ldc (v := (-100001 : Int32)) (pc' := 27) dX8_change_25 wd_2_137 rfl ?_
  cases hF
  exact am_iret dX8_change_27 rfl rfl
def F_X8_change_b (v0 : Nat) (v1 : Int32) (v2 : Int32) (v3 : Int32) (h : am_H) : Option (Int32 × am_H) :=
  (F_X8_versionOf v0 v1 h).bind fun x1 =>
  if x1 = 0 then
    F_X8_change_25 h
  else
    if v2 < 0 then
      F_X8_change_25 h
    else
      (am_gi 7 3 x1 h).bind fun x4 =>
      if v2 < x4 then
        (F_X8_isSign v3 h).bind fun x6 =>
        if x6 = 0 then
          some ((-100002 : Int32), h)
        else
          (F_X8_hasRoom v0 (1 : Int32) h).bind fun x8 =>
          if x8 = 0 then
            some ((-100004 : Int32), h)
          else
            (F_X8_edited v0 v1 v2 v3 (1 : Int32) h).bind fun q10 =>
            some (q10.1, q10.2)
      else
        F_X8_change_25 h
theorem w_X8_change {g : am_G} {l : Launch} {h0 : am_H} {x : Int32} {hf : am_H}  (v0 : Nat) (v1 : Int32) (v2 : Int32) (v3 : Int32) (h : am_H) (hF : F_X8_change_b v0 v1 v2 v3 h = some (x, hf)) : am_W g l M_X8_change h0 (some (.int x)) hf 0 [some (.ref v0), some (.int v1), some (.int v2), some (.int v3), none] [] h := by
  unfold F_X8_change_b at hF
  refine am_aload_n (pc' := 1) dX8_change_0 rfl rfl ?_
  refine am_iload_n (pc' := 2) dX8_change_1 rfl rfl ?_
  obtain ⟨x1, ex1, hF⟩ := am_bind hF
  obtain ⟨ox1, px1⟩ := t_X8_versionOf ex1
  refine am_callV1 (Mc := M_X8_versionOf) (As := [.int v1]) (st := []) (pc' := 5) dX8_change_2 cw_X8_126 wd_2_135 sl_X8_versionOf ⟨_, rfl, rfl⟩ (by decide) (by decide) rfl rfl (Nat.le_of_ble_eq_true rfl) px1 (c_X8_versionOf ex1) rfl ?_
  refine am_astore (ls' := [some (.ref v0), some (.int v1), some (.int v2), some (.int v3), some (.ref x1)]) (pc' := 7) dX8_change_5 (Nat.le_of_ble_eq_true rfl) rfl rfl ?_
  refine am_aload (pc' := 9) dX8_change_7 rfl rfl ?_
  rcases am_ite hF with ⟨z2, hF⟩ | ⟨z2, hF⟩
  · refine am_ifnull_t (pc' := 25) dX8_change_9 rfl z2 ?_
    exact am_weak [false, false, false, false, false] (w_X8_change_25 h hF)
  · refine am_ifnull_f (pc' := 12) dX8_change_9 z2 rfl ?_
    refine am_iload_n (pc' := 13) dX8_change_12 rfl rfl ?_
    rcases am_ite hF with ⟨z3, hF⟩ | ⟨z3, hF⟩
    · refine am_if_lt_t (pc' := 25) dX8_change_13 rfl z3 ?_
      exact am_weak [false, false, false, false, false] (w_X8_change_25 h hF)
    · refine am_if_lt_f (pc' := 16) (tgt := 25) dX8_change_13 rfl z3 rfl ?_
      refine am_iload_n (pc' := 17) dX8_change_16 rfl rfl ?_
      refine am_aload (pc' := 19) dX8_change_17 rfl rfl ?_
      obtain ⟨x4, ex4, hF⟩ := am_bind hF
      refine am_geti (pc' := 22) dX8_change_19 fw_X8_130 ex4 rfl ?_
      rcases am_ite hF with ⟨z5, hF⟩ | ⟨z5, hF⟩
      · refine am_icmp_lt_t (pc' := 28) dX8_change_22 rfl z5 ?_
        refine am_iload_n (pc' := 29) dX8_change_28 rfl rfl ?_
        obtain ⟨x6, ex6, hF⟩ := am_bind hF
        refine am_callS1 (Mc := M_X8_isSign) (As := [.int v3]) (st := []) (pc' := 32) dX8_change_29 cw_X8_134 wd_2_139 (by decide) (by decide) rfl rfl (Nat.le_of_ble_eq_true rfl) (c_X8_isSign ex6) rfl ?_
        rcases am_ite hF with ⟨z7, hF⟩ | ⟨z7, hF⟩
        · refine am_if_ne_f (pc' := 35) (tgt := 38) dX8_change_32 rfl z7 rfl ?_
          refine am_ldc (v := (-100002 : Int32)) (pc' := 37) dX8_change_35 wd_1_233 rfl ?_
          cases hF
          exact am_iret dX8_change_37 rfl rfl
        · refine am_if_ne_t (pc' := 38) dX8_change_32 rfl z7 ?_
          refine am_aload_n (pc' := 39) dX8_change_38 rfl rfl ?_
          refine am_iconst (v := (1 : Int32)) (pc' := 40) dX8_change_39 rfl rfl ?_
          obtain ⟨x8, ex8, hF⟩ := am_bind hF
          obtain ⟨ox8, px8⟩ := t_X8_hasRoom ex8
          refine am_callV1 (Mc := M_X8_hasRoom) (As := [.int (1 : Int32)]) (st := []) (pc' := 43) dX8_change_40 cw_X8_102 wd_2_10 sl_X8_hasRoom ⟨_, rfl, rfl⟩ (by decide) (by decide) rfl rfl (Nat.le_of_ble_eq_true rfl) px8 (c_X8_hasRoom ex8) rfl ?_
          rcases am_ite hF with ⟨z9, hF⟩ | ⟨z9, hF⟩
          · refine am_if_ne_f (pc' := 46) (tgt := 49) dX8_change_43 rfl z9 rfl ?_
            refine am_ldc (v := (-100004 : Int32)) (pc' := 48) dX8_change_46 wd_1_238 rfl ?_
            cases hF
            exact am_iret dX8_change_48 rfl rfl
          · refine am_if_ne_t (pc' := 49) dX8_change_43 rfl z9 ?_
            refine am_aload_n (pc' := 50) dX8_change_49 rfl rfl ?_
            refine am_iload_n (pc' := 51) dX8_change_50 rfl rfl ?_
            refine am_iload_n (pc' := 52) dX8_change_51 rfl rfl ?_
            refine am_iload_n (pc' := 53) dX8_change_52 rfl rfl ?_
            refine am_iconst (v := (1 : Int32)) (pc' := 54) dX8_change_53 rfl rfl ?_
            obtain ⟨q10, eq10, hF⟩ := am_bind hF
            obtain ⟨oq10, pq10⟩ := t_X8_edited eq10
            refine am_callV1 (Mc := M_X8_edited) (As := [.int v1, .int v2, .int v3, .int (1 : Int32)]) (st := []) (pc' := 57) dX8_change_54 cw_X8_137 wd_2_143 sl_X8_edited ⟨_, rfl, rfl⟩ (by decide) (by decide) rfl rfl (Nat.le_of_ble_eq_true rfl) pq10 (c_X8_edited eq10) rfl ?_
            cases hF
            exact am_iret dX8_change_57 rfl rfl
      · refine am_icmp_lt_f (pc' := 25) (tgt := 28) dX8_change_22 rfl z5 rfl ?_
        exact am_weak [false, false, false, false, false] (w_X8_change_25 h hF)
def F_X8_change (v0 : Nat) (v1 : Int32) (v2 : Int32) (v3 : Int32) (h : am_H) : Option (Int32 × am_H) := (am_obj v0 8 h).bind fun _ => F_X8_change_b v0 v1 v2 v3 h
theorem t_X8_change {x : Int32} {hf : am_H}  {v0 : Nat} {v1 : Int32} {v2 : Int32} {v3 : Int32} {h : am_H} (hF : F_X8_change v0 v1 v2 v3 h = some (x, hf)) : ∃ fs, am_obj v0 8 h = some fs := by
  obtain ⟨fs, e, _⟩ := am_bind hF
  exact ⟨fs, e⟩
theorem c_X8_change {g : am_G} {l : Launch} {x : Int32} {hf : am_H}  {v0 : Nat} {v1 : Int32} {v2 : Int32} {v3 : Int32} {h : am_H} (hF : F_X8_change v0 v1 v2 v3 h = some (x, hf)) : am_Met g l M_X8_change [.ref v0, .int v1, .int v2, .int v3] h (some (.int x)) hf := by
  obtain ⟨fs, e0, e⟩ := am_bind hF
  exact am_met (n := 1) (by decide +kernel) rfl (Nat.le_of_ble_eq_true rfl) (w_X8_change v0 v1 v2 v3 h e)
def F_X9_noVersion_21 (s0 : Int32) (h : am_H) : Option Int32 :=
  am_z s0
theorem w_X9_noVersion_21 {g : am_G} {l : Launch} {h0 : am_H} {x : Int32}  (s0 : Int32) (h : am_H) (hF : F_X9_noVersion_21 s0 h = some x) : am_W g l M_X9_noVersion h0 (some (.int x)) h 21 [none, none] [.int s0] h := by
  unfold F_X9_noVersion_21 at hF
  exact am_zret dX9_noVersion_21 rfl hF
def F_X9_noVersion_b (v0 : Nat) (v1 : Int32) (h : am_H) : Option Int32 :=
  (am_gi 9 6 v0 h).bind fun x1 =>
  (F_X9_in (Int32.toInt64 v1) (0 : Int64) (Int32.toInt64 (x1 - (1 : Int32))) h).bind fun x2 =>
  if x2 = 0 then
    F_X9_noVersion_21 (1 : Int32) h
  else
    F_X9_noVersion_21 (0 : Int32) h
theorem w_X9_noVersion {g : am_G} {l : Launch} {h0 : am_H} {x : Int32}  (v0 : Nat) (v1 : Int32) (h : am_H) (hF : F_X9_noVersion_b v0 v1 h = some x) : am_W g l M_X9_noVersion h0 (some (.int x)) h 0 [some (.ref v0), some (.int v1)] [] h := by
  unfold F_X9_noVersion_b at hF
  refine am_iload_n (pc' := 1) dX9_noVersion_0 rfl rfl ?_
  refine am_i2l (pc' := 2) dX9_noVersion_1 rfl ?_
  refine am_lconst (v := (0 : Int64)) (pc' := 3) dX9_noVersion_2 rfl rfl ?_
  refine am_aload_n (pc' := 4) dX9_noVersion_3 rfl rfl ?_
  obtain ⟨x1, ex1, hF⟩ := am_bind hF
  refine am_geti (pc' := 7) dX9_noVersion_4 fw_X9_92 ex1 rfl ?_
  refine am_iconst (v := (1 : Int32)) (pc' := 8) dX9_noVersion_7 rfl rfl ?_
  refine am_isub (pc' := 9) dX9_noVersion_8 rfl ?_
  refine am_i2l (pc' := 10) dX9_noVersion_9 rfl ?_
  obtain ⟨x2, ex2, hF⟩ := am_bind hF
  refine am_callS1 (Mc := M_X9_in) (As := [.long (Int32.toInt64 v1), .long (0 : Int64), .long (Int32.toInt64 (x1 - (1 : Int32)))]) (st := []) (pc' := 13) dX9_noVersion_10 cw_X9_96 wd_4_234 (by decide) (by decide) rfl rfl (Nat.le_of_ble_eq_true rfl) (c_X9_in ex2) rfl ?_
  rcases am_ite hF with ⟨z3, hF⟩ | ⟨z3, hF⟩
  · refine am_if_ne_f (pc' := 16) (tgt := 20) dX9_noVersion_13 rfl z3 rfl ?_
    refine am_iconst (v := (1 : Int32)) (pc' := 17) dX9_noVersion_16 rfl rfl ?_
    refine am_goto (pc' := 21) dX9_noVersion_17 rfl ?_
    exact am_weak [false, false] (w_X9_noVersion_21 (1 : Int32) h hF)
  · refine am_if_ne_t (pc' := 20) dX9_noVersion_13 rfl z3 ?_
    refine am_iconst (v := (0 : Int32)) (pc' := 21) dX9_noVersion_20 rfl rfl ?_
    exact am_weak [false, false] (w_X9_noVersion_21 (0 : Int32) h hF)
def F_X9_noVersion (v0 : Nat) (v1 : Int32) (h : am_H) : Option Int32 := (am_obj v0 9 h).bind fun _ => F_X9_noVersion_b v0 v1 h
theorem t_X9_noVersion {x : Int32}  {v0 : Nat} {v1 : Int32} {h : am_H} (hF : F_X9_noVersion v0 v1 h = some x) : ∃ fs, am_obj v0 9 h = some fs := by
  obtain ⟨fs, e, _⟩ := am_bind hF
  exact ⟨fs, e⟩
theorem c_X9_noVersion {g : am_G} {l : Launch} {x : Int32}  {v0 : Nat} {v1 : Int32} {h : am_H} (hF : F_X9_noVersion v0 v1 h = some x) : am_Met g l M_X9_noVersion [.ref v0, .int v1] h (some (.int x)) h := by
  obtain ⟨fs, e0, e⟩ := am_bind hF
  exact am_met (n := 0) (by decide +kernel) rfl (Nat.le_of_ble_eq_true rfl) (w_X9_noVersion v0 v1 h e)
def F_X9_blockAt_b (v0 : Nat) (v1 : Int32) (v2 : Int32) (h : am_H) : Option Int32 :=
  (am_gr 9 8 v0 h).bind fun x1 =>
  (am_il 0 x1 (((8 : Int32) * v1) + v2) h).bind fun x2 =>
  some x2
theorem w_X9_blockAt {g : am_G} {l : Launch} {h0 : am_H} {x : Int32}  (v0 : Nat) (v1 : Int32) (v2 : Int32) (h : am_H) (hF : F_X9_blockAt_b v0 v1 v2 h = some x) : am_W g l M_X9_blockAt h0 (some (.int x)) h 0 [some (.ref v0), some (.int v1), some (.int v2)] [] h := by
  unfold F_X9_blockAt_b at hF
  refine am_aload_n (pc' := 1) dX9_blockAt_0 rfl rfl ?_
  obtain ⟨x1, ex1, hF⟩ := am_bind hF
  refine am_getr (pc' := 4) dX9_blockAt_1 fw_X9_26 ex1 rfl ?_
  refine am_bipush (v := (8 : Int32)) (pc' := 6) dX9_blockAt_4 rfl rfl ?_
  refine am_iload_n (pc' := 7) dX9_blockAt_6 rfl rfl ?_
  refine am_imul (pc' := 8) dX9_blockAt_7 rfl ?_
  refine am_iload_n (pc' := 9) dX9_blockAt_8 rfl rfl ?_
  refine am_iadd (pc' := 10) dX9_blockAt_9 rfl ?_
  obtain ⟨x2, ex2, hF⟩ := am_bind hF
  refine am_iald (pc' := 11) dX9_blockAt_10 ex2 rfl ?_
  cases hF
  exact am_iret dX9_blockAt_11 rfl rfl
def F_X9_blockAt (v0 : Nat) (v1 : Int32) (v2 : Int32) (h : am_H) : Option Int32 := (am_obj v0 9 h).bind fun _ => F_X9_blockAt_b v0 v1 v2 h
theorem t_X9_blockAt {x : Int32}  {v0 : Nat} {v1 : Int32} {v2 : Int32} {h : am_H} (hF : F_X9_blockAt v0 v1 v2 h = some x) : ∃ fs, am_obj v0 9 h = some fs := by
  obtain ⟨fs, e, _⟩ := am_bind hF
  exact ⟨fs, e⟩
theorem c_X9_blockAt {g : am_G} {l : Launch} {x : Int32}  {v0 : Nat} {v1 : Int32} {v2 : Int32} {h : am_H} (hF : F_X9_blockAt v0 v1 v2 h = some x) : am_Met g l M_X9_blockAt [.ref v0, .int v1, .int v2] h (some (.int x)) h := by
  obtain ⟨fs, e0, e⟩ := am_bind hF
  exact am_met (n := 0) (by decide +kernel) rfl (Nat.le_of_ble_eq_true rfl) (w_X9_blockAt v0 v1 v2 h e)
theorem cw_X9_141 : am_cw "SignCellarModel" 141 M_X9_blockAt 2 := ⟨wd_1_9, wd_5_46, ⟨by decide, by decide, by decide⟩, Or.inl wd_5_43⟩
theorem sl_X9_blockAt : Cond.selects (⟨"SignCellarModel", "blockAt", "(II)I"⟩ : MethodName).cls ⟨"SignCellarModel", "blockAt", "(II)I"⟩ ⟨"SignCellarModel", "blockAt", "(II)I"⟩ ∈ am_ts := am_in_p (q := (⟨"SignCellarModel", "blockAt", "(II)I"⟩, 42)) (by decide +kernel)
def F_X9_placesOf_4 : Nat → Nat → Int32 → Int32 → Int32 → am_H → Option Int32
  | 0, _, _, _, _, _ => none
  | n + 1, v0, v1, v2, v3, h =>
  (am_gr 9 7 v0 h).bind fun x1 =>
  (am_il 0 x1 v1 h).bind fun x2 =>
  if x2 ≤ v3 then
    some v2
  else
    (am_gr 9 3 v0 h).bind fun x4 =>
    (F_X9_blockAt v0 v1 v3 h).bind fun x5 =>
    (am_il 0 x4 x5 h).bind fun x6 =>
    F_X9_placesOf_4 n v0 v1 (v2 + x6) (v3 + (1 : Int32)) h
theorem w_X9_placesOf_4 {g : am_G} {l : Launch} {h0 : am_H} {x : Int32}  : ∀ (n : Nat) (v0 : Nat) (v1 : Int32) (v2 : Int32) (v3 : Int32) (h : am_H), F_X9_placesOf_4 n v0 v1 v2 v3 h = some x → am_W g l M_X9_placesOf h0 (some (.int x)) h 4 [some (.ref v0), some (.int v1), some (.int v2), some (.int v3)] [] h
  | 0, _, _, _, _, _, hF => by cases hF
  | n + 1, v0, v1, v2, v3, h, hF => by
    rw [F_X9_placesOf_4] at hF
    refine am_iload_n (pc' := 5) dX9_placesOf_4 rfl rfl ?_
    refine am_aload_n (pc' := 6) dX9_placesOf_5 rfl rfl ?_
    obtain ⟨x1, ex1, hF⟩ := am_bind hF
    refine am_getr (pc' := 9) dX9_placesOf_6 fw_X9_23 ex1 rfl ?_
    refine am_iload_n (pc' := 10) dX9_placesOf_9 rfl rfl ?_
    obtain ⟨x2, ex2, hF⟩ := am_bind hF
    refine am_iald (pc' := 11) dX9_placesOf_10 ex2 rfl ?_
    rcases am_ite hF with ⟨z3, hF⟩ | ⟨z3, hF⟩
    · refine am_icmp_ge_t (pc' := 34) dX9_placesOf_11 rfl z3 ?_
      refine am_iload_n (pc' := 35) dX9_placesOf_34 rfl rfl ?_
      cases hF
      exact am_iret dX9_placesOf_35 rfl rfl
    · refine am_icmp_ge_f (pc' := 14) (tgt := 34) dX9_placesOf_11 rfl z3 rfl ?_
      refine am_iload_n (pc' := 15) dX9_placesOf_14 rfl rfl ?_
      refine am_aload_n (pc' := 16) dX9_placesOf_15 rfl rfl ?_
      obtain ⟨x4, ex4, hF⟩ := am_bind hF
      refine am_getr (pc' := 19) dX9_placesOf_16 fw_X9_13 ex4 rfl ?_
      refine am_aload_n (pc' := 20) dX9_placesOf_19 rfl rfl ?_
      refine am_iload_n (pc' := 21) dX9_placesOf_20 rfl rfl ?_
      refine am_iload_n (pc' := 22) dX9_placesOf_21 rfl rfl ?_
      obtain ⟨x5, ex5, hF⟩ := am_bind hF
      obtain ⟨ox5, px5⟩ := t_X9_blockAt ex5
      refine am_callV1 (Mc := M_X9_blockAt) (As := [.int v1, .int v3]) (st := [.ref x4, .int v2]) (pc' := 25) dX9_placesOf_22 cw_X9_141 wd_5_45 sl_X9_blockAt ⟨_, rfl, rfl⟩ (by decide) (by decide) rfl rfl (Nat.le_of_ble_eq_true rfl) px5 (c_X9_blockAt ex5) rfl ?_
      obtain ⟨x6, ex6, hF⟩ := am_bind hF
      refine am_iald (pc' := 26) dX9_placesOf_25 ex6 rfl ?_
      refine am_iadd (pc' := 27) dX9_placesOf_26 rfl ?_
      refine am_istore_n (ls' := [some (.ref v0), some (.int v1), some (.int (v2 + x6)), some (.int v3)]) (pc' := 28) dX9_placesOf_27 (Nat.le_of_ble_eq_true rfl) rfl rfl ?_
      refine am_iinc (ls' := [some (.ref v0), some (.int v1), some (.int (v2 + x6)), some (.int (v3 + (1 : Int32)))]) (pc' := 31) (v := (v3 + (1 : Int32))) dX9_placesOf_28 rfl rfl (Nat.le_of_ble_eq_true rfl) rfl rfl ?_
      refine am_goto (pc' := 4) dX9_placesOf_31 rfl ?_
      exact w_X9_placesOf_4 n v0 v1 (v2 + x6) (v3 + (1 : Int32)) h hF
def F_X9_placesOf_b (v0 : Nat) (v1 : Int32) (h : am_H) : Option Int32 :=
  F_X9_placesOf_4 am_F v0 v1 (0 : Int32) (0 : Int32) h
theorem w_X9_placesOf {g : am_G} {l : Launch} {h0 : am_H} {x : Int32}  (v0 : Nat) (v1 : Int32) (h : am_H) (hF : F_X9_placesOf_b v0 v1 h = some x) : am_W g l M_X9_placesOf h0 (some (.int x)) h 0 [some (.ref v0), some (.int v1), none, none] [] h := by
  unfold F_X9_placesOf_b at hF
  refine am_iconst (v := (0 : Int32)) (pc' := 1) dX9_placesOf_0 rfl rfl ?_
  refine am_istore_n (ls' := [some (.ref v0), some (.int v1), some (.int (0 : Int32)), none]) (pc' := 2) dX9_placesOf_1 (Nat.le_of_ble_eq_true rfl) rfl rfl ?_
  refine am_iconst (v := (0 : Int32)) (pc' := 3) dX9_placesOf_2 rfl rfl ?_
  refine am_istore_n (ls' := [some (.ref v0), some (.int v1), some (.int (0 : Int32)), some (.int (0 : Int32))]) (pc' := 4) dX9_placesOf_3 (Nat.le_of_ble_eq_true rfl) rfl rfl ?_
  exact w_X9_placesOf_4 am_F v0 v1 (0 : Int32) (0 : Int32) h hF
def F_X9_placesOf (v0 : Nat) (v1 : Int32) (h : am_H) : Option Int32 := (am_obj v0 9 h).bind fun _ => F_X9_placesOf_b v0 v1 h
theorem t_X9_placesOf {x : Int32}  {v0 : Nat} {v1 : Int32} {h : am_H} (hF : F_X9_placesOf v0 v1 h = some x) : ∃ fs, am_obj v0 9 h = some fs := by
  obtain ⟨fs, e, _⟩ := am_bind hF
  exact ⟨fs, e⟩
theorem c_X9_placesOf {g : am_G} {l : Launch} {x : Int32}  {v0 : Nat} {v1 : Int32} {h : am_H} (hF : F_X9_placesOf v0 v1 h = some x) : am_Met g l M_X9_placesOf [.ref v0, .int v1] h (some (.int x)) h := by
  obtain ⟨fs, e0, e⟩ := am_bind hF
  exact am_met (n := 2) (by decide +kernel) rfl (Nat.le_of_ble_eq_true rfl) (w_X9_placesOf v0 v1 h e)
theorem cw_X9_154 : am_cw "SignCellarModel" 154 M_X9_noVersion 1 := ⟨wd_1_9, wd_5_38, ⟨by decide, by decide, by decide⟩, Or.inl wd_5_35⟩
theorem cw_X9_157 : am_cw "SignCellarModel" 157 M_X9_placesOf 1 := ⟨wd_1_9, wd_5_42, ⟨by decide, by decide, by decide⟩, Or.inl wd_5_39⟩
theorem sl_X9_noVersion : Cond.selects (⟨"SignCellarModel", "noVersion", "(I)Z"⟩ : MethodName).cls ⟨"SignCellarModel", "noVersion", "(I)Z"⟩ ⟨"SignCellarModel", "noVersion", "(I)Z"⟩ ∈ am_ts := am_in_p (q := (⟨"SignCellarModel", "noVersion", "(I)Z"⟩, 42)) (by decide +kernel)
theorem sl_X9_placesOf : Cond.selects (⟨"SignCellarModel", "placesOf", "(I)I"⟩ : MethodName).cls ⟨"SignCellarModel", "placesOf", "(I)I"⟩ ⟨"SignCellarModel", "placesOf", "(I)I"⟩ ∈ am_ts := am_in_p (q := (⟨"SignCellarModel", "placesOf", "(I)I"⟩, 42)) (by decide +kernel)
def F_X9_noPlace_32 (s0 : Int32) (h : am_H) : Option Int32 :=
  am_z s0
theorem w_X9_noPlace_32 {g : am_G} {l : Launch} {h0 : am_H} {x : Int32}  (s0 : Int32) (h : am_H) (hF : F_X9_noPlace_32 s0 h = some x) : am_W g l M_X9_noPlace h0 (some (.int x)) h 32 [none, none, none, none] [.int s0] h := by
  unfold F_X9_noPlace_32 at hF
  exact am_zret dX9_noPlace_32 rfl hF
def F_X9_noPlace_27 (h : am_H) : Option Int32 :=
  F_X9_noPlace_32 (1 : Int32) h
theorem w_X9_noPlace_27 {g : am_G} {l : Launch} {h0 : am_H} {x : Int32}  (h : am_H) (hF : F_X9_noPlace_27 h = some x) : am_W g l M_X9_noPlace h0 (some (.int x)) h 27 [none, none, none, none] [] h := by
  unfold F_X9_noPlace_27 at hF
  refine am_iconst (v := (1 : Int32)) (pc' := 28) dX9_noPlace_27 rfl rfl ?_
  refine am_goto (pc' := 32) dX9_noPlace_28 rfl ?_
  exact w_X9_noPlace_32 (1 : Int32) h hF
def F_X9_noPlace_b (v0 : Nat) (v1 : Int32) (v2 : Int32) (v3 : Int32) (h : am_H) : Option Int32 :=
  (F_X9_noVersion v0 v1 h).bind fun x1 =>
  if x1 = 0 then
    (F_X9_placesOf v0 v1 h).bind fun x3 =>
    (F_X9_in (Int32.toInt64 v2) (0 : Int64) (Int32.toInt64 ((x3 - (1 : Int32)) + v3)) h).bind fun x4 =>
    if x4 = 0 then
      F_X9_noPlace_27 h
    else
      F_X9_noPlace_32 (0 : Int32) h
  else
    F_X9_noPlace_27 h
theorem w_X9_noPlace {g : am_G} {l : Launch} {h0 : am_H} {x : Int32}  (v0 : Nat) (v1 : Int32) (v2 : Int32) (v3 : Int32) (h : am_H) (hF : F_X9_noPlace_b v0 v1 v2 v3 h = some x) : am_W g l M_X9_noPlace h0 (some (.int x)) h 0 [some (.ref v0), some (.int v1), some (.int v2), some (.int v3)] [] h := by
  unfold F_X9_noPlace_b at hF
  refine am_aload_n (pc' := 1) dX9_noPlace_0 rfl rfl ?_
  refine am_iload_n (pc' := 2) dX9_noPlace_1 rfl rfl ?_
  obtain ⟨x1, ex1, hF⟩ := am_bind hF
  obtain ⟨ox1, px1⟩ := t_X9_noVersion ex1
  refine am_callV1 (Mc := M_X9_noVersion) (As := [.int v1]) (st := []) (pc' := 5) dX9_noPlace_2 cw_X9_154 wd_5_37 sl_X9_noVersion ⟨_, rfl, rfl⟩ (by decide) (by decide) rfl rfl (Nat.le_of_ble_eq_true rfl) px1 (c_X9_noVersion ex1) rfl ?_
  rcases am_ite hF with ⟨z2, hF⟩ | ⟨z2, hF⟩
  · refine am_if_ne_f (pc' := 8) (tgt := 27) dX9_noPlace_5 rfl z2 rfl ?_
    refine am_iload_n (pc' := 9) dX9_noPlace_8 rfl rfl ?_
    refine am_i2l (pc' := 10) dX9_noPlace_9 rfl ?_
    refine am_lconst (v := (0 : Int64)) (pc' := 11) dX9_noPlace_10 rfl rfl ?_
    refine am_aload_n (pc' := 12) dX9_noPlace_11 rfl rfl ?_
    refine am_iload_n (pc' := 13) dX9_noPlace_12 rfl rfl ?_
    obtain ⟨x3, ex3, hF⟩ := am_bind hF
    obtain ⟨ox3, px3⟩ := t_X9_placesOf ex3
    refine am_callV1 (Mc := M_X9_placesOf) (As := [.int v1]) (st := [.long (0 : Int64), .long (Int32.toInt64 v2)]) (pc' := 16) dX9_noPlace_13 cw_X9_157 wd_5_41 sl_X9_placesOf ⟨_, rfl, rfl⟩ (by decide) (by decide) rfl rfl (Nat.le_of_ble_eq_true rfl) px3 (c_X9_placesOf ex3) rfl ?_
    refine am_iconst (v := (1 : Int32)) (pc' := 17) dX9_noPlace_16 rfl rfl ?_
    refine am_isub (pc' := 18) dX9_noPlace_17 rfl ?_
    refine am_iload_n (pc' := 19) dX9_noPlace_18 rfl rfl ?_
    refine am_iadd (pc' := 20) dX9_noPlace_19 rfl ?_
    refine am_i2l (pc' := 21) dX9_noPlace_20 rfl ?_
    obtain ⟨x4, ex4, hF⟩ := am_bind hF
    refine am_callS1 (Mc := M_X9_in) (As := [.long (Int32.toInt64 v2), .long (0 : Int64), .long (Int32.toInt64 ((x3 - (1 : Int32)) + v3))]) (st := []) (pc' := 24) dX9_noPlace_21 cw_X9_96 wd_4_234 (by decide) (by decide) rfl rfl (Nat.le_of_ble_eq_true rfl) (c_X9_in ex4) rfl ?_
    rcases am_ite hF with ⟨z5, hF⟩ | ⟨z5, hF⟩
    · refine am_if_ne_f (pc' := 27) (tgt := 31) dX9_noPlace_24 rfl z5 rfl ?_
      exact am_weak [false, false, false, false] (w_X9_noPlace_27 h hF)
    · refine am_if_ne_t (pc' := 31) dX9_noPlace_24 rfl z5 ?_
      refine am_iconst (v := (0 : Int32)) (pc' := 32) dX9_noPlace_31 rfl rfl ?_
      exact am_weak [false, false, false, false] (w_X9_noPlace_32 (0 : Int32) h hF)
  · refine am_if_ne_t (pc' := 27) dX9_noPlace_5 rfl z2 ?_
    exact am_weak [false, false, false, false] (w_X9_noPlace_27 h hF)
def F_X9_noPlace (v0 : Nat) (v1 : Int32) (v2 : Int32) (v3 : Int32) (h : am_H) : Option Int32 := (am_obj v0 9 h).bind fun _ => F_X9_noPlace_b v0 v1 v2 v3 h
theorem t_X9_noPlace {x : Int32}  {v0 : Nat} {v1 : Int32} {v2 : Int32} {v3 : Int32} {h : am_H} (hF : F_X9_noPlace v0 v1 v2 v3 h = some x) : ∃ fs, am_obj v0 9 h = some fs := by
  obtain ⟨fs, e, _⟩ := am_bind hF
  exact ⟨fs, e⟩
theorem c_X9_noPlace {g : am_G} {l : Launch} {x : Int32}  {v0 : Nat} {v1 : Int32} {v2 : Int32} {v3 : Int32} {h : am_H} (hF : F_X9_noPlace v0 v1 v2 v3 h = some x) : am_Met g l M_X9_noPlace [.ref v0, .int v1, .int v2, .int v3] h (some (.int x)) h := by
  obtain ⟨fs, e0, e⟩ := am_bind hF
  exact am_met (n := 0) (by decide +kernel) rfl (Nat.le_of_ble_eq_true rfl) (w_X9_noPlace v0 v1 v2 v3 h e)
def F_X9_one_9 (s0 : Int32) (h : am_H) : Option Int32 :=
  some s0
theorem w_X9_one_9 {g : am_G} {l : Launch} {h0 : am_H} {x : Int32}  (s0 : Int32) (h : am_H) (hF : F_X9_one_9 s0 h = some x) : am_W g l M_X9_one h0 (some (.int x)) h 9 [none] [.int s0] h := by
  unfold F_X9_one_9 at hF
  cases hF
  exact am_iret dX9_one_9 rfl rfl
def F_X9_one_b (v0 : Int32) (h : am_H) : Option Int32 :=
  if v0 = 0 then
    F_X9_one_9 (0 : Int32) h
  else
    F_X9_one_9 (1 : Int32) h
theorem w_X9_one {g : am_G} {l : Launch} {h0 : am_H} {x : Int32}  (v0 : Int32) (h : am_H) (hF : F_X9_one_b v0 h = some x) : am_W g l M_X9_one h0 (some (.int x)) h 0 [some (.int v0)] [] h := by
  unfold F_X9_one_b at hF
  refine am_iload_n (pc' := 1) dX9_one_0 rfl rfl ?_
  rcases am_ite hF with ⟨z1, hF⟩ | ⟨z1, hF⟩
  · refine am_if_eq_t (pc' := 8) dX9_one_1 rfl z1 ?_
    refine am_iconst (v := (0 : Int32)) (pc' := 9) dX9_one_8 rfl rfl ?_
    exact am_weak [false] (w_X9_one_9 (0 : Int32) h hF)
  · refine am_if_eq_f (pc' := 4) (tgt := 8) dX9_one_1 rfl z1 rfl ?_
    refine am_iconst (v := (1 : Int32)) (pc' := 5) dX9_one_4 rfl rfl ?_
    refine am_goto (pc' := 9) dX9_one_5 rfl ?_
    exact am_weak [false] (w_X9_one_9 (1 : Int32) h hF)
def F_X9_one (v0 : Int32) (h : am_H) : Option Int32 := F_X9_one_b v0 h
theorem c_X9_one {g : am_G} {l : Launch} {x : Int32}  {v0 : Int32} {h : am_H} (hF : F_X9_one v0 h = some x) : am_Met g l M_X9_one [.int v0] h (some (.int x)) h := by
  exact am_met (n := 0) (by decide +kernel) rfl (Nat.le_of_ble_eq_true rfl) (w_X9_one v0 h hF)
theorem cw_X9_150 : am_cw "SignCellarModel" 150 M_X9_one 1 := ⟨wd_1_9, wd_5_54, ⟨by decide, by decide, by decide⟩, Or.inl wd_5_52⟩
def F_X9_tornIn_4 : Nat → Nat → Int32 → Int32 → Int32 → am_H → Option Int32
  | 0, _, _, _, _, _ => none
  | n + 1, v0, v1, v2, v3, h =>
  (am_gr 9 7 v0 h).bind fun x1 =>
  (am_il 0 x1 v1 h).bind fun x2 =>
  if x2 ≤ v3 then
    some v2
  else
    (am_gr 9 5 v0 h).bind fun x4 =>
    (F_X9_blockAt v0 v1 v3 h).bind fun x5 =>
    (am_il 1 x4 x5 h).bind fun x6 =>
    (F_X9_one x6 h).bind fun x7 =>
    F_X9_tornIn_4 n v0 v1 (v2 + x7) (v3 + (1 : Int32)) h
theorem w_X9_tornIn_4 {g : am_G} {l : Launch} {h0 : am_H} {x : Int32}  : ∀ (n : Nat) (v0 : Nat) (v1 : Int32) (v2 : Int32) (v3 : Int32) (h : am_H), F_X9_tornIn_4 n v0 v1 v2 v3 h = some x → am_W g l M_X9_tornIn h0 (some (.int x)) h 4 [some (.ref v0), some (.int v1), some (.int v2), some (.int v3)] [] h
  | 0, _, _, _, _, _, hF => by cases hF
  | n + 1, v0, v1, v2, v3, h, hF => by
    rw [F_X9_tornIn_4] at hF
    refine am_iload_n (pc' := 5) dX9_tornIn_4 rfl rfl ?_
    refine am_aload_n (pc' := 6) dX9_tornIn_5 rfl rfl ?_
    obtain ⟨x1, ex1, hF⟩ := am_bind hF
    refine am_getr (pc' := 9) dX9_tornIn_6 fw_X9_23 ex1 rfl ?_
    refine am_iload_n (pc' := 10) dX9_tornIn_9 rfl rfl ?_
    obtain ⟨x2, ex2, hF⟩ := am_bind hF
    refine am_iald (pc' := 11) dX9_tornIn_10 ex2 rfl ?_
    rcases am_ite hF with ⟨z3, hF⟩ | ⟨z3, hF⟩
    · refine am_icmp_ge_t (pc' := 37) dX9_tornIn_11 rfl z3 ?_
      refine am_iload_n (pc' := 38) dX9_tornIn_37 rfl rfl ?_
      cases hF
      exact am_iret dX9_tornIn_38 rfl rfl
    · refine am_icmp_ge_f (pc' := 14) (tgt := 37) dX9_tornIn_11 rfl z3 rfl ?_
      refine am_iload_n (pc' := 15) dX9_tornIn_14 rfl rfl ?_
      refine am_aload_n (pc' := 16) dX9_tornIn_15 rfl rfl ?_
      obtain ⟨x4, ex4, hF⟩ := am_bind hF
      refine am_getr (pc' := 19) dX9_tornIn_16 fw_X9_19 ex4 rfl ?_
      refine am_aload_n (pc' := 20) dX9_tornIn_19 rfl rfl ?_
      refine am_iload_n (pc' := 21) dX9_tornIn_20 rfl rfl ?_
      refine am_iload_n (pc' := 22) dX9_tornIn_21 rfl rfl ?_
      obtain ⟨x5, ex5, hF⟩ := am_bind hF
      obtain ⟨ox5, px5⟩ := t_X9_blockAt ex5
      refine am_callV1 (Mc := M_X9_blockAt) (As := [.int v1, .int v3]) (st := [.ref x4, .int v2]) (pc' := 25) dX9_tornIn_22 cw_X9_141 wd_5_45 sl_X9_blockAt ⟨_, rfl, rfl⟩ (by decide) (by decide) rfl rfl (Nat.le_of_ble_eq_true rfl) px5 (c_X9_blockAt ex5) rfl ?_
      obtain ⟨x6, ex6, hF⟩ := am_bind hF
      refine am_bald (pc' := 26) dX9_tornIn_25 ex6 rfl ?_
      obtain ⟨x7, ex7, hF⟩ := am_bind hF
      refine am_callS1 (Mc := M_X9_one) (As := [.int x6]) (st := [.int v2]) (pc' := 29) dX9_tornIn_26 cw_X9_150 wd_5_53 (by decide) (by decide) rfl rfl (Nat.le_of_ble_eq_true rfl) (c_X9_one ex7) rfl ?_
      refine am_iadd (pc' := 30) dX9_tornIn_29 rfl ?_
      refine am_istore_n (ls' := [some (.ref v0), some (.int v1), some (.int (v2 + x7)), some (.int v3)]) (pc' := 31) dX9_tornIn_30 (Nat.le_of_ble_eq_true rfl) rfl rfl ?_
      refine am_iinc (ls' := [some (.ref v0), some (.int v1), some (.int (v2 + x7)), some (.int (v3 + (1 : Int32)))]) (pc' := 34) (v := (v3 + (1 : Int32))) dX9_tornIn_31 rfl rfl (Nat.le_of_ble_eq_true rfl) rfl rfl ?_
      refine am_goto (pc' := 4) dX9_tornIn_34 rfl ?_
      exact w_X9_tornIn_4 n v0 v1 (v2 + x7) (v3 + (1 : Int32)) h hF
def F_X9_tornIn_b (v0 : Nat) (v1 : Int32) (h : am_H) : Option Int32 :=
  F_X9_tornIn_4 am_F v0 v1 (0 : Int32) (0 : Int32) h
theorem w_X9_tornIn {g : am_G} {l : Launch} {h0 : am_H} {x : Int32}  (v0 : Nat) (v1 : Int32) (h : am_H) (hF : F_X9_tornIn_b v0 v1 h = some x) : am_W g l M_X9_tornIn h0 (some (.int x)) h 0 [some (.ref v0), some (.int v1), none, none] [] h := by
  unfold F_X9_tornIn_b at hF
  refine am_iconst (v := (0 : Int32)) (pc' := 1) dX9_tornIn_0 rfl rfl ?_
  refine am_istore_n (ls' := [some (.ref v0), some (.int v1), some (.int (0 : Int32)), none]) (pc' := 2) dX9_tornIn_1 (Nat.le_of_ble_eq_true rfl) rfl rfl ?_
  refine am_iconst (v := (0 : Int32)) (pc' := 3) dX9_tornIn_2 rfl rfl ?_
  refine am_istore_n (ls' := [some (.ref v0), some (.int v1), some (.int (0 : Int32)), some (.int (0 : Int32))]) (pc' := 4) dX9_tornIn_3 (Nat.le_of_ble_eq_true rfl) rfl rfl ?_
  exact w_X9_tornIn_4 am_F v0 v1 (0 : Int32) (0 : Int32) h hF
def F_X9_tornIn (v0 : Nat) (v1 : Int32) (h : am_H) : Option Int32 := (am_obj v0 9 h).bind fun _ => F_X9_tornIn_b v0 v1 h
theorem t_X9_tornIn {x : Int32}  {v0 : Nat} {v1 : Int32} {h : am_H} (hF : F_X9_tornIn v0 v1 h = some x) : ∃ fs, am_obj v0 9 h = some fs := by
  obtain ⟨fs, e, _⟩ := am_bind hF
  exact ⟨fs, e⟩
theorem c_X9_tornIn {g : am_G} {l : Launch} {x : Int32}  {v0 : Nat} {v1 : Int32} {h : am_H} (hF : F_X9_tornIn v0 v1 h = some x) : am_Met g l M_X9_tornIn [.ref v0, .int v1] h (some (.int x)) h := by
  obtain ⟨fs, e0, e⟩ := am_bind hF
  exact am_met (n := 2) (by decide +kernel) rfl (Nat.le_of_ble_eq_true rfl) (w_X9_tornIn v0 v1 h e)
theorem fw_X9_144 : am_fw "SignCellarModel" 144 9 18 := ⟨(RX9, TX9, 42), rfl, by decide, inX9, Or.inl wd_4_118⟩
theorem fw_X9_147 : am_fw "SignCellarModel" 147 9 19 := ⟨(RX9, TX9, 42), rfl, by decide, inX9, Or.inl wd_4_119⟩
theorem fx_X9_144 {nm : String} : am_fx "SignCellarModel" 144 9 18 .int nm := ⟨(RX9, TX9, 42), tyX9, rfl, by decide, inX9, tyX9_ok, nmX9, rfl, Or.inl ⟨wd_4_118, Or.inl rfl⟩⟩
theorem fx_X9_147 {nm : String} : am_fx "SignCellarModel" 147 9 19 .int nm := ⟨(RX9, TX9, 42), tyX9, rfl, by decide, inX9, tyX9_ok, nmX9, rfl, Or.inl ⟨wd_4_119, Or.inl rfl⟩⟩
def F_X9_find_10 : Nat → Nat → Int32 → am_H → Option am_H
  | 0, _, _, _ => none
  | n + 1, v0, v1, h =>
  (am_gi 9 19 v0 h).bind fun x1 =>
  (am_gr 9 3 v0 h).bind fun x2 =>
  (am_gi 9 18 v0 h).bind fun x3 =>
  (F_X9_blockAt v0 v1 x3 h).bind fun x4 =>
  (am_il 0 x2 x4 h).bind fun x5 =>
  if x1 < x5 then
    some h
  else
    (am_gi 9 19 v0 h).bind fun x7 =>
    (am_gr 9 3 v0 h).bind fun x8 =>
    (am_gi 9 18 v0 h).bind fun x9 =>
    (F_X9_blockAt v0 v1 x9 h).bind fun x10 =>
    (am_il 0 x8 x10 h).bind fun x11 =>
    (am_pi 9 19 v0 (x7 - x11) h).bind fun h12 =>
    (am_gi 9 18 v0 h12).bind fun x13 =>
    (am_pi 9 18 v0 (x13 + (1 : Int32)) h12).bind fun h14 =>
    F_X9_find_10 n v0 v1 h14
theorem w_X9_find_10 {g : am_G} {l : Launch} {h0 : am_H} {hf : am_H}  : ∀ (n : Nat) (v0 : Nat) (v1 : Int32) (h : am_H), F_X9_find_10 n v0 v1 h = some hf → am_W g l M_X9_find h0 none hf 10 [some (.ref v0), some (.int v1), none] [] h
  | 0, _, _, _, hF => by cases hF
  | n + 1, v0, v1, h, hF => by
    rw [F_X9_find_10] at hF
    refine am_aload_n (pc' := 11) dX9_find_10 rfl rfl ?_
    obtain ⟨x1, ex1, hF⟩ := am_bind hF
    refine am_geti (pc' := 14) dX9_find_11 fw_X9_147 ex1 rfl ?_
    refine am_aload_n (pc' := 15) dX9_find_14 rfl rfl ?_
    obtain ⟨x2, ex2, hF⟩ := am_bind hF
    refine am_getr (pc' := 18) dX9_find_15 fw_X9_13 ex2 rfl ?_
    refine am_aload_n (pc' := 19) dX9_find_18 rfl rfl ?_
    refine am_iload_n (pc' := 20) dX9_find_19 rfl rfl ?_
    refine am_aload_n (pc' := 21) dX9_find_20 rfl rfl ?_
    obtain ⟨x3, ex3, hF⟩ := am_bind hF
    refine am_geti (pc' := 24) dX9_find_21 fw_X9_144 ex3 rfl ?_
    obtain ⟨x4, ex4, hF⟩ := am_bind hF
    obtain ⟨ox4, px4⟩ := t_X9_blockAt ex4
    refine am_callV1 (Mc := M_X9_blockAt) (As := [.int v1, .int x3]) (st := [.ref x2, .int x1]) (pc' := 27) dX9_find_24 cw_X9_141 wd_5_45 sl_X9_blockAt ⟨_, rfl, rfl⟩ (by decide) (by decide) rfl rfl (Nat.le_of_ble_eq_true rfl) px4 (c_X9_blockAt ex4) rfl ?_
    obtain ⟨x5, ex5, hF⟩ := am_bind hF
    refine am_iald (pc' := 28) dX9_find_27 ex5 rfl ?_
    rcases am_ite hF with ⟨z6, hF⟩ | ⟨z6, hF⟩
    · refine am_icmp_lt_t (pc' := 67) dX9_find_28 rfl z6 ?_
      cases hF
      exact am_vret dX9_find_67 rfl
    · refine am_icmp_lt_f (pc' := 31) (tgt := 67) dX9_find_28 rfl z6 rfl ?_
      refine am_aload_n (pc' := 32) dX9_find_31 rfl rfl ?_
      refine am_dup (pc' := 33) dX9_find_32 rfl rfl ?_
      obtain ⟨x7, ex7, hF⟩ := am_bind hF
      refine am_geti (pc' := 36) dX9_find_33 fw_X9_147 ex7 rfl ?_
      refine am_aload_n (pc' := 37) dX9_find_36 rfl rfl ?_
      obtain ⟨x8, ex8, hF⟩ := am_bind hF
      refine am_getr (pc' := 40) dX9_find_37 fw_X9_13 ex8 rfl ?_
      refine am_aload_n (pc' := 41) dX9_find_40 rfl rfl ?_
      refine am_iload_n (pc' := 42) dX9_find_41 rfl rfl ?_
      refine am_aload_n (pc' := 43) dX9_find_42 rfl rfl ?_
      obtain ⟨x9, ex9, hF⟩ := am_bind hF
      refine am_geti (pc' := 46) dX9_find_43 fw_X9_144 ex9 rfl ?_
      obtain ⟨x10, ex10, hF⟩ := am_bind hF
      obtain ⟨ox10, px10⟩ := t_X9_blockAt ex10
      refine am_callV1 (Mc := M_X9_blockAt) (As := [.int v1, .int x9]) (st := [.ref x8, .int x7, .ref v0]) (pc' := 49) dX9_find_46 cw_X9_141 wd_5_45 sl_X9_blockAt ⟨_, rfl, rfl⟩ (by decide) (by decide) rfl rfl (Nat.le_of_ble_eq_true rfl) px10 (c_X9_blockAt ex10) rfl ?_
      obtain ⟨x11, ex11, hF⟩ := am_bind hF
      refine am_iald (pc' := 50) dX9_find_49 ex11 rfl ?_
      refine am_isub (pc' := 51) dX9_find_50 rfl ?_
      obtain ⟨h12, eh12, hF⟩ := am_bind hF
      refine am_puti (pc' := 54) dX9_find_51 fx_X9_147 eh12 rfl ?_
      refine am_aload_n (pc' := 55) dX9_find_54 rfl rfl ?_
      refine am_dup (pc' := 56) dX9_find_55 rfl rfl ?_
      obtain ⟨x13, ex13, hF⟩ := am_bind hF
      refine am_geti (pc' := 59) dX9_find_56 fw_X9_144 ex13 rfl ?_
      refine am_iconst (v := (1 : Int32)) (pc' := 60) dX9_find_59 rfl rfl ?_
      refine am_iadd (pc' := 61) dX9_find_60 rfl ?_
      obtain ⟨h14, eh14, hF⟩ := am_bind hF
      refine am_puti (pc' := 64) dX9_find_61 fx_X9_144 eh14 rfl ?_
      refine am_goto (pc' := 10) dX9_find_64 rfl ?_
      exact w_X9_find_10 n v0 v1 h14 hF
def F_X9_find_b (v0 : Nat) (v1 : Int32) (v2 : Int32) (h : am_H) : Option am_H :=
  (am_pi 9 18 v0 (0 : Int32) h).bind fun h1 =>
  (am_pi 9 19 v0 v2 h1).bind fun h2 =>
  F_X9_find_10 am_F v0 v1 h2
theorem w_X9_find {g : am_G} {l : Launch} {h0 : am_H} {hf : am_H}  (v0 : Nat) (v1 : Int32) (v2 : Int32) (h : am_H) (hF : F_X9_find_b v0 v1 v2 h = some hf) : am_W g l M_X9_find h0 none hf 0 [some (.ref v0), some (.int v1), some (.int v2)] [] h := by
  unfold F_X9_find_b at hF
  refine am_aload_n (pc' := 1) dX9_find_0 rfl rfl ?_
  refine am_iconst (v := (0 : Int32)) (pc' := 2) dX9_find_1 rfl rfl ?_
  obtain ⟨h1, eh1, hF⟩ := am_bind hF
  refine am_puti (pc' := 5) dX9_find_2 fx_X9_144 eh1 rfl ?_
  refine am_aload_n (pc' := 6) dX9_find_5 rfl rfl ?_
  refine am_iload_n (pc' := 7) dX9_find_6 rfl rfl ?_
  obtain ⟨h2, eh2, hF⟩ := am_bind hF
  refine am_puti (pc' := 10) dX9_find_7 fx_X9_147 eh2 rfl ?_
  exact am_weak [true, true, false] (w_X9_find_10 am_F v0 v1 h2 hF)
def F_X9_find (v0 : Nat) (v1 : Int32) (v2 : Int32) (h : am_H) : Option am_H := (am_obj v0 9 h).bind fun _ => F_X9_find_b v0 v1 v2 h
theorem t_X9_find {hf : am_H}  {v0 : Nat} {v1 : Int32} {v2 : Int32} {h : am_H} (hF : F_X9_find v0 v1 v2 h = some hf) : ∃ fs, am_obj v0 9 h = some fs := by
  obtain ⟨fs, e, _⟩ := am_bind hF
  exact ⟨fs, e⟩
theorem c_X9_find {g : am_G} {l : Launch} {hf : am_H}  {v0 : Nat} {v1 : Int32} {v2 : Int32} {h : am_H} (hF : F_X9_find v0 v1 v2 h = some hf) : am_Met g l M_X9_find [.ref v0, .int v1, .int v2] h none hf := by
  obtain ⟨fs, e0, e⟩ := am_bind hF
  exact am_met (n := 0) (by decide +kernel) rfl (Nat.le_of_ble_eq_true rfl) (w_X9_find v0 v1 v2 h e)
def F_X9_takeBlocks_3 : Nat → Nat → Int32 → Int32 → Int32 → am_H → Option am_H
  | 0, _, _, _, _, _ => none
  | n + 1, v0, v1, v3, v4, h =>
  if v3 ≤ v4 then
    some h
  else
    (am_gr 9 15 v0 h).bind fun x2 =>
    (am_gi 9 16 v0 h).bind fun x3 =>
    (F_X9_blockAt v0 v1 v4 h).bind fun x4 =>
    (am_is 0 x2 x3 x4 h).bind fun h5 =>
    (am_gi 9 16 v0 h5).bind fun x6 =>
    (am_pi 9 16 v0 (x6 + (1 : Int32)) h5).bind fun h7 =>
    F_X9_takeBlocks_3 n v0 v1 v3 (v4 + (1 : Int32)) h7
theorem w_X9_takeBlocks_3 {g : am_G} {l : Launch} {h0 : am_H} {hf : am_H}  : ∀ (n : Nat) (v0 : Nat) (v1 : Int32) (v3 : Int32) (v4 : Int32) (h : am_H), F_X9_takeBlocks_3 n v0 v1 v3 v4 h = some hf → am_W g l M_X9_takeBlocks h0 none hf 3 [some (.ref v0), some (.int v1), none, some (.int v3), some (.int v4)] [] h
  | 0, _, _, _, _, _, hF => by cases hF
  | n + 1, v0, v1, v3, v4, h, hF => by
    rw [F_X9_takeBlocks_3] at hF
    refine am_iload (pc' := 5) dX9_takeBlocks_3 rfl rfl ?_
    refine am_iload_n (pc' := 6) dX9_takeBlocks_5 rfl rfl ?_
    rcases am_ite hF with ⟨z1, hF⟩ | ⟨z1, hF⟩
    · refine am_icmp_ge_t (pc' := 41) dX9_takeBlocks_6 rfl z1 ?_
      cases hF
      exact am_vret dX9_takeBlocks_41 rfl
    · refine am_icmp_ge_f (pc' := 9) (tgt := 41) dX9_takeBlocks_6 rfl z1 rfl ?_
      refine am_aload_n (pc' := 10) dX9_takeBlocks_9 rfl rfl ?_
      obtain ⟨x2, ex2, hF⟩ := am_bind hF
      refine am_getr (pc' := 13) dX9_takeBlocks_10 fw_X9_44 ex2 rfl ?_
      refine am_aload_n (pc' := 14) dX9_takeBlocks_13 rfl rfl ?_
      obtain ⟨x3, ex3, hF⟩ := am_bind hF
      refine am_geti (pc' := 17) dX9_takeBlocks_14 fw_X9_124 ex3 rfl ?_
      refine am_aload_n (pc' := 18) dX9_takeBlocks_17 rfl rfl ?_
      refine am_iload_n (pc' := 19) dX9_takeBlocks_18 rfl rfl ?_
      refine am_iload (pc' := 21) dX9_takeBlocks_19 rfl rfl ?_
      obtain ⟨x4, ex4, hF⟩ := am_bind hF
      obtain ⟨ox4, px4⟩ := t_X9_blockAt ex4
      refine am_callV1 (Mc := M_X9_blockAt) (As := [.int v1, .int v4]) (st := [.int x3, .ref x2]) (pc' := 24) dX9_takeBlocks_21 cw_X9_141 wd_5_45 sl_X9_blockAt ⟨_, rfl, rfl⟩ (by decide) (by decide) rfl rfl (Nat.le_of_ble_eq_true rfl) px4 (c_X9_blockAt ex4) rfl ?_
      obtain ⟨h5, eh5, hF⟩ := am_bind hF
      refine am_iast (pc' := 25) dX9_takeBlocks_24 eh5 rfl ?_
      refine am_aload_n (pc' := 26) dX9_takeBlocks_25 rfl rfl ?_
      refine am_dup (pc' := 27) dX9_takeBlocks_26 rfl rfl ?_
      obtain ⟨x6, ex6, hF⟩ := am_bind hF
      refine am_geti (pc' := 30) dX9_takeBlocks_27 fw_X9_124 ex6 rfl ?_
      refine am_iconst (v := (1 : Int32)) (pc' := 31) dX9_takeBlocks_30 rfl rfl ?_
      refine am_iadd (pc' := 32) dX9_takeBlocks_31 rfl ?_
      obtain ⟨h7, eh7, hF⟩ := am_bind hF
      refine am_puti (pc' := 35) dX9_takeBlocks_32 fx_X9_124 eh7 rfl ?_
      refine am_iinc (ls' := [some (.ref v0), some (.int v1), none, some (.int v3), some (.int (v4 + (1 : Int32)))]) (pc' := 38) (v := (v4 + (1 : Int32))) dX9_takeBlocks_35 rfl rfl (Nat.le_of_ble_eq_true rfl) rfl rfl ?_
      refine am_goto (pc' := 3) dX9_takeBlocks_38 rfl ?_
      exact w_X9_takeBlocks_3 n v0 v1 v3 (v4 + (1 : Int32)) h7 hF
def F_X9_takeBlocks_b (v0 : Nat) (v1 : Int32) (v2 : Int32) (v3 : Int32) (h : am_H) : Option am_H :=
  F_X9_takeBlocks_3 am_F v0 v1 v3 v2 h
theorem w_X9_takeBlocks {g : am_G} {l : Launch} {h0 : am_H} {hf : am_H}  (v0 : Nat) (v1 : Int32) (v2 : Int32) (v3 : Int32) (h : am_H) (hF : F_X9_takeBlocks_b v0 v1 v2 v3 h = some hf) : am_W g l M_X9_takeBlocks h0 none hf 0 [some (.ref v0), some (.int v1), some (.int v2), some (.int v3), none] [] h := by
  unfold F_X9_takeBlocks_b at hF
  refine am_iload_n (pc' := 1) dX9_takeBlocks_0 rfl rfl ?_
  refine am_istore (ls' := [some (.ref v0), some (.int v1), some (.int v2), some (.int v3), some (.int v2)]) (pc' := 3) dX9_takeBlocks_1 (Nat.le_of_ble_eq_true rfl) rfl rfl ?_
  exact am_weak [true, true, false, true, true] (w_X9_takeBlocks_3 am_F v0 v1 v3 v2 h hF)
def F_X9_takeBlocks (v0 : Nat) (v1 : Int32) (v2 : Int32) (v3 : Int32) (h : am_H) : Option am_H := (am_obj v0 9 h).bind fun _ => F_X9_takeBlocks_b v0 v1 v2 v3 h
theorem t_X9_takeBlocks {hf : am_H}  {v0 : Nat} {v1 : Int32} {v2 : Int32} {v3 : Int32} {h : am_H} (hF : F_X9_takeBlocks v0 v1 v2 v3 h = some hf) : ∃ fs, am_obj v0 9 h = some fs := by
  obtain ⟨fs, e, _⟩ := am_bind hF
  exact ⟨fs, e⟩
theorem c_X9_takeBlocks {g : am_G} {l : Launch} {hf : am_H}  {v0 : Nat} {v1 : Int32} {v2 : Int32} {v3 : Int32} {h : am_H} (hF : F_X9_takeBlocks v0 v1 v2 v3 h = some hf) : am_Met g l M_X9_takeBlocks [.ref v0, .int v1, .int v2, .int v3] h none hf := by
  obtain ⟨fs, e0, e⟩ := am_bind hF
  exact am_met (n := 1) (by decide +kernel) rfl (Nat.le_of_ble_eq_true rfl) (w_X9_takeBlocks v0 v1 v2 v3 h e)
