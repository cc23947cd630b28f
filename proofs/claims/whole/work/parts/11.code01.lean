abbrev M_X9_feed : am_M := ((⟨"SignCellarModel", "feed", "(IJ)I"⟩ : MethodName), prog_11_method_9_code, 5, (some .int), 1, 25)
theorem dX9_feed_0 : decode prog_11_method_9_code 0 = .ok (.iload_n 1, 1) := by decide +kernel
theorem dX9_feed_1 : decode prog_11_method_9_code 1 = .ok (.i2l, 1) := by decide +kernel
theorem dX9_feed_2 : decode prog_11_method_9_code 2 = .ok (.lconst 1, 1) := by decide +kernel
theorem dX9_feed_3 : decode prog_11_method_9_code 3 = .ok (.ldc2_w 103, 3) := by decide +kernel
theorem dX9_feed_6 : decode prog_11_method_9_code 6 = .ok (.invokestatic 96, 3) := by decide +kernel
theorem dX9_feed_9 : decode prog_11_method_9_code 9 = .ok (.ifCond .ne 6, 3) := by decide +kernel
theorem dX9_feed_12 : decode prog_11_method_9_code 12 = .ok (.ldc 105, 2) := by decide +kernel
theorem dX9_feed_14 : decode prog_11_method_9_code 14 = .ok (.ireturn, 1) := by decide +kernel
theorem dX9_feed_15 : decode prog_11_method_9_code 15 = .ok (.aload_n 0, 1) := by decide +kernel
theorem dX9_feed_16 : decode prog_11_method_9_code 16 = .ok (.getfield 106, 3) := by decide +kernel
theorem dX9_feed_19 : decode prog_11_method_9_code 19 = .ok (.iload_n 1, 1) := by decide +kernel
theorem dX9_feed_20 : decode prog_11_method_9_code 20 = .ok (.iadd, 1) := by decide +kernel
theorem dX9_feed_21 : decode prog_11_method_9_code 21 = .ok (.bipush 96, 2) := by decide +kernel
theorem dX9_feed_23 : decode prog_11_method_9_code 23 = .ok (.if_icmp .le 6, 3) := by decide +kernel
theorem dX9_feed_26 : decode prog_11_method_9_code 26 = .ok (.ldc 109, 2) := by decide +kernel
theorem dX9_feed_28 : decode prog_11_method_9_code 28 = .ok (.ireturn, 1) := by decide +kernel
theorem dX9_feed_29 : decode prog_11_method_9_code 29 = .ok (.iload_n 1, 1) := by decide +kernel
theorem dX9_feed_30 : decode prog_11_method_9_code 30 = .ok (.iconst 1, 1) := by decide +kernel
theorem dX9_feed_31 : decode prog_11_method_9_code 31 = .ok (.isub, 1) := by decide +kernel
theorem dX9_feed_32 : decode prog_11_method_9_code 32 = .ok (.istore 4, 2) := by decide +kernel
theorem dX9_feed_34 : decode prog_11_method_9_code 34 = .ok (.iload 4, 2) := by decide +kernel
theorem dX9_feed_36 : decode prog_11_method_9_code 36 = .ok (.ifCond .lt 39, 3) := by decide +kernel
theorem dX9_feed_39 : decode prog_11_method_9_code 39 = .ok (.aload_n 0, 1) := by decide +kernel
theorem dX9_feed_40 : decode prog_11_method_9_code 40 = .ok (.getfield 7, 3) := by decide +kernel
theorem dX9_feed_43 : decode prog_11_method_9_code 43 = .ok (.aload_n 0, 1) := by decide +kernel
theorem dX9_feed_44 : decode prog_11_method_9_code 44 = .ok (.getfield 106, 3) := by decide +kernel
theorem dX9_feed_47 : decode prog_11_method_9_code 47 = .ok (.lload_n 2, 1) := by decide +kernel
theorem dX9_feed_48 : decode prog_11_method_9_code 48 = .ok (.iconst 4, 1) := by decide +kernel
theorem dX9_feed_49 : decode prog_11_method_9_code 49 = .ok (.iload 4, 2) := by decide +kernel
theorem dX9_feed_51 : decode prog_11_method_9_code 51 = .ok (.imul, 1) := by decide +kernel
theorem dX9_feed_52 : decode prog_11_method_9_code 52 = .ok (.lshr, 1) := by decide +kernel
theorem dX9_feed_53 : decode prog_11_method_9_code 53 = .ok (.ldc2_w 103, 3) := by decide +kernel
theorem dX9_feed_56 : decode prog_11_method_9_code 56 = .ok (.land, 1) := by decide +kernel
theorem dX9_feed_57 : decode prog_11_method_9_code 57 = .ok (.l2i, 1) := by decide +kernel
theorem dX9_feed_58 : decode prog_11_method_9_code 58 = .ok (.iastore, 1) := by decide +kernel
theorem dX9_feed_59 : decode prog_11_method_9_code 59 = .ok (.aload_n 0, 1) := by decide +kernel
theorem dX9_feed_60 : decode prog_11_method_9_code 60 = .ok (.dup, 1) := by decide +kernel
theorem dX9_feed_61 : decode prog_11_method_9_code 61 = .ok (.getfield 106, 3) := by decide +kernel
theorem dX9_feed_64 : decode prog_11_method_9_code 64 = .ok (.iconst 1, 1) := by decide +kernel
theorem dX9_feed_65 : decode prog_11_method_9_code 65 = .ok (.iadd, 1) := by decide +kernel
theorem dX9_feed_66 : decode prog_11_method_9_code 66 = .ok (.putfield 106, 3) := by decide +kernel
theorem dX9_feed_69 : decode prog_11_method_9_code 69 = .ok (.iinc 4 (-1), 3) := by decide +kernel
theorem dX9_feed_72 : decode prog_11_method_9_code 72 = .ok (.goto (-38), 3) := by decide +kernel
theorem dX9_feed_75 : decode prog_11_method_9_code 75 = .ok (.aload_n 0, 1) := by decide +kernel
theorem dX9_feed_76 : decode prog_11_method_9_code 76 = .ok (.getfield 106, 3) := by decide +kernel
theorem dX9_feed_79 : decode prog_11_method_9_code 79 = .ok (.ireturn, 1) := by decide +kernel
abbrev M_X8_hasRoom : am_M := ((⟨"SignCellar", "hasRoom", "(I)Z"⟩ : MethodName), prog_1_method_45_code, 2, (some .boolean), 0, 0)
theorem dX8_hasRoom_0 : decode prog_1_method_45_code 0 = .ok (.aload_n 0, 1) := by decide +kernel
theorem dX8_hasRoom_1 : decode prog_1_method_45_code 1 = .ok (.getfield 37, 3) := by decide +kernel
theorem dX8_hasRoom_4 : decode prog_1_method_45_code 4 = .ok (.bipush 30, 2) := by decide +kernel
theorem dX8_hasRoom_6 : decode prog_1_method_45_code 6 = .ok (.if_icmp .ge 19, 3) := by decide +kernel
theorem dX8_hasRoom_9 : decode prog_1_method_45_code 9 = .ok (.aload_n 0, 1) := by decide +kernel
theorem dX8_hasRoom_10 : decode prog_1_method_45_code 10 = .ok (.getfield 27, 3) := by decide +kernel
theorem dX8_hasRoom_13 : decode prog_1_method_45_code 13 = .ok (.iload_n 1, 1) := by decide +kernel
theorem dX8_hasRoom_14 : decode prog_1_method_45_code 14 = .ok (.iadd, 1) := by decide +kernel
theorem dX8_hasRoom_15 : decode prog_1_method_45_code 15 = .ok (.sipush 200, 3) := by decide +kernel
theorem dX8_hasRoom_18 : decode prog_1_method_45_code 18 = .ok (.if_icmp .gt 7, 3) := by decide +kernel
theorem dX8_hasRoom_21 : decode prog_1_method_45_code 21 = .ok (.iconst 1, 1) := by decide +kernel
theorem dX8_hasRoom_22 : decode prog_1_method_45_code 22 = .ok (.goto 4, 3) := by decide +kernel
theorem dX8_hasRoom_25 : decode prog_1_method_45_code 25 = .ok (.iconst 0, 1) := by decide +kernel
theorem dX8_hasRoom_26 : decode prog_1_method_45_code 26 = .ok (.ireturn, 1) := by decide +kernel
abbrev M_X4_empty : am_M := ((⟨"SignCellar$Row", "empty", "()V"⟩ : MethodName), prog_6_method_6_code, 1, none, 0, 0)
theorem dX4_empty_0 : decode prog_6_method_6_code 0 = .ok (.aload_n 0, 1) := by decide +kernel
theorem dX4_empty_1 : decode prog_6_method_6_code 1 = .ok (.iconst 0, 1) := by decide +kernel
theorem dX4_empty_2 : decode prog_6_method_6_code 2 = .ok (.putfield 9, 3) := by decide +kernel
theorem dX4_empty_5 : decode prog_6_method_6_code 5 = .ok (.return_, 1) := by decide +kernel
abbrev M_X8_startPlan : am_M := ((⟨"SignCellar", "startPlan", "()V"⟩ : MethodName), prog_1_method_48_code, 1, none, 1, 20)
theorem dX8_startPlan_0 : decode prog_1_method_48_code 0 = .ok (.aload_n 0, 1) := by decide +kernel
theorem dX8_startPlan_1 : decode prog_1_method_48_code 1 = .ok (.getfield 40, 3) := by decide +kernel
theorem dX8_startPlan_4 : decode prog_1_method_48_code 4 = .ok (.invokevirtual 119, 3) := by decide +kernel
theorem dX8_startPlan_7 : decode prog_1_method_48_code 7 = .ok (.aload_n 0, 1) := by decide +kernel
theorem dX8_startPlan_8 : decode prog_1_method_48_code 8 = .ok (.iconst 0, 1) := by decide +kernel
theorem dX8_startPlan_9 : decode prog_1_method_48_code 9 = .ok (.putfield 43, 3) := by decide +kernel
theorem dX8_startPlan_12 : decode prog_1_method_48_code 12 = .ok (.return_, 1) := by decide +kernel
abbrev M_J9_min_7cf53 : am_M := ((⟨"java/lang/Math", "min", "(II)I"⟩ : MethodName), prog_12_method_69_code, 2, (some .int), 0, 0)
theorem dJ9_min_7cf53_0 : decode prog_12_method_69_code 0 = .ok (.iload_n 0, 1) := by decide +kernel
theorem dJ9_min_7cf53_1 : decode prog_12_method_69_code 1 = .ok (.iload_n 1, 1) := by decide +kernel
theorem dJ9_min_7cf53_2 : decode prog_12_method_69_code 2 = .ok (.if_icmp .gt 7, 3) := by decide +kernel
theorem dJ9_min_7cf53_5 : decode prog_12_method_69_code 5 = .ok (.iload_n 0, 1) := by decide +kernel
theorem dJ9_min_7cf53_6 : decode prog_12_method_69_code 6 = .ok (.goto 4, 3) := by decide +kernel
theorem dJ9_min_7cf53_9 : decode prog_12_method_69_code 9 = .ok (.iload_n 1, 1) := by decide +kernel
theorem dJ9_min_7cf53_10 : decode prog_12_method_69_code 10 = .ok (.ireturn, 1) := by decide +kernel
abbrev M_X8_blockOf : am_M := ((⟨"SignCellar", "blockOf", "(I)LSignCellar$Block;"⟩ : MethodName), prog_1_method_32_code, 2, (some (.object "SignCellar$Block")), 0, 0)
theorem dX8_blockOf_0 : decode prog_1_method_32_code 0 = .ok (.iload_n 1, 1) := by decide +kernel
theorem dX8_blockOf_1 : decode prog_1_method_32_code 1 = .ok (.ifCond .lt 29, 3) := by decide +kernel
theorem dX8_blockOf_4 : decode prog_1_method_32_code 4 = .ok (.iload_n 1, 1) := by decide +kernel
theorem dX8_blockOf_5 : decode prog_1_method_32_code 5 = .ok (.aload_n 0, 1) := by decide +kernel
theorem dX8_blockOf_6 : decode prog_1_method_32_code 6 = .ok (.getfield 27, 3) := by decide +kernel
theorem dX8_blockOf_9 : decode prog_1_method_32_code 9 = .ok (.if_icmp .ge 21, 3) := by decide +kernel
theorem dX8_blockOf_12 : decode prog_1_method_32_code 12 = .ok (.iload_n 1, 1) := by decide +kernel
theorem dX8_blockOf_13 : decode prog_1_method_32_code 13 = .ok (.aload_n 0, 1) := by decide +kernel
theorem dX8_blockOf_14 : decode prog_1_method_32_code 14 = .ok (.getfield 23, 3) := by decide +kernel
theorem dX8_blockOf_17 : decode prog_1_method_32_code 17 = .ok (.arraylength, 1) := by decide +kernel
theorem dX8_blockOf_18 : decode prog_1_method_32_code 18 = .ok (.if_icmp .ge 12, 3) := by decide +kernel
theorem dX8_blockOf_21 : decode prog_1_method_32_code 21 = .ok (.aload_n 0, 1) := by decide +kernel
theorem dX8_blockOf_22 : decode prog_1_method_32_code 22 = .ok (.getfield 23, 3) := by decide +kernel
theorem dX8_blockOf_25 : decode prog_1_method_32_code 25 = .ok (.iload_n 1, 1) := by decide +kernel
theorem dX8_blockOf_26 : decode prog_1_method_32_code 26 = .ok (.aaload, 1) := by decide +kernel
theorem dX8_blockOf_27 : decode prog_1_method_32_code 27 = .ok (.goto 4, 3) := by decide +kernel
theorem dX8_blockOf_30 : decode prog_1_method_32_code 30 = .ok (.aconst_null, 1) := by decide +kernel
theorem dX8_blockOf_31 : decode prog_1_method_32_code 31 = .ok (.areturn, 1) := by decide +kernel
abbrev M_X4_at : am_M := ((⟨"SignCellar$Row", "at", "(I)I"⟩ : MethodName), prog_6_method_3_code, 2, (some .int), 0, 0)
theorem dX4_at_0 : decode prog_6_method_3_code 0 = .ok (.iload_n 1, 1) := by decide +kernel
theorem dX4_at_1 : decode prog_6_method_3_code 1 = .ok (.ifCond .lt 29, 3) := by decide +kernel
theorem dX4_at_4 : decode prog_6_method_3_code 4 = .ok (.iload_n 1, 1) := by decide +kernel
theorem dX4_at_5 : decode prog_6_method_3_code 5 = .ok (.aload_n 0, 1) := by decide +kernel
theorem dX4_at_6 : decode prog_6_method_3_code 6 = .ok (.getfield 9, 3) := by decide +kernel
theorem dX4_at_9 : decode prog_6_method_3_code 9 = .ok (.if_icmp .ge 21, 3) := by decide +kernel
theorem dX4_at_12 : decode prog_6_method_3_code 12 = .ok (.iload_n 1, 1) := by decide +kernel
theorem dX4_at_13 : decode prog_6_method_3_code 13 = .ok (.aload_n 0, 1) := by decide +kernel
theorem dX4_at_14 : decode prog_6_method_3_code 14 = .ok (.getfield 21, 3) := by decide +kernel
theorem dX4_at_17 : decode prog_6_method_3_code 17 = .ok (.arraylength, 1) := by decide +kernel
theorem dX4_at_18 : decode prog_6_method_3_code 18 = .ok (.if_icmp .ge 12, 3) := by decide +kernel
theorem dX4_at_21 : decode prog_6_method_3_code 21 = .ok (.aload_n 0, 1) := by decide +kernel
theorem dX4_at_22 : decode prog_6_method_3_code 22 = .ok (.getfield 21, 3) := by decide +kernel
theorem dX4_at_25 : decode prog_6_method_3_code 25 = .ok (.iload_n 1, 1) := by decide +kernel
theorem dX4_at_26 : decode prog_6_method_3_code 26 = .ok (.iaload, 1) := by decide +kernel
theorem dX4_at_27 : decode prog_6_method_3_code 27 = .ok (.goto 4, 3) := by decide +kernel
theorem dX4_at_30 : decode prog_6_method_3_code 30 = .ok (.iconst (-1), 1) := by decide +kernel
theorem dX4_at_31 : decode prog_6_method_3_code 31 = .ok (.ireturn, 1) := by decide +kernel
abbrev M_X4_isPart : am_M := ((⟨"SignCellar$Row", "isPart", "(LSignCellar$Row;II)Z"⟩ : MethodName), prog_6_method_9_code, 5, (some .boolean), 1, 21)
theorem dX4_isPart_0 : decode prog_6_method_9_code 0 = .ok (.aload_n 0, 1) := by decide +kernel
theorem dX4_isPart_1 : decode prog_6_method_9_code 1 = .ok (.getfield 9, 3) := by decide +kernel
theorem dX4_isPart_4 : decode prog_6_method_9_code 4 = .ok (.iload_n 3, 1) := by decide +kernel
theorem dX4_isPart_5 : decode prog_6_method_9_code 5 = .ok (.iload_n 2, 1) := by decide +kernel
theorem dX4_isPart_6 : decode prog_6_method_9_code 6 = .ok (.isub, 1) := by decide +kernel
theorem dX4_isPart_7 : decode prog_6_method_9_code 7 = .ok (.if_icmp .eq 5, 3) := by decide +kernel
theorem dX4_isPart_10 : decode prog_6_method_9_code 10 = .ok (.iconst 0, 1) := by decide +kernel
theorem dX4_isPart_11 : decode prog_6_method_9_code 11 = .ok (.ireturn, 1) := by decide +kernel
theorem dX4_isPart_12 : decode prog_6_method_9_code 12 = .ok (.iconst 0, 1) := by decide +kernel
theorem dX4_isPart_13 : decode prog_6_method_9_code 13 = .ok (.istore 4, 2) := by decide +kernel
theorem dX4_isPart_15 : decode prog_6_method_9_code 15 = .ok (.iload 4, 2) := by decide +kernel
theorem dX4_isPart_17 : decode prog_6_method_9_code 17 = .ok (.aload_n 0, 1) := by decide +kernel
theorem dX4_isPart_18 : decode prog_6_method_9_code 18 = .ok (.getfield 9, 3) := by decide +kernel
theorem dX4_isPart_21 : decode prog_6_method_9_code 21 = .ok (.if_icmp .ge 28, 3) := by decide +kernel
theorem dX4_isPart_24 : decode prog_6_method_9_code 24 = .ok (.aload_n 0, 1) := by decide +kernel
theorem dX4_isPart_25 : decode prog_6_method_9_code 25 = .ok (.iload 4, 2) := by decide +kernel
theorem dX4_isPart_27 : decode prog_6_method_9_code 27 = .ok (.invokevirtual 25, 3) := by decide +kernel
theorem dX4_isPart_30 : decode prog_6_method_9_code 30 = .ok (.aload_n 1, 1) := by decide +kernel
theorem dX4_isPart_31 : decode prog_6_method_9_code 31 = .ok (.iload_n 2, 1) := by decide +kernel
theorem dX4_isPart_32 : decode prog_6_method_9_code 32 = .ok (.iload 4, 2) := by decide +kernel
theorem dX4_isPart_34 : decode prog_6_method_9_code 34 = .ok (.iadd, 1) := by decide +kernel
theorem dX4_isPart_35 : decode prog_6_method_9_code 35 = .ok (.invokevirtual 25, 3) := by decide +kernel
theorem dX4_isPart_38 : decode prog_6_method_9_code 38 = .ok (.if_icmp .eq 5, 3) := by decide +kernel
theorem dX4_isPart_41 : decode prog_6_method_9_code 41 = .ok (.iconst 0, 1) := by decide +kernel
theorem dX4_isPart_42 : decode prog_6_method_9_code 42 = .ok (.ireturn, 1) := by decide +kernel
theorem dX4_isPart_43 : decode prog_6_method_9_code 43 = .ok (.iinc 4 1, 3) := by decide +kernel
theorem dX4_isPart_46 : decode prog_6_method_9_code 46 = .ok (.goto (-31), 3) := by decide +kernel
theorem dX4_isPart_49 : decode prog_6_method_9_code 49 = .ok (.iconst 1, 1) := by decide +kernel
theorem dX4_isPart_50 : decode prog_6_method_9_code 50 = .ok (.ireturn, 1) := by decide +kernel
abbrev M_X8_blockLike : am_M := ((⟨"SignCellar", "blockLike", "(LSignCellar$Row;II)I"⟩ : MethodName), prog_1_method_51_code, 6, (some .int), 2, 45)
theorem dX8_blockLike_0 : decode prog_1_method_51_code 0 = .ok (.iconst 0, 1) := by decide +kernel
theorem dX8_blockLike_1 : decode prog_1_method_51_code 1 = .ok (.istore 4, 2) := by decide +kernel
theorem dX8_blockLike_3 : decode prog_1_method_51_code 3 = .ok (.iload 4, 2) := by decide +kernel
theorem dX8_blockLike_5 : decode prog_1_method_51_code 5 = .ok (.aload_n 0, 1) := by decide +kernel
theorem dX8_blockLike_6 : decode prog_1_method_51_code 6 = .ok (.getfield 27, 3) := by decide +kernel
theorem dX8_blockLike_9 : decode prog_1_method_51_code 9 = .ok (.if_icmp .ge 47, 3) := by decide +kernel
theorem dX8_blockLike_12 : decode prog_1_method_51_code 12 = .ok (.aload_n 0, 1) := by decide +kernel
theorem dX8_blockLike_13 : decode prog_1_method_51_code 13 = .ok (.iload 4, 2) := by decide +kernel
theorem dX8_blockLike_15 : decode prog_1_method_51_code 15 = .ok (.invokevirtual 176, 3) := by decide +kernel
theorem dX8_blockLike_18 : decode prog_1_method_51_code 18 = .ok (.astore 5, 2) := by decide +kernel
theorem dX8_blockLike_20 : decode prog_1_method_51_code 20 = .ok (.aload 5, 2) := by decide +kernel
theorem dX8_blockLike_22 : decode prog_1_method_51_code 22 = .ok (.ifnull 28, 3) := by decide +kernel
theorem dX8_blockLike_25 : decode prog_1_method_51_code 25 = .ok (.aload 5, 2) := by decide +kernel
theorem dX8_blockLike_27 : decode prog_1_method_51_code 27 = .ok (.getfield 182, 3) := by decide +kernel
theorem dX8_blockLike_30 : decode prog_1_method_51_code 30 = .ok (.ifCond .ne 20, 3) := by decide +kernel
theorem dX8_blockLike_33 : decode prog_1_method_51_code 33 = .ok (.aload 5, 2) := by decide +kernel
theorem dX8_blockLike_35 : decode prog_1_method_51_code 35 = .ok (.getfield 180, 3) := by decide +kernel
theorem dX8_blockLike_38 : decode prog_1_method_51_code 38 = .ok (.aload_n 1, 1) := by decide +kernel
theorem dX8_blockLike_39 : decode prog_1_method_51_code 39 = .ok (.iload_n 2, 1) := by decide +kernel
theorem dX8_blockLike_40 : decode prog_1_method_51_code 40 = .ok (.iload_n 3, 1) := by decide +kernel
theorem dX8_blockLike_41 : decode prog_1_method_51_code 41 = .ok (.invokevirtual 347, 3) := by decide +kernel
theorem dX8_blockLike_44 : decode prog_1_method_51_code 44 = .ok (.ifCond .eq 6, 3) := by decide +kernel
theorem dX8_blockLike_47 : decode prog_1_method_51_code 47 = .ok (.iload 4, 2) := by decide +kernel
theorem dX8_blockLike_49 : decode prog_1_method_51_code 49 = .ok (.ireturn, 1) := by decide +kernel
theorem dX8_blockLike_50 : decode prog_1_method_51_code 50 = .ok (.iinc 4 1, 3) := by decide +kernel
theorem dX8_blockLike_53 : decode prog_1_method_51_code 53 = .ok (.goto (-50), 3) := by decide +kernel
theorem dX8_blockLike_56 : decode prog_1_method_51_code 56 = .ok (.iconst (-1), 1) := by decide +kernel
theorem dX8_blockLike_57 : decode prog_1_method_51_code 57 = .ok (.ireturn, 1) := by decide +kernel
abbrev M_X4_addPart : am_M := ((⟨"SignCellar$Row", "addPart", "(LSignCellar$Row;II)V"⟩ : MethodName), prog_6_method_7_code, 5, none, 1, 21)
theorem dX4_addPart_0 : decode prog_6_method_7_code 0 = .ok (.iconst 0, 1) := by decide +kernel
theorem dX4_addPart_1 : decode prog_6_method_7_code 1 = .ok (.iload_n 2, 1) := by decide +kernel
theorem dX4_addPart_2 : decode prog_6_method_7_code 2 = .ok (.invokestatic 15, 3) := by decide +kernel
theorem dX4_addPart_5 : decode prog_6_method_7_code 5 = .ok (.istore 4, 2) := by decide +kernel
theorem dX4_addPart_7 : decode prog_6_method_7_code 7 = .ok (.iload 4, 2) := by decide +kernel
theorem dX4_addPart_9 : decode prog_6_method_7_code 9 = .ok (.iload_n 3, 1) := by decide +kernel
theorem dX4_addPart_10 : decode prog_6_method_7_code 10 = .ok (.if_icmp .ge 28, 3) := by decide +kernel
theorem dX4_addPart_13 : decode prog_6_method_7_code 13 = .ok (.iload 4, 2) := by decide +kernel
theorem dX4_addPart_15 : decode prog_6_method_7_code 15 = .ok (.aload_n 1, 1) := by decide +kernel
theorem dX4_addPart_16 : decode prog_6_method_7_code 16 = .ok (.getfield 9, 3) := by decide +kernel
theorem dX4_addPart_19 : decode prog_6_method_7_code 19 = .ok (.if_icmp .ge 19, 3) := by decide +kernel
theorem dX4_addPart_22 : decode prog_6_method_7_code 22 = .ok (.aload_n 0, 1) := by decide +kernel
theorem dX4_addPart_23 : decode prog_6_method_7_code 23 = .ok (.aload_n 1, 1) := by decide +kernel
theorem dX4_addPart_24 : decode prog_6_method_7_code 24 = .ok (.iload 4, 2) := by decide +kernel
theorem dX4_addPart_26 : decode prog_6_method_7_code 26 = .ok (.invokevirtual 25, 3) := by decide +kernel
theorem dX4_addPart_29 : decode prog_6_method_7_code 29 = .ok (.invokevirtual 29, 3) := by decide +kernel
theorem dX4_addPart_32 : decode prog_6_method_7_code 32 = .ok (.iinc 4 1, 3) := by decide +kernel
theorem dX4_addPart_35 : decode prog_6_method_7_code 35 = .ok (.goto (-28), 3) := by decide +kernel
theorem dX4_addPart_38 : decode prog_6_method_7_code 38 = .ok (.return_, 1) := by decide +kernel
abbrev M_X0_init : am_M := ((⟨"SignCellar$Block", "<init>", "(LSignCellar$Row;II)V"⟩ : MethodName), prog_2_method_1_code, 4, none, 2, 45)
theorem dX0_init_0 : decode prog_2_method_1_code 0 = .ok (.aload_n 0, 1) := by decide +kernel
theorem dX0_init_1 : decode prog_2_method_1_code 1 = .ok (.invokespecial 3, 3) := by decide +kernel
theorem dX0_init_4 : decode prog_2_method_1_code 4 = .ok (.aload_n 0, 1) := by decide +kernel
theorem dX0_init_5 : decode prog_2_method_1_code 5 = .ok (.new 9, 3) := by decide +kernel
theorem dX0_init_8 : decode prog_2_method_1_code 8 = .ok (.dup, 1) := by decide +kernel
theorem dX0_init_9 : decode prog_2_method_1_code 9 = .ok (.iconst 5, 1) := by decide +kernel
theorem dX0_init_10 : decode prog_2_method_1_code 10 = .ok (.invokespecial 11, 3) := by decide +kernel
theorem dX0_init_13 : decode prog_2_method_1_code 13 = .ok (.putfield 14, 3) := by decide +kernel
theorem dX0_init_16 : decode prog_2_method_1_code 16 = .ok (.aload_n 0, 1) := by decide +kernel
theorem dX0_init_17 : decode prog_2_method_1_code 17 = .ok (.new 9, 3) := by decide +kernel
theorem dX0_init_20 : decode prog_2_method_1_code 20 = .ok (.dup, 1) := by decide +kernel
theorem dX0_init_21 : decode prog_2_method_1_code 21 = .ok (.iconst 5, 1) := by decide +kernel
theorem dX0_init_22 : decode prog_2_method_1_code 22 = .ok (.invokespecial 11, 3) := by decide +kernel
theorem dX0_init_25 : decode prog_2_method_1_code 25 = .ok (.putfield 20, 3) := by decide +kernel
theorem dX0_init_28 : decode prog_2_method_1_code 28 = .ok (.aload_n 0, 1) := by decide +kernel
theorem dX0_init_29 : decode prog_2_method_1_code 29 = .ok (.iconst 0, 1) := by decide +kernel
theorem dX0_init_30 : decode prog_2_method_1_code 30 = .ok (.putfield 23, 3) := by decide +kernel
theorem dX0_init_33 : decode prog_2_method_1_code 33 = .ok (.aload_n 0, 1) := by decide +kernel
theorem dX0_init_34 : decode prog_2_method_1_code 34 = .ok (.new 9, 3) := by decide +kernel
theorem dX0_init_37 : decode prog_2_method_1_code 37 = .ok (.dup, 1) := by decide +kernel
theorem dX0_init_38 : decode prog_2_method_1_code 38 = .ok (.iload_n 3, 1) := by decide +kernel
theorem dX0_init_39 : decode prog_2_method_1_code 39 = .ok (.iload_n 2, 1) := by decide +kernel
theorem dX0_init_40 : decode prog_2_method_1_code 40 = .ok (.isub, 1) := by decide +kernel
theorem dX0_init_41 : decode prog_2_method_1_code 41 = .ok (.invokespecial 11, 3) := by decide +kernel
theorem dX0_init_44 : decode prog_2_method_1_code 44 = .ok (.putfield 27, 3) := by decide +kernel
theorem dX0_init_47 : decode prog_2_method_1_code 47 = .ok (.aload_n 0, 1) := by decide +kernel
theorem dX0_init_48 : decode prog_2_method_1_code 48 = .ok (.getfield 27, 3) := by decide +kernel
theorem dX0_init_51 : decode prog_2_method_1_code 51 = .ok (.aload_n 1, 1) := by decide +kernel
theorem dX0_init_52 : decode prog_2_method_1_code 52 = .ok (.iload_n 2, 1) := by decide +kernel
theorem dX0_init_53 : decode prog_2_method_1_code 53 = .ok (.iload_n 3, 1) := by decide +kernel
theorem dX0_init_54 : decode prog_2_method_1_code 54 = .ok (.invokevirtual 30, 3) := by decide +kernel
theorem dX0_init_57 : decode prog_2_method_1_code 57 = .ok (.return_, 1) := by decide +kernel
abbrev M_X8_planBlock : am_M := ((⟨"SignCellar", "planBlock", "(LSignCellar$Row;II)V"⟩ : MethodName), prog_1_method_50_code, 5, none, 3, 70)
theorem dX8_planBlock_0 : decode prog_1_method_50_code 0 = .ok (.iload_n 2, 1) := by decide +kernel
theorem dX8_planBlock_1 : decode prog_1_method_50_code 1 = .ok (.iload_n 3, 1) := by decide +kernel
theorem dX8_planBlock_2 : decode prog_1_method_50_code 2 = .ok (.if_icmp .lt 4, 3) := by decide +kernel
theorem dX8_planBlock_5 : decode prog_1_method_50_code 5 = .ok (.return_, 1) := by decide +kernel
theorem dX8_planBlock_6 : decode prog_1_method_50_code 6 = .ok (.aload_n 0, 1) := by decide +kernel
theorem dX8_planBlock_7 : decode prog_1_method_50_code 7 = .ok (.aload_n 1, 1) := by decide +kernel
theorem dX8_planBlock_8 : decode prog_1_method_50_code 8 = .ok (.iload_n 2, 1) := by decide +kernel
theorem dX8_planBlock_9 : decode prog_1_method_50_code 9 = .ok (.iload_n 3, 1) := by decide +kernel
theorem dX8_planBlock_10 : decode prog_1_method_50_code 10 = .ok (.invokevirtual 341, 3) := by decide +kernel
theorem dX8_planBlock_13 : decode prog_1_method_50_code 13 = .ok (.istore 4, 2) := by decide +kernel
theorem dX8_planBlock_15 : decode prog_1_method_50_code 15 = .ok (.iload 4, 2) := by decide +kernel
theorem dX8_planBlock_17 : decode prog_1_method_50_code 17 = .ok (.iconst (-1), 1) := by decide +kernel
theorem dX8_planBlock_18 : decode prog_1_method_50_code 18 = .ok (.if_icmp .ne 60, 3) := by decide +kernel
theorem dX8_planBlock_21 : decode prog_1_method_50_code 21 = .ok (.aload_n 0, 1) := by decide +kernel
theorem dX8_planBlock_22 : decode prog_1_method_50_code 22 = .ok (.getfield 27, 3) := by decide +kernel
theorem dX8_planBlock_25 : decode prog_1_method_50_code 25 = .ok (.aload_n 0, 1) := by decide +kernel
theorem dX8_planBlock_26 : decode prog_1_method_50_code 26 = .ok (.getfield 23, 3) := by decide +kernel
theorem dX8_planBlock_29 : decode prog_1_method_50_code 29 = .ok (.arraylength, 1) := by decide +kernel
theorem dX8_planBlock_30 : decode prog_1_method_50_code 30 = .ok (.if_icmp .ge 48, 3) := by decide +kernel
theorem dX8_planBlock_33 : decode prog_1_method_50_code 33 = .ok (.aload_n 0, 1) := by decide +kernel
theorem dX8_planBlock_34 : decode prog_1_method_50_code 34 = .ok (.getfield 27, 3) := by decide +kernel
theorem dX8_planBlock_37 : decode prog_1_method_50_code 37 = .ok (.istore 4, 2) := by decide +kernel
theorem dX8_planBlock_39 : decode prog_1_method_50_code 39 = .ok (.aload_n 0, 1) := by decide +kernel
theorem dX8_planBlock_40 : decode prog_1_method_50_code 40 = .ok (.getfield 23, 3) := by decide +kernel
theorem dX8_planBlock_43 : decode prog_1_method_50_code 43 = .ok (.aload_n 0, 1) := by decide +kernel
theorem dX8_planBlock_44 : decode prog_1_method_50_code 44 = .ok (.getfield 27, 3) := by decide +kernel
theorem dX8_planBlock_47 : decode prog_1_method_50_code 47 = .ok (.new 21, 3) := by decide +kernel
theorem dX8_planBlock_50 : decode prog_1_method_50_code 50 = .ok (.dup, 1) := by decide +kernel
theorem dX8_planBlock_51 : decode prog_1_method_50_code 51 = .ok (.aload_n 1, 1) := by decide +kernel
theorem dX8_planBlock_52 : decode prog_1_method_50_code 52 = .ok (.iload_n 2, 1) := by decide +kernel
theorem dX8_planBlock_53 : decode prog_1_method_50_code 53 = .ok (.iload_n 3, 1) := by decide +kernel
theorem dX8_planBlock_54 : decode prog_1_method_50_code 54 = .ok (.invokespecial 345, 3) := by decide +kernel
theorem dX8_planBlock_57 : decode prog_1_method_50_code 57 = .ok (.aastore, 1) := by decide +kernel
theorem dX8_planBlock_58 : decode prog_1_method_50_code 58 = .ok (.aload_n 0, 1) := by decide +kernel
theorem dX8_planBlock_59 : decode prog_1_method_50_code 59 = .ok (.dup, 1) := by decide +kernel
theorem dX8_planBlock_60 : decode prog_1_method_50_code 60 = .ok (.getfield 27, 3) := by decide +kernel
theorem dX8_planBlock_63 : decode prog_1_method_50_code 63 = .ok (.iconst 1, 1) := by decide +kernel
theorem dX8_planBlock_64 : decode prog_1_method_50_code 64 = .ok (.iadd, 1) := by decide +kernel
theorem dX8_planBlock_65 : decode prog_1_method_50_code 65 = .ok (.putfield 27, 3) := by decide +kernel
theorem dX8_planBlock_68 : decode prog_1_method_50_code 68 = .ok (.aload_n 0, 1) := by decide +kernel
theorem dX8_planBlock_69 : decode prog_1_method_50_code 69 = .ok (.dup, 1) := by decide +kernel
theorem dX8_planBlock_70 : decode prog_1_method_50_code 70 = .ok (.getfield 43, 3) := by decide +kernel
theorem dX8_planBlock_73 : decode prog_1_method_50_code 73 = .ok (.iconst 1, 1) := by decide +kernel
theorem dX8_planBlock_74 : decode prog_1_method_50_code 74 = .ok (.iadd, 1) := by decide +kernel
theorem dX8_planBlock_75 : decode prog_1_method_50_code 75 = .ok (.putfield 43, 3) := by decide +kernel
theorem dX8_planBlock_78 : decode prog_1_method_50_code 78 = .ok (.aload_n 0, 1) := by decide +kernel
theorem dX8_planBlock_79 : decode prog_1_method_50_code 79 = .ok (.getfield 40, 3) := by decide +kernel
theorem dX8_planBlock_82 : decode prog_1_method_50_code 82 = .ok (.iload 4, 2) := by decide +kernel
theorem dX8_planBlock_84 : decode prog_1_method_50_code 84 = .ok (.invokevirtual 98, 3) := by decide +kernel
theorem dX8_planBlock_87 : decode prog_1_method_50_code 87 = .ok (.return_, 1) := by decide +kernel
abbrev M_X7_init : am_M := ((⟨"SignCellar$Version", "<init>", "(LSignCellar$Row;II)V"⟩ : MethodName), prog_9_method_1_code, 4, none, 2, 45)
theorem dX7_init_0 : decode prog_9_method_1_code 0 = .ok (.aload_n 0, 1) := by decide +kernel
theorem dX7_init_1 : decode prog_9_method_1_code 1 = .ok (.invokespecial 3, 3) := by decide +kernel
theorem dX7_init_4 : decode prog_9_method_1_code 4 = .ok (.aload_n 0, 1) := by decide +kernel
theorem dX7_init_5 : decode prog_9_method_1_code 5 = .ok (.iconst 0, 1) := by decide +kernel
theorem dX7_init_6 : decode prog_9_method_1_code 6 = .ok (.putfield 9, 3) := by decide +kernel
theorem dX7_init_9 : decode prog_9_method_1_code 9 = .ok (.aload_n 0, 1) := by decide +kernel
theorem dX7_init_10 : decode prog_9_method_1_code 10 = .ok (.new 15, 3) := by decide +kernel
theorem dX7_init_13 : decode prog_9_method_1_code 13 = .ok (.dup, 1) := by decide +kernel
theorem dX7_init_14 : decode prog_9_method_1_code 14 = .ok (.bipush 24, 2) := by decide +kernel
theorem dX7_init_16 : decode prog_9_method_1_code 16 = .ok (.invokespecial 17, 3) := by decide +kernel
theorem dX7_init_19 : decode prog_9_method_1_code 19 = .ok (.putfield 20, 3) := by decide +kernel
theorem dX7_init_22 : decode prog_9_method_1_code 22 = .ok (.aload_n 0, 1) := by decide +kernel
theorem dX7_init_23 : decode prog_9_method_1_code 23 = .ok (.new 15, 3) := by decide +kernel
theorem dX7_init_26 : decode prog_9_method_1_code 26 = .ok (.dup, 1) := by decide +kernel
theorem dX7_init_27 : decode prog_9_method_1_code 27 = .ok (.bipush 24, 2) := by decide +kernel
theorem dX7_init_29 : decode prog_9_method_1_code 29 = .ok (.invokespecial 17, 3) := by decide +kernel
theorem dX7_init_32 : decode prog_9_method_1_code 32 = .ok (.putfield 24, 3) := by decide +kernel
theorem dX7_init_35 : decode prog_9_method_1_code 35 = .ok (.aload_n 0, 1) := by decide +kernel
theorem dX7_init_36 : decode prog_9_method_1_code 36 = .ok (.new 15, 3) := by decide +kernel
theorem dX7_init_39 : decode prog_9_method_1_code 39 = .ok (.dup, 1) := by decide +kernel
theorem dX7_init_40 : decode prog_9_method_1_code 40 = .ok (.aload_n 1, 1) := by decide +kernel
theorem dX7_init_41 : decode prog_9_method_1_code 41 = .ok (.invokevirtual 27, 3) := by decide +kernel
theorem dX7_init_44 : decode prog_9_method_1_code 44 = .ok (.invokespecial 17, 3) := by decide +kernel
theorem dX7_init_47 : decode prog_9_method_1_code 47 = .ok (.putfield 31, 3) := by decide +kernel
theorem dX7_init_50 : decode prog_9_method_1_code 50 = .ok (.aload_n 0, 1) := by decide +kernel
theorem dX7_init_51 : decode prog_9_method_1_code 51 = .ok (.getfield 31, 3) := by decide +kernel
theorem dX7_init_54 : decode prog_9_method_1_code 54 = .ok (.aload_n 1, 1) := by decide +kernel
theorem dX7_init_55 : decode prog_9_method_1_code 55 = .ok (.iconst 0, 1) := by decide +kernel
theorem dX7_init_56 : decode prog_9_method_1_code 56 = .ok (.aload_n 1, 1) := by decide +kernel
theorem dX7_init_57 : decode prog_9_method_1_code 57 = .ok (.invokevirtual 27, 3) := by decide +kernel
theorem dX7_init_60 : decode prog_9_method_1_code 60 = .ok (.invokevirtual 34, 3) := by decide +kernel
theorem dX7_init_63 : decode prog_9_method_1_code 63 = .ok (.aload_n 0, 1) := by decide +kernel
theorem dX7_init_64 : decode prog_9_method_1_code 64 = .ok (.iload_n 2, 1) := by decide +kernel
theorem dX7_init_65 : decode prog_9_method_1_code 65 = .ok (.putfield 38, 3) := by decide +kernel
theorem dX7_init_68 : decode prog_9_method_1_code 68 = .ok (.aload_n 0, 1) := by decide +kernel
theorem dX7_init_69 : decode prog_9_method_1_code 69 = .ok (.iload_n 3, 1) := by decide +kernel
theorem dX7_init_70 : decode prog_9_method_1_code 70 = .ok (.putfield 41, 3) := by decide +kernel
theorem dX7_init_73 : decode prog_9_method_1_code 73 = .ok (.return_, 1) := by decide +kernel
abbrev M_X8_lengthIn : am_M := ((⟨"SignCellar", "lengthIn", "(LSignCellar$Version;I)I"⟩ : MethodName), prog_1_method_36_code, 4, (some .int), 1, 21)
theorem dX8_lengthIn_0 : decode prog_1_method_36_code 0 = .ok (.aload_n 0, 1) := by decide +kernel
theorem dX8_lengthIn_1 : decode prog_1_method_36_code 1 = .ok (.aload_n 1, 1) := by decide +kernel
theorem dX8_lengthIn_2 : decode prog_1_method_36_code 2 = .ok (.getfield 148, 3) := by decide +kernel
theorem dX8_lengthIn_5 : decode prog_1_method_36_code 5 = .ok (.iload_n 2, 1) := by decide +kernel
theorem dX8_lengthIn_6 : decode prog_1_method_36_code 6 = .ok (.invokevirtual 161, 3) := by decide +kernel
theorem dX8_lengthIn_9 : decode prog_1_method_36_code 9 = .ok (.invokevirtual 176, 3) := by decide +kernel
theorem dX8_lengthIn_12 : decode prog_1_method_36_code 12 = .ok (.astore_n 3, 1) := by decide +kernel
theorem dX8_lengthIn_13 : decode prog_1_method_36_code 13 = .ok (.aload_n 3, 1) := by decide +kernel
theorem dX8_lengthIn_14 : decode prog_1_method_36_code 14 = .ok (.ifnonnull 7, 3) := by decide +kernel
theorem dX8_lengthIn_17 : decode prog_1_method_36_code 17 = .ok (.iconst 0, 1) := by decide +kernel
theorem dX8_lengthIn_18 : decode prog_1_method_36_code 18 = .ok (.goto 10, 3) := by decide +kernel
theorem dX8_lengthIn_21 : decode prog_1_method_36_code 21 = .ok (.aload_n 3, 1) := by decide +kernel
theorem dX8_lengthIn_22 : decode prog_1_method_36_code 22 = .ok (.getfield 180, 3) := by decide +kernel
theorem dX8_lengthIn_25 : decode prog_1_method_36_code 25 = .ok (.invokevirtual 93, 3) := by decide +kernel
theorem dX8_lengthIn_28 : decode prog_1_method_36_code 28 = .ok (.ireturn, 1) := by decide +kernel
abbrev M_X8_signIn : am_M := ((⟨"SignCellar", "signIn", "(LSignCellar$Version;II)I"⟩ : MethodName), prog_1_method_38_code, 5, (some .int), 1, 21)
theorem dX8_signIn_0 : decode prog_1_method_38_code 0 = .ok (.aload_n 0, 1) := by decide +kernel
theorem dX8_signIn_1 : decode prog_1_method_38_code 1 = .ok (.aload_n 1, 1) := by decide +kernel
theorem dX8_signIn_2 : decode prog_1_method_38_code 2 = .ok (.getfield 148, 3) := by decide +kernel
theorem dX8_signIn_5 : decode prog_1_method_38_code 5 = .ok (.iload_n 2, 1) := by decide +kernel
theorem dX8_signIn_6 : decode prog_1_method_38_code 6 = .ok (.invokevirtual 161, 3) := by decide +kernel
theorem dX8_signIn_9 : decode prog_1_method_38_code 9 = .ok (.invokevirtual 176, 3) := by decide +kernel
theorem dX8_signIn_12 : decode prog_1_method_38_code 12 = .ok (.astore 4, 2) := by decide +kernel
theorem dX8_signIn_14 : decode prog_1_method_38_code 14 = .ok (.aload 4, 2) := by decide +kernel
theorem dX8_signIn_16 : decode prog_1_method_38_code 16 = .ok (.ifnonnull 7, 3) := by decide +kernel
theorem dX8_signIn_19 : decode prog_1_method_38_code 19 = .ok (.iconst (-1), 1) := by decide +kernel
theorem dX8_signIn_20 : decode prog_1_method_38_code 20 = .ok (.goto 12, 3) := by decide +kernel
theorem dX8_signIn_23 : decode prog_1_method_38_code 23 = .ok (.aload 4, 2) := by decide +kernel
theorem dX8_signIn_25 : decode prog_1_method_38_code 25 = .ok (.getfield 180, 3) := by decide +kernel
theorem dX8_signIn_28 : decode prog_1_method_38_code 28 = .ok (.iload_n 3, 1) := by decide +kernel
theorem dX8_signIn_29 : decode prog_1_method_38_code 29 = .ok (.invokevirtual 161, 3) := by decide +kernel
theorem dX8_signIn_32 : decode prog_1_method_38_code 32 = .ok (.ireturn, 1) := by decide +kernel
abbrev M_X8_numberIn : am_M := ((⟨"SignCellar", "numberIn", "(LSignCellar$Version;II)I"⟩ : MethodName), prog_1_method_54_code, 5, (some .int), 2, 45)
theorem dX8_numberIn_0 : decode prog_1_method_54_code 0 = .ok (.aload_n 0, 1) := by decide +kernel
theorem dX8_numberIn_1 : decode prog_1_method_54_code 1 = .ok (.aload_n 1, 1) := by decide +kernel
theorem dX8_numberIn_2 : decode prog_1_method_54_code 2 = .ok (.iload_n 2, 1) := by decide +kernel
theorem dX8_numberIn_3 : decode prog_1_method_54_code 3 = .ok (.iload_n 3, 1) := by decide +kernel
theorem dX8_numberIn_4 : decode prog_1_method_54_code 4 = .ok (.invokevirtual 172, 3) := by decide +kernel
theorem dX8_numberIn_7 : decode prog_1_method_54_code 7 = .ok (.istore 4, 2) := by decide +kernel
theorem dX8_numberIn_9 : decode prog_1_method_54_code 9 = .ok (.iload 4, 2) := by decide +kernel
theorem dX8_numberIn_11 : decode prog_1_method_54_code 11 = .ok (.iconst (-1), 1) := by decide +kernel
theorem dX8_numberIn_12 : decode prog_1_method_54_code 12 = .ok (.if_icmp .ne 8, 3) := by decide +kernel
theorem dX8_numberIn_15 : decode prog_1_method_54_code 15 = .ok (.bipush 16, 2) := by decide +kernel
theorem dX8_numberIn_17 : decode prog_1_method_54_code 17 = .ok (.goto 5, 3) := by decide +kernel
theorem dX8_numberIn_20 : decode prog_1_method_54_code 20 = .ok (.iload 4, 2) := by decide +kernel
theorem dX8_numberIn_22 : decode prog_1_method_54_code 22 = .ok (.ireturn, 1) := by decide +kernel
abbrev M_X8_addUp : am_M := ((⟨"SignCellar", "addUp", "(LSignCellar$Version;)V"⟩ : MethodName), prog_1_method_53_code, 7, none, 3, 69)
theorem dX8_addUp_0 : decode prog_1_method_53_code 0 = .ok (.iconst 0, 1) := by decide +kernel
theorem dX8_addUp_1 : decode prog_1_method_53_code 1 = .ok (.istore_n 2, 1) := by decide +kernel
theorem dX8_addUp_2 : decode prog_1_method_53_code 2 = .ok (.iload_n 2, 1) := by decide +kernel
theorem dX8_addUp_3 : decode prog_1_method_53_code 3 = .ok (.bipush 24, 2) := by decide +kernel
theorem dX8_addUp_5 : decode prog_1_method_53_code 5 = .ok (.if_icmp .ge 85, 3) := by decide +kernel
theorem dX8_addUp_8 : decode prog_1_method_53_code 8 = .ok (.iconst 0, 1) := by decide +kernel
theorem dX8_addUp_9 : decode prog_1_method_53_code 9 = .ok (.istore_n 3, 1) := by decide +kernel
theorem dX8_addUp_10 : decode prog_1_method_53_code 10 = .ok (.iconst 0, 1) := by decide +kernel
theorem dX8_addUp_11 : decode prog_1_method_53_code 11 = .ok (.istore 4, 2) := by decide +kernel
theorem dX8_addUp_13 : decode prog_1_method_53_code 13 = .ok (.iconst 0, 1) := by decide +kernel
theorem dX8_addUp_14 : decode prog_1_method_53_code 14 = .ok (.istore 5, 2) := by decide +kernel
theorem dX8_addUp_16 : decode prog_1_method_53_code 16 = .ok (.iload 5, 2) := by decide +kernel
theorem dX8_addUp_18 : decode prog_1_method_53_code 18 = .ok (.aload_n 1, 1) := by decide +kernel
theorem dX8_addUp_19 : decode prog_1_method_53_code 19 = .ok (.getfield 148, 3) := by decide +kernel
theorem dX8_addUp_22 : decode prog_1_method_53_code 22 = .ok (.invokevirtual 93, 3) := by decide +kernel
theorem dX8_addUp_25 : decode prog_1_method_53_code 25 = .ok (.if_icmp .ge 36, 3) := by decide +kernel
theorem dX8_addUp_28 : decode prog_1_method_53_code 28 = .ok (.aload_n 0, 1) := by decide +kernel
theorem dX8_addUp_29 : decode prog_1_method_53_code 29 = .ok (.aload_n 1, 1) := by decide +kernel
theorem dX8_addUp_30 : decode prog_1_method_53_code 30 = .ok (.iload 5, 2) := by decide +kernel
theorem dX8_addUp_32 : decode prog_1_method_53_code 32 = .ok (.iload_n 2, 1) := by decide +kernel
theorem dX8_addUp_33 : decode prog_1_method_53_code 33 = .ok (.invokevirtual 355, 3) := by decide +kernel
theorem dX8_addUp_36 : decode prog_1_method_53_code 36 = .ok (.istore 6, 2) := by decide +kernel
theorem dX8_addUp_38 : decode prog_1_method_53_code 38 = .ok (.iload_n 3, 1) := by decide +kernel
theorem dX8_addUp_39 : decode prog_1_method_53_code 39 = .ok (.iload 6, 2) := by decide +kernel
theorem dX8_addUp_41 : decode prog_1_method_53_code 41 = .ok (.iadd, 1) := by decide +kernel
theorem dX8_addUp_42 : decode prog_1_method_53_code 42 = .ok (.istore_n 3, 1) := by decide +kernel
theorem dX8_addUp_43 : decode prog_1_method_53_code 43 = .ok (.iload 4, 2) := by decide +kernel
theorem dX8_addUp_45 : decode prog_1_method_53_code 45 = .ok (.iload 5, 2) := by decide +kernel
theorem dX8_addUp_47 : decode prog_1_method_53_code 47 = .ok (.iconst 1, 1) := by decide +kernel
theorem dX8_addUp_48 : decode prog_1_method_53_code 48 = .ok (.iadd, 1) := by decide +kernel
theorem dX8_addUp_49 : decode prog_1_method_53_code 49 = .ok (.iload 6, 2) := by decide +kernel
theorem dX8_addUp_51 : decode prog_1_method_53_code 51 = .ok (.imul, 1) := by decide +kernel
theorem dX8_addUp_52 : decode prog_1_method_53_code 52 = .ok (.iadd, 1) := by decide +kernel
theorem dX8_addUp_53 : decode prog_1_method_53_code 53 = .ok (.istore 4, 2) := by decide +kernel
theorem dX8_addUp_55 : decode prog_1_method_53_code 55 = .ok (.iinc 5 1, 3) := by decide +kernel
theorem dX8_addUp_58 : decode prog_1_method_53_code 58 = .ok (.goto (-42), 3) := by decide +kernel
theorem dX8_addUp_61 : decode prog_1_method_53_code 61 = .ok (.aload_n 1, 1) := by decide +kernel
theorem dX8_addUp_62 : decode prog_1_method_53_code 62 = .ok (.getfield 294, 3) := by decide +kernel
theorem dX8_addUp_65 : decode prog_1_method_53_code 65 = .ok (.iload_n 3, 1) := by decide +kernel
theorem dX8_addUp_66 : decode prog_1_method_53_code 66 = .ok (.bipush 17, 2) := by decide +kernel
theorem dX8_addUp_68 : decode prog_1_method_53_code 68 = .ok (.irem, 1) := by decide +kernel
theorem dX8_addUp_69 : decode prog_1_method_53_code 69 = .ok (.invokevirtual 98, 3) := by decide +kernel
theorem dX8_addUp_72 : decode prog_1_method_53_code 72 = .ok (.aload_n 1, 1) := by decide +kernel
theorem dX8_addUp_73 : decode prog_1_method_53_code 73 = .ok (.getfield 297, 3) := by decide +kernel
theorem dX8_addUp_76 : decode prog_1_method_53_code 76 = .ok (.iload 4, 2) := by decide +kernel
theorem dX8_addUp_78 : decode prog_1_method_53_code 78 = .ok (.bipush 17, 2) := by decide +kernel
theorem dX8_addUp_80 : decode prog_1_method_53_code 80 = .ok (.irem, 1) := by decide +kernel
theorem dX8_addUp_81 : decode prog_1_method_53_code 81 = .ok (.invokevirtual 98, 3) := by decide +kernel
theorem dX8_addUp_84 : decode prog_1_method_53_code 84 = .ok (.iinc 2 1, 3) := by decide +kernel
theorem dX8_addUp_87 : decode prog_1_method_53_code 87 = .ok (.goto (-85), 3) := by decide +kernel
theorem dX8_addUp_90 : decode prog_1_method_53_code 90 = .ok (.return_, 1) := by decide +kernel
theorem cw_X9_96 : am_cw "SignCellarModel" 96 M_X9_in 3 := ⟨wd_1_9, wd_4_235, ⟨by decide, by decide, by decide⟩, Or.inl wd_4_233⟩
theorem fw_X9_106 : am_fw "SignCellarModel" 106 9 0 := ⟨(RX9, TX9, 42), rfl, by decide, inX9, Or.inl wd_4_100⟩
theorem fw_X9_7 : am_fw "SignCellarModel" 7 9 1 := ⟨(RX9, TX9, 42), rfl, by decide, inX9, Or.inl wd_4_101⟩
theorem fx_X9_106 {nm : String} : am_fx "SignCellarModel" 106 9 0 .int nm := ⟨(RX9, TX9, 42), tyX9, rfl, by decide, inX9, tyX9_ok, nmX9, rfl, Or.inl ⟨wd_4_100, Or.inl rfl⟩⟩
def F_X9_feed_34 : Nat → Nat → Int64 → Int32 → am_H → Option (Int32 × am_H)
  | 0, _, _, _, _ => none
  | n + 1, v0, v2, v4, h =>
  if v4 < 0 then
    (am_gi 9 0 v0 h).bind fun x2 =>
    some (x2, h)
  else
    (am_gr 9 1 v0 h).bind fun x3 =>
    (am_gi 9 0 v0 h).bind fun x4 =>
    (am_is 0 x3 x4 (Int64.toInt32 ((v2 >>> (Int32.toInt64 ((4 : Int32) * v4) &&& 63)) &&& (15 : Int64))) h).bind fun h5 =>
    (am_gi 9 0 v0 h5).bind fun x6 =>
    (am_pi 9 0 v0 (x6 + (1 : Int32)) h5).bind fun h7 =>
    F_X9_feed_34 n v0 v2 (v4 + (-1 : Int32)) h7
theorem w_X9_feed_34 {g : am_G} {l : Launch} {h0 : am_H} {x : Int32} {hf : am_H}  : ∀ (n : Nat) (v0 : Nat) (v2 : Int64) (v4 : Int32) (h : am_H), F_X9_feed_34 n v0 v2 v4 h = some (x, hf) → am_W g l M_X9_feed h0 (some (.int x)) hf 34 [some (.ref v0), none, some (.long v2), none, some (.int v4)] [] h
  | 0, _, _, _, _, hF => by cases hF
  | n + 1, v0, v2, v4, h, hF => by
    rw [F_X9_feed_34] at hF
    refine am_iload (pc' := 36) dX9_feed_34 rfl rfl ?_
    rcases am_ite hF with ⟨z1, hF⟩ | ⟨z1, hF⟩
    · refine am_if_lt_t (pc' := 75) dX9_feed_36 rfl z1 ?_
      refine am_aload_n (pc' := 76) dX9_feed_75 rfl rfl ?_
      obtain ⟨x2, ex2, hF⟩ := am_bind hF
      refine am_geti (pc' := 79) dX9_feed_76 fw_X9_106 ex2 rfl ?_
      cases hF
      exact am_iret dX9_feed_79 rfl rfl
    · refine am_if_lt_f (pc' := 39) (tgt := 75) dX9_feed_36 rfl z1 rfl ?_
      refine am_aload_n (pc' := 40) dX9_feed_39 rfl rfl ?_
      obtain ⟨x3, ex3, hF⟩ := am_bind hF
      refine am_getr (pc' := 43) dX9_feed_40 fw_X9_7 ex3 rfl ?_
      refine am_aload_n (pc' := 44) dX9_feed_43 rfl rfl ?_
      obtain ⟨x4, ex4, hF⟩ := am_bind hF
      refine am_geti (pc' := 47) dX9_feed_44 fw_X9_106 ex4 rfl ?_
      refine am_lload_n (pc' := 48) dX9_feed_47 rfl rfl ?_
      refine am_iconst (v := (4 : Int32)) (pc' := 49) dX9_feed_48 rfl rfl ?_
      refine am_iload (pc' := 51) dX9_feed_49 rfl rfl ?_
      refine am_imul (pc' := 52) dX9_feed_51 rfl ?_
      refine am_lshr (pc' := 53) dX9_feed_52 rfl ?_
      refine am_ldc2 (v := (15 : Int64)) (pc' := 56) dX9_feed_53 wd_4_232 rfl ?_
      refine am_land (pc' := 57) dX9_feed_56 rfl ?_
      refine am_l2i (pc' := 58) dX9_feed_57 rfl ?_
      obtain ⟨h5, eh5, hF⟩ := am_bind hF
      refine am_iast (pc' := 59) dX9_feed_58 eh5 rfl ?_
      refine am_aload_n (pc' := 60) dX9_feed_59 rfl rfl ?_
      refine am_dup (pc' := 61) dX9_feed_60 rfl rfl ?_
      obtain ⟨x6, ex6, hF⟩ := am_bind hF
      refine am_geti (pc' := 64) dX9_feed_61 fw_X9_106 ex6 rfl ?_
      refine am_iconst (v := (1 : Int32)) (pc' := 65) dX9_feed_64 rfl rfl ?_
      refine am_iadd (pc' := 66) dX9_feed_65 rfl ?_
      obtain ⟨h7, eh7, hF⟩ := am_bind hF
      refine am_puti (pc' := 69) dX9_feed_66 fx_X9_106 eh7 rfl ?_
      refine am_iinc (ls' := [some (.ref v0), none, some (.long v2), none, some (.int (v4 + (-1 : Int32)))]) (pc' := 72) (v := (v4 + (-1 : Int32))) dX9_feed_69 rfl rfl (Nat.le_of_ble_eq_true rfl) rfl rfl ?_
      refine am_goto (pc' := 34) dX9_feed_72 rfl ?_
      exact w_X9_feed_34 n v0 v2 (v4 + (-1 : Int32)) h7 hF
def F_X9_feed_b (v0 : Nat) (v1 : Int32) (v2 : Int64) (h : am_H) : Option (Int32 × am_H) :=
  (F_X9_in (Int32.toInt64 v1) (1 : Int64) (15 : Int64) h).bind fun x1 =>
  if x1 = 0 then
    some ((-100002 : Int32), h)
  else
    (am_gi 9 0 v0 h).bind fun x3 =>
    if (x3 + v1) ≤ (96 : Int32) then
      F_X9_feed_34 am_F v0 v2 (v1 - (1 : Int32)) h
    else
      some ((-100004 : Int32), h)
theorem w_X9_feed {g : am_G} {l : Launch} {h0 : am_H} {x : Int32} {hf : am_H}  (v0 : Nat) (v1 : Int32) (v2 : Int64) (h : am_H) (hF : F_X9_feed_b v0 v1 v2 h = some (x, hf)) : am_W g l M_X9_feed h0 (some (.int x)) hf 0 [some (.ref v0), some (.int v1), some (.long v2), none, none] [] h := by
  unfold F_X9_feed_b at hF
  refine am_iload_n (pc' := 1) dX9_feed_0 rfl rfl ?_
  refine am_i2l (pc' := 2) dX9_feed_1 rfl ?_
  refine am_lconst (v := (1 : Int64)) (pc' := 3) dX9_feed_2 rfl rfl ?_
  refine am_ldc2 (v := (15 : Int64)) (pc' := 6) dX9_feed_3 wd_4_232 rfl ?_
  obtain ⟨x1, ex1, hF⟩ := am_bind hF
  refine am_callS1 (Mc := M_X9_in) (As := [.long (Int32.toInt64 v1), .long (1 : Int64), .long (15 : Int64)]) (st := []) (pc' := 9) dX9_feed_6 cw_X9_96 wd_4_234 (by decide) (by decide) rfl rfl (Nat.le_of_ble_eq_true rfl) (c_X9_in ex1) rfl ?_
  rcases am_ite hF with ⟨z2, hF⟩ | ⟨z2, hF⟩
  · refine am_if_ne_f (pc' := 12) (tgt := 15) dX9_feed_9 rfl z2 rfl ?_
    refine am_ldc (v := (-100002 : Int32)) (pc' := 14) dX9_feed_12 wd_4_236 rfl ?_
    cases hF
    exact am_iret dX9_feed_14 rfl rfl
  · refine am_if_ne_t (pc' := 15) dX9_feed_9 rfl z2 ?_
    refine am_aload_n (pc' := 16) dX9_feed_15 rfl rfl ?_
    obtain ⟨x3, ex3, hF⟩ := am_bind hF
    refine am_geti (pc' := 19) dX9_feed_16 fw_X9_106 ex3 rfl ?_
    refine am_iload_n (pc' := 20) dX9_feed_19 rfl rfl ?_
    refine am_iadd (pc' := 21) dX9_feed_20 rfl ?_
    refine am_bipush (v := (96 : Int32)) (pc' := 23) dX9_feed_21 rfl rfl ?_
    rcases am_ite hF with ⟨z4, hF⟩ | ⟨z4, hF⟩
    · refine am_icmp_le_t (pc' := 29) dX9_feed_23 rfl z4 ?_
      refine am_iload_n (pc' := 30) dX9_feed_29 rfl rfl ?_
      refine am_iconst (v := (1 : Int32)) (pc' := 31) dX9_feed_30 rfl rfl ?_
      refine am_isub (pc' := 32) dX9_feed_31 rfl ?_
      refine am_istore (ls' := [some (.ref v0), some (.int v1), some (.long v2), none, some (.int (v1 - (1 : Int32)))]) (pc' := 34) dX9_feed_32 (Nat.le_of_ble_eq_true rfl) rfl rfl ?_
      exact am_weak [true, false, true, false, true] (w_X9_feed_34 am_F v0 v2 (v1 - (1 : Int32)) h hF)
    · refine am_icmp_le_f (pc' := 26) (tgt := 29) dX9_feed_23 rfl z4 rfl ?_
      refine am_ldc (v := (-100004 : Int32)) (pc' := 28) dX9_feed_26 wd_4_237 rfl ?_
      cases hF
      exact am_iret dX9_feed_28 rfl rfl
def F_X9_feed (v0 : Nat) (v1 : Int32) (v2 : Int64) (h : am_H) : Option (Int32 × am_H) := (am_obj v0 9 h).bind fun _ => F_X9_feed_b v0 v1 v2 h
theorem t_X9_feed {x : Int32} {hf : am_H}  {v0 : Nat} {v1 : Int32} {v2 : Int64} {h : am_H} (hF : F_X9_feed v0 v1 v2 h = some (x, hf)) : ∃ fs, am_obj v0 9 h = some fs := by
  obtain ⟨fs, e, _⟩ := am_bind hF
  exact ⟨fs, e⟩
theorem c_X9_feed {g : am_G} {l : Launch} {x : Int32} {hf : am_H}  {v0 : Nat} {v1 : Int32} {v2 : Int64} {h : am_H} (hF : F_X9_feed v0 v1 v2 h = some (x, hf)) : am_Met g l M_X9_feed [.ref v0, .int v1, .long v2] h (some (.int x)) hf := by
  obtain ⟨fs, e0, e⟩ := am_bind hF
  exact am_met (n := 1) (by decide +kernel) rfl (Nat.le_of_ble_eq_true rfl) (w_X9_feed v0 v1 v2 h e)
theorem fw_X8_27 : am_fw "SignCellar" 27 8 3 := ⟨(RX8, TX8, 16), rfl, by decide, inX8, Or.inl wd_1_183⟩
theorem fw_X8_37 : am_fw "SignCellar" 37 8 5 := ⟨(RX8, TX8, 16), rfl, by decide, inX8, Or.inl wd_1_185⟩
def F_X8_hasRoom_26 (s0 : Int32) (h : am_H) : Option Int32 :=
  am_z s0
theorem w_X8_hasRoom_26 {g : am_G} {l : Launch} {h0 : am_H} {x : Int32}  (s0 : Int32) (h : am_H) (hF : F_X8_hasRoom_26 s0 h = some x) : am_W g l M_X8_hasRoom h0 (some (.int x)) h 26 [none, none] [.int s0] h := by
  unfold F_X8_hasRoom_26 at hF
  exact am_zret dX8_hasRoom_26 rfl hF
def F_X8_hasRoom_25 (h : am_H) : Option Int32 :=
  F_X8_hasRoom_26 (0 : Int32) h
theorem w_X8_hasRoom_25 {g : am_G} {l : Launch} {h0 : am_H} {x : Int32}  (h : am_H) (hF : F_X8_hasRoom_25 h = some x) : am_W g l M_X8_hasRoom h0 (some (.int x)) h 25 [none, none] [] h := by
  unfold F_X8_hasRoom_25 at hF
  refine am_iconst (v := (0 : Int32)) (pc' := 26) dX8_hasRoom_25 rfl rfl ?_
  exact w_X8_hasRoom_26 (0 : Int32) h hF
def F_X8_hasRoom_b (v0 : Nat) (v1 : Int32) (h : am_H) : Option Int32 :=
  (am_gi 8 5 v0 h).bind fun x1 =>
  if (30 : Int32) ≤ x1 then
    F_X8_hasRoom_25 h
  else
    (am_gi 8 3 v0 h).bind fun x3 =>
    if (200 : Int32) < (x3 + v1) then
      F_X8_hasRoom_25 h
    else
      F_X8_hasRoom_26 (1 : Int32) h
theorem w_X8_hasRoom {g : am_G} {l : Launch} {h0 : am_H} {x : Int32}  (v0 : Nat) (v1 : Int32) (h : am_H) (hF : F_X8_hasRoom_b v0 v1 h = some x) : am_W g l M_X8_hasRoom h0 (some (.int x)) h 0 [some (.ref v0), some (.int v1)] [] h := by
  unfold F_X8_hasRoom_b at hF
  refine am_aload_n (pc' := 1) dX8_hasRoom_0 rfl rfl ?_
  obtain ⟨x1, ex1, hF⟩ := am_bind hF
  refine am_geti (pc' := 4) dX8_hasRoom_1 fw_X8_37 ex1 rfl ?_
  refine am_bipush (v := (30 : Int32)) (pc' := 6) dX8_hasRoom_4 rfl rfl ?_
  rcases am_ite hF with ⟨z2, hF⟩ | ⟨z2, hF⟩
  · refine am_icmp_ge_t (pc' := 25) dX8_hasRoom_6 rfl z2 ?_
    exact am_weak [false, false] (w_X8_hasRoom_25 h hF)
  · refine am_icmp_ge_f (pc' := 9) (tgt := 25) dX8_hasRoom_6 rfl z2 rfl ?_
    refine am_aload_n (pc' := 10) dX8_hasRoom_9 rfl rfl ?_
    obtain ⟨x3, ex3, hF⟩ := am_bind hF
    refine am_geti (pc' := 13) dX8_hasRoom_10 fw_X8_27 ex3 rfl ?_
    refine am_iload_n (pc' := 14) dX8_hasRoom_13 rfl rfl ?_
    refine am_iadd (pc' := 15) dX8_hasRoom_14 rfl ?_
    refine am_sipush (v := (200 : Int32)) (pc' := 18) dX8_hasRoom_15 rfl rfl ?_
    rcases am_ite hF with ⟨z4, hF⟩ | ⟨z4, hF⟩
    · refine am_icmp_gt_t (pc' := 25) dX8_hasRoom_18 rfl z4 ?_
      exact am_weak [false, false] (w_X8_hasRoom_25 h hF)
    · refine am_icmp_gt_f (pc' := 21) (tgt := 25) dX8_hasRoom_18 rfl z4 rfl ?_
      refine am_iconst (v := (1 : Int32)) (pc' := 22) dX8_hasRoom_21 rfl rfl ?_
      refine am_goto (pc' := 26) dX8_hasRoom_22 rfl ?_
      exact am_weak [false, false] (w_X8_hasRoom_26 (1 : Int32) h hF)
def F_X8_hasRoom (v0 : Nat) (v1 : Int32) (h : am_H) : Option Int32 := (am_obj v0 8 h).bind fun _ => F_X8_hasRoom_b v0 v1 h
theorem t_X8_hasRoom {x : Int32}  {v0 : Nat} {v1 : Int32} {h : am_H} (hF : F_X8_hasRoom v0 v1 h = some x) : ∃ fs, am_obj v0 8 h = some fs := by
  obtain ⟨fs, e, _⟩ := am_bind hF
  exact ⟨fs, e⟩
theorem c_X8_hasRoom {g : am_G} {l : Launch} {x : Int32}  {v0 : Nat} {v1 : Int32} {h : am_H} (hF : F_X8_hasRoom v0 v1 h = some x) : am_Met g l M_X8_hasRoom [.ref v0, .int v1] h (some (.int x)) h := by
  obtain ⟨fs, e0, e⟩ := am_bind hF
  exact am_met (n := 0) (by decide +kernel) rfl (Nat.le_of_ble_eq_true rfl) (w_X8_hasRoom v0 v1 h e)
def F_X4_empty_b (v0 : Nat) (h : am_H) : Option am_H :=
  (am_pi 4 1 v0 (0 : Int32) h).bind fun h1 =>
  some h1
theorem w_X4_empty {g : am_G} {l : Launch} {h0 : am_H} {hf : am_H}  (v0 : Nat) (h : am_H) (hF : F_X4_empty_b v0 h = some hf) : am_W g l M_X4_empty h0 none hf 0 [some (.ref v0)] [] h := by
  unfold F_X4_empty_b at hF
  refine am_aload_n (pc' := 1) dX4_empty_0 rfl rfl ?_
  refine am_iconst (v := (0 : Int32)) (pc' := 2) dX4_empty_1 rfl rfl ?_
  obtain ⟨h1, eh1, hF⟩ := am_bind hF
  refine am_puti (pc' := 5) dX4_empty_2 fx_X4_9 eh1 rfl ?_
  cases hF
  exact am_vret dX4_empty_5 rfl
def F_X4_empty (v0 : Nat) (h : am_H) : Option am_H := (am_obj v0 4 h).bind fun _ => F_X4_empty_b v0 h
theorem t_X4_empty {hf : am_H}  {v0 : Nat} {h : am_H} (hF : F_X4_empty v0 h = some hf) : ∃ fs, am_obj v0 4 h = some fs := by
  obtain ⟨fs, e, _⟩ := am_bind hF
  exact ⟨fs, e⟩
theorem c_X4_empty {g : am_G} {l : Launch} {hf : am_H}  {v0 : Nat} {h : am_H} (hF : F_X4_empty v0 h = some hf) : am_Met g l M_X4_empty [.ref v0] h none hf := by
  obtain ⟨fs, e0, e⟩ := am_bind hF
  exact am_met (n := 0) (by decide +kernel) rfl (Nat.le_of_ble_eq_true rfl) (w_X4_empty v0 h e)
theorem cw_X8_119 : am_cw "SignCellar" 119 M_X4_empty 0 := ⟨wd_1_2, wd_2_19, ⟨by decide, by decide, by decide⟩, Or.inl wd_2_16⟩
theorem fw_X8_40 : am_fw "SignCellar" 40 8 6 := ⟨(RX8, TX8, 16), rfl, by decide, inX8, Or.inl wd_1_186⟩
theorem fx_X8_43 {nm : String} : am_fx "SignCellar" 43 8 7 .int nm := ⟨(RX8, TX8, 16), tyX8, rfl, by decide, inX8, tyX8_ok, nmX8, rfl, Or.inl ⟨wd_1_187, Or.inl rfl⟩⟩
def F_X8_startPlan_b (v0 : Nat) (h : am_H) : Option am_H :=
  (am_gr 8 6 v0 h).bind fun x1 =>
  (F_X4_empty x1 h).bind fun h2 =>
  (am_pi 8 7 v0 (0 : Int32) h2).bind fun h3 =>
  some h3
theorem w_X8_startPlan {g : am_G} {l : Launch} {h0 : am_H} {hf : am_H}  (v0 : Nat) (h : am_H) (hF : F_X8_startPlan_b v0 h = some hf) : am_W g l M_X8_startPlan h0 none hf 0 [some (.ref v0)] [] h := by
  unfold F_X8_startPlan_b at hF
  refine am_aload_n (pc' := 1) dX8_startPlan_0 rfl rfl ?_
  obtain ⟨x1, ex1, hF⟩ := am_bind hF
  refine am_getr (pc' := 4) dX8_startPlan_1 fw_X8_40 ex1 rfl ?_
  obtain ⟨h2, eh2, hF⟩ := am_bind hF
  obtain ⟨oh2, ph2⟩ := t_X4_empty eh2
  refine am_callV0 (Mc := M_X4_empty) (As := []) (st := []) (pc' := 7) dX8_startPlan_4 cw_X8_119 wd_2_17 wd_2_18 ⟨_, rfl, rfl⟩ (by decide) (by decide) rfl rfl (Nat.le_of_ble_eq_true rfl) ph2 (c_X4_empty eh2) rfl ?_
  refine am_aload_n (pc' := 8) dX8_startPlan_7 rfl rfl ?_
  refine am_iconst (v := (0 : Int32)) (pc' := 9) dX8_startPlan_8 rfl rfl ?_
  obtain ⟨h3, eh3, hF⟩ := am_bind hF
  refine am_puti (pc' := 12) dX8_startPlan_9 fx_X8_43 eh3 rfl ?_
  cases hF
  exact am_vret dX8_startPlan_12 rfl
def F_X8_startPlan (v0 : Nat) (h : am_H) : Option am_H := (am_obj v0 8 h).bind fun _ => F_X8_startPlan_b v0 h
theorem t_X8_startPlan {hf : am_H}  {v0 : Nat} {h : am_H} (hF : F_X8_startPlan v0 h = some hf) : ∃ fs, am_obj v0 8 h = some fs := by
  obtain ⟨fs, e, _⟩ := am_bind hF
  exact ⟨fs, e⟩
theorem c_X8_startPlan {g : am_G} {l : Launch} {hf : am_H}  {v0 : Nat} {h : am_H} (hF : F_X8_startPlan v0 h = some hf) : am_Met g l M_X8_startPlan [.ref v0] h none hf := by
  obtain ⟨fs, e0, e⟩ := am_bind hF
  exact am_met (n := 0) (by decide +kernel) rfl (Nat.le_of_ble_eq_true rfl) (w_X8_startPlan v0 h e)
def F_J9_min_7cf53_10 (s0 : Int32) (h : am_H) : Option Int32 :=
  some s0
theorem w_J9_min_7cf53_10 {g : am_G} {l : Launch} {h0 : am_H} {x : Int32}  (s0 : Int32) (h : am_H) (hF : F_J9_min_7cf53_10 s0 h = some x) : am_W g l M_J9_min_7cf53 h0 (some (.int x)) h 10 [none, none] [.int s0] h := by
  unfold F_J9_min_7cf53_10 at hF
  cases hF
  exact am_iret dJ9_min_7cf53_10 rfl rfl
def F_J9_min_7cf53_b (v0 : Int32) (v1 : Int32) (h : am_H) : Option Int32 :=
  if v1 < v0 then
    F_J9_min_7cf53_10 v1 h
  else
    F_J9_min_7cf53_10 v0 h
theorem w_J9_min_7cf53 {g : am_G} {l : Launch} {h0 : am_H} {x : Int32}  (v0 : Int32) (v1 : Int32) (h : am_H) (hF : F_J9_min_7cf53_b v0 v1 h = some x) : am_W g l M_J9_min_7cf53 h0 (some (.int x)) h 0 [some (.int v0), some (.int v1)] [] h := by
  unfold F_J9_min_7cf53_b at hF
  refine am_iload_n (pc' := 1) dJ9_min_7cf53_0 rfl rfl ?_
  refine am_iload_n (pc' := 2) dJ9_min_7cf53_1 rfl rfl ?_
  rcases am_ite hF with ⟨z1, hF⟩ | ⟨z1, hF⟩
  · refine am_icmp_gt_t (pc' := 9) dJ9_min_7cf53_2 rfl z1 ?_
    refine am_iload_n (pc' := 10) dJ9_min_7cf53_9 rfl rfl ?_
    exact am_weak [false, false] (w_J9_min_7cf53_10 v1 h hF)
  · refine am_icmp_gt_f (pc' := 5) (tgt := 9) dJ9_min_7cf53_2 rfl z1 rfl ?_
    refine am_iload_n (pc' := 6) dJ9_min_7cf53_5 rfl rfl ?_
    refine am_goto (pc' := 10) dJ9_min_7cf53_6 rfl ?_
    exact am_weak [false, false] (w_J9_min_7cf53_10 v0 h hF)
def F_J9_min_7cf53 (v0 : Int32) (v1 : Int32) (h : am_H) : Option Int32 := F_J9_min_7cf53_b v0 v1 h
theorem c_J9_min_7cf53 {g : am_G} {l : Launch} {x : Int32}  {v0 : Int32} {v1 : Int32} {h : am_H} (hF : F_J9_min_7cf53 v0 v1 h = some x) : am_Met g l M_J9_min_7cf53 [.int v0, .int v1] h (some (.int x)) h := by
  exact am_met (n := 0) (by decide +kernel) rfl (Nat.le_of_ble_eq_true rfl) (w_J9_min_7cf53 v0 v1 h hF)
theorem fw_X8_23 : am_fw "SignCellar" 23 8 2 := ⟨(RX8, TX8, 16), rfl, by decide, inX8, Or.inl wd_1_182⟩
def F_X8_blockOf_31 (s0 : Nat) (h : am_H) : Option Nat :=
  some s0
theorem w_X8_blockOf_31 {g : am_G} {l : Launch} {h0 : am_H} {x : Nat}  (s0 : Nat) (h : am_H) (hF : F_X8_blockOf_31 s0 h = some x) : am_W g l M_X8_blockOf h0 (some (.ref x)) h 31 [none, none] [.ref s0] h := by
  unfold F_X8_blockOf_31 at hF
  cases hF
  exact am_aret dX8_blockOf_31 rfl
def F_X8_blockOf_30 (h : am_H) : Option Nat :=
  F_X8_blockOf_31 0 h
theorem w_X8_blockOf_30 {g : am_G} {l : Launch} {h0 : am_H} {x : Nat}  (h : am_H) (hF : F_X8_blockOf_30 h = some x) : am_W g l M_X8_blockOf h0 (some (.ref x)) h 30 [none, none] [] h := by
  unfold F_X8_blockOf_30 at hF
  refine am_null (pc' := 31) dX8_blockOf_30 rfl ?_
  exact w_X8_blockOf_31 0 h hF
def F_X8_blockOf_b (v0 : Nat) (v1 : Int32) (h : am_H) : Option Nat :=
  if v1 < 0 then
    F_X8_blockOf_30 h
  else
    (am_gi 8 3 v0 h).bind fun x2 =>
    if x2 ≤ v1 then
      F_X8_blockOf_30 h
    else
      (am_gr 8 2 v0 h).bind fun x4 =>
      (am_ln x4 h).bind fun x5 =>
      if x5 ≤ v1 then
        F_X8_blockOf_30 h
      else
        (am_gr 8 2 v0 h).bind fun x7 =>
        (am_al 2 x7 v1 h).bind fun x8 =>
        F_X8_blockOf_31 x8 h
theorem w_X8_blockOf {g : am_G} {l : Launch} {h0 : am_H} {x : Nat}  (v0 : Nat) (v1 : Int32) (h : am_H) (hF : F_X8_blockOf_b v0 v1 h = some x) : am_W g l M_X8_blockOf h0 (some (.ref x)) h 0 [some (.ref v0), some (.int v1)] [] h := by
  unfold F_X8_blockOf_b at hF
  refine am_iload_n (pc' := 1) dX8_blockOf_0 rfl rfl ?_
  rcases am_ite hF with ⟨z1, hF⟩ | ⟨z1, hF⟩
  · refine am_if_lt_t (pc' := 30) dX8_blockOf_1 rfl z1 ?_
    exact am_weak [false, false] (w_X8_blockOf_30 h hF)
  · refine am_if_lt_f (pc' := 4) (tgt := 30) dX8_blockOf_1 rfl z1 rfl ?_
    refine am_iload_n (pc' := 5) dX8_blockOf_4 rfl rfl ?_
    refine am_aload_n (pc' := 6) dX8_blockOf_5 rfl rfl ?_
    obtain ⟨x2, ex2, hF⟩ := am_bind hF
    refine am_geti (pc' := 9) dX8_blockOf_6 fw_X8_27 ex2 rfl ?_
    rcases am_ite hF with ⟨z3, hF⟩ | ⟨z3, hF⟩
    · refine am_icmp_ge_t (pc' := 30) dX8_blockOf_9 rfl z3 ?_
      exact am_weak [false, false] (w_X8_blockOf_30 h hF)
    · refine am_icmp_ge_f (pc' := 12) (tgt := 30) dX8_blockOf_9 rfl z3 rfl ?_
      refine am_iload_n (pc' := 13) dX8_blockOf_12 rfl rfl ?_
      refine am_aload_n (pc' := 14) dX8_blockOf_13 rfl rfl ?_
      obtain ⟨x4, ex4, hF⟩ := am_bind hF
      refine am_getr (pc' := 17) dX8_blockOf_14 fw_X8_23 ex4 rfl ?_
      obtain ⟨x5, ex5, hF⟩ := am_bind hF
      refine am_alen (pc' := 18) dX8_blockOf_17 ex5 rfl ?_
      rcases am_ite hF with ⟨z6, hF⟩ | ⟨z6, hF⟩
      · refine am_icmp_ge_t (pc' := 30) dX8_blockOf_18 rfl z6 ?_
        exact am_weak [false, false] (w_X8_blockOf_30 h hF)
      · refine am_icmp_ge_f (pc' := 21) (tgt := 30) dX8_blockOf_18 rfl z6 rfl ?_
        refine am_aload_n (pc' := 22) dX8_blockOf_21 rfl rfl ?_
        obtain ⟨x7, ex7, hF⟩ := am_bind hF
        refine am_getr (pc' := 25) dX8_blockOf_22 fw_X8_23 ex7 rfl ?_
        refine am_iload_n (pc' := 26) dX8_blockOf_25 rfl rfl ?_
        obtain ⟨x8, ex8, hF⟩ := am_bind hF
        refine am_aald (pc' := 27) dX8_blockOf_26 rfl ex8 rfl ?_
        refine am_goto (pc' := 31) dX8_blockOf_27 rfl ?_
        exact am_weak [false, false] (w_X8_blockOf_31 x8 h hF)
def F_X8_blockOf (v0 : Nat) (v1 : Int32) (h : am_H) : Option Nat := (am_obj v0 8 h).bind fun _ => F_X8_blockOf_b v0 v1 h
theorem t_X8_blockOf {x : Nat}  {v0 : Nat} {v1 : Int32} {h : am_H} (hF : F_X8_blockOf v0 v1 h = some x) : ∃ fs, am_obj v0 8 h = some fs := by
  obtain ⟨fs, e, _⟩ := am_bind hF
  exact ⟨fs, e⟩
theorem c_X8_blockOf {g : am_G} {l : Launch} {x : Nat}  {v0 : Nat} {v1 : Int32} {h : am_H} (hF : F_X8_blockOf v0 v1 h = some x) : am_Met g l M_X8_blockOf [.ref v0, .int v1] h (some (.ref x)) h := by
  obtain ⟨fs, e0, e⟩ := am_bind hF
  exact am_met (n := 0) (by decide +kernel) rfl (Nat.le_of_ble_eq_true rfl) (w_X8_blockOf v0 v1 h e)
def F_X4_at_31 (s0 : Int32) (h : am_H) : Option Int32 :=
  some s0
theorem w_X4_at_31 {g : am_G} {l : Launch} {h0 : am_H} {x : Int32}  (s0 : Int32) (h : am_H) (hF : F_X4_at_31 s0 h = some x) : am_W g l M_X4_at h0 (some (.int x)) h 31 [none, none] [.int s0] h := by
  unfold F_X4_at_31 at hF
  cases hF
  exact am_iret dX4_at_31 rfl rfl
def F_X4_at_30 (h : am_H) : Option Int32 :=
  F_X4_at_31 (-1 : Int32) h
theorem w_X4_at_30 {g : am_G} {l : Launch} {h0 : am_H} {x : Int32}  (h : am_H) (hF : F_X4_at_30 h = some x) : am_W g l M_X4_at h0 (some (.int x)) h 30 [none, none] [] h := by
  unfold F_X4_at_30 at hF
  refine am_iconst (v := (-1 : Int32)) (pc' := 31) dX4_at_30 rfl rfl ?_
  exact w_X4_at_31 (-1 : Int32) h hF
def F_X4_at_b (v0 : Nat) (v1 : Int32) (h : am_H) : Option Int32 :=
  if v1 < 0 then
    F_X4_at_30 h
  else
    (am_gi 4 1 v0 h).bind fun x2 =>
    if x2 ≤ v1 then
      F_X4_at_30 h
    else
      (am_gr 4 0 v0 h).bind fun x4 =>
      (am_ln x4 h).bind fun x5 =>
      if x5 ≤ v1 then
        F_X4_at_30 h
      else
        (am_gr 4 0 v0 h).bind fun x7 =>
        (am_il 0 x7 v1 h).bind fun x8 =>
        F_X4_at_31 x8 h
theorem w_X4_at {g : am_G} {l : Launch} {h0 : am_H} {x : Int32}  (v0 : Nat) (v1 : Int32) (h : am_H) (hF : F_X4_at_b v0 v1 h = some x) : am_W g l M_X4_at h0 (some (.int x)) h 0 [some (.ref v0), some (.int v1)] [] h := by
  unfold F_X4_at_b at hF
  refine am_iload_n (pc' := 1) dX4_at_0 rfl rfl ?_
  rcases am_ite hF with ⟨z1, hF⟩ | ⟨z1, hF⟩
  · refine am_if_lt_t (pc' := 30) dX4_at_1 rfl z1 ?_
    exact am_weak [false, false] (w_X4_at_30 h hF)
  · refine am_if_lt_f (pc' := 4) (tgt := 30) dX4_at_1 rfl z1 rfl ?_
    refine am_iload_n (pc' := 5) dX4_at_4 rfl rfl ?_
    refine am_aload_n (pc' := 6) dX4_at_5 rfl rfl ?_
    obtain ⟨x2, ex2, hF⟩ := am_bind hF
    refine am_geti (pc' := 9) dX4_at_6 fw_X4_9 ex2 rfl ?_
    rcases am_ite hF with ⟨z3, hF⟩ | ⟨z3, hF⟩
    · refine am_icmp_ge_t (pc' := 30) dX4_at_9 rfl z3 ?_
      exact am_weak [false, false] (w_X4_at_30 h hF)
    · refine am_icmp_ge_f (pc' := 12) (tgt := 30) dX4_at_9 rfl z3 rfl ?_
      refine am_iload_n (pc' := 13) dX4_at_12 rfl rfl ?_
      refine am_aload_n (pc' := 14) dX4_at_13 rfl rfl ?_
      obtain ⟨x4, ex4, hF⟩ := am_bind hF
      refine am_getr (pc' := 17) dX4_at_14 fw_X4_21 ex4 rfl ?_
      obtain ⟨x5, ex5, hF⟩ := am_bind hF
      refine am_alen (pc' := 18) dX4_at_17 ex5 rfl ?_
      rcases am_ite hF with ⟨z6, hF⟩ | ⟨z6, hF⟩
      · refine am_icmp_ge_t (pc' := 30) dX4_at_18 rfl z6 ?_
        exact am_weak [false, false] (w_X4_at_30 h hF)
      · refine am_icmp_ge_f (pc' := 21) (tgt := 30) dX4_at_18 rfl z6 rfl ?_
        refine am_aload_n (pc' := 22) dX4_at_21 rfl rfl ?_
        obtain ⟨x7, ex7, hF⟩ := am_bind hF
        refine am_getr (pc' := 25) dX4_at_22 fw_X4_21 ex7 rfl ?_
        refine am_iload_n (pc' := 26) dX4_at_25 rfl rfl ?_
        obtain ⟨x8, ex8, hF⟩ := am_bind hF
        refine am_iald (pc' := 27) dX4_at_26 ex8 rfl ?_
        refine am_goto (pc' := 31) dX4_at_27 rfl ?_
        exact am_weak [false, false] (w_X4_at_31 x8 h hF)
def F_X4_at (v0 : Nat) (v1 : Int32) (h : am_H) : Option Int32 := (am_obj v0 4 h).bind fun _ => F_X4_at_b v0 v1 h
theorem t_X4_at {x : Int32}  {v0 : Nat} {v1 : Int32} {h : am_H} (hF : F_X4_at v0 v1 h = some x) : ∃ fs, am_obj v0 4 h = some fs := by
  obtain ⟨fs, e, _⟩ := am_bind hF
  exact ⟨fs, e⟩
theorem c_X4_at {g : am_G} {l : Launch} {x : Int32}  {v0 : Nat} {v1 : Int32} {h : am_H} (hF : F_X4_at v0 v1 h = some x) : am_Met g l M_X4_at [.ref v0, .int v1] h (some (.int x)) h := by
  obtain ⟨fs, e0, e⟩ := am_bind hF
  exact am_met (n := 0) (by decide +kernel) rfl (Nat.le_of_ble_eq_true rfl) (w_X4_at v0 v1 h e)
theorem cw_X4_25 : am_cw "SignCellar$Row" 25 M_X4_at 1 := ⟨wd_1_2, wd_2_42, ⟨by decide, by decide, by decide⟩, Or.inl wd_2_39⟩
def F_X4_isPart_15 : Nat → Nat → Nat → Int32 → Int32 → am_H → Option Int32
  | 0, _, _, _, _, _ => none
  | n + 1, v0, v1, v2, v4, h =>
  (am_gi 4 1 v0 h).bind fun x1 =>
  if x1 ≤ v4 then
    some (1 : Int32)
  else
    (F_X4_at v0 v4 h).bind fun x3 =>
    (F_X4_at v1 (v2 + v4) h).bind fun x4 =>
    if x3 = x4 then
      F_X4_isPart_15 n v0 v1 v2 (v4 + (1 : Int32)) h
    else
      some (0 : Int32)
theorem w_X4_isPart_15 {g : am_G} {l : Launch} {h0 : am_H} {x : Int32}  : ∀ (n : Nat) (v0 : Nat) (v1 : Nat) (v2 : Int32) (v4 : Int32) (h : am_H), F_X4_isPart_15 n v0 v1 v2 v4 h = some x → am_W g l M_X4_isPart h0 (some (.int x)) h 15 [some (.ref v0), some (.ref v1), some (.int v2), none, some (.int v4)] [] h
  | 0, _, _, _, _, _, hF => by cases hF
  | n + 1, v0, v1, v2, v4, h, hF => by
    rw [F_X4_isPart_15] at hF
    refine am_iload (pc' := 17) dX4_isPart_15 rfl rfl ?_
    refine am_aload_n (pc' := 18) dX4_isPart_17 rfl rfl ?_
    obtain ⟨x1, ex1, hF⟩ := am_bind hF
    refine am_geti (pc' := 21) dX4_isPart_18 fw_X4_9 ex1 rfl ?_
    rcases am_ite hF with ⟨z2, hF⟩ | ⟨z2, hF⟩
    · refine am_icmp_ge_t (pc' := 49) dX4_isPart_21 rfl z2 ?_
      refine am_iconst (v := (1 : Int32)) (pc' := 50) dX4_isPart_49 rfl rfl ?_
      cases hF
      exact am_iret dX4_isPart_50 rfl rfl
    · refine am_icmp_ge_f (pc' := 24) (tgt := 49) dX4_isPart_21 rfl z2 rfl ?_
      refine am_aload_n (pc' := 25) dX4_isPart_24 rfl rfl ?_
      refine am_iload (pc' := 27) dX4_isPart_25 rfl rfl ?_
      obtain ⟨x3, ex3, hF⟩ := am_bind hF
      obtain ⟨ox3, px3⟩ := t_X4_at ex3
      refine am_callV1 (Mc := M_X4_at) (As := [.int v4]) (st := []) (pc' := 30) dX4_isPart_27 cw_X4_25 wd_2_40 wd_2_41 ⟨_, rfl, rfl⟩ (by decide) (by decide) rfl rfl (Nat.le_of_ble_eq_true rfl) px3 (c_X4_at ex3) rfl ?_
      refine am_aload_n (pc' := 31) dX4_isPart_30 rfl rfl ?_
      refine am_iload_n (pc' := 32) dX4_isPart_31 rfl rfl ?_
      refine am_iload (pc' := 34) dX4_isPart_32 rfl rfl ?_
      refine am_iadd (pc' := 35) dX4_isPart_34 rfl ?_
      obtain ⟨x4, ex4, hF⟩ := am_bind hF
      obtain ⟨ox4, px4⟩ := t_X4_at ex4
      refine am_callV1 (Mc := M_X4_at) (As := [.int (v2 + v4)]) (st := [.int x3]) (pc' := 38) dX4_isPart_35 cw_X4_25 wd_2_40 wd_2_41 ⟨_, rfl, rfl⟩ (by decide) (by decide) rfl rfl (Nat.le_of_ble_eq_true rfl) px4 (c_X4_at ex4) rfl ?_
      rcases am_ite hF with ⟨z5, hF⟩ | ⟨z5, hF⟩
      · refine am_icmp_eq_t (pc' := 43) dX4_isPart_38 rfl z5 ?_
        refine am_iinc (ls' := [some (.ref v0), some (.ref v1), some (.int v2), none, some (.int (v4 + (1 : Int32)))]) (pc' := 46) (v := (v4 + (1 : Int32))) dX4_isPart_43 rfl rfl (Nat.le_of_ble_eq_true rfl) rfl rfl ?_
        refine am_goto (pc' := 15) dX4_isPart_46 rfl ?_
        exact w_X4_isPart_15 n v0 v1 v2 (v4 + (1 : Int32)) h hF
      · refine am_icmp_eq_f (pc' := 41) (tgt := 43) dX4_isPart_38 rfl z5 rfl ?_
        refine am_iconst (v := (0 : Int32)) (pc' := 42) dX4_isPart_41 rfl rfl ?_
        cases hF
        exact am_iret dX4_isPart_42 rfl rfl
def F_X4_isPart_b (v0 : Nat) (v1 : Nat) (v2 : Int32) (v3 : Int32) (h : am_H) : Option Int32 :=
  (am_gi 4 1 v0 h).bind fun x1 =>
  if x1 = (v3 - v2) then
    F_X4_isPart_15 am_F v0 v1 v2 (0 : Int32) h
  else
    some (0 : Int32)
theorem w_X4_isPart {g : am_G} {l : Launch} {h0 : am_H} {x : Int32}  (v0 : Nat) (v1 : Nat) (v2 : Int32) (v3 : Int32) (h : am_H) (hF : F_X4_isPart_b v0 v1 v2 v3 h = some x) : am_W g l M_X4_isPart h0 (some (.int x)) h 0 [some (.ref v0), some (.ref v1), some (.int v2), some (.int v3), none] [] h := by
  unfold F_X4_isPart_b at hF
  refine am_aload_n (pc' := 1) dX4_isPart_0 rfl rfl ?_
  obtain ⟨x1, ex1, hF⟩ := am_bind hF
  refine am_geti (pc' := 4) dX4_isPart_1 fw_X4_9 ex1 rfl ?_
  refine am_iload_n (pc' := 5) dX4_isPart_4 rfl rfl ?_
  refine am_iload_n (pc' := 6) dX4_isPart_5 rfl rfl ?_
  refine am_isub (pc' := 7) dX4_isPart_6 rfl ?_
  rcases am_ite hF with ⟨z2, hF⟩ | ⟨z2, hF⟩
  · refine am_icmp_eq_t (pc' := 12) dX4_isPart_7 rfl z2 ?_
    refine am_iconst (v := (0 : Int32)) (pc' := 13) dX4_isPart_12 rfl rfl ?_
    refine am_istore (ls' := [some (.ref v0), some (.ref v1), some (.int v2), some (.int v3), some (.int (0 : Int32))]) (pc' := 15) dX4_isPart_13 (Nat.le_of_ble_eq_true rfl) rfl rfl ?_
    exact am_weak [true, true, true, false, true] (w_X4_isPart_15 am_F v0 v1 v2 (0 : Int32) h hF)
  · refine am_icmp_eq_f (pc' := 10) (tgt := 12) dX4_isPart_7 rfl z2 rfl ?_
    refine am_iconst (v := (0 : Int32)) (pc' := 11) dX4_isPart_10 rfl rfl ?_
    cases hF
    exact am_iret dX4_isPart_11 rfl rfl
def F_X4_isPart (v0 : Nat) (v1 : Nat) (v2 : Int32) (v3 : Int32) (h : am_H) : Option Int32 := (am_obj v0 4 h).bind fun _ => F_X4_isPart_b v0 v1 v2 v3 h
theorem t_X4_isPart {x : Int32}  {v0 : Nat} {v1 : Nat} {v2 : Int32} {v3 : Int32} {h : am_H} (hF : F_X4_isPart v0 v1 v2 v3 h = some x) : ∃ fs, am_obj v0 4 h = some fs := by
  obtain ⟨fs, e, _⟩ := am_bind hF
  exact ⟨fs, e⟩
theorem c_X4_isPart {g : am_G} {l : Launch} {x : Int32}  {v0 : Nat} {v1 : Nat} {v2 : Int32} {v3 : Int32} {h : am_H} (hF : F_X4_isPart v0 v1 v2 v3 h = some x) : am_Met g l M_X4_isPart [.ref v0, .ref v1, .int v2, .int v3] h (some (.int x)) h := by
  obtain ⟨fs, e0, e⟩ := am_bind hF
  exact am_met (n := 1) (by decide +kernel) rfl (Nat.le_of_ble_eq_true rfl) (w_X4_isPart v0 v1 v2 v3 h e)
theorem cw_X8_176 : am_cw "SignCellar" 176 M_X8_blockOf 1 := ⟨wd_1_1, wd_2_34, ⟨by decide, by decide, by decide⟩, Or.inl wd_2_31⟩
theorem cw_X8_347 : am_cw "SignCellar" 347 M_X4_isPart 3 := ⟨wd_1_2, wd_2_38, ⟨by decide, by decide, by decide⟩, Or.inl wd_2_35⟩
theorem fw_X8_180 : am_fw "SignCellar" 180 0 0 := ⟨(RX0, TX0, 4), rfl, by decide, inX0, Or.inr ⟨_, wd_2_56⟩⟩
theorem fw_X8_182 : am_fw "SignCellar" 182 0 3 := ⟨(RX0, TX0, 4), rfl, by decide, inX0, Or.inr ⟨_, wd_2_64⟩⟩
theorem sl_X8_blockOf : Cond.selects (⟨"SignCellar", "blockOf", "(I)LSignCellar$Block;"⟩ : MethodName).cls ⟨"SignCellar", "blockOf", "(I)LSignCellar$Block;"⟩ ⟨"SignCellar", "blockOf", "(I)LSignCellar$Block;"⟩ ∈ am_ts := am_in_p (q := (⟨"SignCellar", "blockOf", "(I)LSignCellar$Block;"⟩, 16)) (by decide +kernel)
def F_X8_blockLike_50 (k3 : Nat → Nat → Int32 → Int32 → Int32 → am_H → Option Int32) (v0 : Nat) (v1 : Nat) (v2 : Int32) (v3 : Int32) (v4 : Int32) (h : am_H) : Option Int32 :=
  k3 v0 v1 v2 v3 (v4 + (1 : Int32)) h
theorem w_X8_blockLike_50 {g : am_G} {l : Launch} {h0 : am_H} {x : Int32}  {k3 : Nat → Nat → Int32 → Int32 → Int32 → am_H → Option Int32} (j3 : ∀ (v0 : Nat) (v1 : Nat) (v2 : Int32) (v3 : Int32) (v4 : Int32) (h : am_H), k3 v0 v1 v2 v3 v4 h = some x → am_W g l M_X8_blockLike h0 (some (.int x)) h 3 [some (.ref v0), some (.ref v1), some (.int v2), some (.int v3), some (.int v4), none] [] h) (v0 : Nat) (v1 : Nat) (v2 : Int32) (v3 : Int32) (v4 : Int32) (h : am_H) (hF : F_X8_blockLike_50 k3 v0 v1 v2 v3 v4 h = some x) : am_W g l M_X8_blockLike h0 (some (.int x)) h 50 [some (.ref v0), some (.ref v1), some (.int v2), some (.int v3), some (.int v4), none] [] h := by
  unfold F_X8_blockLike_50 at hF
  refine am_iinc (ls' := [some (.ref v0), some (.ref v1), some (.int v2), some (.int v3), some (.int (v4 + (1 : Int32))), none]) (pc' := 53) (v := (v4 + (1 : Int32))) dX8_blockLike_50 rfl rfl (Nat.le_of_ble_eq_true rfl) rfl rfl ?_
  refine am_goto (pc' := 3) dX8_blockLike_53 rfl ?_
  exact j3 v0 v1 v2 v3 (v4 + (1 : Int32)) h hF
def F_X8_blockLike_3 : Nat → Nat → Nat → Int32 → Int32 → Int32 → am_H → Option Int32
  | 0, _, _, _, _, _, _ => none
  | n + 1, v0, v1, v2, v3, v4, h =>
  (am_gi 8 3 v0 h).bind fun x1 =>
  if x1 ≤ v4 then
    some (-1 : Int32)
  else
    (F_X8_blockOf v0 v4 h).bind fun x3 =>
    if x3 = 0 then
      F_X8_blockLike_50 (F_X8_blockLike_3 n) v0 v1 v2 v3 v4 h
    else
      (am_gi 0 3 x3 h).bind fun x5 =>
      if x5 = 0 then
        (am_gr 0 0 x3 h).bind fun x7 =>
        (F_X4_isPart x7 v1 v2 v3 h).bind fun x8 =>
        if x8 = 0 then
          F_X8_blockLike_50 (F_X8_blockLike_3 n) v0 v1 v2 v3 v4 h
        else
          some v4
      else
        F_X8_blockLike_50 (F_X8_blockLike_3 n) v0 v1 v2 v3 v4 h
theorem w_X8_blockLike_3 {g : am_G} {l : Launch} {h0 : am_H} {x : Int32}  : ∀ (n : Nat) (v0 : Nat) (v1 : Nat) (v2 : Int32) (v3 : Int32) (v4 : Int32) (h : am_H), F_X8_blockLike_3 n v0 v1 v2 v3 v4 h = some x → am_W g l M_X8_blockLike h0 (some (.int x)) h 3 [some (.ref v0), some (.ref v1), some (.int v2), some (.int v3), some (.int v4), none] [] h
  | 0, _, _, _, _, _, _, hF => by cases hF
  | n + 1, v0, v1, v2, v3, v4, h, hF => by
    rw [F_X8_blockLike_3] at hF
    refine am_iload (pc' := 5) dX8_blockLike_3 rfl rfl ?_
    refine am_aload_n (pc' := 6) dX8_blockLike_5 rfl rfl ?_
    obtain ⟨x1, ex1, hF⟩ := am_bind hF
    refine am_geti (pc' := 9) dX8_blockLike_6 fw_X8_27 ex1 rfl ?_
    rcases am_ite hF with ⟨z2, hF⟩ | ⟨z2, hF⟩
    · refine am_icmp_ge_t (pc' := 56) dX8_blockLike_9 rfl z2 ?_
      refine am_iconst (v := (-1 : Int32)) (pc' := 57) dX8_blockLike_56 rfl rfl ?_
      cases hF
      exact am_iret dX8_blockLike_57 rfl rfl
    · refine am_icmp_ge_f (pc' := 12) (tgt := 56) dX8_blockLike_9 rfl z2 rfl ?_
      refine am_aload_n (pc' := 13) dX8_blockLike_12 rfl rfl ?_
      refine am_iload (pc' := 15) dX8_blockLike_13 rfl rfl ?_
      obtain ⟨x3, ex3, hF⟩ := am_bind hF
      obtain ⟨ox3, px3⟩ := t_X8_blockOf ex3
      refine am_callV1 (Mc := M_X8_blockOf) (As := [.int v4]) (st := []) (pc' := 18) dX8_blockLike_15 cw_X8_176 wd_2_33 sl_X8_blockOf ⟨_, rfl, rfl⟩ (by decide) (by decide) rfl rfl (Nat.le_of_ble_eq_true rfl) px3 (c_X8_blockOf ex3) rfl ?_
      refine am_astore (ls' := [some (.ref v0), some (.ref v1), some (.int v2), some (.int v3), some (.int v4), some (.ref x3)]) (pc' := 20) dX8_blockLike_18 (Nat.le_of_ble_eq_true rfl) rfl rfl ?_
      refine am_aload (pc' := 22) dX8_blockLike_20 rfl rfl ?_
      rcases am_ite hF with ⟨z4, hF⟩ | ⟨z4, hF⟩
      · refine am_ifnull_t (pc' := 50) dX8_blockLike_22 rfl z4 ?_
        exact am_weak [true, true, true, true, true, false] (w_X8_blockLike_50 (w_X8_blockLike_3 n) v0 v1 v2 v3 v4 h hF)
      · refine am_ifnull_f (pc' := 25) dX8_blockLike_22 z4 rfl ?_
        refine am_aload (pc' := 27) dX8_blockLike_25 rfl rfl ?_
        obtain ⟨x5, ex5, hF⟩ := am_bind hF
        refine am_geti (pc' := 30) dX8_blockLike_27 fw_X8_182 ex5 rfl ?_
        rcases am_ite hF with ⟨z6, hF⟩ | ⟨z6, hF⟩
        · refine am_if_ne_f (pc' := 33) (tgt := 50) dX8_blockLike_30 rfl z6 rfl ?_
          refine am_aload (pc' := 35) dX8_blockLike_33 rfl rfl ?_
          obtain ⟨x7, ex7, hF⟩ := am_bind hF
          refine am_getr (pc' := 38) dX8_blockLike_35 fw_X8_180 ex7 rfl ?_
          refine am_aload_n (pc' := 39) dX8_blockLike_38 rfl rfl ?_
          refine am_iload_n (pc' := 40) dX8_blockLike_39 rfl rfl ?_
          refine am_iload_n (pc' := 41) dX8_blockLike_40 rfl rfl ?_
          obtain ⟨x8, ex8, hF⟩ := am_bind hF
          obtain ⟨ox8, px8⟩ := t_X4_isPart ex8
          refine am_callV1 (Mc := M_X4_isPart) (As := [.ref v1, .int v2, .int v3]) (st := []) (pc' := 44) dX8_blockLike_41 cw_X8_347 wd_2_36 wd_2_37 ⟨_, rfl, rfl⟩ (by decide) (by decide) rfl rfl (Nat.le_of_ble_eq_true rfl) px8 (c_X4_isPart ex8) rfl ?_
          rcases am_ite hF with ⟨z9, hF⟩ | ⟨z9, hF⟩
          · refine am_if_eq_t (pc' := 50) dX8_blockLike_44 rfl z9 ?_
            exact am_weak [true, true, true, true, true, false] (w_X8_blockLike_50 (w_X8_blockLike_3 n) v0 v1 v2 v3 v4 h hF)
          · refine am_if_eq_f (pc' := 47) (tgt := 50) dX8_blockLike_44 rfl z9 rfl ?_
            refine am_iload (pc' := 49) dX8_blockLike_47 rfl rfl ?_
            cases hF
            exact am_iret dX8_blockLike_49 rfl rfl
        · refine am_if_ne_t (pc' := 50) dX8_blockLike_30 rfl z6 ?_
          exact am_weak [true, true, true, true, true, false] (w_X8_blockLike_50 (w_X8_blockLike_3 n) v0 v1 v2 v3 v4 h hF)
def F_X8_blockLike_b (v0 : Nat) (v1 : Nat) (v2 : Int32) (v3 : Int32) (h : am_H) : Option Int32 :=
  F_X8_blockLike_3 am_F v0 v1 v2 v3 (0 : Int32) h
theorem w_X8_blockLike {g : am_G} {l : Launch} {h0 : am_H} {x : Int32}  (v0 : Nat) (v1 : Nat) (v2 : Int32) (v3 : Int32) (h : am_H) (hF : F_X8_blockLike_b v0 v1 v2 v3 h = some x) : am_W g l M_X8_blockLike h0 (some (.int x)) h 0 [some (.ref v0), some (.ref v1), some (.int v2), some (.int v3), none, none] [] h := by
  unfold F_X8_blockLike_b at hF
  refine am_iconst (v := (0 : Int32)) (pc' := 1) dX8_blockLike_0 rfl rfl ?_
  refine am_istore (ls' := [some (.ref v0), some (.ref v1), some (.int v2), some (.int v3), some (.int (0 : Int32)), none]) (pc' := 3) dX8_blockLike_1 (Nat.le_of_ble_eq_true rfl) rfl rfl ?_
  exact w_X8_blockLike_3 am_F v0 v1 v2 v3 (0 : Int32) h hF
def F_X8_blockLike (v0 : Nat) (v1 : Nat) (v2 : Int32) (v3 : Int32) (h : am_H) : Option Int32 := (am_obj v0 8 h).bind fun _ => F_X8_blockLike_b v0 v1 v2 v3 h
theorem t_X8_blockLike {x : Int32}  {v0 : Nat} {v1 : Nat} {v2 : Int32} {v3 : Int32} {h : am_H} (hF : F_X8_blockLike v0 v1 v2 v3 h = some x) : ∃ fs, am_obj v0 8 h = some fs := by
  obtain ⟨fs, e, _⟩ := am_bind hF
  exact ⟨fs, e⟩
theorem c_X8_blockLike {g : am_G} {l : Launch} {x : Int32}  {v0 : Nat} {v1 : Nat} {v2 : Int32} {v3 : Int32} {h : am_H} (hF : F_X8_blockLike v0 v1 v2 v3 h = some x) : am_Met g l M_X8_blockLike [.ref v0, .ref v1, .int v2, .int v3] h (some (.int x)) h := by
  obtain ⟨fs, e0, e⟩ := am_bind hF
  exact am_met (n := 2) (by decide +kernel) rfl (Nat.le_of_ble_eq_true rfl) (w_X8_blockLike v0 v1 v2 v3 h e)
theorem cw_X4_29 : am_cw "SignCellar$Row" 29 M_X4_add 1 := ⟨wd_1_2, wd_2_2, ⟨by decide, by decide, by decide⟩, Or.inl wd_2_54⟩
def F_X4_addPart_38 (h : am_H) : Option am_H :=
  some h
theorem w_X4_addPart_38 {g : am_G} {l : Launch} {h0 : am_H} {hf : am_H}  (h : am_H) (hF : F_X4_addPart_38 h = some hf) : am_W g l M_X4_addPart h0 none hf 38 [none, none, none, none, none] [] h := by
  unfold F_X4_addPart_38 at hF
  cases hF
  exact am_vret dX4_addPart_38 rfl
def F_X4_addPart_7 : Nat → Nat → Nat → Int32 → Int32 → am_H → Option am_H
  | 0, _, _, _, _, _ => none
  | n + 1, v0, v1, v3, v4, h =>
  if v3 ≤ v4 then
    F_X4_addPart_38 h
  else
    (am_gi 4 1 v1 h).bind fun x2 =>
    if x2 ≤ v4 then
      F_X4_addPart_38 h
    else
      (F_X4_at v1 v4 h).bind fun x4 =>
      (F_X4_add v0 x4 h).bind fun h5 =>
      F_X4_addPart_7 n v0 v1 v3 (v4 + (1 : Int32)) h5
theorem w_X4_addPart_7 {g : am_G} {l : Launch} {h0 : am_H} {hf : am_H}  : ∀ (n : Nat) (v0 : Nat) (v1 : Nat) (v3 : Int32) (v4 : Int32) (h : am_H), F_X4_addPart_7 n v0 v1 v3 v4 h = some hf → am_W g l M_X4_addPart h0 none hf 7 [some (.ref v0), some (.ref v1), none, some (.int v3), some (.int v4)] [] h
  | 0, _, _, _, _, _, hF => by cases hF
  | n + 1, v0, v1, v3, v4, h, hF => by
    rw [F_X4_addPart_7] at hF
    refine am_iload (pc' := 9) dX4_addPart_7 rfl rfl ?_
    refine am_iload_n (pc' := 10) dX4_addPart_9 rfl rfl ?_
    rcases am_ite hF with ⟨z1, hF⟩ | ⟨z1, hF⟩
    · refine am_icmp_ge_t (pc' := 38) dX4_addPart_10 rfl z1 ?_
      exact am_weak [false, false, false, false, false] (w_X4_addPart_38 h hF)
    · refine am_icmp_ge_f (pc' := 13) (tgt := 38) dX4_addPart_10 rfl z1 rfl ?_
      refine am_iload (pc' := 15) dX4_addPart_13 rfl rfl ?_
      refine am_aload_n (pc' := 16) dX4_addPart_15 rfl rfl ?_
      obtain ⟨x2, ex2, hF⟩ := am_bind hF
      refine am_geti (pc' := 19) dX4_addPart_16 fw_X4_9 ex2 rfl ?_
      rcases am_ite hF with ⟨z3, hF⟩ | ⟨z3, hF⟩
      · refine am_icmp_ge_t (pc' := 38) dX4_addPart_19 rfl z3 ?_
        exact am_weak [false, false, false, false, false] (w_X4_addPart_38 h hF)
      · refine am_icmp_ge_f (pc' := 22) (tgt := 38) dX4_addPart_19 rfl z3 rfl ?_
        refine am_aload_n (pc' := 23) dX4_addPart_22 rfl rfl ?_
        refine am_aload_n (pc' := 24) dX4_addPart_23 rfl rfl ?_
        refine am_iload (pc' := 26) dX4_addPart_24 rfl rfl ?_
        obtain ⟨x4, ex4, hF⟩ := am_bind hF
        obtain ⟨ox4, px4⟩ := t_X4_at ex4
        refine am_callV1 (Mc := M_X4_at) (As := [.int v4]) (st := [.ref v0]) (pc' := 29) dX4_addPart_26 cw_X4_25 wd_2_40 wd_2_41 ⟨_, rfl, rfl⟩ (by decide) (by decide) rfl rfl (Nat.le_of_ble_eq_true rfl) px4 (c_X4_at ex4) rfl ?_
        obtain ⟨h5, eh5, hF⟩ := am_bind hF
        obtain ⟨oh5, ph5⟩ := t_X4_add eh5
        refine am_callV0 (Mc := M_X4_add) (As := [.int x4]) (st := []) (pc' := 32) dX4_addPart_29 cw_X4_29 wd_2_0 wd_2_1 ⟨_, rfl, rfl⟩ (by decide) (by decide) rfl rfl (Nat.le_of_ble_eq_true rfl) ph5 (c_X4_add eh5) rfl ?_
        refine am_iinc (ls' := [some (.ref v0), some (.ref v1), none, some (.int v3), some (.int (v4 + (1 : Int32)))]) (pc' := 35) (v := (v4 + (1 : Int32))) dX4_addPart_32 rfl rfl (Nat.le_of_ble_eq_true rfl) rfl rfl ?_
        refine am_goto (pc' := 7) dX4_addPart_35 rfl ?_
        exact w_X4_addPart_7 n v0 v1 v3 (v4 + (1 : Int32)) h5 hF
def F_X4_addPart_b (v0 : Nat) (v1 : Nat) (v2 : Int32) (v3 : Int32) (h : am_H) : Option am_H :=
  (F_J9_max_7cf53 (0 : Int32) v2 h).bind fun x1 =>
  F_X4_addPart_7 am_F v0 v1 v3 x1 h
theorem w_X4_addPart {g : am_G} {l : Launch} {h0 : am_H} {hf : am_H}  (v0 : Nat) (v1 : Nat) (v2 : Int32) (v3 : Int32) (h : am_H) (hF : F_X4_addPart_b v0 v1 v2 v3 h = some hf) : am_W g l M_X4_addPart h0 none hf 0 [some (.ref v0), some (.ref v1), some (.int v2), some (.int v3), none] [] h := by
  unfold F_X4_addPart_b at hF
  refine am_iconst (v := (0 : Int32)) (pc' := 1) dX4_addPart_0 rfl rfl ?_
  refine am_iload_n (pc' := 2) dX4_addPart_1 rfl rfl ?_
  obtain ⟨x1, ex1, hF⟩ := am_bind hF
  refine am_callS1 (Mc := M_J9_max_7cf53) (As := [.int (0 : Int32), .int v2]) (st := []) (pc' := 5) dX4_addPart_2 cw_X4_15 wd_1_28 (by decide) (by decide) rfl rfl (Nat.le_of_ble_eq_true rfl) (c_J9_max_7cf53 ex1) rfl ?_
  refine am_istore (ls' := [some (.ref v0), some (.ref v1), some (.int v2), some (.int v3), some (.int x1)]) (pc' := 7) dX4_addPart_5 (Nat.le_of_ble_eq_true rfl) rfl rfl ?_
  exact am_weak [true, true, false, true, true] (w_X4_addPart_7 am_F v0 v1 v3 x1 h hF)
def F_X4_addPart (v0 : Nat) (v1 : Nat) (v2 : Int32) (v3 : Int32) (h : am_H) : Option am_H := (am_obj v0 4 h).bind fun _ => F_X4_addPart_b v0 v1 v2 v3 h
theorem t_X4_addPart {hf : am_H}  {v0 : Nat} {v1 : Nat} {v2 : Int32} {v3 : Int32} {h : am_H} (hF : F_X4_addPart v0 v1 v2 v3 h = some hf) : ∃ fs, am_obj v0 4 h = some fs := by
  obtain ⟨fs, e, _⟩ := am_bind hF
  exact ⟨fs, e⟩
theorem c_X4_addPart {g : am_G} {l : Launch} {hf : am_H}  {v0 : Nat} {v1 : Nat} {v2 : Int32} {v3 : Int32} {h : am_H} (hF : F_X4_addPart v0 v1 v2 v3 h = some hf) : am_Met g l M_X4_addPart [.ref v0, .ref v1, .int v2, .int v3] h none hf := by
  obtain ⟨fs, e0, e⟩ := am_bind hF
  exact am_met (n := 1) (by decide +kernel) rfl (Nat.le_of_ble_eq_true rfl) (w_X4_addPart v0 v1 v2 v3 h e)
theorem cw_X0_11 : am_cw "SignCellar$Block" 11 M_X4_init 1 := ⟨wd_1_2, wd_1_25, ⟨by decide, by decide, by decide⟩, Or.inl wd_2_49⟩
theorem cw_X0_30 : am_cw "SignCellar$Block" 30 M_X4_addPart 3 := ⟨wd_1_2, wd_2_53, ⟨by decide, by decide, by decide⟩, Or.inl wd_2_50⟩
theorem fw_X0_27 : am_fw "SignCellar$Block" 27 0 0 := ⟨(RX0, TX0, 4), rfl, by decide, inX0, Or.inl wd_2_55⟩
theorem fx_X0_14i : am_fx "SignCellar$Block" 14 0 1 (.object "SignCellar$Row") "<init>" := ⟨(RX0, TX0, 4), tyX0, rfl, by decide, inX0, tyX0_ok, nmX0, rfl, Or.inl ⟨wd_2_57, Or.inr ⟨rfl, rfl, rfl⟩⟩⟩
theorem fx_X0_20i : am_fx "SignCellar$Block" 20 0 2 (.object "SignCellar$Row") "<init>" := ⟨(RX0, TX0, 4), tyX0, rfl, by decide, inX0, tyX0_ok, nmX0, rfl, Or.inl ⟨wd_2_60, Or.inr ⟨rfl, rfl, rfl⟩⟩⟩
theorem fx_X0_23i : am_fx "SignCellar$Block" 23 0 3 .boolean "<init>" := ⟨(RX0, TX0, 4), tyX0, rfl, by decide, inX0, tyX0_ok, nmX0, rfl, Or.inl ⟨wd_2_63, Or.inl rfl⟩⟩
theorem fx_X0_27i : am_fx "SignCellar$Block" 27 0 0 (.object "SignCellar$Row") "<init>" := ⟨(RX0, TX0, 4), tyX0, rfl, by decide, inX0, tyX0_ok, nmX0, rfl, Or.inl ⟨wd_2_55, Or.inr ⟨rfl, rfl, rfl⟩⟩⟩
theorem nx_X0_9 : am_nx "SignCellar$Block" 9 4 := ⟨(RX4, TX4, 2), rfl, inX4, tyX4_ok, by decide, wd_2_48, wd_1_22, wd_1_2⟩
def F_X0_init_b (v0 : Nat) (v1 : Nat) (v2 : Int32) (v3 : Int32) (h : am_H) : Option am_H :=
  (am_obj v0 0 h).bind fun x1 =>
  (am_nw 4 h).bind fun p2 =>
  (F_X4_init p2.1 (5 : Int32) p2.2).bind fun h3 =>
  (am_pr 0 1 v0 p2.1 h3).bind fun h4 =>
  (am_nw 4 h4).bind fun p5 =>
  (F_X4_init p5.1 (5 : Int32) p5.2).bind fun h6 =>
  (am_pr 0 2 v0 p5.1 h6).bind fun h7 =>
  (am_pz 0 3 v0 (0 : Int32) h7).bind fun h8 =>
  (am_nw 4 h8).bind fun p9 =>
  (F_X4_init p9.1 (v3 - v2) p9.2).bind fun h10 =>
  (am_pr 0 0 v0 p9.1 h10).bind fun h11 =>
  (am_gr 0 0 v0 h11).bind fun x12 =>
  (F_X4_addPart x12 v1 v2 v3 h11).bind fun h13 =>
  some h13
theorem w_X0_init {g : am_G} {l : Launch} {h0 : am_H} {hf : am_H}  (v0 : Nat) (v1 : Nat) (v2 : Int32) (v3 : Int32) (h : am_H) (hF : F_X0_init_b v0 v1 v2 v3 h = some hf) : am_W g l M_X0_init h0 none hf 0 [some (.ref v0), some (.ref v1), some (.int v2), some (.int v3)] [] h := by
  unfold F_X0_init_b at hF
  refine am_aload_n (pc' := 1) dX0_init_0 rfl rfl ?_
  obtain ⟨x1, ex1, hF⟩ := am_bind hF
  refine am_oinit (pc' := 4) dX0_init_1 wd_2_47 wd_1_19 wd_1_20 ex1 (by decide) (by decide) rfl ?_
  refine am_aload_n (pc' := 5) dX0_init_4 rfl rfl ?_
  obtain ⟨p2, ep2, hF⟩ := am_bind hF
  refine am_new (pc' := 8) dX0_init_5 nx_X0_9 ep2 rfl ?_
  refine am_dup (pc' := 9) dX0_init_8 rfl rfl ?_
  refine am_iconst (v := (5 : Int32)) (pc' := 10) dX0_init_9 rfl rfl ?_
  obtain ⟨h3, eh3, hF⟩ := am_bind hF
  obtain ⟨oh3, ph3⟩ := t_X4_init eh3
  refine am_callI0 (Mc := M_X4_init) (As := [.int (5 : Int32)]) (st := [.ref p2.1, .ref v0]) (pc' := 13) dX0_init_10 cw_X0_11 wd_1_24 rfl rfl (by decide) (by decide) rfl rfl (Nat.le_of_ble_eq_true rfl) ph3 (c_X4_init eh3) rfl ?_
  obtain ⟨h4, eh4, hF⟩ := am_bind hF
  refine am_putr (pc' := 16) dX0_init_13 fx_X0_14i eh4 rfl ?_
  refine am_aload_n (pc' := 17) dX0_init_16 rfl rfl ?_
  obtain ⟨p5, ep5, hF⟩ := am_bind hF
  refine am_new (pc' := 20) dX0_init_17 nx_X0_9 ep5 rfl ?_
  refine am_dup (pc' := 21) dX0_init_20 rfl rfl ?_
  refine am_iconst (v := (5 : Int32)) (pc' := 22) dX0_init_21 rfl rfl ?_
  obtain ⟨h6, eh6, hF⟩ := am_bind hF
  obtain ⟨oh6, ph6⟩ := t_X4_init eh6
  refine am_callI0 (Mc := M_X4_init) (As := [.int (5 : Int32)]) (st := [.ref p5.1, .ref v0]) (pc' := 25) dX0_init_22 cw_X0_11 wd_1_24 rfl rfl (by decide) (by decide) rfl rfl (Nat.le_of_ble_eq_true rfl) ph6 (c_X4_init eh6) rfl ?_
  obtain ⟨h7, eh7, hF⟩ := am_bind hF
  refine am_putr (pc' := 28) dX0_init_25 fx_X0_20i eh7 rfl ?_
  refine am_aload_n (pc' := 29) dX0_init_28 rfl rfl ?_
  refine am_iconst (v := (0 : Int32)) (pc' := 30) dX0_init_29 rfl rfl ?_
  obtain ⟨h8, eh8, hF⟩ := am_bind hF
  refine am_putz (pc' := 33) dX0_init_30 fx_X0_23i eh8 rfl ?_
  refine am_aload_n (pc' := 34) dX0_init_33 rfl rfl ?_
  obtain ⟨p9, ep9, hF⟩ := am_bind hF
  refine am_new (pc' := 37) dX0_init_34 nx_X0_9 ep9 rfl ?_
  refine am_dup (pc' := 38) dX0_init_37 rfl rfl ?_
  refine am_iload_n (pc' := 39) dX0_init_38 rfl rfl ?_
  refine am_iload_n (pc' := 40) dX0_init_39 rfl rfl ?_
  refine am_isub (pc' := 41) dX0_init_40 rfl ?_
  obtain ⟨h10, eh10, hF⟩ := am_bind hF
  obtain ⟨oh10, ph10⟩ := t_X4_init eh10
  refine am_callI0 (Mc := M_X4_init) (As := [.int (v3 - v2)]) (st := [.ref p9.1, .ref v0]) (pc' := 44) dX0_init_41 cw_X0_11 wd_1_24 rfl rfl (by decide) (by decide) rfl rfl (Nat.le_of_ble_eq_true rfl) ph10 (c_X4_init eh10) rfl ?_
  obtain ⟨h11, eh11, hF⟩ := am_bind hF
  refine am_putr (pc' := 47) dX0_init_44 fx_X0_27i eh11 rfl ?_
  refine am_aload_n (pc' := 48) dX0_init_47 rfl rfl ?_
  obtain ⟨x12, ex12, hF⟩ := am_bind hF
  refine am_getr (pc' := 51) dX0_init_48 fw_X0_27 ex12 rfl ?_
  refine am_aload_n (pc' := 52) dX0_init_51 rfl rfl ?_
  refine am_iload_n (pc' := 53) dX0_init_52 rfl rfl ?_
  refine am_iload_n (pc' := 54) dX0_init_53 rfl rfl ?_
  obtain ⟨h13, eh13, hF⟩ := am_bind hF
  obtain ⟨oh13, ph13⟩ := t_X4_addPart eh13
  refine am_callV0 (Mc := M_X4_addPart) (As := [.ref v1, .int v2, .int v3]) (st := []) (pc' := 57) dX0_init_54 cw_X0_30 wd_2_51 wd_2_52 ⟨_, rfl, rfl⟩ (by decide) (by decide) rfl rfl (Nat.le_of_ble_eq_true rfl) ph13 (c_X4_addPart eh13) rfl ?_
  cases hF
  exact am_vret dX0_init_57 rfl
def F_X0_init (v0 : Nat) (v1 : Nat) (v2 : Int32) (v3 : Int32) (h : am_H) : Option am_H := (am_obj v0 0 h).bind fun _ => F_X0_init_b v0 v1 v2 v3 h
theorem t_X0_init {hf : am_H}  {v0 : Nat} {v1 : Nat} {v2 : Int32} {v3 : Int32} {h : am_H} (hF : F_X0_init v0 v1 v2 v3 h = some hf) : ∃ fs, am_obj v0 0 h = some fs := by
  obtain ⟨fs, e, _⟩ := am_bind hF
  exact ⟨fs, e⟩
theorem c_X0_init {g : am_G} {l : Launch} {hf : am_H}  {v0 : Nat} {v1 : Nat} {v2 : Int32} {v3 : Int32} {h : am_H} (hF : F_X0_init v0 v1 v2 v3 h = some hf) : am_Met g l M_X0_init [.ref v0, .ref v1, .int v2, .int v3] h none hf := by
  obtain ⟨fs, e0, e⟩ := am_bind hF
  exact am_met (n := 0) (by decide +kernel) rfl (Nat.le_of_ble_eq_true rfl) (w_X0_init v0 v1 v2 v3 h e)
theorem cw_X8_341 : am_cw "SignCellar" 341 M_X8_blockLike 3 := ⟨wd_1_1, wd_2_30, ⟨by decide, by decide, by decide⟩, Or.inl wd_2_27⟩
theorem cw_X8_345 : am_cw "SignCellar" 345 M_X0_init 3 := ⟨wd_1_10, wd_2_46, ⟨by decide, by decide, by decide⟩, Or.inl wd_2_44⟩
theorem fw_X8_43 : am_fw "SignCellar" 43 8 7 := ⟨(RX8, TX8, 16), rfl, by decide, inX8, Or.inl wd_1_187⟩
theorem fx_X8_27 {nm : String} : am_fx "SignCellar" 27 8 3 .int nm := ⟨(RX8, TX8, 16), tyX8, rfl, by decide, inX8, tyX8_ok, nmX8, rfl, Or.inl ⟨wd_1_183, Or.inl rfl⟩⟩
theorem nx_X8_21 : am_nx "SignCellar" 21 0 := ⟨(RX0, TX0, 4), rfl, inX0, tyX0_ok, by decide, wd_1_38, wd_2_43, wd_1_10⟩
theorem sl_X8_blockLike : Cond.selects (⟨"SignCellar", "blockLike", "(LSignCellar$Row;II)I"⟩ : MethodName).cls ⟨"SignCellar", "blockLike", "(LSignCellar$Row;II)I"⟩ ⟨"SignCellar", "blockLike", "(LSignCellar$Row;II)I"⟩ ∈ am_ts := am_in_p (q := (⟨"SignCellar", "blockLike", "(LSignCellar$Row;II)I"⟩, 16)) (by decide +kernel)
def F_X8_planBlock_78 (v0 : Nat) (v4 : Int32) (h : am_H) : Option am_H :=
  (am_gr 8 6 v0 h).bind fun x1 =>
  (F_X4_add x1 v4 h).bind fun h2 =>
  some h2
theorem w_X8_planBlock_78 {g : am_G} {l : Launch} {h0 : am_H} {hf : am_H}  (v0 : Nat) (v4 : Int32) (h : am_H) (hF : F_X8_planBlock_78 v0 v4 h = some hf) : am_W g l M_X8_planBlock h0 none hf 78 [some (.ref v0), none, none, none, some (.int v4)] [] h := by
  unfold F_X8_planBlock_78 at hF
  refine am_aload_n (pc' := 79) dX8_planBlock_78 rfl rfl ?_
  obtain ⟨x1, ex1, hF⟩ := am_bind hF
  refine am_getr (pc' := 82) dX8_planBlock_79 fw_X8_40 ex1 rfl ?_
  refine am_iload (pc' := 84) dX8_planBlock_82 rfl rfl ?_
  obtain ⟨h2, eh2, hF⟩ := am_bind hF
  obtain ⟨oh2, ph2⟩ := t_X4_add eh2
  refine am_callV0 (Mc := M_X4_add) (As := [.int v4]) (st := []) (pc' := 87) dX8_planBlock_84 cw_X8_98 wd_2_0 wd_2_1 ⟨_, rfl, rfl⟩ (by decide) (by decide) rfl rfl (Nat.le_of_ble_eq_true rfl) ph2 (c_X4_add eh2) rfl ?_
  cases hF
  exact am_vret dX8_planBlock_87 rfl
def F_X8_planBlock_b (v0 : Nat) (v1 : Nat) (v2 : Int32) (v3 : Int32) (h : am_H) : Option am_H :=
  if v2 < v3 then
    (F_X8_blockLike v0 v1 v2 v3 h).bind fun x2 =>
    if x2 = (-1 : Int32) then
      (am_gi 8 3 v0 h).bind fun x4 =>
      (am_gr 8 2 v0 h).bind fun x5 =>
      (am_ln x5 h).bind fun x6 =>
      if x6 ≤ x4 then
        F_X8_planBlock_78 v0 x2 h
      else
        (am_gi 8 3 v0 h).bind fun x8 =>
        (am_gr 8 2 v0 h).bind fun x9 =>
        (am_gi 8 3 v0 h).bind fun x10 =>
        (am_nw 0 h).bind fun p11 =>
        (F_X0_init p11.1 v1 v2 v3 p11.2).bind fun h12 =>
        (am_as 2 0 x9 x10 p11.1 h12).bind fun h13 =>
        (am_gi 8 3 v0 h13).bind fun x14 =>
        (am_pi 8 3 v0 (x14 + (1 : Int32)) h13).bind fun h15 =>
        (am_gi 8 7 v0 h15).bind fun x16 =>
        (am_pi 8 7 v0 (x16 + (1 : Int32)) h15).bind fun h17 =>
        F_X8_planBlock_78 v0 x8 h17
    else
      F_X8_planBlock_78 v0 x2 h
  else
    some h
theorem w_X8_planBlock {g : am_G} {l : Launch} {h0 : am_H} {hf : am_H}  (v0 : Nat) (v1 : Nat) (v2 : Int32) (v3 : Int32) (h : am_H) (hF : F_X8_planBlock_b v0 v1 v2 v3 h = some hf) : am_W g l M_X8_planBlock h0 none hf 0 [some (.ref v0), some (.ref v1), some (.int v2), some (.int v3), none] [] h := by
  unfold F_X8_planBlock_b at hF
  refine am_iload_n (pc' := 1) dX8_planBlock_0 rfl rfl ?_
  refine am_iload_n (pc' := 2) dX8_planBlock_1 rfl rfl ?_
  rcases am_ite hF with ⟨z1, hF⟩ | ⟨z1, hF⟩
  · refine am_icmp_lt_t (pc' := 6) dX8_planBlock_2 rfl z1 ?_
    refine am_aload_n (pc' := 7) dX8_planBlock_6 rfl rfl ?_
    refine am_aload_n (pc' := 8) dX8_planBlock_7 rfl rfl ?_
    refine am_iload_n (pc' := 9) dX8_planBlock_8 rfl rfl ?_
    refine am_iload_n (pc' := 10) dX8_planBlock_9 rfl rfl ?_
    obtain ⟨x2, ex2, hF⟩ := am_bind hF
    obtain ⟨ox2, px2⟩ := t_X8_blockLike ex2
    refine am_callV1 (Mc := M_X8_blockLike) (As := [.ref v1, .int v2, .int v3]) (st := []) (pc' := 13) dX8_planBlock_10 cw_X8_341 wd_2_29 sl_X8_blockLike ⟨_, rfl, rfl⟩ (by decide) (by decide) rfl rfl (Nat.le_of_ble_eq_true rfl) px2 (c_X8_blockLike ex2) rfl ?_
    refine am_istore (ls' := [some (.ref v0), some (.ref v1), some (.int v2), some (.int v3), some (.int x2)]) (pc' := 15) dX8_planBlock_13 (Nat.le_of_ble_eq_true rfl) rfl rfl ?_
    refine am_iload (pc' := 17) dX8_planBlock_15 rfl rfl ?_
    refine am_iconst (v := (-1 : Int32)) (pc' := 18) dX8_planBlock_17 rfl rfl ?_
    rcases am_ite hF with ⟨z3, hF⟩ | ⟨z3, hF⟩
    · refine am_icmp_ne_f (pc' := 21) (tgt := 78) dX8_planBlock_18 rfl z3 rfl ?_
      refine am_aload_n (pc' := 22) dX8_planBlock_21 rfl rfl ?_
      obtain ⟨x4, ex4, hF⟩ := am_bind hF
      refine am_geti (pc' := 25) dX8_planBlock_22 fw_X8_27 ex4 rfl ?_
      refine am_aload_n (pc' := 26) dX8_planBlock_25 rfl rfl ?_
      obtain ⟨x5, ex5, hF⟩ := am_bind hF
      refine am_getr (pc' := 29) dX8_planBlock_26 fw_X8_23 ex5 rfl ?_
      obtain ⟨x6, ex6, hF⟩ := am_bind hF
      refine am_alen (pc' := 30) dX8_planBlock_29 ex6 rfl ?_
      rcases am_ite hF with ⟨z7, hF⟩ | ⟨z7, hF⟩
      · refine am_icmp_ge_t (pc' := 78) dX8_planBlock_30 rfl z7 ?_
        exact am_weak [true, false, false, false, true] (w_X8_planBlock_78 v0 x2 h hF)
      · refine am_icmp_ge_f (pc' := 33) (tgt := 78) dX8_planBlock_30 rfl z7 rfl ?_
        refine am_aload_n (pc' := 34) dX8_planBlock_33 rfl rfl ?_
        obtain ⟨x8, ex8, hF⟩ := am_bind hF
        refine am_geti (pc' := 37) dX8_planBlock_34 fw_X8_27 ex8 rfl ?_
        refine am_istore (ls' := [some (.ref v0), some (.ref v1), some (.int v2), some (.int v3), some (.int x8)]) (pc' := 39) dX8_planBlock_37 (Nat.le_of_ble_eq_true rfl) rfl rfl ?_
        refine am_aload_n (pc' := 40) dX8_planBlock_39 rfl rfl ?_
        obtain ⟨x9, ex9, hF⟩ := am_bind hF
        refine am_getr (pc' := 43) dX8_planBlock_40 fw_X8_23 ex9 rfl ?_
        refine am_aload_n (pc' := 44) dX8_planBlock_43 rfl rfl ?_
        obtain ⟨x10, ex10, hF⟩ := am_bind hF
        refine am_geti (pc' := 47) dX8_planBlock_44 fw_X8_27 ex10 rfl ?_
        obtain ⟨p11, ep11, hF⟩ := am_bind hF
        refine am_new (pc' := 50) dX8_planBlock_47 nx_X8_21 ep11 rfl ?_
        refine am_dup (pc' := 51) dX8_planBlock_50 rfl rfl ?_
        refine am_aload_n (pc' := 52) dX8_planBlock_51 rfl rfl ?_
        refine am_iload_n (pc' := 53) dX8_planBlock_52 rfl rfl ?_
        refine am_iload_n (pc' := 54) dX8_planBlock_53 rfl rfl ?_
        obtain ⟨h12, eh12, hF⟩ := am_bind hF
        obtain ⟨oh12, ph12⟩ := t_X0_init eh12
        refine am_callI0 (Mc := M_X0_init) (As := [.ref v1, .int v2, .int v3]) (st := [.ref p11.1, .int x10, .ref x9]) (pc' := 57) dX8_planBlock_54 cw_X8_345 wd_2_45 rfl rfl (by decide) (by decide) rfl rfl (Nat.le_of_ble_eq_true rfl) ph12 (c_X0_init eh12) rfl ?_
        obtain ⟨h13, eh13, hF⟩ := am_bind hF
        refine am_aast (pc' := 58) dX8_planBlock_57 ⟨_, rfl, rfl⟩ eh13 rfl ?_
        refine am_aload_n (pc' := 59) dX8_planBlock_58 rfl rfl ?_
        refine am_dup (pc' := 60) dX8_planBlock_59 rfl rfl ?_
        obtain ⟨x14, ex14, hF⟩ := am_bind hF
        refine am_geti (pc' := 63) dX8_planBlock_60 fw_X8_27 ex14 rfl ?_
        refine am_iconst (v := (1 : Int32)) (pc' := 64) dX8_planBlock_63 rfl rfl ?_
        refine am_iadd (pc' := 65) dX8_planBlock_64 rfl ?_
        obtain ⟨h15, eh15, hF⟩ := am_bind hF
        refine am_puti (pc' := 68) dX8_planBlock_65 fx_X8_27 eh15 rfl ?_
        refine am_aload_n (pc' := 69) dX8_planBlock_68 rfl rfl ?_
        refine am_dup (pc' := 70) dX8_planBlock_69 rfl rfl ?_
        obtain ⟨x16, ex16, hF⟩ := am_bind hF
        refine am_geti (pc' := 73) dX8_planBlock_70 fw_X8_43 ex16 rfl ?_
        refine am_iconst (v := (1 : Int32)) (pc' := 74) dX8_planBlock_73 rfl rfl ?_
        refine am_iadd (pc' := 75) dX8_planBlock_74 rfl ?_
        obtain ⟨h17, eh17, hF⟩ := am_bind hF
        refine am_puti (pc' := 78) dX8_planBlock_75 fx_X8_43 eh17 rfl ?_
        exact am_weak [true, false, false, false, true] (w_X8_planBlock_78 v0 x8 h17 hF)
    · refine am_icmp_ne_t (pc' := 78) dX8_planBlock_18 rfl z3 ?_
      exact am_weak [true, false, false, false, true] (w_X8_planBlock_78 v0 x2 h hF)
  · refine am_icmp_lt_f (pc' := 5) (tgt := 6) dX8_planBlock_2 rfl z1 rfl ?_
    cases hF
    exact am_vret dX8_planBlock_5 rfl
def F_X8_planBlock (v0 : Nat) (v1 : Nat) (v2 : Int32) (v3 : Int32) (h : am_H) : Option am_H := (am_obj v0 8 h).bind fun _ => F_X8_planBlock_b v0 v1 v2 v3 h
theorem t_X8_planBlock {hf : am_H}  {v0 : Nat} {v1 : Nat} {v2 : Int32} {v3 : Int32} {h : am_H} (hF : F_X8_planBlock v0 v1 v2 v3 h = some hf) : ∃ fs, am_obj v0 8 h = some fs := by
  obtain ⟨fs, e, _⟩ := am_bind hF
  exact ⟨fs, e⟩
theorem c_X8_planBlock {g : am_G} {l : Launch} {hf : am_H}  {v0 : Nat} {v1 : Nat} {v2 : Int32} {v3 : Int32} {h : am_H} (hF : F_X8_planBlock v0 v1 v2 v3 h = some hf) : am_Met g l M_X8_planBlock [.ref v0, .ref v1, .int v2, .int v3] h none hf := by
  obtain ⟨fs, e0, e⟩ := am_bind hF
  exact am_met (n := 1) (by decide +kernel) rfl (Nat.le_of_ble_eq_true rfl) (w_X8_planBlock v0 v1 v2 v3 h e)
theorem cw_X7_17 : am_cw "SignCellar$Version" 17 M_X4_init 1 := ⟨wd_1_2, wd_1_25, ⟨by decide, by decide, by decide⟩, Or.inl wd_2_84⟩
theorem cw_X7_27 : am_cw "SignCellar$Version" 27 M_X4_length 0 := ⟨wd_1_2, wd_1_237, ⟨by decide, by decide, by decide⟩, Or.inl wd_2_85⟩
theorem cw_X7_34 : am_cw "SignCellar$Version" 34 M_X4_addPart 3 := ⟨wd_1_2, wd_2_53, ⟨by decide, by decide, by decide⟩, Or.inl wd_2_86⟩
theorem fw_X7_31 : am_fw "SignCellar$Version" 31 7 0 := ⟨(RX7, TX7, 6), rfl, by decide, inX7, Or.inl wd_2_87⟩
theorem fx_X7_20i : am_fx "SignCellar$Version" 20 7 4 (.object "SignCellar$Row") "<init>" := ⟨(RX7, TX7, 6), tyX7, rfl, by decide, inX7, tyX7_ok, nmX7, rfl, Or.inl ⟨wd_2_95, Or.inr ⟨rfl, rfl, rfl⟩⟩⟩
theorem fx_X7_24i : am_fx "SignCellar$Version" 24 7 5 (.object "SignCellar$Row") "<init>" := ⟨(RX7, TX7, 6), tyX7, rfl, by decide, inX7, tyX7_ok, nmX7, rfl, Or.inl ⟨wd_2_97, Or.inr ⟨rfl, rfl, rfl⟩⟩⟩
theorem fx_X7_31i : am_fx "SignCellar$Version" 31 7 0 (.object "SignCellar$Row") "<init>" := ⟨(RX7, TX7, 6), tyX7, rfl, by decide, inX7, tyX7_ok, nmX7, rfl, Or.inl ⟨wd_2_87, Or.inr ⟨rfl, rfl, rfl⟩⟩⟩
theorem fx_X7_38i : am_fx "SignCellar$Version" 38 7 1 .int "<init>" := ⟨(RX7, TX7, 6), tyX7, rfl, by decide, inX7, tyX7_ok, nmX7, rfl, Or.inl ⟨wd_2_89, Or.inr ⟨rfl, rfl, rfl⟩⟩⟩
theorem fx_X7_41i : am_fx "SignCellar$Version" 41 7 2 .int "<init>" := ⟨(RX7, TX7, 6), tyX7, rfl, by decide, inX7, tyX7_ok, nmX7, rfl, Or.inl ⟨wd_2_91, Or.inr ⟨rfl, rfl, rfl⟩⟩⟩
theorem fx_X7_9i : am_fx "SignCellar$Version" 9 7 3 .int "<init>" := ⟨(RX7, TX7, 6), tyX7, rfl, by decide, inX7, tyX7_ok, nmX7, rfl, Or.inl ⟨wd_2_93, Or.inl rfl⟩⟩
theorem nx_X7_15 : am_nx "SignCellar$Version" 15 4 := ⟨(RX4, TX4, 2), rfl, inX4, tyX4_ok, by decide, wd_2_83, wd_1_22, wd_1_2⟩
def F_X7_init_b (v0 : Nat) (v1 : Nat) (v2 : Int32) (v3 : Int32) (h : am_H) : Option am_H :=
  (am_obj v0 7 h).bind fun x1 =>
  (am_pi 7 3 v0 (0 : Int32) h).bind fun h2 =>
  (am_nw 4 h2).bind fun p3 =>
  (F_X4_init p3.1 (24 : Int32) p3.2).bind fun h4 =>
  (am_pr 7 4 v0 p3.1 h4).bind fun h5 =>
  (am_nw 4 h5).bind fun p6 =>
  (F_X4_init p6.1 (24 : Int32) p6.2).bind fun h7 =>
  (am_pr 7 5 v0 p6.1 h7).bind fun h8 =>
  (am_nw 4 h8).bind fun p9 =>
  (F_X4_length v1 p9.2).bind fun x10 =>
  (F_X4_init p9.1 x10 p9.2).bind fun h11 =>
  (am_pr 7 0 v0 p9.1 h11).bind fun h12 =>
  (am_gr 7 0 v0 h12).bind fun x13 =>
  (F_X4_length v1 h12).bind fun x14 =>
  (F_X4_addPart x13 v1 (0 : Int32) x14 h12).bind fun h15 =>
  (am_pi 7 1 v0 v2 h15).bind fun h16 =>
  (am_pi 7 2 v0 v3 h16).bind fun h17 =>
  some h17
theorem w_X7_init {g : am_G} {l : Launch} {h0 : am_H} {hf : am_H}  (v0 : Nat) (v1 : Nat) (v2 : Int32) (v3 : Int32) (h : am_H) (hF : F_X7_init_b v0 v1 v2 v3 h = some hf) : am_W g l M_X7_init h0 none hf 0 [some (.ref v0), some (.ref v1), some (.int v2), some (.int v3)] [] h := by
  unfold F_X7_init_b at hF
  refine am_aload_n (pc' := 1) dX7_init_0 rfl rfl ?_
  obtain ⟨x1, ex1, hF⟩ := am_bind hF
  refine am_oinit (pc' := 4) dX7_init_1 wd_2_82 wd_1_19 wd_1_20 ex1 (by decide) (by decide) rfl ?_
  refine am_aload_n (pc' := 5) dX7_init_4 rfl rfl ?_
  refine am_iconst (v := (0 : Int32)) (pc' := 6) dX7_init_5 rfl rfl ?_
  obtain ⟨h2, eh2, hF⟩ := am_bind hF
  refine am_puti (pc' := 9) dX7_init_6 fx_X7_9i eh2 rfl ?_
  refine am_aload_n (pc' := 10) dX7_init_9 rfl rfl ?_
  obtain ⟨p3, ep3, hF⟩ := am_bind hF
  refine am_new (pc' := 13) dX7_init_10 nx_X7_15 ep3 rfl ?_
  refine am_dup (pc' := 14) dX7_init_13 rfl rfl ?_
  refine am_bipush (v := (24 : Int32)) (pc' := 16) dX7_init_14 rfl rfl ?_
  obtain ⟨h4, eh4, hF⟩ := am_bind hF
  obtain ⟨oh4, ph4⟩ := t_X4_init eh4
  refine am_callI0 (Mc := M_X4_init) (As := [.int (24 : Int32)]) (st := [.ref p3.1, .ref v0]) (pc' := 19) dX7_init_16 cw_X7_17 wd_1_24 rfl rfl (by decide) (by decide) rfl rfl (Nat.le_of_ble_eq_true rfl) ph4 (c_X4_init eh4) rfl ?_
  obtain ⟨h5, eh5, hF⟩ := am_bind hF
  refine am_putr (pc' := 22) dX7_init_19 fx_X7_20i eh5 rfl ?_
  refine am_aload_n (pc' := 23) dX7_init_22 rfl rfl ?_
  obtain ⟨p6, ep6, hF⟩ := am_bind hF
  refine am_new (pc' := 26) dX7_init_23 nx_X7_15 ep6 rfl ?_
  refine am_dup (pc' := 27) dX7_init_26 rfl rfl ?_
  refine am_bipush (v := (24 : Int32)) (pc' := 29) dX7_init_27 rfl rfl ?_
  obtain ⟨h7, eh7, hF⟩ := am_bind hF
  obtain ⟨oh7, ph7⟩ := t_X4_init eh7
  refine am_callI0 (Mc := M_X4_init) (As := [.int (24 : Int32)]) (st := [.ref p6.1, .ref v0]) (pc' := 32) dX7_init_29 cw_X7_17 wd_1_24 rfl rfl (by decide) (by decide) rfl rfl (Nat.le_of_ble_eq_true rfl) ph7 (c_X4_init eh7) rfl ?_
  obtain ⟨h8, eh8, hF⟩ := am_bind hF
  refine am_putr (pc' := 35) dX7_init_32 fx_X7_24i eh8 rfl ?_
  refine am_aload_n (pc' := 36) dX7_init_35 rfl rfl ?_
  obtain ⟨p9, ep9, hF⟩ := am_bind hF
  refine am_new (pc' := 39) dX7_init_36 nx_X7_15 ep9 rfl ?_
  refine am_dup (pc' := 40) dX7_init_39 rfl rfl ?_
  refine am_aload_n (pc' := 41) dX7_init_40 rfl rfl ?_
  obtain ⟨x10, ex10, hF⟩ := am_bind hF
  obtain ⟨ox10, px10⟩ := t_X4_length ex10
  refine am_callV1 (Mc := M_X4_length) (As := []) (st := [.ref p9.1, .ref p9.1, .ref v0]) (pc' := 44) dX7_init_41 cw_X7_27 wd_1_235 wd_1_236 ⟨_, rfl, rfl⟩ (by decide) (by decide) rfl rfl (Nat.le_of_ble_eq_true rfl) px10 (c_X4_length ex10) rfl ?_
  obtain ⟨h11, eh11, hF⟩ := am_bind hF
  obtain ⟨oh11, ph11⟩ := t_X4_init eh11
  refine am_callI0 (Mc := M_X4_init) (As := [.int x10]) (st := [.ref p9.1, .ref v0]) (pc' := 47) dX7_init_44 cw_X7_17 wd_1_24 rfl rfl (by decide) (by decide) rfl rfl (Nat.le_of_ble_eq_true rfl) ph11 (c_X4_init eh11) rfl ?_
  obtain ⟨h12, eh12, hF⟩ := am_bind hF
  refine am_putr (pc' := 50) dX7_init_47 fx_X7_31i eh12 rfl ?_
  refine am_aload_n (pc' := 51) dX7_init_50 rfl rfl ?_
  obtain ⟨x13, ex13, hF⟩ := am_bind hF
  refine am_getr (pc' := 54) dX7_init_51 fw_X7_31 ex13 rfl ?_
  refine am_aload_n (pc' := 55) dX7_init_54 rfl rfl ?_
  refine am_iconst (v := (0 : Int32)) (pc' := 56) dX7_init_55 rfl rfl ?_
  refine am_aload_n (pc' := 57) dX7_init_56 rfl rfl ?_
  obtain ⟨x14, ex14, hF⟩ := am_bind hF
  obtain ⟨ox14, px14⟩ := t_X4_length ex14
  refine am_callV1 (Mc := M_X4_length) (As := []) (st := [.int (0 : Int32), .ref v1, .ref x13]) (pc' := 60) dX7_init_57 cw_X7_27 wd_1_235 wd_1_236 ⟨_, rfl, rfl⟩ (by decide) (by decide) rfl rfl (Nat.le_of_ble_eq_true rfl) px14 (c_X4_length ex14) rfl ?_
  obtain ⟨h15, eh15, hF⟩ := am_bind hF
  obtain ⟨oh15, ph15⟩ := t_X4_addPart eh15
  refine am_callV0 (Mc := M_X4_addPart) (As := [.ref v1, .int (0 : Int32), .int x14]) (st := []) (pc' := 63) dX7_init_60 cw_X7_34 wd_2_51 wd_2_52 ⟨_, rfl, rfl⟩ (by decide) (by decide) rfl rfl (Nat.le_of_ble_eq_true rfl) ph15 (c_X4_addPart eh15) rfl ?_
  refine am_aload_n (pc' := 64) dX7_init_63 rfl rfl ?_
  refine am_iload_n (pc' := 65) dX7_init_64 rfl rfl ?_
  obtain ⟨h16, eh16, hF⟩ := am_bind hF
  refine am_puti (pc' := 68) dX7_init_65 fx_X7_38i eh16 rfl ?_
  refine am_aload_n (pc' := 69) dX7_init_68 rfl rfl ?_
  refine am_iload_n (pc' := 70) dX7_init_69 rfl rfl ?_
  obtain ⟨h17, eh17, hF⟩ := am_bind hF
  refine am_puti (pc' := 73) dX7_init_70 fx_X7_41i eh17 rfl ?_
  cases hF
  exact am_vret dX7_init_73 rfl
def F_X7_init (v0 : Nat) (v1 : Nat) (v2 : Int32) (v3 : Int32) (h : am_H) : Option am_H := (am_obj v0 7 h).bind fun _ => F_X7_init_b v0 v1 v2 v3 h
theorem t_X7_init {hf : am_H}  {v0 : Nat} {v1 : Nat} {v2 : Int32} {v3 : Int32} {h : am_H} (hF : F_X7_init v0 v1 v2 v3 h = some hf) : ∃ fs, am_obj v0 7 h = some fs := by
  obtain ⟨fs, e, _⟩ := am_bind hF
  exact ⟨fs, e⟩
theorem c_X7_init {g : am_G} {l : Launch} {hf : am_H}  {v0 : Nat} {v1 : Nat} {v2 : Int32} {v3 : Int32} {h : am_H} (hF : F_X7_init v0 v1 v2 v3 h = some hf) : am_Met g l M_X7_init [.ref v0, .ref v1, .int v2, .int v3] h none hf := by
  obtain ⟨fs, e0, e⟩ := am_bind hF
  exact am_met (n := 0) (by decide +kernel) rfl (Nat.le_of_ble_eq_true rfl) (w_X7_init v0 v1 v2 v3 h e)
theorem cw_X8_161 : am_cw "SignCellar" 161 M_X4_at 1 := ⟨wd_1_2, wd_2_42, ⟨by decide, by decide, by decide⟩, Or.inl wd_2_116⟩
theorem fw_X8_148 : am_fw "SignCellar" 148 7 0 := ⟨(RX7, TX7, 6), rfl, by decide, inX7, Or.inr ⟨_, wd_2_88⟩⟩
def F_X8_lengthIn_28 (s0 : Int32) (h : am_H) : Option Int32 :=
  some s0
theorem w_X8_lengthIn_28 {g : am_G} {l : Launch} {h0 : am_H} {x : Int32}  (s0 : Int32) (h : am_H) (hF : F_X8_lengthIn_28 s0 h = some x) : am_W g l M_X8_lengthIn h0 (some (.int x)) h 28 [none, none, none, none] [.int s0] h := by
  unfold F_X8_lengthIn_28 at hF
  cases hF
  exact am_iret dX8_lengthIn_28 rfl rfl
def F_X8_lengthIn_b (v0 : Nat) (v1 : Nat) (v2 : Int32) (h : am_H) : Option Int32 :=
  (am_gr 7 0 v1 h).bind fun x1 =>
  (F_X4_at x1 v2 h).bind fun x2 =>
  (F_X8_blockOf v0 x2 h).bind fun x3 =>
  if x3 = 0 then
    F_X8_lengthIn_28 (0 : Int32) h
  else
    (am_gr 0 0 x3 h).bind fun x5 =>
    (F_X4_length x5 h).bind fun x6 =>
    F_X8_lengthIn_28 x6 h
theorem w_X8_lengthIn {g : am_G} {l : Launch} {h0 : am_H} {x : Int32}  (v0 : Nat) (v1 : Nat) (v2 : Int32) (h : am_H) (hF : F_X8_lengthIn_b v0 v1 v2 h = some x) : am_W g l M_X8_lengthIn h0 (some (.int x)) h 0 [some (.ref v0), some (.ref v1), some (.int v2), none] [] h := by
  unfold F_X8_lengthIn_b at hF
  refine am_aload_n (pc' := 1) dX8_lengthIn_0 rfl rfl ?_
  refine am_aload_n (pc' := 2) dX8_lengthIn_1 rfl rfl ?_
  obtain ⟨x1, ex1, hF⟩ := am_bind hF
  refine am_getr (pc' := 5) dX8_lengthIn_2 fw_X8_148 ex1 rfl ?_
  refine am_iload_n (pc' := 6) dX8_lengthIn_5 rfl rfl ?_
  obtain ⟨x2, ex2, hF⟩ := am_bind hF
  obtain ⟨ox2, px2⟩ := t_X4_at ex2
  refine am_callV1 (Mc := M_X4_at) (As := [.int v2]) (st := [.ref v0]) (pc' := 9) dX8_lengthIn_6 cw_X8_161 wd_2_40 wd_2_41 ⟨_, rfl, rfl⟩ (by decide) (by decide) rfl rfl (Nat.le_of_ble_eq_true rfl) px2 (c_X4_at ex2) rfl ?_
  obtain ⟨x3, ex3, hF⟩ := am_bind hF
  obtain ⟨ox3, px3⟩ := t_X8_blockOf ex3
  refine am_callV1 (Mc := M_X8_blockOf) (As := [.int x2]) (st := []) (pc' := 12) dX8_lengthIn_9 cw_X8_176 wd_2_33 sl_X8_blockOf ⟨_, rfl, rfl⟩ (by decide) (by decide) rfl rfl (Nat.le_of_ble_eq_true rfl) px3 (c_X8_blockOf ex3) rfl ?_
  refine am_astore_n (ls' := [some (.ref v0), some (.ref v1), some (.int v2), some (.ref x3)]) (pc' := 13) dX8_lengthIn_12 (Nat.le_of_ble_eq_true rfl) rfl rfl ?_
  refine am_aload_n (pc' := 14) dX8_lengthIn_13 rfl rfl ?_
  rcases am_ite hF with ⟨z4, hF⟩ | ⟨z4, hF⟩
  · refine am_ifnonnull_f (pc' := 17) dX8_lengthIn_14 z4 rfl ?_
    refine am_iconst (v := (0 : Int32)) (pc' := 18) dX8_lengthIn_17 rfl rfl ?_
    refine am_goto (pc' := 28) dX8_lengthIn_18 rfl ?_
    exact am_weak [false, false, false, false] (w_X8_lengthIn_28 (0 : Int32) h hF)
  · refine am_ifnonnull_t (pc' := 21) dX8_lengthIn_14 rfl z4 ?_
    refine am_aload_n (pc' := 22) dX8_lengthIn_21 rfl rfl ?_
    obtain ⟨x5, ex5, hF⟩ := am_bind hF
    refine am_getr (pc' := 25) dX8_lengthIn_22 fw_X8_180 ex5 rfl ?_
    obtain ⟨x6, ex6, hF⟩ := am_bind hF
    obtain ⟨ox6, px6⟩ := t_X4_length ex6
    refine am_callV1 (Mc := M_X4_length) (As := []) (st := []) (pc' := 28) dX8_lengthIn_25 cw_X8_93 wd_1_235 wd_1_236 ⟨_, rfl, rfl⟩ (by decide) (by decide) rfl rfl (Nat.le_of_ble_eq_true rfl) px6 (c_X4_length ex6) rfl ?_
    exact am_weak [false, false, false, false] (w_X8_lengthIn_28 x6 h hF)
def F_X8_lengthIn (v0 : Nat) (v1 : Nat) (v2 : Int32) (h : am_H) : Option Int32 := (am_obj v0 8 h).bind fun _ => F_X8_lengthIn_b v0 v1 v2 h
theorem t_X8_lengthIn {x : Int32}  {v0 : Nat} {v1 : Nat} {v2 : Int32} {h : am_H} (hF : F_X8_lengthIn v0 v1 v2 h = some x) : ∃ fs, am_obj v0 8 h = some fs := by
  obtain ⟨fs, e, _⟩ := am_bind hF
  exact ⟨fs, e⟩
theorem c_X8_lengthIn {g : am_G} {l : Launch} {x : Int32}  {v0 : Nat} {v1 : Nat} {v2 : Int32} {h : am_H} (hF : F_X8_lengthIn v0 v1 v2 h = some x) : am_Met g l M_X8_lengthIn [.ref v0, .ref v1, .int v2] h (some (.int x)) h := by
  obtain ⟨fs, e0, e⟩ := am_bind hF
  exact am_met (n := 1) (by decide +kernel) rfl (Nat.le_of_ble_eq_true rfl) (w_X8_lengthIn v0 v1 v2 h e)
def F_X8_signIn_32 (s0 : Int32) (h : am_H) : Option Int32 :=
  some s0
theorem w_X8_signIn_32 {g : am_G} {l : Launch} {h0 : am_H} {x : Int32}  (s0 : Int32) (h : am_H) (hF : F_X8_signIn_32 s0 h = some x) : am_W g l M_X8_signIn h0 (some (.int x)) h 32 [none, none, none, none, none] [.int s0] h := by
  unfold F_X8_signIn_32 at hF
  cases hF
  exact am_iret dX8_signIn_32 rfl rfl
def F_X8_signIn_b (v0 : Nat) (v1 : Nat) (v2 : Int32) (v3 : Int32) (h : am_H) : Option Int32 :=
  (am_gr 7 0 v1 h).bind fun x1 =>
  (F_X4_at x1 v2 h).bind fun x2 =>
  (F_X8_blockOf v0 x2 h).bind fun x3 =>
  if x3 = 0 then
    F_X8_signIn_32 (-1 : Int32) h
  else
    (am_gr 0 0 x3 h).bind fun x5 =>
    (F_X4_at x5 v3 h).bind fun x6 =>
    F_X8_signIn_32 x6 h
theorem w_X8_signIn {g : am_G} {l : Launch} {h0 : am_H} {x : Int32}  (v0 : Nat) (v1 : Nat) (v2 : Int32) (v3 : Int32) (h : am_H) (hF : F_X8_signIn_b v0 v1 v2 v3 h = some x) : am_W g l M_X8_signIn h0 (some (.int x)) h 0 [some (.ref v0), some (.ref v1), some (.int v2), some (.int v3), none] [] h := by
  unfold F_X8_signIn_b at hF
  refine am_aload_n (pc' := 1) dX8_signIn_0 rfl rfl ?_
  refine am_aload_n (pc' := 2) dX8_signIn_1 rfl rfl ?_
  obtain ⟨x1, ex1, hF⟩ := am_bind hF
  refine am_getr (pc' := 5) dX8_signIn_2 fw_X8_148 ex1 rfl ?_
  refine am_iload_n (pc' := 6) dX8_signIn_5 rfl rfl ?_
  obtain ⟨x2, ex2, hF⟩ := am_bind hF
  obtain ⟨ox2, px2⟩ := t_X4_at ex2
  refine am_callV1 (Mc := M_X4_at) (As := [.int v2]) (st := [.ref v0]) (pc' := 9) dX8_signIn_6 cw_X8_161 wd_2_40 wd_2_41 ⟨_, rfl, rfl⟩ (by decide) (by decide) rfl rfl (Nat.le_of_ble_eq_true rfl) px2 (c_X4_at ex2) rfl ?_
  obtain ⟨x3, ex3, hF⟩ := am_bind hF
  obtain ⟨ox3, px3⟩ := t_X8_blockOf ex3
  refine am_callV1 (Mc := M_X8_blockOf) (As := [.int x2]) (st := []) (pc' := 12) dX8_signIn_9 cw_X8_176 wd_2_33 sl_X8_blockOf ⟨_, rfl, rfl⟩ (by decide) (by decide) rfl rfl (Nat.le_of_ble_eq_true rfl) px3 (c_X8_blockOf ex3) rfl ?_
  refine am_astore (ls' := [some (.ref v0), some (.ref v1), some (.int v2), some (.int v3), some (.ref x3)]) (pc' := 14) dX8_signIn_12 (Nat.le_of_ble_eq_true rfl) rfl rfl ?_
  refine am_aload (pc' := 16) dX8_signIn_14 rfl rfl ?_
  rcases am_ite hF with ⟨z4, hF⟩ | ⟨z4, hF⟩
  · refine am_ifnonnull_f (pc' := 19) dX8_signIn_16 z4 rfl ?_
    refine am_iconst (v := (-1 : Int32)) (pc' := 20) dX8_signIn_19 rfl rfl ?_
    refine am_goto (pc' := 32) dX8_signIn_20 rfl ?_
    exact am_weak [false, false, false, false, false] (w_X8_signIn_32 (-1 : Int32) h hF)
  · refine am_ifnonnull_t (pc' := 23) dX8_signIn_16 rfl z4 ?_
    refine am_aload (pc' := 25) dX8_signIn_23 rfl rfl ?_
    obtain ⟨x5, ex5, hF⟩ := am_bind hF
    refine am_getr (pc' := 28) dX8_signIn_25 fw_X8_180 ex5 rfl ?_
    refine am_iload_n (pc' := 29) dX8_signIn_28 rfl rfl ?_
    obtain ⟨x6, ex6, hF⟩ := am_bind hF
    obtain ⟨ox6, px6⟩ := t_X4_at ex6
    refine am_callV1 (Mc := M_X4_at) (As := [.int v3]) (st := []) (pc' := 32) dX8_signIn_29 cw_X8_161 wd_2_40 wd_2_41 ⟨_, rfl, rfl⟩ (by decide) (by decide) rfl rfl (Nat.le_of_ble_eq_true rfl) px6 (c_X4_at ex6) rfl ?_
    exact am_weak [false, false, false, false, false] (w_X8_signIn_32 x6 h hF)
def F_X8_signIn (v0 : Nat) (v1 : Nat) (v2 : Int32) (v3 : Int32) (h : am_H) : Option Int32 := (am_obj v0 8 h).bind fun _ => F_X8_signIn_b v0 v1 v2 v3 h
theorem t_X8_signIn {x : Int32}  {v0 : Nat} {v1 : Nat} {v2 : Int32} {v3 : Int32} {h : am_H} (hF : F_X8_signIn v0 v1 v2 v3 h = some x) : ∃ fs, am_obj v0 8 h = some fs := by
  obtain ⟨fs, e, _⟩ := am_bind hF
  exact ⟨fs, e⟩
theorem c_X8_signIn {g : am_G} {l : Launch} {x : Int32}  {v0 : Nat} {v1 : Nat} {v2 : Int32} {v3 : Int32} {h : am_H} (hF : F_X8_signIn v0 v1 v2 v3 h = some x) : am_Met g l M_X8_signIn [.ref v0, .ref v1, .int v2, .int v3] h (some (.int x)) h := by
  obtain ⟨fs, e0, e⟩ := am_bind hF
  exact am_met (n := 1) (by decide +kernel) rfl (Nat.le_of_ble_eq_true rfl) (w_X8_signIn v0 v1 v2 v3 h e)
theorem cw_X8_172 : am_cw "SignCellar" 172 M_X8_signIn 3 := ⟨wd_1_1, wd_2_128, ⟨by decide, by decide, by decide⟩, Or.inl wd_2_125⟩
theorem sl_X8_signIn : Cond.selects (⟨"SignCellar", "signIn", "(LSignCellar$Version;II)I"⟩ : MethodName).cls ⟨"SignCellar", "signIn", "(LSignCellar$Version;II)I"⟩ ⟨"SignCellar", "signIn", "(LSignCellar$Version;II)I"⟩ ∈ am_ts := am_in_p (q := (⟨"SignCellar", "signIn", "(LSignCellar$Version;II)I"⟩, 16)) (by decide +kernel)
def F_X8_numberIn_22 (s0 : Int32) (h : am_H) : Option Int32 :=
  some s0
theorem w_X8_numberIn_22 {g : am_G} {l : Launch} {h0 : am_H} {x : Int32}  (s0 : Int32) (h : am_H) (hF : F_X8_numberIn_22 s0 h = some x) : am_W g l M_X8_numberIn h0 (some (.int x)) h 22 [none, none, none, none, none] [.int s0] h := by
  unfold F_X8_numberIn_22 at hF
  cases hF
  exact am_iret dX8_numberIn_22 rfl rfl
def F_X8_numberIn_b (v0 : Nat) (v1 : Nat) (v2 : Int32) (v3 : Int32) (h : am_H) : Option Int32 :=
  (F_X8_signIn v0 v1 v2 v3 h).bind fun x1 =>
  if x1 = (-1 : Int32) then
    F_X8_numberIn_22 (16 : Int32) h
  else
    F_X8_numberIn_22 x1 h
theorem w_X8_numberIn {g : am_G} {l : Launch} {h0 : am_H} {x : Int32}  (v0 : Nat) (v1 : Nat) (v2 : Int32) (v3 : Int32) (h : am_H) (hF : F_X8_numberIn_b v0 v1 v2 v3 h = some x) : am_W g l M_X8_numberIn h0 (some (.int x)) h 0 [some (.ref v0), some (.ref v1), some (.int v2), some (.int v3), none] [] h := by
  unfold F_X8_numberIn_b at hF
  refine am_aload_n (pc' := 1) dX8_numberIn_0 rfl rfl ?_
  refine am_aload_n (pc' := 2) dX8_numberIn_1 rfl rfl ?_
  refine am_iload_n (pc' := 3) dX8_numberIn_2 rfl rfl ?_
  refine am_iload_n (pc' := 4) dX8_numberIn_3 rfl rfl ?_
  obtain ⟨x1, ex1, hF⟩ := am_bind hF
  obtain ⟨ox1, px1⟩ := t_X8_signIn ex1
  refine am_callV1 (Mc := M_X8_signIn) (As := [.ref v1, .int v2, .int v3]) (st := []) (pc' := 7) dX8_numberIn_4 cw_X8_172 wd_2_127 sl_X8_signIn ⟨_, rfl, rfl⟩ (by decide) (by decide) rfl rfl (Nat.le_of_ble_eq_true rfl) px1 (c_X8_signIn ex1) rfl ?_
  refine am_istore (ls' := [some (.ref v0), some (.ref v1), some (.int v2), some (.int v3), some (.int x1)]) (pc' := 9) dX8_numberIn_7 (Nat.le_of_ble_eq_true rfl) rfl rfl ?_
  refine am_iload (pc' := 11) dX8_numberIn_9 rfl rfl ?_
  refine am_iconst (v := (-1 : Int32)) (pc' := 12) dX8_numberIn_11 rfl rfl ?_
  rcases am_ite hF with ⟨z2, hF⟩ | ⟨z2, hF⟩
  · refine am_icmp_ne_f (pc' := 15) (tgt := 20) dX8_numberIn_12 rfl z2 rfl ?_
    refine am_bipush (v := (16 : Int32)) (pc' := 17) dX8_numberIn_15 rfl rfl ?_
    refine am_goto (pc' := 22) dX8_numberIn_17 rfl ?_
    exact am_weak [false, false, false, false, false] (w_X8_numberIn_22 (16 : Int32) h hF)
  · refine am_icmp_ne_t (pc' := 20) dX8_numberIn_12 rfl z2 ?_
    refine am_iload (pc' := 22) dX8_numberIn_20 rfl rfl ?_
    exact am_weak [false, false, false, false, false] (w_X8_numberIn_22 x1 h hF)
def F_X8_numberIn (v0 : Nat) (v1 : Nat) (v2 : Int32) (v3 : Int32) (h : am_H) : Option Int32 := (am_obj v0 8 h).bind fun _ => F_X8_numberIn_b v0 v1 v2 v3 h
theorem t_X8_numberIn {x : Int32}  {v0 : Nat} {v1 : Nat} {v2 : Int32} {v3 : Int32} {h : am_H} (hF : F_X8_numberIn v0 v1 v2 v3 h = some x) : ∃ fs, am_obj v0 8 h = some fs := by
  obtain ⟨fs, e, _⟩ := am_bind hF
  exact ⟨fs, e⟩
theorem c_X8_numberIn {g : am_G} {l : Launch} {x : Int32}  {v0 : Nat} {v1 : Nat} {v2 : Int32} {v3 : Int32} {h : am_H} (hF : F_X8_numberIn v0 v1 v2 v3 h = some x) : am_Met g l M_X8_numberIn [.ref v0, .ref v1, .int v2, .int v3] h (some (.int x)) h := by
  obtain ⟨fs, e0, e⟩ := am_bind hF
  exact am_met (n := 1) (by decide +kernel) rfl (Nat.le_of_ble_eq_true rfl) (w_X8_numberIn v0 v1 v2 v3 h e)
theorem cw_X8_355 : am_cw "SignCellar" 355 M_X8_numberIn 3 := ⟨wd_1_1, wd_2_124, ⟨by decide, by decide, by decide⟩, Or.inl wd_2_121⟩
theorem fw_X8_294 : am_fw "SignCellar" 294 7 4 := ⟨(RX7, TX7, 6), rfl, by decide, inX7, Or.inr ⟨_, wd_2_96⟩⟩
theorem fw_X8_297 : am_fw "SignCellar" 297 7 5 := ⟨(RX7, TX7, 6), rfl, by decide, inX7, Or.inr ⟨_, wd_2_98⟩⟩
theorem sl_X8_numberIn : Cond.selects (⟨"SignCellar", "numberIn", "(LSignCellar$Version;II)I"⟩ : MethodName).cls ⟨"SignCellar", "numberIn", "(LSignCellar$Version;II)I"⟩ ⟨"SignCellar", "numberIn", "(LSignCellar$Version;II)I"⟩ ∈ am_ts := am_in_p (q := (⟨"SignCellar", "numberIn", "(LSignCellar$Version;II)I"⟩, 16)) (by decide +kernel)
def F_X8_addUp_16 (k2 : Nat → Nat → Int32 → am_H → Option am_H) : Nat → Nat → Nat → Int32 → Int32 → Int32 → Int32 → am_H → Option am_H
  | 0, _, _, _, _, _, _, _ => none
  | n + 1, v0, v1, v2, v3, v4, v5, h =>
  (am_gr 7 0 v1 h).bind fun x1 =>
  (F_X4_length x1 h).bind fun x2 =>
  if x2 ≤ v5 then
    (am_gr 7 4 v1 h).bind fun x4 =>
    (F_X4_add x4 (v3 - v3 / (17 : Int32) * (17 : Int32)) h).bind fun h5 =>
    (am_gr 7 5 v1 h5).bind fun x6 =>
    (F_X4_add x6 (v4 - v4 / (17 : Int32) * (17 : Int32)) h5).bind fun h7 =>
    k2 v0 v1 (v2 + (1 : Int32)) h7
  else
    (F_X8_numberIn v0 v1 v5 v2 h).bind fun x8 =>
    F_X8_addUp_16 k2 n v0 v1 v2 (v3 + x8) (v4 + ((v5 + (1 : Int32)) * x8)) (v5 + (1 : Int32)) h
theorem w_X8_addUp_16 {g : am_G} {l : Launch} {h0 : am_H} {hf : am_H}  {k2 : Nat → Nat → Int32 → am_H → Option am_H} (j2 : ∀ (v0 : Nat) (v1 : Nat) (v2 : Int32) (h : am_H), k2 v0 v1 v2 h = some hf → am_W g l M_X8_addUp h0 none hf 2 [some (.ref v0), some (.ref v1), some (.int v2), none, none, none, none] [] h) : ∀ (n : Nat) (v0 : Nat) (v1 : Nat) (v2 : Int32) (v3 : Int32) (v4 : Int32) (v5 : Int32) (h : am_H), F_X8_addUp_16 k2 n v0 v1 v2 v3 v4 v5 h = some hf → am_W g l M_X8_addUp h0 none hf 16 [some (.ref v0), some (.ref v1), some (.int v2), some (.int v3), some (.int v4), some (.int v5), none] [] h
  | 0, _, _, _, _, _, _, _, hF => by cases hF
  | n + 1, v0, v1, v2, v3, v4, v5, h, hF => by
    rw [F_X8_addUp_16] at hF
    refine am_iload (pc' := 18) dX8_addUp_16 rfl rfl ?_
    refine am_aload_n (pc' := 19) dX8_addUp_18 rfl rfl ?_
    obtain ⟨x1, ex1, hF⟩ := am_bind hF
    refine am_getr (pc' := 22) dX8_addUp_19 fw_X8_148 ex1 rfl ?_
    obtain ⟨x2, ex2, hF⟩ := am_bind hF
    obtain ⟨ox2, px2⟩ := t_X4_length ex2
    refine am_callV1 (Mc := M_X4_length) (As := []) (st := [.int v5]) (pc' := 25) dX8_addUp_22 cw_X8_93 wd_1_235 wd_1_236 ⟨_, rfl, rfl⟩ (by decide) (by decide) rfl rfl (Nat.le_of_ble_eq_true rfl) px2 (c_X4_length ex2) rfl ?_
    rcases am_ite hF with ⟨z3, hF⟩ | ⟨z3, hF⟩
    · refine am_icmp_ge_t (pc' := 61) dX8_addUp_25 rfl z3 ?_
      refine am_aload_n (pc' := 62) dX8_addUp_61 rfl rfl ?_
      obtain ⟨x4, ex4, hF⟩ := am_bind hF
      refine am_getr (pc' := 65) dX8_addUp_62 fw_X8_294 ex4 rfl ?_
      refine am_iload_n (pc' := 66) dX8_addUp_65 rfl rfl ?_
      refine am_bipush (v := (17 : Int32)) (pc' := 68) dX8_addUp_66 rfl rfl ?_
      refine am_irem (pc' := 69) dX8_addUp_68 (by decide) rfl ?_
      obtain ⟨h5, eh5, hF⟩ := am_bind hF
      obtain ⟨oh5, ph5⟩ := t_X4_add eh5
      refine am_callV0 (Mc := M_X4_add) (As := [.int (v3 - v3 / (17 : Int32) * (17 : Int32))]) (st := []) (pc' := 72) dX8_addUp_69 cw_X8_98 wd_2_0 wd_2_1 ⟨_, rfl, rfl⟩ (by decide) (by decide) rfl rfl (Nat.le_of_ble_eq_true rfl) ph5 (c_X4_add eh5) rfl ?_
      refine am_aload_n (pc' := 73) dX8_addUp_72 rfl rfl ?_
      obtain ⟨x6, ex6, hF⟩ := am_bind hF
      refine am_getr (pc' := 76) dX8_addUp_73 fw_X8_297 ex6 rfl ?_
      refine am_iload (pc' := 78) dX8_addUp_76 rfl rfl ?_
      refine am_bipush (v := (17 : Int32)) (pc' := 80) dX8_addUp_78 rfl rfl ?_
      refine am_irem (pc' := 81) dX8_addUp_80 (by decide) rfl ?_
      obtain ⟨h7, eh7, hF⟩ := am_bind hF
      obtain ⟨oh7, ph7⟩ := t_X4_add eh7
      refine am_callV0 (Mc := M_X4_add) (As := [.int (v4 - v4 / (17 : Int32) * (17 : Int32))]) (st := []) (pc' := 84) dX8_addUp_81 cw_X8_98 wd_2_0 wd_2_1 ⟨_, rfl, rfl⟩ (by decide) (by decide) rfl rfl (Nat.le_of_ble_eq_true rfl) ph7 (c_X4_add eh7) rfl ?_
      refine am_iinc (ls' := [some (.ref v0), some (.ref v1), some (.int (v2 + (1 : Int32))), some (.int v3), some (.int v4), some (.int v5), none]) (pc' := 87) (v := (v2 + (1 : Int32))) dX8_addUp_84 rfl rfl (Nat.le_of_ble_eq_true rfl) rfl rfl ?_
      refine am_goto (pc' := 2) dX8_addUp_87 rfl ?_
      exact am_weak [true, true, true, false, false, false, false] (j2 v0 v1 (v2 + (1 : Int32)) h7 hF)
    · refine am_icmp_ge_f (pc' := 28) (tgt := 61) dX8_addUp_25 rfl z3 rfl ?_
      refine am_aload_n (pc' := 29) dX8_addUp_28 rfl rfl ?_
      refine am_aload_n (pc' := 30) dX8_addUp_29 rfl rfl ?_
      refine am_iload (pc' := 32) dX8_addUp_30 rfl rfl ?_
      refine am_iload_n (pc' := 33) dX8_addUp_32 rfl rfl ?_
      obtain ⟨x8, ex8, hF⟩ := am_bind hF
      obtain ⟨ox8, px8⟩ := t_X8_numberIn ex8
      refine am_callV1 (Mc := M_X8_numberIn) (As := [.ref v1, .int v5, .int v2]) (st := []) (pc' := 36) dX8_addUp_33 cw_X8_355 wd_2_123 sl_X8_numberIn ⟨_, rfl, rfl⟩ (by decide) (by decide) rfl rfl (Nat.le_of_ble_eq_true rfl) px8 (c_X8_numberIn ex8) rfl ?_
      refine am_istore (ls' := [some (.ref v0), some (.ref v1), some (.int v2), some (.int v3), some (.int v4), some (.int v5), some (.int x8)]) (pc' := 38) dX8_addUp_36 (Nat.le_of_ble_eq_true rfl) rfl rfl ?_
      refine am_iload_n (pc' := 39) dX8_addUp_38 rfl rfl ?_
      refine am_iload (pc' := 41) dX8_addUp_39 rfl rfl ?_
      refine am_iadd (pc' := 42) dX8_addUp_41 rfl ?_
      refine am_istore_n (ls' := [some (.ref v0), some (.ref v1), some (.int v2), some (.int (v3 + x8)), some (.int v4), some (.int v5), some (.int x8)]) (pc' := 43) dX8_addUp_42 (Nat.le_of_ble_eq_true rfl) rfl rfl ?_
      refine am_iload (pc' := 45) dX8_addUp_43 rfl rfl ?_
      refine am_iload (pc' := 47) dX8_addUp_45 rfl rfl ?_
      refine am_iconst (v := (1 : Int32)) (pc' := 48) dX8_addUp_47 rfl rfl ?_
      refine am_iadd (pc' := 49) dX8_addUp_48 rfl ?_
      refine am_iload (pc' := 51) dX8_addUp_49 rfl rfl ?_
      refine am_imul (pc' := 52) dX8_addUp_51 rfl ?_
      refine am_iadd (pc' := 53) dX8_addUp_52 rfl ?_
      refine am_istore (ls' := [some (.ref v0), some (.ref v1), some (.int v2), some (.int (v3 + x8)), some (.int (v4 + ((v5 + (1 : Int32)) * x8))), some (.int v5), some (.int x8)]) (pc' := 55) dX8_addUp_53 (Nat.le_of_ble_eq_true rfl) rfl rfl ?_
      refine am_iinc (ls' := [some (.ref v0), some (.ref v1), some (.int v2), some (.int (v3 + x8)), some (.int (v4 + ((v5 + (1 : Int32)) * x8))), some (.int (v5 + (1 : Int32))), some (.int x8)]) (pc' := 58) (v := (v5 + (1 : Int32))) dX8_addUp_55 rfl rfl (Nat.le_of_ble_eq_true rfl) rfl rfl ?_
      refine am_goto (pc' := 16) dX8_addUp_58 rfl ?_
      exact am_weak [true, true, true, true, true, true, false] (w_X8_addUp_16 j2 n v0 v1 v2 (v3 + x8) (v4 + ((v5 + (1 : Int32)) * x8)) (v5 + (1 : Int32)) h hF)
def F_X8_addUp_2 : Nat → Nat → Nat → Int32 → am_H → Option am_H
  | 0, _, _, _, _ => none
  | n + 1, v0, v1, v2, h =>
  if (24 : Int32) ≤ v2 then
    some h
  else
    F_X8_addUp_16 (F_X8_addUp_2 n) am_F v0 v1 v2 (0 : Int32) (0 : Int32) (0 : Int32) h
theorem w_X8_addUp_2 {g : am_G} {l : Launch} {h0 : am_H} {hf : am_H}  : ∀ (n : Nat) (v0 : Nat) (v1 : Nat) (v2 : Int32) (h : am_H), F_X8_addUp_2 n v0 v1 v2 h = some hf → am_W g l M_X8_addUp h0 none hf 2 [some (.ref v0), some (.ref v1), some (.int v2), none, none, none, none] [] h
  | 0, _, _, _, _, hF => by cases hF
  | n + 1, v0, v1, v2, h, hF => by
    rw [F_X8_addUp_2] at hF
    refine am_iload_n (pc' := 3) dX8_addUp_2 rfl rfl ?_
    refine am_bipush (v := (24 : Int32)) (pc' := 5) dX8_addUp_3 rfl rfl ?_
    rcases am_ite hF with ⟨z1, hF⟩ | ⟨z1, hF⟩
    · refine am_icmp_ge_t (pc' := 90) dX8_addUp_5 rfl z1 ?_
      cases hF
      exact am_vret dX8_addUp_90 rfl
    · refine am_icmp_ge_f (pc' := 8) (tgt := 90) dX8_addUp_5 rfl z1 rfl ?_
      refine am_iconst (v := (0 : Int32)) (pc' := 9) dX8_addUp_8 rfl rfl ?_
      refine am_istore_n (ls' := [some (.ref v0), some (.ref v1), some (.int v2), some (.int (0 : Int32)), none, none, none]) (pc' := 10) dX8_addUp_9 (Nat.le_of_ble_eq_true rfl) rfl rfl ?_
      refine am_iconst (v := (0 : Int32)) (pc' := 11) dX8_addUp_10 rfl rfl ?_
      refine am_istore (ls' := [some (.ref v0), some (.ref v1), some (.int v2), some (.int (0 : Int32)), some (.int (0 : Int32)), none, none]) (pc' := 13) dX8_addUp_11 (Nat.le_of_ble_eq_true rfl) rfl rfl ?_
      refine am_iconst (v := (0 : Int32)) (pc' := 14) dX8_addUp_13 rfl rfl ?_
      refine am_istore (ls' := [some (.ref v0), some (.ref v1), some (.int v2), some (.int (0 : Int32)), some (.int (0 : Int32)), some (.int (0 : Int32)), none]) (pc' := 16) dX8_addUp_14 (Nat.le_of_ble_eq_true rfl) rfl rfl ?_
      exact w_X8_addUp_16 (w_X8_addUp_2 n) am_F v0 v1 v2 (0 : Int32) (0 : Int32) (0 : Int32) h hF
def F_X8_addUp_b (v0 : Nat) (v1 : Nat) (h : am_H) : Option am_H :=
  F_X8_addUp_2 am_F v0 v1 (0 : Int32) h
theorem w_X8_addUp {g : am_G} {l : Launch} {h0 : am_H} {hf : am_H}  (v0 : Nat) (v1 : Nat) (h : am_H) (hF : F_X8_addUp_b v0 v1 h = some hf) : am_W g l M_X8_addUp h0 none hf 0 [some (.ref v0), some (.ref v1), none, none, none, none, none] [] h := by
  unfold F_X8_addUp_b at hF
  refine am_iconst (v := (0 : Int32)) (pc' := 1) dX8_addUp_0 rfl rfl ?_
  refine am_istore_n (ls' := [some (.ref v0), some (.ref v1), some (.int (0 : Int32)), none, none, none, none]) (pc' := 2) dX8_addUp_1 (Nat.le_of_ble_eq_true rfl) rfl rfl ?_
  exact w_X8_addUp_2 am_F v0 v1 (0 : Int32) h hF
def F_X8_addUp (v0 : Nat) (v1 : Nat) (h : am_H) : Option am_H := (am_obj v0 8 h).bind fun _ => F_X8_addUp_b v0 v1 h
theorem t_X8_addUp {hf : am_H}  {v0 : Nat} {v1 : Nat} {h : am_H} (hF : F_X8_addUp v0 v1 h = some hf) : ∃ fs, am_obj v0 8 h = some fs := by
  obtain ⟨fs, e, _⟩ := am_bind hF
  exact ⟨fs, e⟩
theorem c_X8_addUp {g : am_G} {l : Launch} {hf : am_H}  {v0 : Nat} {v1 : Nat} {h : am_H} (hF : F_X8_addUp v0 v1 h = some hf) : am_Met g l M_X8_addUp [.ref v0, .ref v1] h none hf := by
  obtain ⟨fs, e0, e⟩ := am_bind hF
  exact am_met (n := 5) (by decide +kernel) rfl (Nat.le_of_ble_eq_true rfl) (w_X8_addUp v0 v1 h e)
