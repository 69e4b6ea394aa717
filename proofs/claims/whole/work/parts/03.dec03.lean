theorem dX11_weightOf_0 : decode cX11_weightOf 0 = .ok (.iconst 1, 1) := by decide +kernel
theorem dX11_weightOf_1 : decode cX11_weightOf 1 = .ok (.istore_n 3, 1) := by decide +kernel
theorem dX11_weightOf_2 : decode cX11_weightOf 2 = .ok (.iconst 0, 1) := by decide +kernel
theorem dX11_weightOf_3 : decode cX11_weightOf 3 = .ok (.istore 4, 2) := by decide +kernel
theorem dX11_weightOf_5 : decode cX11_weightOf 5 = .ok (.iload 4, 2) := by decide +kernel
theorem dX11_weightOf_7 : decode cX11_weightOf 7 = .ok (.iload_n 1, 1) := by decide +kernel
theorem dX11_weightOf_8 : decode cX11_weightOf 8 = .ok (.if_icmp .ge 29, 3) := by decide +kernel
theorem dX11_weightOf_11 : decode cX11_weightOf 11 = .ok (.iload_n 3, 1) := by decide +kernel
theorem dX11_weightOf_12 : decode cX11_weightOf 12 = .ok (.iload_n 0, 1) := by decide +kernel
theorem dX11_weightOf_13 : decode cX11_weightOf 13 = .ok (.iload 4, 2) := by decide +kernel
theorem dX11_weightOf_15 : decode cX11_weightOf 15 = .ok (.ishr, 1) := by decide +kernel
theorem dX11_weightOf_16 : decode cX11_weightOf 16 = .ok (.iconst 1, 1) := by decide +kernel
theorem dX11_weightOf_17 : decode cX11_weightOf 17 = .ok (.iand, 1) := by decide +kernel
theorem dX11_weightOf_18 : decode cX11_weightOf 18 = .ok (.ifCond .eq 7, 3) := by decide +kernel
theorem dX11_weightOf_21 : decode cX11_weightOf 21 = .ok (.iload_n 2, 1) := by decide +kernel
theorem dX11_weightOf_22 : decode cX11_weightOf 22 = .ok (.goto 7, 3) := by decide +kernel
theorem dX11_weightOf_25 : decode cX11_weightOf 25 = .ok (.bipush 10, 2) := by decide +kernel
theorem dX11_weightOf_27 : decode cX11_weightOf 27 = .ok (.iload_n 2, 1) := by decide +kernel
theorem dX11_weightOf_28 : decode cX11_weightOf 28 = .ok (.isub, 1) := by decide +kernel
theorem dX11_weightOf_29 : decode cX11_weightOf 29 = .ok (.imul, 1) := by decide +kernel
theorem dX11_weightOf_30 : decode cX11_weightOf 30 = .ok (.istore_n 3, 1) := by decide +kernel
theorem dX11_weightOf_31 : decode cX11_weightOf 31 = .ok (.iinc 4 1, 3) := by decide +kernel
theorem dX11_weightOf_34 : decode cX11_weightOf 34 = .ok (.goto (-29), 3) := by decide +kernel
theorem dX11_weightOf_37 : decode cX11_weightOf 37 = .ok (.iload_n 3, 1) := by decide +kernel
theorem dX11_weightOf_38 : decode cX11_weightOf 38 = .ok (.ireturn, 1) := by decide +kernel
theorem dX11_isRest_0 : decode cX11_isRest 0 = .ok (.iload_n 3, 1) := by decide +kernel
theorem dX11_isRest_1 : decode cX11_isRest 1 = .ok (.iconst 1, 1) := by decide +kernel
theorem dX11_isRest_2 : decode cX11_isRest 2 = .ok (.ishr, 1) := by decide +kernel
theorem dX11_isRest_3 : decode cX11_isRest 3 = .ok (.istore 4, 2) := by decide +kernel
theorem dX11_isRest_5 : decode cX11_isRest 5 = .ok (.iload_n 3, 1) := by decide +kernel
theorem dX11_isRest_6 : decode cX11_isRest 6 = .ok (.iconst 1, 1) := by decide +kernel
theorem dX11_isRest_7 : decode cX11_isRest 7 = .ok (.iand, 1) := by decide +kernel
theorem dX11_isRest_8 : decode cX11_isRest 8 = .ok (.istore 5, 2) := by decide +kernel
theorem dX11_isRest_10 : decode cX11_isRest 10 = .ok (.iload_n 0, 1) := by decide +kernel
theorem dX11_isRest_11 : decode cX11_isRest 11 = .ok (.iload_n 1, 1) := by decide +kernel
theorem dX11_isRest_12 : decode cX11_isRest 12 = .ok (.iload_n 2, 1) := by decide +kernel
theorem dX11_isRest_13 : decode cX11_isRest 13 = .ok (.iload 4, 2) := by decide +kernel
theorem dX11_isRest_15 : decode cX11_isRest 15 = .ok (.iload 5, 2) := by decide +kernel
theorem dX11_isRest_17 : decode cX11_isRest 17 = .ok (.invokestatic 344, 3) := by decide +kernel
theorem dX11_isRest_20 : decode cX11_isRest 20 = .ok (.iload_n 0, 1) := by decide +kernel
theorem dX11_isRest_21 : decode cX11_isRest 21 = .ok (.iload_n 1, 1) := by decide +kernel
theorem dX11_isRest_22 : decode cX11_isRest 22 = .ok (.iload_n 2, 1) := by decide +kernel
theorem dX11_isRest_23 : decode cX11_isRest 23 = .ok (.iconst 1, 1) := by decide +kernel
theorem dX11_isRest_24 : decode cX11_isRest 24 = .ok (.iload 4, 2) := by decide +kernel
theorem dX11_isRest_26 : decode cX11_isRest 26 = .ok (.isub, 1) := by decide +kernel
theorem dX11_isRest_27 : decode cX11_isRest 27 = .ok (.iload 5, 2) := by decide +kernel
theorem dX11_isRest_29 : decode cX11_isRest 29 = .ok (.invokestatic 344, 3) := by decide +kernel
theorem dX11_isRest_32 : decode cX11_isRest 32 = .ok (.if_icmp .lt 7, 3) := by decide +kernel
theorem dX11_isRest_35 : decode cX11_isRest 35 = .ok (.iconst 1, 1) := by decide +kernel
theorem dX11_isRest_36 : decode cX11_isRest 36 = .ok (.goto 4, 3) := by decide +kernel
theorem dX11_isRest_39 : decode cX11_isRest 39 = .ok (.iconst 0, 1) := by decide +kernel
theorem dX11_isRest_40 : decode cX11_isRest 40 = .ok (.istore 6, 2) := by decide +kernel
theorem dX11_isRest_42 : decode cX11_isRest 42 = .ok (.iload_n 0, 1) := by decide +kernel
theorem dX11_isRest_43 : decode cX11_isRest 43 = .ok (.iload_n 1, 1) := by decide +kernel
theorem dX11_isRest_44 : decode cX11_isRest 44 = .ok (.iload_n 2, 1) := by decide +kernel
theorem dX11_isRest_45 : decode cX11_isRest 45 = .ok (.iload 5, 2) := by decide +kernel
theorem dX11_isRest_47 : decode cX11_isRest 47 = .ok (.iload 4, 2) := by decide +kernel
theorem dX11_isRest_49 : decode cX11_isRest 49 = .ok (.invokestatic 344, 3) := by decide +kernel
theorem dX11_isRest_52 : decode cX11_isRest 52 = .ok (.iload_n 0, 1) := by decide +kernel
theorem dX11_isRest_53 : decode cX11_isRest 53 = .ok (.iload_n 1, 1) := by decide +kernel
theorem dX11_isRest_54 : decode cX11_isRest 54 = .ok (.iload_n 2, 1) := by decide +kernel
theorem dX11_isRest_55 : decode cX11_isRest 55 = .ok (.iconst 1, 1) := by decide +kernel
theorem dX11_isRest_56 : decode cX11_isRest 56 = .ok (.iload 5, 2) := by decide +kernel
theorem dX11_isRest_58 : decode cX11_isRest 58 = .ok (.isub, 1) := by decide +kernel
theorem dX11_isRest_59 : decode cX11_isRest 59 = .ok (.iload 4, 2) := by decide +kernel
theorem dX11_isRest_61 : decode cX11_isRest 61 = .ok (.invokestatic 344, 3) := by decide +kernel
theorem dX11_isRest_64 : decode cX11_isRest 64 = .ok (.if_icmp .lt 7, 3) := by decide +kernel
theorem dX11_isRest_67 : decode cX11_isRest 67 = .ok (.iconst 1, 1) := by decide +kernel
theorem dX11_isRest_68 : decode cX11_isRest 68 = .ok (.goto 4, 3) := by decide +kernel
theorem dX11_isRest_71 : decode cX11_isRest 71 = .ok (.iconst 0, 1) := by decide +kernel
theorem dX11_isRest_72 : decode cX11_isRest 72 = .ok (.istore 7, 2) := by decide +kernel
theorem dX11_isRest_74 : decode cX11_isRest 74 = .ok (.iload 6, 2) := by decide +kernel
theorem dX11_isRest_76 : decode cX11_isRest 76 = .ok (.ifCond .eq 12, 3) := by decide +kernel
theorem dX11_isRest_79 : decode cX11_isRest 79 = .ok (.iload 7, 2) := by decide +kernel
theorem dX11_isRest_81 : decode cX11_isRest 81 = .ok (.ifCond .eq 7, 3) := by decide +kernel
theorem dX11_isRest_84 : decode cX11_isRest 84 = .ok (.iconst 1, 1) := by decide +kernel
theorem dX11_isRest_85 : decode cX11_isRest 85 = .ok (.goto 4, 3) := by decide +kernel
theorem dX11_isRest_88 : decode cX11_isRest 88 = .ok (.iconst 0, 1) := by decide +kernel
theorem dX11_isRest_89 : decode cX11_isRest 89 = .ok (.ireturn, 1) := by decide +kernel
theorem dX11_gain_0 : decode cX11_gain 0 = .ok (.iload_n 3, 1) := by decide +kernel
theorem dX11_gain_1 : decode cX11_gain 1 = .ok (.iconst 1, 1) := by decide +kernel
theorem dX11_gain_2 : decode cX11_gain 2 = .ok (.if_icmp .ne 16, 3) := by decide +kernel
theorem dX11_gain_5 : decode cX11_gain 5 = .ok (.iload 4, 2) := by decide +kernel
theorem dX11_gain_7 : decode cX11_gain 7 = .ok (.iconst 1, 1) := by decide +kernel
theorem dX11_gain_8 : decode cX11_gain 8 = .ok (.if_icmp .ne 8, 3) := by decide +kernel
theorem dX11_gain_11 : decode cX11_gain 11 = .ok (.iload_n 0, 1) := by decide +kernel
theorem dX11_gain_12 : decode cX11_gain 12 = .ok (.ineg, 1) := by decide +kernel
theorem dX11_gain_13 : decode cX11_gain 13 = .ok (.goto 4, 3) := by decide +kernel
theorem dX11_gain_16 : decode cX11_gain 16 = .ok (.iload_n 1, 1) := by decide +kernel
theorem dX11_gain_17 : decode cX11_gain 17 = .ok (.ireturn, 1) := by decide +kernel
theorem dX11_gain_18 : decode cX11_gain 18 = .ok (.iload 4, 2) := by decide +kernel
theorem dX11_gain_20 : decode cX11_gain 20 = .ok (.iconst 1, 1) := by decide +kernel
theorem dX11_gain_21 : decode cX11_gain 21 = .ok (.if_icmp .ne 7, 3) := by decide +kernel
theorem dX11_gain_24 : decode cX11_gain 24 = .ok (.iload_n 2, 1) := by decide +kernel
theorem dX11_gain_25 : decode cX11_gain 25 = .ok (.goto 4, 3) := by decide +kernel
theorem dX11_gain_28 : decode cX11_gain 28 = .ok (.iconst 0, 1) := by decide +kernel
theorem dX11_gain_29 : decode cX11_gain 29 = .ok (.ireturn, 1) := by decide +kernel
theorem dX11_doDrawn_0 : decode cX11_doDrawn 0 = .ok (.aload_n 0, 1) := by decide +kernel
theorem dX11_doDrawn_1 : decode cX11_doDrawn 1 = .ok (.getfield 35, 3) := by decide +kernel
theorem dX11_doDrawn_4 : decode cX11_doDrawn 4 = .ok (.getfield 212, 3) := by decide +kernel
theorem dX11_doDrawn_7 : decode cX11_doDrawn 7 = .ok (.ifCond .ne 4, 3) := by decide +kernel
theorem dX11_doDrawn_10 : decode cX11_doDrawn 10 = .ok (.return_, 1) := by decide +kernel
theorem dX11_doDrawn_11 : decode cX11_doDrawn 11 = .ok (.aload_n 0, 1) := by decide +kernel
theorem dX11_doDrawn_12 : decode cX11_doDrawn 12 = .ok (.aload_n 0, 1) := by decide +kernel
theorem dX11_doDrawn_13 : decode cX11_doDrawn 13 = .ok (.getfield 35, 3) := by decide +kernel
theorem dX11_doDrawn_16 : decode cX11_doDrawn 16 = .ok (.getfield 212, 3) := by decide +kernel
theorem dX11_doDrawn_19 : decode cX11_doDrawn 19 = .ok (.invokevirtual 348, 3) := by decide +kernel
theorem dX11_doDrawn_22 : decode cX11_doDrawn 22 = .ok (.istore_n 1, 1) := by decide +kernel
theorem dX11_doDrawn_23 : decode cX11_doDrawn 23 = .ok (.aload_n 0, 1) := by decide +kernel
theorem dX11_doDrawn_24 : decode cX11_doDrawn 24 = .ok (.iconst 5, 1) := by decide +kernel
theorem dX11_doDrawn_25 : decode cX11_doDrawn 25 = .ok (.invokevirtual 348, 3) := by decide +kernel
theorem dX11_doDrawn_28 : decode cX11_doDrawn 28 = .ok (.istore_n 2, 1) := by decide +kernel
theorem dX11_doDrawn_29 : decode cX11_doDrawn 29 = .ok (.iload_n 2, 1) := by decide +kernel
theorem dX11_doDrawn_30 : decode cX11_doDrawn 30 = .ok (.ifCond .ne 22, 3) := by decide +kernel
theorem dX11_doDrawn_33 : decode cX11_doDrawn 33 = .ok (.aload_n 0, 1) := by decide +kernel
theorem dX11_doDrawn_34 : decode cX11_doDrawn 34 = .ok (.getfield 76, 3) := by decide +kernel
theorem dX11_doDrawn_37 : decode cX11_doDrawn 37 = .ok (.iload_n 1, 1) := by decide +kernel
theorem dX11_doDrawn_38 : decode cX11_doDrawn 38 = .ok (.aload_n 0, 1) := by decide +kernel
theorem dX11_doDrawn_39 : decode cX11_doDrawn 39 = .ok (.bipush 9, 2) := by decide +kernel
theorem dX11_doDrawn_41 : decode cX11_doDrawn 41 = .ok (.invokevirtual 348, 3) := by decide +kernel
theorem dX11_doDrawn_44 : decode cX11_doDrawn 44 = .ok (.iconst 1, 1) := by decide +kernel
theorem dX11_doDrawn_45 : decode cX11_doDrawn 45 = .ok (.iadd, 1) := by decide +kernel
theorem dX11_doDrawn_46 : decode cX11_doDrawn 46 = .ok (.invokevirtual 171, 3) := by decide +kernel
theorem dX11_doDrawn_49 : decode cX11_doDrawn 49 = .ok (.goto 34, 3) := by decide +kernel
theorem dX11_doDrawn_52 : decode cX11_doDrawn 52 = .ok (.iload_n 2, 1) := by decide +kernel
theorem dX11_doDrawn_53 : decode cX11_doDrawn 53 = .ok (.iconst 1, 1) := by decide +kernel
theorem dX11_doDrawn_54 : decode cX11_doDrawn 54 = .ok (.if_icmp .ne 15, 3) := by decide +kernel
theorem dX11_doDrawn_57 : decode cX11_doDrawn 57 = .ok (.aload_n 0, 1) := by decide +kernel
theorem dX11_doDrawn_58 : decode cX11_doDrawn 58 = .ok (.getfield 76, 3) := by decide +kernel
theorem dX11_doDrawn_61 : decode cX11_doDrawn 61 = .ok (.iload_n 1, 1) := by decide +kernel
theorem dX11_doDrawn_62 : decode cX11_doDrawn 62 = .ok (.invokevirtual 175, 3) := by decide +kernel
theorem dX11_doDrawn_65 : decode cX11_doDrawn 65 = .ok (.pop, 1) := by decide +kernel
theorem dX11_doDrawn_66 : decode cX11_doDrawn 66 = .ok (.goto 17, 3) := by decide +kernel
theorem dX11_doDrawn_69 : decode cX11_doDrawn 69 = .ok (.iload_n 2, 1) := by decide +kernel
theorem dX11_doDrawn_70 : decode cX11_doDrawn 70 = .ok (.iconst 2, 1) := by decide +kernel
theorem dX11_doDrawn_71 : decode cX11_doDrawn 71 = .ok (.if_icmp .ne 12, 3) := by decide +kernel
theorem dX11_doDrawn_74 : decode cX11_doDrawn 74 = .ok (.aload_n 0, 1) := by decide +kernel
theorem dX11_doDrawn_75 : decode cX11_doDrawn 75 = .ok (.getfield 76, 3) := by decide +kernel
theorem dX11_doDrawn_78 : decode cX11_doDrawn 78 = .ok (.iload_n 1, 1) := by decide +kernel
theorem dX11_doDrawn_79 : decode cX11_doDrawn 79 = .ok (.invokevirtual 178, 3) := by decide +kernel
theorem dX11_doDrawn_82 : decode cX11_doDrawn 82 = .ok (.pop, 1) := by decide +kernel
theorem dX11_doDrawn_83 : decode cX11_doDrawn 83 = .ok (.return_, 1) := by decide +kernel
theorem dX11_draw_0 : decode cX11_draw 0 = .ok (.aload_n 0, 1) := by decide +kernel
theorem dX11_draw_1 : decode cX11_draw 1 = .ok (.aload_n 0, 1) := by decide +kernel
theorem dX11_draw_2 : decode cX11_draw 2 = .ok (.getfield 300, 3) := by decide +kernel
theorem dX11_draw_5 : decode cX11_draw 5 = .ok (.ldc2_w 351, 3) := by decide +kernel
theorem dX11_draw_8 : decode cX11_draw 8 = .ok (.lmul, 1) := by decide +kernel
theorem dX11_draw_9 : decode cX11_draw 9 = .ok (.ldc2_w 353, 3) := by decide +kernel
theorem dX11_draw_12 : decode cX11_draw 12 = .ok (.ladd, 1) := by decide +kernel
theorem dX11_draw_13 : decode cX11_draw 13 = .ok (.ldc2_w 355, 3) := by decide +kernel
theorem dX11_draw_16 : decode cX11_draw 16 = .ok (.lrem, 1) := by decide +kernel
theorem dX11_draw_17 : decode cX11_draw 17 = .ok (.putfield 300, 3) := by decide +kernel
theorem dX11_draw_20 : decode cX11_draw 20 = .ok (.aload_n 0, 1) := by decide +kernel
theorem dX11_draw_21 : decode cX11_draw 21 = .ok (.getfield 300, 3) := by decide +kernel
theorem dX11_draw_24 : decode cX11_draw 24 = .ok (.ldc2_w 357, 3) := by decide +kernel
theorem dX11_draw_27 : decode cX11_draw 27 = .ok (.ldiv, 1) := by decide +kernel
theorem dX11_draw_28 : decode cX11_draw 28 = .ok (.l2i, 1) := by decide +kernel
theorem dX11_draw_29 : decode cX11_draw 29 = .ok (.istore_n 2, 1) := by decide +kernel
theorem dX11_draw_30 : decode cX11_draw 30 = .ok (.iload_n 1, 1) := by decide +kernel
theorem dX11_draw_31 : decode cX11_draw 31 = .ok (.ifCond .le 9, 3) := by decide +kernel
theorem dX11_draw_34 : decode cX11_draw 34 = .ok (.iload_n 2, 1) := by decide +kernel
theorem dX11_draw_35 : decode cX11_draw 35 = .ok (.iload_n 1, 1) := by decide +kernel
theorem dX11_draw_36 : decode cX11_draw 36 = .ok (.irem, 1) := by decide +kernel
theorem dX11_draw_37 : decode cX11_draw 37 = .ok (.goto 4, 3) := by decide +kernel
theorem dX11_draw_40 : decode cX11_draw 40 = .ok (.iconst 0, 1) := by decide +kernel
theorem dX11_draw_41 : decode cX11_draw 41 = .ok (.ireturn, 1) := by decide +kernel
theorem dX11_emptyRow_0 : decode cX11_emptyRow 0 = .ok (.iconst 0, 1) := by decide +kernel
theorem dX11_emptyRow_1 : decode cX11_emptyRow 1 = .ok (.istore_n 1, 1) := by decide +kernel
theorem dX11_emptyRow_2 : decode cX11_emptyRow 2 = .ok (.iload_n 1, 1) := by decide +kernel
theorem dX11_emptyRow_3 : decode cX11_emptyRow 3 = .ok (.bipush 7, 2) := by decide +kernel
theorem dX11_emptyRow_5 : decode cX11_emptyRow 5 = .ok (.if_icmp .ge 16, 3) := by decide +kernel
theorem dX11_emptyRow_8 : decode cX11_emptyRow 8 = .ok (.aload_n 0, 1) := by decide +kernel
theorem dX11_emptyRow_9 : decode cX11_emptyRow 9 = .ok (.getfield 90, 3) := by decide +kernel
theorem dX11_emptyRow_12 : decode cX11_emptyRow 12 = .ok (.iload_n 1, 1) := by decide +kernel
theorem dX11_emptyRow_13 : decode cX11_emptyRow 13 = .ok (.iconst 0, 1) := by decide +kernel
theorem dX11_emptyRow_14 : decode cX11_emptyRow 14 = .ok (.iastore, 1) := by decide +kernel
theorem dX11_emptyRow_15 : decode cX11_emptyRow 15 = .ok (.iinc 1 1, 3) := by decide +kernel
theorem dX11_emptyRow_18 : decode cX11_emptyRow 18 = .ok (.goto (-16), 3) := by decide +kernel
theorem dX11_emptyRow_21 : decode cX11_emptyRow 21 = .ok (.return_, 1) := by decide +kernel
theorem dX11_addBitsToRow_0 : decode cX11_addBitsToRow 0 = .ok (.iconst 0, 1) := by decide +kernel
theorem dX11_addBitsToRow_1 : decode cX11_addBitsToRow 1 = .ok (.istore_n 2, 1) := by decide +kernel
theorem dX11_addBitsToRow_2 : decode cX11_addBitsToRow 2 = .ok (.iload_n 2, 1) := by decide +kernel
theorem dX11_addBitsToRow_3 : decode cX11_addBitsToRow 3 = .ok (.bipush 7, 2) := by decide +kernel
theorem dX11_addBitsToRow_5 : decode cX11_addBitsToRow 5 = .ok (.if_icmp .ge 23, 3) := by decide +kernel
theorem dX11_addBitsToRow_8 : decode cX11_addBitsToRow 8 = .ok (.aload_n 0, 1) := by decide +kernel
theorem dX11_addBitsToRow_9 : decode cX11_addBitsToRow 9 = .ok (.getfield 90, 3) := by decide +kernel
theorem dX11_addBitsToRow_12 : decode cX11_addBitsToRow 12 = .ok (.iload_n 2, 1) := by decide +kernel
theorem dX11_addBitsToRow_13 : decode cX11_addBitsToRow 13 = .ok (.dup2, 1) := by decide +kernel
theorem dX11_addBitsToRow_14 : decode cX11_addBitsToRow 14 = .ok (.iaload, 1) := by decide +kernel
theorem dX11_addBitsToRow_15 : decode cX11_addBitsToRow 15 = .ok (.iload_n 1, 1) := by decide +kernel
theorem dX11_addBitsToRow_16 : decode cX11_addBitsToRow 16 = .ok (.iload_n 2, 1) := by decide +kernel
theorem dX11_addBitsToRow_17 : decode cX11_addBitsToRow 17 = .ok (.ishr, 1) := by decide +kernel
theorem dX11_addBitsToRow_18 : decode cX11_addBitsToRow 18 = .ok (.iconst 1, 1) := by decide +kernel
theorem dX11_addBitsToRow_19 : decode cX11_addBitsToRow 19 = .ok (.iand, 1) := by decide +kernel
theorem dX11_addBitsToRow_20 : decode cX11_addBitsToRow 20 = .ok (.iadd, 1) := by decide +kernel
theorem dX11_addBitsToRow_21 : decode cX11_addBitsToRow 21 = .ok (.iastore, 1) := by decide +kernel
theorem dX11_addBitsToRow_22 : decode cX11_addBitsToRow 22 = .ok (.iinc 2 1, 3) := by decide +kernel
theorem dX11_addBitsToRow_25 : decode cX11_addBitsToRow 25 = .ok (.goto (-23), 3) := by decide +kernel
theorem dX11_addBitsToRow_28 : decode cX11_addBitsToRow 28 = .ok (.return_, 1) := by decide +kernel
theorem dX11_greatestOfRow_0 : decode cX11_greatestOfRow 0 = .ok (.iconst (-1), 1) := by decide +kernel
theorem dX11_greatestOfRow_1 : decode cX11_greatestOfRow 1 = .ok (.istore_n 2, 1) := by decide +kernel
theorem dX11_greatestOfRow_2 : decode cX11_greatestOfRow 2 = .ok (.iconst 0, 1) := by decide +kernel
theorem dX11_greatestOfRow_3 : decode cX11_greatestOfRow 3 = .ok (.istore_n 3, 1) := by decide +kernel
theorem dX11_greatestOfRow_4 : decode cX11_greatestOfRow 4 = .ok (.iload_n 3, 1) := by decide +kernel
theorem dX11_greatestOfRow_5 : decode cX11_greatestOfRow 5 = .ok (.iload_n 1, 1) := by decide +kernel
theorem dX11_greatestOfRow_6 : decode cX11_greatestOfRow 6 = .ok (.if_icmp .ge 37, 3) := by decide +kernel
theorem dX11_greatestOfRow_9 : decode cX11_greatestOfRow 9 = .ok (.iload_n 3, 1) := by decide +kernel
theorem dX11_greatestOfRow_10 : decode cX11_greatestOfRow 10 = .ok (.bipush 7, 2) := by decide +kernel
theorem dX11_greatestOfRow_12 : decode cX11_greatestOfRow 12 = .ok (.if_icmp .ge 31, 3) := by decide +kernel
theorem dX11_greatestOfRow_15 : decode cX11_greatestOfRow 15 = .ok (.iload_n 2, 1) := by decide +kernel
theorem dX11_greatestOfRow_16 : decode cX11_greatestOfRow 16 = .ok (.iconst (-1), 1) := by decide +kernel
theorem dX11_greatestOfRow_17 : decode cX11_greatestOfRow 17 = .ok (.if_icmp .eq 18, 3) := by decide +kernel
theorem dX11_greatestOfRow_20 : decode cX11_greatestOfRow 20 = .ok (.aload_n 0, 1) := by decide +kernel
theorem dX11_greatestOfRow_21 : decode cX11_greatestOfRow 21 = .ok (.getfield 90, 3) := by decide +kernel
theorem dX11_greatestOfRow_24 : decode cX11_greatestOfRow 24 = .ok (.iload_n 3, 1) := by decide +kernel
theorem dX11_greatestOfRow_25 : decode cX11_greatestOfRow 25 = .ok (.iaload, 1) := by decide +kernel
theorem dX11_greatestOfRow_26 : decode cX11_greatestOfRow 26 = .ok (.aload_n 0, 1) := by decide +kernel
theorem dX11_greatestOfRow_27 : decode cX11_greatestOfRow 27 = .ok (.getfield 90, 3) := by decide +kernel
theorem dX11_greatestOfRow_30 : decode cX11_greatestOfRow 30 = .ok (.iload_n 2, 1) := by decide +kernel
theorem dX11_greatestOfRow_31 : decode cX11_greatestOfRow 31 = .ok (.iaload, 1) := by decide +kernel
theorem dX11_greatestOfRow_32 : decode cX11_greatestOfRow 32 = .ok (.if_icmp .le 5, 3) := by decide +kernel
theorem dX11_greatestOfRow_35 : decode cX11_greatestOfRow 35 = .ok (.iload_n 3, 1) := by decide +kernel
theorem dX11_greatestOfRow_36 : decode cX11_greatestOfRow 36 = .ok (.istore_n 2, 1) := by decide +kernel
theorem dX11_greatestOfRow_37 : decode cX11_greatestOfRow 37 = .ok (.iinc 3 1, 3) := by decide +kernel
theorem dX11_greatestOfRow_40 : decode cX11_greatestOfRow 40 = .ok (.goto (-36), 3) := by decide +kernel
theorem dX11_greatestOfRow_43 : decode cX11_greatestOfRow 43 = .ok (.iload_n 2, 1) := by decide +kernel
theorem dX11_greatestOfRow_44 : decode cX11_greatestOfRow 44 = .ok (.ireturn, 1) := by decide +kernel
theorem dX12_init_0 : decode cX12_init 0 = .ok (.aload_n 0, 1) := by decide +kernel
theorem dX12_init_1 : decode cX12_init 1 = .ok (.invokespecial 1, 3) := by decide +kernel
theorem dX12_init_4 : decode cX12_init 4 = .ok (.aload_n 0, 1) := by decide +kernel
theorem dX12_init_5 : decode cX12_init 5 = .ok (.sipush 1000, 3) := by decide +kernel
theorem dX12_init_8 : decode cX12_init 8 = .ok (.newarray .int, 2) := by decide +kernel
theorem dX12_init_10 : decode cX12_init 10 = .ok (.putfield 7, 3) := by decide +kernel
theorem dX12_init_13 : decode cX12_init 13 = .ok (.aload_n 0, 1) := by decide +kernel
theorem dX12_init_14 : decode cX12_init 14 = .ok (.bipush 6, 2) := by decide +kernel
theorem dX12_init_16 : decode cX12_init 16 = .ok (.newarray .int, 2) := by decide +kernel
theorem dX12_init_18 : decode cX12_init 18 = .ok (.putfield 13, 3) := by decide +kernel
theorem dX12_init_21 : decode cX12_init 21 = .ok (.aload_n 0, 1) := by decide +kernel
theorem dX12_init_22 : decode cX12_init 22 = .ok (.bipush 14, 2) := by decide +kernel
theorem dX12_init_24 : decode cX12_init 24 = .ok (.newarray .long, 2) := by decide +kernel
theorem dX12_init_26 : decode cX12_init 26 = .ok (.putfield 16, 3) := by decide +kernel
theorem dX12_init_29 : decode cX12_init 29 = .ok (.aload_n 0, 1) := by decide +kernel
theorem dX12_init_30 : decode cX12_init 30 = .ok (.bipush 12, 2) := by decide +kernel
theorem dX12_init_32 : decode cX12_init 32 = .ok (.newarray .long, 2) := by decide +kernel
theorem dX12_init_34 : decode cX12_init 34 = .ok (.putfield 20, 3) := by decide +kernel
theorem dX12_init_37 : decode cX12_init 37 = .ok (.aload_n 0, 1) := by decide +kernel
theorem dX12_init_38 : decode cX12_init 38 = .ok (.bipush 14, 2) := by decide +kernel
theorem dX12_init_40 : decode cX12_init 40 = .ok (.newarray .int, 2) := by decide +kernel
theorem dX12_init_42 : decode cX12_init 42 = .ok (.putfield 23, 3) := by decide +kernel
theorem dX12_init_45 : decode cX12_init 45 = .ok (.aload_n 0, 1) := by decide +kernel
theorem dX12_init_46 : decode cX12_init 46 = .ok (.bipush 14, 2) := by decide +kernel
theorem dX12_init_48 : decode cX12_init 48 = .ok (.newarray .int, 2) := by decide +kernel
theorem dX12_init_50 : decode cX12_init 50 = .ok (.putfield 26, 3) := by decide +kernel
theorem dX12_init_53 : decode cX12_init 53 = .ok (.aload_n 0, 1) := by decide +kernel
theorem dX12_init_54 : decode cX12_init 54 = .ok (.bipush 14, 2) := by decide +kernel
theorem dX12_init_56 : decode cX12_init 56 = .ok (.newarray .int, 2) := by decide +kernel
theorem dX12_init_58 : decode cX12_init 58 = .ok (.putfield 29, 3) := by decide +kernel
theorem dX12_init_61 : decode cX12_init 61 = .ok (.aload_n 0, 1) := by decide +kernel
theorem dX12_init_62 : decode cX12_init 62 = .ok (.bipush 14, 2) := by decide +kernel
theorem dX12_init_64 : decode cX12_init 64 = .ok (.newarray .int, 2) := by decide +kernel
theorem dX12_init_66 : decode cX12_init 66 = .ok (.putfield 32, 3) := by decide +kernel
theorem dX12_init_69 : decode cX12_init 69 = .ok (.aload_n 0, 1) := by decide +kernel
theorem dX12_init_70 : decode cX12_init 70 = .ok (.bipush 14, 2) := by decide +kernel
theorem dX12_init_72 : decode cX12_init 72 = .ok (.newarray .int, 2) := by decide +kernel
theorem dX12_init_74 : decode cX12_init 74 = .ok (.putfield 35, 3) := by decide +kernel
theorem dX12_init_77 : decode cX12_init 77 = .ok (.aload_n 0, 1) := by decide +kernel
theorem dX12_init_78 : decode cX12_init 78 = .ok (.bipush 12, 2) := by decide +kernel
theorem dX12_init_80 : decode cX12_init 80 = .ok (.newarray .int, 2) := by decide +kernel
theorem dX12_init_82 : decode cX12_init 82 = .ok (.putfield 38, 3) := by decide +kernel
theorem dX12_init_85 : decode cX12_init 85 = .ok (.aload_n 0, 1) := by decide +kernel
theorem dX12_init_86 : decode cX12_init 86 = .ok (.bipush 24, 2) := by decide +kernel
theorem dX12_init_88 : decode cX12_init 88 = .ok (.newarray .int, 2) := by decide +kernel
theorem dX12_init_90 : decode cX12_init 90 = .ok (.putfield 41, 3) := by decide +kernel
theorem dX12_init_93 : decode cX12_init 93 = .ok (.aload_n 0, 1) := by decide +kernel
theorem dX12_init_94 : decode cX12_init 94 = .ok (.iconst 2, 1) := by decide +kernel
theorem dX12_init_95 : decode cX12_init 95 = .ok (.newarray .int, 2) := by decide +kernel
theorem dX12_init_97 : decode cX12_init 97 = .ok (.putfield 44, 3) := by decide +kernel
theorem dX12_init_100 : decode cX12_init 100 = .ok (.aload_n 0, 1) := by decide +kernel
theorem dX12_init_101 : decode cX12_init 101 = .ok (.iconst 2, 1) := by decide +kernel
theorem dX12_init_102 : decode cX12_init 102 = .ok (.newarray .int, 2) := by decide +kernel
theorem dX12_init_104 : decode cX12_init 104 = .ok (.putfield 47, 3) := by decide +kernel
theorem dX12_init_107 : decode cX12_init 107 = .ok (.aload_n 0, 1) := by decide +kernel
theorem dX12_init_108 : decode cX12_init 108 = .ok (.sipush 2000, 3) := by decide +kernel
theorem dX12_init_111 : decode cX12_init 111 = .ok (.newarray .int, 2) := by decide +kernel
theorem dX12_init_113 : decode cX12_init 113 = .ok (.putfield 50, 3) := by decide +kernel
theorem dX12_init_116 : decode cX12_init 116 = .ok (.aload_n 0, 1) := by decide +kernel
theorem dX12_init_117 : decode cX12_init 117 = .ok (.bipush 7, 2) := by decide +kernel
theorem dX12_init_119 : decode cX12_init 119 = .ok (.newarray .int, 2) := by decide +kernel
theorem dX12_init_121 : decode cX12_init 121 = .ok (.putfield 53, 3) := by decide +kernel
theorem dX12_init_124 : decode cX12_init 124 = .ok (.aload_n 0, 1) := by decide +kernel
theorem dX12_init_125 : decode cX12_init 125 = .ok (.bipush 7, 2) := by decide +kernel
theorem dX12_init_127 : decode cX12_init 127 = .ok (.newarray .boolean, 2) := by decide +kernel
theorem dX12_init_129 : decode cX12_init 129 = .ok (.putfield 56, 3) := by decide +kernel
theorem dX12_init_132 : decode cX12_init 132 = .ok (.aload_n 0, 1) := by decide +kernel
theorem dX12_init_133 : decode cX12_init 133 = .ok (.bipush 7, 2) := by decide +kernel
theorem dX12_init_135 : decode cX12_init 135 = .ok (.newarray .int, 2) := by decide +kernel
theorem dX12_init_137 : decode cX12_init 137 = .ok (.putfield 60, 3) := by decide +kernel
theorem dX12_init_140 : decode cX12_init 140 = .ok (.aload_n 0, 1) := by decide +kernel
theorem dX12_init_141 : decode cX12_init 141 = .ok (.bipush 7, 2) := by decide +kernel
theorem dX12_init_143 : decode cX12_init 143 = .ok (.newarray .int, 2) := by decide +kernel
theorem dX12_init_145 : decode cX12_init 145 = .ok (.putfield 63, 3) := by decide +kernel
theorem dX12_init_148 : decode cX12_init 148 = .ok (.aload_n 0, 1) := by decide +kernel
theorem dX12_init_149 : decode cX12_init 149 = .ok (.bipush 7, 2) := by decide +kernel
theorem dX12_init_151 : decode cX12_init 151 = .ok (.newarray .int, 2) := by decide +kernel
theorem dX12_init_153 : decode cX12_init 153 = .ok (.putfield 66, 3) := by decide +kernel
theorem dX12_init_156 : decode cX12_init 156 = .ok (.aload_n 0, 1) := by decide +kernel
theorem dX12_init_157 : decode cX12_init 157 = .ok (.bipush 7, 2) := by decide +kernel
theorem dX12_init_159 : decode cX12_init 159 = .ok (.newarray .int, 2) := by decide +kernel
theorem dX12_init_161 : decode cX12_init 161 = .ok (.putfield 69, 3) := by decide +kernel
theorem dX12_init_164 : decode cX12_init 164 = .ok (.aload_n 0, 1) := by decide +kernel
theorem dX12_init_165 : decode cX12_init 165 = .ok (.bipush 7, 2) := by decide +kernel
theorem dX12_init_167 : decode cX12_init 167 = .ok (.newarray .int, 2) := by decide +kernel
theorem dX12_init_169 : decode cX12_init 169 = .ok (.putfield 72, 3) := by decide +kernel
theorem dX12_init_172 : decode cX12_init 172 = .ok (.aload_n 0, 1) := by decide +kernel
theorem dX12_init_173 : decode cX12_init 173 = .ok (.bipush 7, 2) := by decide +kernel
theorem dX12_init_175 : decode cX12_init 175 = .ok (.newarray .int, 2) := by decide +kernel
theorem dX12_init_177 : decode cX12_init 177 = .ok (.putfield 75, 3) := by decide +kernel
theorem dX12_init_180 : decode cX12_init 180 = .ok (.aload_n 0, 1) := by decide +kernel
theorem dX12_init_181 : decode cX12_init 181 = .ok (.bipush 7, 2) := by decide +kernel
theorem dX12_init_183 : decode cX12_init 183 = .ok (.newarray .int, 2) := by decide +kernel
theorem dX12_init_185 : decode cX12_init 185 = .ok (.putfield 78, 3) := by decide +kernel
theorem dX12_init_188 : decode cX12_init 188 = .ok (.aload_n 0, 1) := by decide +kernel
theorem dX12_init_189 : decode cX12_init 189 = .ok (.bipush 7, 2) := by decide +kernel
theorem dX12_init_191 : decode cX12_init 191 = .ok (.newarray .int, 2) := by decide +kernel
theorem dX12_init_193 : decode cX12_init 193 = .ok (.putfield 81, 3) := by decide +kernel
theorem dX12_init_196 : decode cX12_init 196 = .ok (.aload_n 0, 1) := by decide +kernel
theorem dX12_init_197 : decode cX12_init 197 = .ok (.bipush 7, 2) := by decide +kernel
theorem dX12_init_199 : decode cX12_init 199 = .ok (.newarray .int, 2) := by decide +kernel
theorem dX12_init_201 : decode cX12_init 201 = .ok (.putfield 84, 3) := by decide +kernel
theorem dX12_init_204 : decode cX12_init 204 = .ok (.aload_n 0, 1) := by decide +kernel
theorem dX12_init_205 : decode cX12_init 205 = .ok (.bipush 20, 2) := by decide +kernel
theorem dX12_init_207 : decode cX12_init 207 = .ok (.newarray .int, 2) := by decide +kernel
theorem dX12_init_209 : decode cX12_init 209 = .ok (.putfield 87, 3) := by decide +kernel
theorem dX12_init_212 : decode cX12_init 212 = .ok (.aload_n 0, 1) := by decide +kernel
theorem dX12_init_213 : decode cX12_init 213 = .ok (.bipush 6, 2) := by decide +kernel
theorem dX12_init_215 : decode cX12_init 215 = .ok (.newarray .int, 2) := by decide +kernel
theorem dX12_init_217 : decode cX12_init 217 = .ok (.putfield 90, 3) := by decide +kernel
theorem dX12_init_220 : decode cX12_init 220 = .ok (.aload_n 0, 1) := by decide +kernel
theorem dX12_init_221 : decode cX12_init 221 = .ok (.sipush 240, 3) := by decide +kernel
theorem dX12_init_224 : decode cX12_init 224 = .ok (.newarray .int, 2) := by decide +kernel
theorem dX12_init_226 : decode cX12_init 226 = .ok (.putfield 93, 3) := by decide +kernel
theorem dX12_init_229 : decode cX12_init 229 = .ok (.aload_n 0, 1) := by decide +kernel
theorem dX12_init_230 : decode cX12_init 230 = .ok (.sipush 240, 3) := by decide +kernel
theorem dX12_init_233 : decode cX12_init 233 = .ok (.newarray .int, 2) := by decide +kernel
theorem dX12_init_235 : decode cX12_init 235 = .ok (.putfield 96, 3) := by decide +kernel
theorem dX12_init_238 : decode cX12_init 238 = .ok (.aload_n 0, 1) := by decide +kernel
theorem dX12_init_239 : decode cX12_init 239 = .ok (.sipush 240, 3) := by decide +kernel
theorem dX12_init_242 : decode cX12_init 242 = .ok (.newarray .int, 2) := by decide +kernel
theorem dX12_init_244 : decode cX12_init 244 = .ok (.putfield 99, 3) := by decide +kernel
theorem dX12_init_247 : decode cX12_init 247 = .ok (.aload_n 0, 1) := by decide +kernel
theorem dX12_init_248 : decode cX12_init 248 = .ok (.bipush 6, 2) := by decide +kernel
theorem dX12_init_250 : decode cX12_init 250 = .ok (.newarray .int, 2) := by decide +kernel
theorem dX12_init_252 : decode cX12_init 252 = .ok (.putfield 102, 3) := by decide +kernel
theorem dX12_init_255 : decode cX12_init 255 = .ok (.aload_n 0, 1) := by decide +kernel
theorem dX12_init_256 : decode cX12_init 256 = .ok (.bipush 42, 2) := by decide +kernel
theorem dX12_init_258 : decode cX12_init 258 = .ok (.newarray .int, 2) := by decide +kernel
theorem dX12_init_260 : decode cX12_init 260 = .ok (.putfield 105, 3) := by decide +kernel
theorem dX12_init_263 : decode cX12_init 263 = .ok (.aload_n 0, 1) := by decide +kernel
theorem dX12_init_264 : decode cX12_init 264 = .ok (.iconst 5, 1) := by decide +kernel
theorem dX12_init_265 : decode cX12_init 265 = .ok (.newarray .int, 2) := by decide +kernel
theorem dX12_init_267 : decode cX12_init 267 = .ok (.putfield 108, 3) := by decide +kernel
theorem dX12_init_270 : decode cX12_init 270 = .ok (.aload_n 0, 1) := by decide +kernel
theorem dX12_init_271 : decode cX12_init 271 = .ok (.bipush 40, 2) := by decide +kernel
theorem dX12_init_273 : decode cX12_init 273 = .ok (.newarray .int, 2) := by decide +kernel
theorem dX12_init_275 : decode cX12_init 275 = .ok (.putfield 111, 3) := by decide +kernel
theorem dX12_init_278 : decode cX12_init 278 = .ok (.aload_n 0, 1) := by decide +kernel
theorem dX12_init_279 : decode cX12_init 279 = .ok (.bipush 40, 2) := by decide +kernel
theorem dX12_init_281 : decode cX12_init 281 = .ok (.newarray .boolean, 2) := by decide +kernel
theorem dX12_init_283 : decode cX12_init 283 = .ok (.putfield 114, 3) := by decide +kernel
theorem dX12_init_286 : decode cX12_init 286 = .ok (.aload_n 0, 1) := by decide +kernel
theorem dX12_init_287 : decode cX12_init 287 = .ok (.bipush 59, 2) := by decide +kernel
theorem dX12_init_289 : decode cX12_init 289 = .ok (.newarray .int, 2) := by decide +kernel
theorem dX12_init_291 : decode cX12_init 291 = .ok (.putfield 117, 3) := by decide +kernel
theorem dX12_init_294 : decode cX12_init 294 = .ok (.aload_n 0, 1) := by decide +kernel
theorem dX12_init_295 : decode cX12_init 295 = .ok (.bipush 59, 2) := by decide +kernel
theorem dX12_init_297 : decode cX12_init 297 = .ok (.newarray .int, 2) := by decide +kernel
theorem dX12_init_299 : decode cX12_init 299 = .ok (.putfield 120, 3) := by decide +kernel
theorem dX12_init_302 : decode cX12_init 302 = .ok (.aload_n 0, 1) := by decide +kernel
theorem dX12_init_303 : decode cX12_init 303 = .ok (.bipush 59, 2) := by decide +kernel
theorem dX12_init_305 : decode cX12_init 305 = .ok (.newarray .int, 2) := by decide +kernel
theorem dX12_init_307 : decode cX12_init 307 = .ok (.putfield 123, 3) := by decide +kernel
theorem dX12_init_310 : decode cX12_init 310 = .ok (.aload_n 0, 1) := by decide +kernel
theorem dX12_init_311 : decode cX12_init 311 = .ok (.sipush 236, 3) := by decide +kernel
theorem dX12_init_314 : decode cX12_init 314 = .ok (.newarray .int, 2) := by decide +kernel
theorem dX12_init_316 : decode cX12_init 316 = .ok (.putfield 126, 3) := by decide +kernel
theorem dX12_init_319 : decode cX12_init 319 = .ok (.aload_n 0, 1) := by decide +kernel
theorem dX12_init_320 : decode cX12_init 320 = .ok (.sipush 944, 3) := by decide +kernel
theorem dX12_init_323 : decode cX12_init 323 = .ok (.newarray .int, 2) := by decide +kernel
theorem dX12_init_325 : decode cX12_init 325 = .ok (.putfield 129, 3) := by decide +kernel
theorem dX12_init_328 : decode cX12_init 328 = .ok (.aload_n 0, 1) := by decide +kernel
theorem dX12_init_329 : decode cX12_init 329 = .ok (.iconst 4, 1) := by decide +kernel
theorem dX12_init_330 : decode cX12_init 330 = .ok (.newarray .boolean, 2) := by decide +kernel
theorem dX12_init_332 : decode cX12_init 332 = .ok (.putfield 132, 3) := by decide +kernel
theorem dX12_init_335 : decode cX12_init 335 = .ok (.aload_n 0, 1) := by decide +kernel
theorem dX12_init_336 : decode cX12_init 336 = .ok (.bipush 7, 2) := by decide +kernel
theorem dX12_init_338 : decode cX12_init 338 = .ok (.newarray .int, 2) := by decide +kernel
theorem dX12_init_340 : decode cX12_init 340 = .ok (.putfield 135, 3) := by decide +kernel
theorem dX12_init_343 : decode cX12_init 343 = .ok (.aload_n 0, 1) := by decide +kernel
theorem dX12_init_344 : decode cX12_init 344 = .ok (.bipush 7, 2) := by decide +kernel
theorem dX12_init_346 : decode cX12_init 346 = .ok (.newarray .int, 2) := by decide +kernel
theorem dX12_init_348 : decode cX12_init 348 = .ok (.putfield 138, 3) := by decide +kernel
theorem dX12_init_351 : decode cX12_init 351 = .ok (.aload_n 0, 1) := by decide +kernel
theorem dX12_init_352 : decode cX12_init 352 = .ok (.bipush 10, 2) := by decide +kernel
theorem dX12_init_354 : decode cX12_init 354 = .ok (.newarray .int, 2) := by decide +kernel
theorem dX12_init_356 : decode cX12_init 356 = .ok (.putfield 141, 3) := by decide +kernel
theorem dX12_init_359 : decode cX12_init 359 = .ok (.aload_n 0, 1) := by decide +kernel
theorem dX12_init_360 : decode cX12_init 360 = .ok (.invokevirtual 144, 3) := by decide +kernel
theorem dX12_init_363 : decode cX12_init 363 = .ok (.return_, 1) := by decide +kernel
theorem dX12_thrown_0 : decode cX12_thrown 0 = .ok (.aload_n 0, 1) := by decide +kernel
theorem dX12_thrown_1 : decode cX12_thrown 1 = .ok (.getfield 147, 3) := by decide +kernel
theorem dX12_thrown_4 : decode cX12_thrown 4 = .ok (.ireturn, 1) := by decide +kernel
theorem dX12_within_0 : decode cX12_within 0 = .ok (.iload_n 0, 1) := by decide +kernel
theorem dX12_within_1 : decode cX12_within 1 = .ok (.iload_n 1, 1) := by decide +kernel
theorem dX12_within_2 : decode cX12_within 2 = .ok (.if_icmp .lt 12, 3) := by decide +kernel
theorem dX12_within_5 : decode cX12_within 5 = .ok (.iload_n 0, 1) := by decide +kernel
theorem dX12_within_6 : decode cX12_within 6 = .ok (.iload_n 2, 1) := by decide +kernel
theorem dX12_within_7 : decode cX12_within 7 = .ok (.if_icmp .gt 7, 3) := by decide +kernel
theorem dX12_within_10 : decode cX12_within 10 = .ok (.iconst 1, 1) := by decide +kernel
theorem dX12_within_11 : decode cX12_within 11 = .ok (.goto 4, 3) := by decide +kernel
theorem dX12_within_14 : decode cX12_within 14 = .ok (.iconst 0, 1) := by decide +kernel
theorem dX12_within_15 : decode cX12_within 15 = .ok (.ireturn, 1) := by decide +kernel
theorem dX12_bits_0 : decode cX12_bits 0 = .ok (.iconst 0, 1) := by decide +kernel
theorem dX12_bits_1 : decode cX12_bits 1 = .ok (.istore_n 1, 1) := by decide +kernel
theorem dX12_bits_2 : decode cX12_bits 2 = .ok (.iconst 0, 1) := by decide +kernel
theorem dX12_bits_3 : decode cX12_bits 3 = .ok (.istore_n 2, 1) := by decide +kernel
theorem dX12_bits_4 : decode cX12_bits 4 = .ok (.iload_n 2, 1) := by decide +kernel
theorem dX12_bits_5 : decode cX12_bits 5 = .ok (.bipush 10, 2) := by decide +kernel
theorem dX12_bits_7 : decode cX12_bits 7 = .ok (.if_icmp .ge 17, 3) := by decide +kernel
theorem dX12_bits_10 : decode cX12_bits 10 = .ok (.iload_n 1, 1) := by decide +kernel
theorem dX12_bits_11 : decode cX12_bits 11 = .ok (.iload_n 0, 1) := by decide +kernel
theorem dX12_bits_12 : decode cX12_bits 12 = .ok (.iload_n 2, 1) := by decide +kernel
theorem dX12_bits_13 : decode cX12_bits 13 = .ok (.ishr, 1) := by decide +kernel
theorem dX12_bits_14 : decode cX12_bits 14 = .ok (.iconst 1, 1) := by decide +kernel
theorem dX12_bits_15 : decode cX12_bits 15 = .ok (.iand, 1) := by decide +kernel
theorem dX12_bits_16 : decode cX12_bits 16 = .ok (.iadd, 1) := by decide +kernel
theorem dX12_bits_17 : decode cX12_bits 17 = .ok (.istore_n 1, 1) := by decide +kernel
theorem dX12_bits_18 : decode cX12_bits 18 = .ok (.iinc 2 1, 3) := by decide +kernel
theorem dX12_bits_21 : decode cX12_bits 21 = .ok (.goto (-17), 3) := by decide +kernel
theorem dX12_bits_24 : decode cX12_bits 24 = .ok (.iload_n 1, 1) := by decide +kernel
theorem dX12_bits_25 : decode cX12_bits 25 = .ok (.ireturn, 1) := by decide +kernel
theorem dX12_feed_0 : decode cX12_feed 0 = .ok (.aload_n 0, 1) := by decide +kernel
theorem dX12_feed_1 : decode cX12_feed 1 = .ok (.iconst 0, 1) := by decide +kernel
theorem dX12_feed_2 : decode cX12_feed 2 = .ok (.putfield 147, 3) := by decide +kernel
theorem dX12_feed_5 : decode cX12_feed 5 = .ok (.iconst 0, 1) := by decide +kernel
theorem dX12_feed_6 : decode cX12_feed 6 = .ok (.istore 7, 2) := by decide +kernel
theorem dX12_feed_8 : decode cX12_feed 8 = .ok (.iload 7, 2) := by decide +kernel
theorem dX12_feed_10 : decode cX12_feed 10 = .ok (.bipush 24, 2) := by decide +kernel
theorem dX12_feed_12 : decode cX12_feed 12 = .ok (.if_icmp .ge 108, 3) := by decide +kernel
theorem dX12_feed_15 : decode cX12_feed 15 = .ok (.iload 7, 2) := by decide +kernel
theorem dX12_feed_17 : decode cX12_feed 17 = .ok (.bipush 8, 2) := by decide +kernel
theorem dX12_feed_19 : decode cX12_feed 19 = .ok (.if_icmp .ge 7, 3) := by decide +kernel
theorem dX12_feed_22 : decode cX12_feed 22 = .ok (.lload_n 1, 1) := by decide +kernel
theorem dX12_feed_23 : decode cX12_feed 23 = .ok (.goto 16, 3) := by decide +kernel
theorem dX12_feed_26 : decode cX12_feed 26 = .ok (.iload 7, 2) := by decide +kernel
theorem dX12_feed_28 : decode cX12_feed 28 = .ok (.bipush 16, 2) := by decide +kernel
theorem dX12_feed_30 : decode cX12_feed 30 = .ok (.if_icmp .ge 7, 3) := by decide +kernel
theorem dX12_feed_33 : decode cX12_feed 33 = .ok (.lload_n 3, 1) := by decide +kernel
theorem dX12_feed_34 : decode cX12_feed 34 = .ok (.goto 5, 3) := by decide +kernel
theorem dX12_feed_37 : decode cX12_feed 37 = .ok (.lload 5, 2) := by decide +kernel
theorem dX12_feed_39 : decode cX12_feed 39 = .ok (.lstore 8, 2) := by decide +kernel
theorem dX12_feed_41 : decode cX12_feed 41 = .ok (.lload 8, 2) := by decide +kernel
theorem dX12_feed_43 : decode cX12_feed 43 = .ok (.bipush 56, 2) := by decide +kernel
theorem dX12_feed_45 : decode cX12_feed 45 = .ok (.bipush 8, 2) := by decide +kernel
theorem dX12_feed_47 : decode cX12_feed 47 = .ok (.iload 7, 2) := by decide +kernel
theorem dX12_feed_49 : decode cX12_feed 49 = .ok (.bipush 7, 2) := by decide +kernel
theorem dX12_feed_51 : decode cX12_feed 51 = .ok (.iand, 1) := by decide +kernel
theorem dX12_feed_52 : decode cX12_feed 52 = .ok (.imul, 1) := by decide +kernel
theorem dX12_feed_53 : decode cX12_feed 53 = .ok (.isub, 1) := by decide +kernel
theorem dX12_feed_54 : decode cX12_feed 54 = .ok (.lushr, 1) := by decide +kernel
theorem dX12_feed_55 : decode cX12_feed 55 = .ok (.ldc2_w 151, 3) := by decide +kernel
theorem dX12_feed_58 : decode cX12_feed 58 = .ok (.land, 1) := by decide +kernel
theorem dX12_feed_59 : decode cX12_feed 59 = .ok (.l2i, 1) := by decide +kernel
theorem dX12_feed_60 : decode cX12_feed 60 = .ok (.istore 10, 2) := by decide +kernel
theorem dX12_feed_62 : decode cX12_feed 62 = .ok (.aload_n 0, 1) := by decide +kernel
theorem dX12_feed_63 : decode cX12_feed 63 = .ok (.getfield 153, 3) := by decide +kernel
theorem dX12_feed_66 : decode cX12_feed 66 = .ok (.sipush 1000, 3) := by decide +kernel
theorem dX12_feed_69 : decode cX12_feed 69 = .ok (.if_icmp .ge 45, 3) := by decide +kernel
theorem dX12_feed_72 : decode cX12_feed 72 = .ok (.iload 10, 2) := by decide +kernel
theorem dX12_feed_74 : decode cX12_feed 74 = .ok (.bipush 10, 2) := by decide +kernel
theorem dX12_feed_76 : decode cX12_feed 76 = .ok (.if_icmp .eq 17, 3) := by decide +kernel
theorem dX12_feed_79 : decode cX12_feed 79 = .ok (.iload 10, 2) := by decide +kernel
theorem dX12_feed_81 : decode cX12_feed 81 = .ok (.bipush 32, 2) := by decide +kernel
theorem dX12_feed_83 : decode cX12_feed 83 = .ok (.if_icmp .lt 31, 3) := by decide +kernel
theorem dX12_feed_86 : decode cX12_feed 86 = .ok (.iload 10, 2) := by decide +kernel
theorem dX12_feed_88 : decode cX12_feed 88 = .ok (.bipush 126, 2) := by decide +kernel
theorem dX12_feed_90 : decode cX12_feed 90 = .ok (.if_icmp .gt 24, 3) := by decide +kernel
theorem dX12_feed_93 : decode cX12_feed 93 = .ok (.aload_n 0, 1) := by decide +kernel
theorem dX12_feed_94 : decode cX12_feed 94 = .ok (.getfield 7, 3) := by decide +kernel
theorem dX12_feed_97 : decode cX12_feed 97 = .ok (.aload_n 0, 1) := by decide +kernel
theorem dX12_feed_98 : decode cX12_feed 98 = .ok (.getfield 153, 3) := by decide +kernel
theorem dX12_feed_101 : decode cX12_feed 101 = .ok (.iload 10, 2) := by decide +kernel
theorem dX12_feed_103 : decode cX12_feed 103 = .ok (.iastore, 1) := by decide +kernel
theorem dX12_feed_104 : decode cX12_feed 104 = .ok (.aload_n 0, 1) := by decide +kernel
theorem dX12_feed_105 : decode cX12_feed 105 = .ok (.dup, 1) := by decide +kernel
theorem dX12_feed_106 : decode cX12_feed 106 = .ok (.getfield 153, 3) := by decide +kernel
theorem dX12_feed_109 : decode cX12_feed 109 = .ok (.iconst 1, 1) := by decide +kernel
theorem dX12_feed_110 : decode cX12_feed 110 = .ok (.iadd, 1) := by decide +kernel
theorem dX12_feed_111 : decode cX12_feed 111 = .ok (.putfield 153, 3) := by decide +kernel
theorem dX12_feed_114 : decode cX12_feed 114 = .ok (.iinc 7 1, 3) := by decide +kernel
theorem dX12_feed_117 : decode cX12_feed 117 = .ok (.goto (-109), 3) := by decide +kernel
theorem dX12_feed_120 : decode cX12_feed 120 = .ok (.aload_n 0, 1) := by decide +kernel
theorem dX12_feed_121 : decode cX12_feed 121 = .ok (.getfield 153, 3) := by decide +kernel
theorem dX12_feed_124 : decode cX12_feed 124 = .ok (.ireturn, 1) := by decide +kernel
theorem dX12_signAt_0 : decode cX12_signAt 0 = .ok (.iload_n 1, 1) := by decide +kernel
theorem dX12_signAt_1 : decode cX12_signAt 1 = .ok (.aload_n 0, 1) := by decide +kernel
theorem dX12_signAt_2 : decode cX12_signAt 2 = .ok (.getfield 156, 3) := by decide +kernel
theorem dX12_signAt_5 : decode cX12_signAt 5 = .ok (.if_icmp .ge 12, 3) := by decide +kernel
theorem dX12_signAt_8 : decode cX12_signAt 8 = .ok (.aload_n 0, 1) := by decide +kernel
theorem dX12_signAt_9 : decode cX12_signAt 9 = .ok (.getfield 7, 3) := by decide +kernel
theorem dX12_signAt_12 : decode cX12_signAt 12 = .ok (.iload_n 1, 1) := by decide +kernel
theorem dX12_signAt_13 : decode cX12_signAt 13 = .ok (.iaload, 1) := by decide +kernel
theorem dX12_signAt_14 : decode cX12_signAt 14 = .ok (.goto 4, 3) := by decide +kernel
theorem dX12_signAt_17 : decode cX12_signAt 17 = .ok (.iconst 0, 1) := by decide +kernel
theorem dX12_signAt_18 : decode cX12_signAt 18 = .ok (.ireturn, 1) := by decide +kernel
theorem dX12_nextToken_0 : decode cX12_nextToken 0 = .ok (.aload_n 0, 1) := by decide +kernel
theorem dX12_nextToken_1 : decode cX12_nextToken 1 = .ok (.getfield 159, 3) := by decide +kernel
theorem dX12_nextToken_4 : decode cX12_nextToken 4 = .ok (.aload_n 0, 1) := by decide +kernel
theorem dX12_nextToken_5 : decode cX12_nextToken 5 = .ok (.getfield 156, 3) := by decide +kernel
theorem dX12_nextToken_8 : decode cX12_nextToken 8 = .ok (.if_icmp .ge 44, 3) := by decide +kernel
theorem dX12_nextToken_11 : decode cX12_nextToken 11 = .ok (.aload_n 0, 1) := by decide +kernel
theorem dX12_nextToken_12 : decode cX12_nextToken 12 = .ok (.getfield 7, 3) := by decide +kernel
theorem dX12_nextToken_15 : decode cX12_nextToken 15 = .ok (.aload_n 0, 1) := by decide +kernel
theorem dX12_nextToken_16 : decode cX12_nextToken 16 = .ok (.getfield 159, 3) := by decide +kernel
theorem dX12_nextToken_19 : decode cX12_nextToken 19 = .ok (.iaload, 1) := by decide +kernel
theorem dX12_nextToken_20 : decode cX12_nextToken 20 = .ok (.bipush 32, 2) := by decide +kernel
theorem dX12_nextToken_22 : decode cX12_nextToken 22 = .ok (.if_icmp .eq 17, 3) := by decide +kernel
theorem dX12_nextToken_25 : decode cX12_nextToken 25 = .ok (.aload_n 0, 1) := by decide +kernel
theorem dX12_nextToken_26 : decode cX12_nextToken 26 = .ok (.getfield 7, 3) := by decide +kernel
theorem dX12_nextToken_29 : decode cX12_nextToken 29 = .ok (.aload_n 0, 1) := by decide +kernel
theorem dX12_nextToken_30 : decode cX12_nextToken 30 = .ok (.getfield 159, 3) := by decide +kernel
theorem dX12_nextToken_33 : decode cX12_nextToken 33 = .ok (.iaload, 1) := by decide +kernel
theorem dX12_nextToken_34 : decode cX12_nextToken 34 = .ok (.bipush 10, 2) := by decide +kernel
theorem dX12_nextToken_36 : decode cX12_nextToken 36 = .ok (.if_icmp .ne 16, 3) := by decide +kernel
theorem dX12_nextToken_39 : decode cX12_nextToken 39 = .ok (.aload_n 0, 1) := by decide +kernel
theorem dX12_nextToken_40 : decode cX12_nextToken 40 = .ok (.dup, 1) := by decide +kernel
theorem dX12_nextToken_41 : decode cX12_nextToken 41 = .ok (.getfield 159, 3) := by decide +kernel
theorem dX12_nextToken_44 : decode cX12_nextToken 44 = .ok (.iconst 1, 1) := by decide +kernel
theorem dX12_nextToken_45 : decode cX12_nextToken 45 = .ok (.iadd, 1) := by decide +kernel
theorem dX12_nextToken_46 : decode cX12_nextToken 46 = .ok (.putfield 159, 3) := by decide +kernel
theorem dX12_nextToken_49 : decode cX12_nextToken 49 = .ok (.goto (-49), 3) := by decide +kernel
theorem dX12_nextToken_52 : decode cX12_nextToken 52 = .ok (.aload_n 0, 1) := by decide +kernel
theorem dX12_nextToken_53 : decode cX12_nextToken 53 = .ok (.aload_n 0, 1) := by decide +kernel
theorem dX12_nextToken_54 : decode cX12_nextToken 54 = .ok (.getfield 159, 3) := by decide +kernel
theorem dX12_nextToken_57 : decode cX12_nextToken 57 = .ok (.putfield 162, 3) := by decide +kernel
theorem dX12_nextToken_60 : decode cX12_nextToken 60 = .ok (.aload_n 0, 1) := by decide +kernel
theorem dX12_nextToken_61 : decode cX12_nextToken 61 = .ok (.lconst 0, 1) := by decide +kernel
theorem dX12_nextToken_62 : decode cX12_nextToken 62 = .ok (.putfield 165, 3) := by decide +kernel
theorem dX12_nextToken_65 : decode cX12_nextToken 65 = .ok (.aload_n 0, 1) := by decide +kernel
theorem dX12_nextToken_66 : decode cX12_nextToken 66 = .ok (.iconst 0, 1) := by decide +kernel
theorem dX12_nextToken_67 : decode cX12_nextToken 67 = .ok (.putfield 169, 3) := by decide +kernel
theorem dX12_nextToken_70 : decode cX12_nextToken 70 = .ok (.aload_n 0, 1) := by decide +kernel
theorem dX12_nextToken_71 : decode cX12_nextToken 71 = .ok (.getfield 159, 3) := by decide +kernel
theorem dX12_nextToken_74 : decode cX12_nextToken 74 = .ok (.aload_n 0, 1) := by decide +kernel
theorem dX12_nextToken_75 : decode cX12_nextToken 75 = .ok (.getfield 156, 3) := by decide +kernel
theorem dX12_nextToken_78 : decode cX12_nextToken 78 = .ok (.if_icmp .ne 9, 3) := by decide +kernel
theorem dX12_nextToken_81 : decode cX12_nextToken 81 = .ok (.aload_n 0, 1) := by decide +kernel
theorem dX12_nextToken_82 : decode cX12_nextToken 82 = .ok (.iconst 0, 1) := by decide +kernel
theorem dX12_nextToken_83 : decode cX12_nextToken 83 = .ok (.putfield 172, 3) := by decide +kernel
theorem dX12_nextToken_86 : decode cX12_nextToken 86 = .ok (.return_, 1) := by decide +kernel
theorem dX12_nextToken_87 : decode cX12_nextToken 87 = .ok (.aload_n 0, 1) := by decide +kernel
theorem dX12_nextToken_88 : decode cX12_nextToken 88 = .ok (.getfield 7, 3) := by decide +kernel
theorem dX12_nextToken_91 : decode cX12_nextToken 91 = .ok (.aload_n 0, 1) := by decide +kernel
theorem dX12_nextToken_92 : decode cX12_nextToken 92 = .ok (.getfield 159, 3) := by decide +kernel
theorem dX12_nextToken_95 : decode cX12_nextToken 95 = .ok (.iaload, 1) := by decide +kernel
theorem dX12_nextToken_96 : decode cX12_nextToken 96 = .ok (.istore_n 1, 1) := by decide +kernel
theorem dX12_nextToken_97 : decode cX12_nextToken 97 = .ok (.iload_n 1, 1) := by decide +kernel
theorem dX12_nextToken_98 : decode cX12_nextToken 98 = .ok (.bipush 97, 2) := by decide +kernel
theorem dX12_nextToken_100 : decode cX12_nextToken 100 = .ok (.if_icmp .lt 112, 3) := by decide +kernel
theorem dX12_nextToken_103 : decode cX12_nextToken 103 = .ok (.iload_n 1, 1) := by decide +kernel
theorem dX12_nextToken_104 : decode cX12_nextToken 104 = .ok (.bipush 122, 2) := by decide +kernel
theorem dX12_nextToken_106 : decode cX12_nextToken 106 = .ok (.if_icmp .gt 106, 3) := by decide +kernel
theorem dX12_nextToken_109 : decode cX12_nextToken 109 = .ok (.aload_n 0, 1) := by decide +kernel
theorem dX12_nextToken_110 : decode cX12_nextToken 110 = .ok (.aload_n 0, 1) := by decide +kernel
theorem dX12_nextToken_111 : decode cX12_nextToken 111 = .ok (.getfield 159, 3) := by decide +kernel
theorem dX12_nextToken_114 : decode cX12_nextToken 114 = .ok (.invokevirtual 175, 3) := by decide +kernel
theorem dX12_nextToken_117 : decode cX12_nextToken 117 = .ok (.bipush 97, 2) := by decide +kernel
theorem dX12_nextToken_119 : decode cX12_nextToken 119 = .ok (.if_icmp .lt 69, 3) := by decide +kernel
theorem dX12_nextToken_122 : decode cX12_nextToken 122 = .ok (.aload_n 0, 1) := by decide +kernel
theorem dX12_nextToken_123 : decode cX12_nextToken 123 = .ok (.aload_n 0, 1) := by decide +kernel
theorem dX12_nextToken_124 : decode cX12_nextToken 124 = .ok (.getfield 159, 3) := by decide +kernel
theorem dX12_nextToken_127 : decode cX12_nextToken 127 = .ok (.invokevirtual 175, 3) := by decide +kernel
theorem dX12_nextToken_130 : decode cX12_nextToken 130 = .ok (.bipush 122, 2) := by decide +kernel
theorem dX12_nextToken_132 : decode cX12_nextToken 132 = .ok (.if_icmp .gt 56, 3) := by decide +kernel
theorem dX12_nextToken_135 : decode cX12_nextToken 135 = .ok (.aload_n 0, 1) := by decide +kernel
theorem dX12_nextToken_136 : decode cX12_nextToken 136 = .ok (.getfield 159, 3) := by decide +kernel
theorem dX12_nextToken_139 : decode cX12_nextToken 139 = .ok (.aload_n 0, 1) := by decide +kernel
theorem dX12_nextToken_140 : decode cX12_nextToken 140 = .ok (.getfield 162, 3) := by decide +kernel
theorem dX12_nextToken_143 : decode cX12_nextToken 143 = .ok (.isub, 1) := by decide +kernel
theorem dX12_nextToken_144 : decode cX12_nextToken 144 = .ok (.bipush 8, 2) := by decide +kernel
theorem dX12_nextToken_146 : decode cX12_nextToken 146 = .ok (.if_icmp .ge 29, 3) := by decide +kernel
theorem dX12_nextToken_149 : decode cX12_nextToken 149 = .ok (.aload_n 0, 1) := by decide +kernel
theorem dX12_nextToken_150 : decode cX12_nextToken 150 = .ok (.aload_n 0, 1) := by decide +kernel
theorem dX12_nextToken_151 : decode cX12_nextToken 151 = .ok (.getfield 165, 3) := by decide +kernel
theorem dX12_nextToken_154 : decode cX12_nextToken 154 = .ok (.ldc2_w 179, 3) := by decide +kernel
theorem dX12_nextToken_157 : decode cX12_nextToken 157 = .ok (.lmul, 1) := by decide +kernel
theorem dX12_nextToken_158 : decode cX12_nextToken 158 = .ok (.aload_n 0, 1) := by decide +kernel
theorem dX12_nextToken_159 : decode cX12_nextToken 159 = .ok (.aload_n 0, 1) := by decide +kernel
theorem dX12_nextToken_160 : decode cX12_nextToken 160 = .ok (.getfield 159, 3) := by decide +kernel
theorem dX12_nextToken_163 : decode cX12_nextToken 163 = .ok (.invokevirtual 175, 3) := by decide +kernel
theorem dX12_nextToken_166 : decode cX12_nextToken 166 = .ok (.i2l, 1) := by decide +kernel
theorem dX12_nextToken_167 : decode cX12_nextToken 167 = .ok (.ladd, 1) := by decide +kernel
theorem dX12_nextToken_168 : decode cX12_nextToken 168 = .ok (.ldc2_w 181, 3) := by decide +kernel
theorem dX12_nextToken_171 : decode cX12_nextToken 171 = .ok (.lsub, 1) := by decide +kernel
theorem dX12_nextToken_172 : decode cX12_nextToken 172 = .ok (.putfield 165, 3) := by decide +kernel
theorem dX12_nextToken_175 : decode cX12_nextToken 175 = .ok (.aload_n 0, 1) := by decide +kernel
theorem dX12_nextToken_176 : decode cX12_nextToken 176 = .ok (.dup, 1) := by decide +kernel
theorem dX12_nextToken_177 : decode cX12_nextToken 177 = .ok (.getfield 159, 3) := by decide +kernel
theorem dX12_nextToken_180 : decode cX12_nextToken 180 = .ok (.iconst 1, 1) := by decide +kernel
theorem dX12_nextToken_181 : decode cX12_nextToken 181 = .ok (.iadd, 1) := by decide +kernel
theorem dX12_nextToken_182 : decode cX12_nextToken 182 = .ok (.putfield 159, 3) := by decide +kernel
theorem dX12_nextToken_185 : decode cX12_nextToken 185 = .ok (.goto (-76), 3) := by decide +kernel
theorem dX12_nextToken_188 : decode cX12_nextToken 188 = .ok (.aload_n 0, 1) := by decide +kernel
theorem dX12_nextToken_189 : decode cX12_nextToken 189 = .ok (.aload_n 0, 1) := by decide +kernel
theorem dX12_nextToken_190 : decode cX12_nextToken 190 = .ok (.getfield 159, 3) := by decide +kernel
theorem dX12_nextToken_193 : decode cX12_nextToken 193 = .ok (.aload_n 0, 1) := by decide +kernel
theorem dX12_nextToken_194 : decode cX12_nextToken 194 = .ok (.getfield 162, 3) := by decide +kernel
theorem dX12_nextToken_197 : decode cX12_nextToken 197 = .ok (.isub, 1) := by decide +kernel
theorem dX12_nextToken_198 : decode cX12_nextToken 198 = .ok (.bipush 8, 2) := by decide +kernel
theorem dX12_nextToken_200 : decode cX12_nextToken 200 = .ok (.if_icmp .le 7, 3) := by decide +kernel
theorem dX12_nextToken_203 : decode cX12_nextToken 203 = .ok (.iconst 4, 1) := by decide +kernel
theorem dX12_nextToken_204 : decode cX12_nextToken 204 = .ok (.goto 4, 3) := by decide +kernel
theorem dX12_nextToken_207 : decode cX12_nextToken 207 = .ok (.iconst 1, 1) := by decide +kernel
theorem dX12_nextToken_208 : decode cX12_nextToken 208 = .ok (.putfield 172, 3) := by decide +kernel
theorem dX12_nextToken_211 : decode cX12_nextToken 211 = .ok (.return_, 1) := by decide +kernel
theorem dX12_nextToken_212 : decode cX12_nextToken 212 = .ok (.iload_n 1, 1) := by decide +kernel
theorem dX12_nextToken_213 : decode cX12_nextToken 213 = .ok (.bipush 48, 2) := by decide +kernel
theorem dX12_nextToken_215 : decode cX12_nextToken 215 = .ok (.if_icmp .lt 107, 3) := by decide +kernel
theorem dX12_nextToken_218 : decode cX12_nextToken 218 = .ok (.iload_n 1, 1) := by decide +kernel
theorem dX12_nextToken_219 : decode cX12_nextToken 219 = .ok (.bipush 57, 2) := by decide +kernel
theorem dX12_nextToken_221 : decode cX12_nextToken 221 = .ok (.if_icmp .gt 101, 3) := by decide +kernel
theorem dX12_nextToken_224 : decode cX12_nextToken 224 = .ok (.aload_n 0, 1) := by decide +kernel
theorem dX12_nextToken_225 : decode cX12_nextToken 225 = .ok (.aload_n 0, 1) := by decide +kernel
theorem dX12_nextToken_226 : decode cX12_nextToken 226 = .ok (.getfield 159, 3) := by decide +kernel
theorem dX12_nextToken_229 : decode cX12_nextToken 229 = .ok (.invokevirtual 175, 3) := by decide +kernel
theorem dX12_nextToken_232 : decode cX12_nextToken 232 = .ok (.bipush 48, 2) := by decide +kernel
theorem dX12_nextToken_234 : decode cX12_nextToken 234 = .ok (.if_icmp .lt 65, 3) := by decide +kernel
theorem dX12_nextToken_237 : decode cX12_nextToken 237 = .ok (.aload_n 0, 1) := by decide +kernel
theorem dX12_nextToken_238 : decode cX12_nextToken 238 = .ok (.aload_n 0, 1) := by decide +kernel
theorem dX12_nextToken_239 : decode cX12_nextToken 239 = .ok (.getfield 159, 3) := by decide +kernel
theorem dX12_nextToken_242 : decode cX12_nextToken 242 = .ok (.invokevirtual 175, 3) := by decide +kernel
theorem dX12_nextToken_245 : decode cX12_nextToken 245 = .ok (.bipush 57, 2) := by decide +kernel
theorem dX12_nextToken_247 : decode cX12_nextToken 247 = .ok (.if_icmp .gt 52, 3) := by decide +kernel
theorem dX12_nextToken_250 : decode cX12_nextToken 250 = .ok (.aload_n 0, 1) := by decide +kernel
theorem dX12_nextToken_251 : decode cX12_nextToken 251 = .ok (.getfield 159, 3) := by decide +kernel
theorem dX12_nextToken_254 : decode cX12_nextToken 254 = .ok (.aload_n 0, 1) := by decide +kernel
theorem dX12_nextToken_255 : decode cX12_nextToken 255 = .ok (.getfield 162, 3) := by decide +kernel
theorem dX12_nextToken_258 : decode cX12_nextToken 258 = .ok (.isub, 1) := by decide +kernel
theorem dX12_nextToken_259 : decode cX12_nextToken 259 = .ok (.iconst 4, 1) := by decide +kernel
theorem dX12_nextToken_260 : decode cX12_nextToken 260 = .ok (.if_icmp .ge 26, 3) := by decide +kernel
theorem dX12_nextToken_263 : decode cX12_nextToken 263 = .ok (.aload_n 0, 1) := by decide +kernel
theorem dX12_nextToken_264 : decode cX12_nextToken 264 = .ok (.aload_n 0, 1) := by decide +kernel
theorem dX12_nextToken_265 : decode cX12_nextToken 265 = .ok (.getfield 169, 3) := by decide +kernel
theorem dX12_nextToken_268 : decode cX12_nextToken 268 = .ok (.bipush 10, 2) := by decide +kernel
theorem dX12_nextToken_270 : decode cX12_nextToken 270 = .ok (.imul, 1) := by decide +kernel
theorem dX12_nextToken_271 : decode cX12_nextToken 271 = .ok (.aload_n 0, 1) := by decide +kernel
theorem dX12_nextToken_272 : decode cX12_nextToken 272 = .ok (.aload_n 0, 1) := by decide +kernel
theorem dX12_nextToken_273 : decode cX12_nextToken 273 = .ok (.getfield 159, 3) := by decide +kernel
theorem dX12_nextToken_276 : decode cX12_nextToken 276 = .ok (.invokevirtual 175, 3) := by decide +kernel
theorem dX12_nextToken_279 : decode cX12_nextToken 279 = .ok (.iadd, 1) := by decide +kernel
theorem dX12_nextToken_280 : decode cX12_nextToken 280 = .ok (.bipush 48, 2) := by decide +kernel
theorem dX12_nextToken_282 : decode cX12_nextToken 282 = .ok (.isub, 1) := by decide +kernel
theorem dX12_nextToken_283 : decode cX12_nextToken 283 = .ok (.putfield 169, 3) := by decide +kernel
theorem dX12_nextToken_286 : decode cX12_nextToken 286 = .ok (.aload_n 0, 1) := by decide +kernel
theorem dX12_nextToken_287 : decode cX12_nextToken 287 = .ok (.dup, 1) := by decide +kernel
theorem dX12_nextToken_288 : decode cX12_nextToken 288 = .ok (.getfield 159, 3) := by decide +kernel
theorem dX12_nextToken_291 : decode cX12_nextToken 291 = .ok (.iconst 1, 1) := by decide +kernel
theorem dX12_nextToken_292 : decode cX12_nextToken 292 = .ok (.iadd, 1) := by decide +kernel
theorem dX12_nextToken_293 : decode cX12_nextToken 293 = .ok (.putfield 159, 3) := by decide +kernel
theorem dX12_nextToken_296 : decode cX12_nextToken 296 = .ok (.goto (-72), 3) := by decide +kernel
theorem dX12_nextToken_299 : decode cX12_nextToken 299 = .ok (.aload_n 0, 1) := by decide +kernel
theorem dX12_nextToken_300 : decode cX12_nextToken 300 = .ok (.aload_n 0, 1) := by decide +kernel
theorem dX12_nextToken_301 : decode cX12_nextToken 301 = .ok (.getfield 159, 3) := by decide +kernel
theorem dX12_nextToken_304 : decode cX12_nextToken 304 = .ok (.aload_n 0, 1) := by decide +kernel
theorem dX12_nextToken_305 : decode cX12_nextToken 305 = .ok (.getfield 162, 3) := by decide +kernel
theorem dX12_nextToken_308 : decode cX12_nextToken 308 = .ok (.isub, 1) := by decide +kernel
theorem dX12_nextToken_309 : decode cX12_nextToken 309 = .ok (.iconst 4, 1) := by decide +kernel
theorem dX12_nextToken_310 : decode cX12_nextToken 310 = .ok (.if_icmp .le 7, 3) := by decide +kernel
theorem dX12_nextToken_313 : decode cX12_nextToken 313 = .ok (.iconst 4, 1) := by decide +kernel
theorem dX12_nextToken_314 : decode cX12_nextToken 314 = .ok (.goto 4, 3) := by decide +kernel
theorem dX12_nextToken_317 : decode cX12_nextToken 317 = .ok (.iconst 2, 1) := by decide +kernel
theorem dX12_nextToken_318 : decode cX12_nextToken 318 = .ok (.putfield 172, 3) := by decide +kernel
theorem dX12_nextToken_321 : decode cX12_nextToken 321 = .ok (.return_, 1) := by decide +kernel
theorem dX12_nextToken_322 : decode cX12_nextToken 322 = .ok (.aload_n 0, 1) := by decide +kernel
theorem dX12_nextToken_323 : decode cX12_nextToken 323 = .ok (.dup, 1) := by decide +kernel
theorem dX12_nextToken_324 : decode cX12_nextToken 324 = .ok (.getfield 159, 3) := by decide +kernel
theorem dX12_nextToken_327 : decode cX12_nextToken 327 = .ok (.iconst 1, 1) := by decide +kernel
theorem dX12_nextToken_328 : decode cX12_nextToken 328 = .ok (.iadd, 1) := by decide +kernel
theorem dX12_nextToken_329 : decode cX12_nextToken 329 = .ok (.putfield 159, 3) := by decide +kernel
theorem dX12_nextToken_332 : decode cX12_nextToken 332 = .ok (.aload_n 0, 1) := by decide +kernel
theorem dX12_nextToken_333 : decode cX12_nextToken 333 = .ok (.iload_n 1, 1) := by decide +kernel
theorem dX12_nextToken_334 : decode cX12_nextToken 334 = .ok (.bipush 40, 2) := by decide +kernel
theorem dX12_nextToken_336 : decode cX12_nextToken 336 = .ok (.if_icmp .lt 9, 3) := by decide +kernel
theorem dX12_nextToken_339 : decode cX12_nextToken 339 = .ok (.iload_n 1, 1) := by decide +kernel
theorem dX12_nextToken_340 : decode cX12_nextToken 340 = .ok (.bipush 43, 2) := by decide +kernel
theorem dX12_nextToken_342 : decode cX12_nextToken 342 = .ok (.if_icmp .le 21, 3) := by decide +kernel
theorem dX12_nextToken_345 : decode cX12_nextToken 345 = .ok (.iload_n 1, 1) := by decide +kernel
theorem dX12_nextToken_346 : decode cX12_nextToken 346 = .ok (.bipush 45, 2) := by decide +kernel
theorem dX12_nextToken_348 : decode cX12_nextToken 348 = .ok (.if_icmp .eq 15, 3) := by decide +kernel
theorem dX12_nextToken_351 : decode cX12_nextToken 351 = .ok (.iload_n 1, 1) := by decide +kernel
theorem dX12_nextToken_352 : decode cX12_nextToken 352 = .ok (.bipush 59, 2) := by decide +kernel
theorem dX12_nextToken_354 : decode cX12_nextToken 354 = .ok (.if_icmp .lt 13, 3) := by decide +kernel
theorem dX12_nextToken_357 : decode cX12_nextToken 357 = .ok (.iload_n 1, 1) := by decide +kernel
theorem dX12_nextToken_358 : decode cX12_nextToken 358 = .ok (.bipush 61, 2) := by decide +kernel
theorem dX12_nextToken_360 : decode cX12_nextToken 360 = .ok (.if_icmp .gt 7, 3) := by decide +kernel
theorem dX12_nextToken_363 : decode cX12_nextToken 363 = .ok (.iconst 3, 1) := by decide +kernel
theorem dX12_nextToken_364 : decode cX12_nextToken 364 = .ok (.goto 4, 3) := by decide +kernel
theorem dX12_nextToken_367 : decode cX12_nextToken 367 = .ok (.iconst 4, 1) := by decide +kernel
theorem dX12_nextToken_368 : decode cX12_nextToken 368 = .ok (.putfield 172, 3) := by decide +kernel
theorem dX12_nextToken_371 : decode cX12_nextToken 371 = .ok (.return_, 1) := by decide +kernel
theorem dX12_isWord_0 : decode cX12_isWord 0 = .ok (.aload_n 0, 1) := by decide +kernel
theorem dX12_isWord_1 : decode cX12_isWord 1 = .ok (.getfield 172, 3) := by decide +kernel
theorem dX12_isWord_4 : decode cX12_isWord 4 = .ok (.iconst 1, 1) := by decide +kernel
theorem dX12_isWord_5 : decode cX12_isWord 5 = .ok (.if_icmp .ne 16, 3) := by decide +kernel
theorem dX12_isWord_8 : decode cX12_isWord 8 = .ok (.aload_n 0, 1) := by decide +kernel
theorem dX12_isWord_9 : decode cX12_isWord 9 = .ok (.getfield 165, 3) := by decide +kernel
theorem dX12_isWord_12 : decode cX12_isWord 12 = .ok (.lload_n 1, 1) := by decide +kernel
theorem dX12_isWord_13 : decode cX12_isWord 13 = .ok (.lcmp, 1) := by decide +kernel
theorem dX12_isWord_14 : decode cX12_isWord 14 = .ok (.ifCond .ne 7, 3) := by decide +kernel
theorem dX12_isWord_17 : decode cX12_isWord 17 = .ok (.iconst 1, 1) := by decide +kernel
theorem dX12_isWord_18 : decode cX12_isWord 18 = .ok (.goto 4, 3) := by decide +kernel
theorem dX12_isWord_21 : decode cX12_isWord 21 = .ok (.iconst 0, 1) := by decide +kernel
theorem dX12_isWord_22 : decode cX12_isWord 22 = .ok (.ireturn, 1) := by decide +kernel
theorem dX12_isSign_0 : decode cX12_isSign 0 = .ok (.aload_n 0, 1) := by decide +kernel
theorem dX12_isSign_1 : decode cX12_isSign 1 = .ok (.getfield 172, 3) := by decide +kernel
theorem dX12_isSign_4 : decode cX12_isSign 4 = .ok (.iconst 3, 1) := by decide +kernel
theorem dX12_isSign_5 : decode cX12_isSign 5 = .ok (.if_icmp .ne 20, 3) := by decide +kernel
theorem dX12_isSign_8 : decode cX12_isSign 8 = .ok (.aload_n 0, 1) := by decide +kernel
theorem dX12_isSign_9 : decode cX12_isSign 9 = .ok (.getfield 7, 3) := by decide +kernel
theorem dX12_isSign_12 : decode cX12_isSign 12 = .ok (.aload_n 0, 1) := by decide +kernel
theorem dX12_isSign_13 : decode cX12_isSign 13 = .ok (.getfield 162, 3) := by decide +kernel
theorem dX12_isSign_16 : decode cX12_isSign 16 = .ok (.iaload, 1) := by decide +kernel
theorem dX12_isSign_17 : decode cX12_isSign 17 = .ok (.iload_n 1, 1) := by decide +kernel
theorem dX12_isSign_18 : decode cX12_isSign 18 = .ok (.if_icmp .ne 7, 3) := by decide +kernel
theorem dX12_isSign_21 : decode cX12_isSign 21 = .ok (.iconst 1, 1) := by decide +kernel
theorem dX12_isSign_22 : decode cX12_isSign 22 = .ok (.goto 4, 3) := by decide +kernel
theorem dX12_isSign_25 : decode cX12_isSign 25 = .ok (.iconst 0, 1) := by decide +kernel
theorem dX12_isSign_26 : decode cX12_isSign 26 = .ok (.ireturn, 1) := by decide +kernel
theorem dX12_fails_0 : decode cX12_fails 0 = .ok (.aload_n 0, 1) := by decide +kernel
theorem dX12_fails_1 : decode cX12_fails 1 = .ok (.iload_n 1, 1) := by decide +kernel
theorem dX12_fails_2 : decode cX12_fails 2 = .ok (.bipush 16, 2) := by decide +kernel
theorem dX12_fails_4 : decode cX12_fails 4 = .ok (.aload_n 0, 1) := by decide +kernel
theorem dX12_fails_5 : decode cX12_fails 5 = .ok (.getfield 162, 3) := by decide +kernel
theorem dX12_fails_8 : decode cX12_fails 8 = .ok (.imul, 1) := by decide +kernel
theorem dX12_fails_9 : decode cX12_fails 9 = .ok (.iadd, 1) := by decide +kernel
theorem dX12_fails_10 : decode cX12_fails 10 = .ok (.putfield 183, 3) := by decide +kernel
theorem dX12_fails_13 : decode cX12_fails 13 = .ok (.iconst 0, 1) := by decide +kernel
theorem dX12_fails_14 : decode cX12_fails 14 = .ok (.ireturn, 1) := by decide +kernel
theorem dX12_puts_0 : decode cX12_puts 0 = .ok (.aload_n 0, 1) := by decide +kernel
theorem dX12_puts_1 : decode cX12_puts 1 = .ok (.getfield 50, 3) := by decide +kernel
theorem dX12_puts_4 : decode cX12_puts 4 = .ok (.aload_n 0, 1) := by decide +kernel
theorem dX12_puts_5 : decode cX12_puts 5 = .ok (.getfield 186, 3) := by decide +kernel
theorem dX12_puts_8 : decode cX12_puts 8 = .ok (.iload_n 1, 1) := by decide +kernel
theorem dX12_puts_9 : decode cX12_puts 9 = .ok (.iastore, 1) := by decide +kernel
theorem dX12_puts_10 : decode cX12_puts 10 = .ok (.aload_n 0, 1) := by decide +kernel
theorem dX12_puts_11 : decode cX12_puts 11 = .ok (.dup, 1) := by decide +kernel
theorem dX12_puts_12 : decode cX12_puts 12 = .ok (.getfield 186, 3) := by decide +kernel
theorem dX12_puts_15 : decode cX12_puts 15 = .ok (.iconst 1, 1) := by decide +kernel
theorem dX12_puts_16 : decode cX12_puts 16 = .ok (.iadd, 1) := by decide +kernel
theorem dX12_puts_17 : decode cX12_puts 17 = .ok (.putfield 186, 3) := by decide +kernel
theorem dX12_puts_20 : decode cX12_puts 20 = .ok (.return_, 1) := by decide +kernel
theorem dX12_fact_0 : decode cX12_fact 0 = .ok (.aload_n 0, 1) := by decide +kernel
theorem dX12_fact_1 : decode cX12_fact 1 = .ok (.getfield 172, 3) := by decide +kernel
theorem dX12_fact_4 : decode cX12_fact 4 = .ok (.iconst 1, 1) := by decide +kernel
theorem dX12_fact_5 : decode cX12_fact 5 = .ok (.if_icmp .eq 5, 3) := by decide +kernel
theorem dX12_fact_8 : decode cX12_fact 8 = .ok (.iconst 0, 1) := by decide +kernel
theorem dX12_fact_9 : decode cX12_fact 9 = .ok (.ireturn, 1) := by decide +kernel
theorem dX12_fact_10 : decode cX12_fact 10 = .ok (.aload_n 0, 1) := by decide +kernel
theorem dX12_fact_11 : decode cX12_fact 11 = .ok (.getfield 165, 3) := by decide +kernel
theorem dX12_fact_14 : decode cX12_fact 14 = .ok (.ldc2_w 189, 3) := by decide +kernel
theorem dX12_fact_17 : decode cX12_fact 17 = .ok (.lcmp, 1) := by decide +kernel
theorem dX12_fact_18 : decode cX12_fact 18 = .ok (.ifCond .ne 5, 3) := by decide +kernel
theorem dX12_fact_21 : decode cX12_fact 21 = .ok (.iconst 1, 1) := by decide +kernel
theorem dX12_fact_22 : decode cX12_fact 22 = .ok (.ireturn, 1) := by decide +kernel
theorem dX12_fact_23 : decode cX12_fact 23 = .ok (.aload_n 0, 1) := by decide +kernel
theorem dX12_fact_24 : decode cX12_fact 24 = .ok (.getfield 165, 3) := by decide +kernel
theorem dX12_fact_27 : decode cX12_fact 27 = .ok (.ldc2_w 191, 3) := by decide +kernel
theorem dX12_fact_30 : decode cX12_fact 30 = .ok (.lcmp, 1) := by decide +kernel
theorem dX12_fact_31 : decode cX12_fact 31 = .ok (.ifCond .ne 5, 3) := by decide +kernel
theorem dX12_fact_34 : decode cX12_fact 34 = .ok (.iconst 2, 1) := by decide +kernel
theorem dX12_fact_35 : decode cX12_fact 35 = .ok (.ireturn, 1) := by decide +kernel
theorem dX12_fact_36 : decode cX12_fact 36 = .ok (.aload_n 0, 1) := by decide +kernel
theorem dX12_fact_37 : decode cX12_fact 37 = .ok (.getfield 165, 3) := by decide +kernel
theorem dX12_fact_40 : decode cX12_fact 40 = .ok (.ldc2_w 193, 3) := by decide +kernel
theorem dX12_fact_43 : decode cX12_fact 43 = .ok (.lcmp, 1) := by decide +kernel
theorem dX12_fact_44 : decode cX12_fact 44 = .ok (.ifCond .ne 7, 3) := by decide +kernel
theorem dX12_fact_47 : decode cX12_fact 47 = .ok (.iconst 3, 1) := by decide +kernel
theorem dX12_fact_48 : decode cX12_fact 48 = .ok (.goto 19, 3) := by decide +kernel
theorem dX12_fact_51 : decode cX12_fact 51 = .ok (.aload_n 0, 1) := by decide +kernel
theorem dX12_fact_52 : decode cX12_fact 52 = .ok (.getfield 165, 3) := by decide +kernel
theorem dX12_fact_55 : decode cX12_fact 55 = .ok (.ldc2_w 195, 3) := by decide +kernel
theorem dX12_fact_58 : decode cX12_fact 58 = .ok (.lcmp, 1) := by decide +kernel
theorem dX12_fact_59 : decode cX12_fact 59 = .ok (.ifCond .ne 7, 3) := by decide +kernel
theorem dX12_fact_62 : decode cX12_fact 62 = .ok (.iconst 4, 1) := by decide +kernel
theorem dX12_fact_63 : decode cX12_fact 63 = .ok (.goto 4, 3) := by decide +kernel
theorem dX12_fact_66 : decode cX12_fact 66 = .ok (.iconst 0, 1) := by decide +kernel
theorem dX12_fact_67 : decode cX12_fact 67 = .ok (.ireturn, 1) := by decide +kernel
theorem dX12_readsLaw_0 : decode cX12_readsLaw 0 = .ok (.iconst 0, 1) := by decide +kernel
theorem dX12_readsLaw_1 : decode cX12_readsLaw 1 = .ok (.istore_n 1, 1) := by decide +kernel
theorem dX12_readsLaw_2 : decode cX12_readsLaw 2 = .ok (.iconst 1, 1) := by decide +kernel
theorem dX12_readsLaw_3 : decode cX12_readsLaw 3 = .ok (.istore_n 2, 1) := by decide +kernel
theorem dX12_readsLaw_4 : decode cX12_readsLaw 4 = .ok (.aload_n 0, 1) := by decide +kernel
theorem dX12_readsLaw_5 : decode cX12_readsLaw 5 = .ok (.getfield 56, 3) := by decide +kernel
theorem dX12_readsLaw_8 : decode cX12_readsLaw 8 = .ok (.iconst 0, 1) := by decide +kernel
theorem dX12_readsLaw_9 : decode cX12_readsLaw 9 = .ok (.iconst 0, 1) := by decide +kernel
theorem dX12_readsLaw_10 : decode cX12_readsLaw 10 = .ok (.bastore, 1) := by decide +kernel
theorem dX12_readsLaw_11 : decode cX12_readsLaw 11 = .ok (.iload_n 2, 1) := by decide +kernel
theorem dX12_readsLaw_12 : decode cX12_readsLaw 12 = .ok (.ifCond .eq 167, 3) := by decide +kernel
theorem dX12_readsLaw_15 : decode cX12_readsLaw 15 = .ok (.aload_n 0, 1) := by decide +kernel
theorem dX12_readsLaw_16 : decode cX12_readsLaw 16 = .ok (.invokevirtual 197, 3) := by decide +kernel
theorem dX12_readsLaw_19 : decode cX12_readsLaw 19 = .ok (.istore_n 3, 1) := by decide +kernel
theorem dX12_readsLaw_20 : decode cX12_readsLaw 20 = .ok (.aload_n 0, 1) := by decide +kernel
theorem dX12_readsLaw_21 : decode cX12_readsLaw 21 = .ok (.ldc2_w 201, 3) := by decide +kernel
theorem dX12_readsLaw_24 : decode cX12_readsLaw 24 = .ok (.invokevirtual 203, 3) := by decide +kernel
theorem dX12_readsLaw_27 : decode cX12_readsLaw 27 = .ok (.istore 4, 2) := by decide +kernel
theorem dX12_readsLaw_29 : decode cX12_readsLaw 29 = .ok (.aload_n 0, 1) := by decide +kernel
theorem dX12_readsLaw_30 : decode cX12_readsLaw 30 = .ok (.bipush 40, 2) := by decide +kernel
theorem dX12_readsLaw_32 : decode cX12_readsLaw 32 = .ok (.invokevirtual 207, 3) := by decide +kernel
theorem dX12_readsLaw_35 : decode cX12_readsLaw 35 = .ok (.istore 5, 2) := by decide +kernel
theorem dX12_readsLaw_37 : decode cX12_readsLaw 37 = .ok (.iload_n 3, 1) := by decide +kernel
theorem dX12_readsLaw_38 : decode cX12_readsLaw 38 = .ok (.ifCond .ne 27, 3) := by decide +kernel
theorem dX12_readsLaw_41 : decode cX12_readsLaw 41 = .ok (.iload 4, 2) := by decide +kernel
theorem dX12_readsLaw_43 : decode cX12_readsLaw 43 = .ok (.ifCond .ne 22, 3) := by decide +kernel
theorem dX12_readsLaw_46 : decode cX12_readsLaw 46 = .ok (.iload 5, 2) := by decide +kernel
theorem dX12_readsLaw_48 : decode cX12_readsLaw 48 = .ok (.ifCond .ne 17, 3) := by decide +kernel
theorem dX12_readsLaw_51 : decode cX12_readsLaw 51 = .ok (.aload_n 0, 1) := by decide +kernel
theorem dX12_readsLaw_52 : decode cX12_readsLaw 52 = .ok (.getfield 172, 3) := by decide +kernel
theorem dX12_readsLaw_55 : decode cX12_readsLaw 55 = .ok (.iconst 2, 1) := by decide +kernel
theorem dX12_readsLaw_56 : decode cX12_readsLaw 56 = .ok (.if_icmp .eq 9, 3) := by decide +kernel
theorem dX12_readsLaw_59 : decode cX12_readsLaw 59 = .ok (.aload_n 0, 1) := by decide +kernel
theorem dX12_readsLaw_60 : decode cX12_readsLaw 60 = .ok (.iconst 1, 1) := by decide +kernel
theorem dX12_readsLaw_61 : decode cX12_readsLaw 61 = .ok (.invokevirtual 211, 3) := by decide +kernel
theorem dX12_readsLaw_64 : decode cX12_readsLaw 64 = .ok (.ireturn, 1) := by decide +kernel
theorem dX12_readsLaw_65 : decode cX12_readsLaw 65 = .ok (.iload_n 1, 1) := by decide +kernel
theorem dX12_readsLaw_66 : decode cX12_readsLaw 66 = .ok (.iconst 5, 1) := by decide +kernel
theorem dX12_readsLaw_67 : decode cX12_readsLaw 67 = .ok (.if_icmp .ne 9, 3) := by decide +kernel
theorem dX12_readsLaw_70 : decode cX12_readsLaw 70 = .ok (.aload_n 0, 1) := by decide +kernel
theorem dX12_readsLaw_71 : decode cX12_readsLaw 71 = .ok (.iconst 5, 1) := by decide +kernel
theorem dX12_readsLaw_72 : decode cX12_readsLaw 72 = .ok (.invokevirtual 211, 3) := by decide +kernel
theorem dX12_readsLaw_75 : decode cX12_readsLaw 75 = .ok (.ireturn, 1) := by decide +kernel
theorem dX12_readsLaw_76 : decode cX12_readsLaw 76 = .ok (.iload 4, 2) := by decide +kernel
theorem dX12_readsLaw_78 : decode cX12_readsLaw 78 = .ok (.ifCond .ne 8, 3) := by decide +kernel
theorem dX12_readsLaw_81 : decode cX12_readsLaw 81 = .ok (.iload 5, 2) := by decide +kernel
theorem dX12_readsLaw_83 : decode cX12_readsLaw 83 = .ok (.ifCond .eq 48, 3) := by decide +kernel
theorem dX12_readsLaw_86 : decode cX12_readsLaw 86 = .ok (.aload_n 0, 1) := by decide +kernel
theorem dX12_readsLaw_87 : decode cX12_readsLaw 87 = .ok (.iload 4, 2) := by decide +kernel
theorem dX12_readsLaw_89 : decode cX12_readsLaw 89 = .ok (.ifCond .eq 8, 3) := by decide +kernel
theorem dX12_readsLaw_92 : decode cX12_readsLaw 92 = .ok (.bipush 30, 2) := by decide +kernel
theorem dX12_readsLaw_94 : decode cX12_readsLaw 94 = .ok (.goto 5, 3) := by decide +kernel
theorem dX12_readsLaw_97 : decode cX12_readsLaw 97 = .ok (.bipush 28, 2) := by decide +kernel
theorem dX12_readsLaw_99 : decode cX12_readsLaw 99 = .ok (.invokevirtual 214, 3) := by decide +kernel
theorem dX12_readsLaw_102 : decode cX12_readsLaw 102 = .ok (.iinc 1 1, 3) := by decide +kernel
theorem dX12_readsLaw_105 : decode cX12_readsLaw 105 = .ok (.aload_n 0, 1) := by decide +kernel
theorem dX12_readsLaw_106 : decode cX12_readsLaw 106 = .ok (.getfield 53, 3) := by decide +kernel
theorem dX12_readsLaw_109 : decode cX12_readsLaw 109 = .ok (.iload_n 1, 1) := by decide +kernel
theorem dX12_readsLaw_110 : decode cX12_readsLaw 110 = .ok (.iload 4, 2) := by decide +kernel
theorem dX12_readsLaw_112 : decode cX12_readsLaw 112 = .ok (.ifCond .eq 7, 3) := by decide +kernel
theorem dX12_readsLaw_115 : decode cX12_readsLaw 115 = .ok (.iconst 1, 1) := by decide +kernel
theorem dX12_readsLaw_116 : decode cX12_readsLaw 116 = .ok (.goto 4, 3) := by decide +kernel
theorem dX12_readsLaw_119 : decode cX12_readsLaw 119 = .ok (.iconst 2, 1) := by decide +kernel
theorem dX12_readsLaw_120 : decode cX12_readsLaw 120 = .ok (.iastore, 1) := by decide +kernel
theorem dX12_readsLaw_121 : decode cX12_readsLaw 121 = .ok (.aload_n 0, 1) := by decide +kernel
theorem dX12_readsLaw_122 : decode cX12_readsLaw 122 = .ok (.getfield 56, 3) := by decide +kernel
theorem dX12_readsLaw_125 : decode cX12_readsLaw 125 = .ok (.iload_n 1, 1) := by decide +kernel
theorem dX12_readsLaw_126 : decode cX12_readsLaw 126 = .ok (.iconst 0, 1) := by decide +kernel
theorem dX12_readsLaw_127 : decode cX12_readsLaw 127 = .ok (.bastore, 1) := by decide +kernel
theorem dX12_readsLaw_128 : decode cX12_readsLaw 128 = .ok (.goto 44, 3) := by decide +kernel
theorem dX12_readsLaw_131 : decode cX12_readsLaw 131 = .ok (.aload_n 0, 1) := by decide +kernel
theorem dX12_readsLaw_132 : decode cX12_readsLaw 132 = .ok (.iload_n 3, 1) := by decide +kernel
theorem dX12_readsLaw_133 : decode cX12_readsLaw 133 = .ok (.ifCond .le 7, 3) := by decide +kernel
theorem dX12_readsLaw_136 : decode cX12_readsLaw 136 = .ok (.iload_n 3, 1) := by decide +kernel
theorem dX12_readsLaw_137 : decode cX12_readsLaw 137 = .ok (.goto 10, 3) := by decide +kernel
theorem dX12_readsLaw_140 : decode cX12_readsLaw 140 = .ok (.bipush 100, 2) := by decide +kernel
theorem dX12_readsLaw_142 : decode cX12_readsLaw 142 = .ok (.aload_n 0, 1) := by decide +kernel
theorem dX12_readsLaw_143 : decode cX12_readsLaw 143 = .ok (.getfield 169, 3) := by decide +kernel
theorem dX12_readsLaw_146 : decode cX12_readsLaw 146 = .ok (.iadd, 1) := by decide +kernel
theorem dX12_readsLaw_147 : decode cX12_readsLaw 147 = .ok (.invokevirtual 214, 3) := by decide +kernel
theorem dX12_readsLaw_150 : decode cX12_readsLaw 150 = .ok (.iconst 0, 1) := by decide +kernel
theorem dX12_readsLaw_151 : decode cX12_readsLaw 151 = .ok (.istore_n 2, 1) := by decide +kernel
theorem dX12_readsLaw_152 : decode cX12_readsLaw 152 = .ok (.iload_n 1, 1) := by decide +kernel
theorem dX12_readsLaw_153 : decode cX12_readsLaw 153 = .ok (.ifCond .le 19, 3) := by decide +kernel
theorem dX12_readsLaw_156 : decode cX12_readsLaw 156 = .ok (.aload_n 0, 1) := by decide +kernel
theorem dX12_readsLaw_157 : decode cX12_readsLaw 157 = .ok (.getfield 53, 3) := by decide +kernel
theorem dX12_readsLaw_160 : decode cX12_readsLaw 160 = .ok (.iload_n 1, 1) := by decide +kernel
theorem dX12_readsLaw_161 : decode cX12_readsLaw 161 = .ok (.iaload, 1) := by decide +kernel
theorem dX12_readsLaw_162 : decode cX12_readsLaw 162 = .ok (.iconst 1, 1) := by decide +kernel
theorem dX12_readsLaw_163 : decode cX12_readsLaw 163 = .ok (.if_icmp .ne 9, 3) := by decide +kernel
theorem dX12_readsLaw_166 : decode cX12_readsLaw 166 = .ok (.iinc 1 (-1), 3) := by decide +kernel
theorem dX12_readsLaw_169 : decode cX12_readsLaw 169 = .ok (.goto (-17), 3) := by decide +kernel
theorem dX12_readsLaw_172 : decode cX12_readsLaw 172 = .ok (.aload_n 0, 1) := by decide +kernel
theorem dX12_readsLaw_173 : decode cX12_readsLaw 173 = .ok (.invokevirtual 218, 3) := by decide +kernel
theorem dX12_readsLaw_176 : decode cX12_readsLaw 176 = .ok (.goto (-165), 3) := by decide +kernel
theorem dX12_readsLaw_179 : decode cX12_readsLaw 179 = .ok (.aload_n 0, 1) := by decide +kernel
theorem dX12_readsLaw_180 : decode cX12_readsLaw 180 = .ok (.bipush 43, 2) := by decide +kernel
theorem dX12_readsLaw_182 : decode cX12_readsLaw 182 = .ok (.invokevirtual 207, 3) := by decide +kernel
theorem dX12_readsLaw_185 : decode cX12_readsLaw 185 = .ok (.ifCond .ne 21, 3) := by decide +kernel
theorem dX12_readsLaw_188 : decode cX12_readsLaw 188 = .ok (.aload_n 0, 1) := by decide +kernel
theorem dX12_readsLaw_189 : decode cX12_readsLaw 189 = .ok (.bipush 45, 2) := by decide +kernel
theorem dX12_readsLaw_191 : decode cX12_readsLaw 191 = .ok (.invokevirtual 207, 3) := by decide +kernel
theorem dX12_readsLaw_194 : decode cX12_readsLaw 194 = .ok (.ifCond .ne 12, 3) := by decide +kernel
theorem dX12_readsLaw_197 : decode cX12_readsLaw 197 = .ok (.aload_n 0, 1) := by decide +kernel
theorem dX12_readsLaw_198 : decode cX12_readsLaw 198 = .ok (.bipush 42, 2) := by decide +kernel
theorem dX12_readsLaw_200 : decode cX12_readsLaw 200 = .ok (.invokevirtual 207, 3) := by decide +kernel
theorem dX12_readsLaw_203 : decode cX12_readsLaw 203 = .ok (.ifCond .eq 42, 3) := by decide +kernel
theorem dX12_readsLaw_206 : decode cX12_readsLaw 206 = .ok (.aload_n 0, 1) := by decide +kernel
theorem dX12_readsLaw_207 : decode cX12_readsLaw 207 = .ok (.aload_n 0, 1) := by decide +kernel
theorem dX12_readsLaw_208 : decode cX12_readsLaw 208 = .ok (.bipush 43, 2) := by decide +kernel
theorem dX12_readsLaw_210 : decode cX12_readsLaw 210 = .ok (.invokevirtual 207, 3) := by decide +kernel
theorem dX12_readsLaw_213 : decode cX12_readsLaw 213 = .ok (.ifCond .eq 8, 3) := by decide +kernel
theorem dX12_readsLaw_216 : decode cX12_readsLaw 216 = .ok (.bipush 20, 2) := by decide +kernel
theorem dX12_readsLaw_218 : decode cX12_readsLaw 218 = .ok (.goto 19, 3) := by decide +kernel
theorem dX12_readsLaw_221 : decode cX12_readsLaw 221 = .ok (.aload_n 0, 1) := by decide +kernel
theorem dX12_readsLaw_222 : decode cX12_readsLaw 222 = .ok (.bipush 45, 2) := by decide +kernel
theorem dX12_readsLaw_224 : decode cX12_readsLaw 224 = .ok (.invokevirtual 207, 3) := by decide +kernel
theorem dX12_readsLaw_227 : decode cX12_readsLaw 227 = .ok (.ifCond .eq 8, 3) := by decide +kernel
theorem dX12_readsLaw_230 : decode cX12_readsLaw 230 = .ok (.bipush 21, 2) := by decide +kernel
theorem dX12_readsLaw_232 : decode cX12_readsLaw 232 = .ok (.goto 5, 3) := by decide +kernel
theorem dX12_readsLaw_235 : decode cX12_readsLaw 235 = .ok (.bipush 22, 2) := by decide +kernel
theorem dX12_readsLaw_237 : decode cX12_readsLaw 237 = .ok (.invokevirtual 214, 3) := by decide +kernel
theorem dX12_readsLaw_240 : decode cX12_readsLaw 240 = .ok (.iconst 1, 1) := by decide +kernel
theorem dX12_readsLaw_241 : decode cX12_readsLaw 241 = .ok (.istore_n 2, 1) := by decide +kernel
theorem dX12_readsLaw_242 : decode cX12_readsLaw 242 = .ok (.goto 182, 3) := by decide +kernel
theorem dX12_readsLaw_245 : decode cX12_readsLaw 245 = .ok (.aload_n 0, 1) := by decide +kernel
theorem dX12_readsLaw_246 : decode cX12_readsLaw 246 = .ok (.bipush 60, 2) := by decide +kernel
theorem dX12_readsLaw_248 : decode cX12_readsLaw 248 = .ok (.invokevirtual 207, 3) := by decide +kernel
theorem dX12_readsLaw_251 : decode cX12_readsLaw 251 = .ok (.ifCond .ne 12, 3) := by decide +kernel
theorem dX12_readsLaw_254 : decode cX12_readsLaw 254 = .ok (.aload_n 0, 1) := by decide +kernel
theorem dX12_readsLaw_255 : decode cX12_readsLaw 255 = .ok (.bipush 61, 2) := by decide +kernel
theorem dX12_readsLaw_257 : decode cX12_readsLaw 257 = .ok (.invokevirtual 207, 3) := by decide +kernel
theorem dX12_readsLaw_260 : decode cX12_readsLaw 260 = .ok (.ifCond .eq 44, 3) := by decide +kernel
theorem dX12_readsLaw_263 : decode cX12_readsLaw 263 = .ok (.aload_n 0, 1) := by decide +kernel
theorem dX12_readsLaw_264 : decode cX12_readsLaw 264 = .ok (.getfield 56, 3) := by decide +kernel
theorem dX12_readsLaw_267 : decode cX12_readsLaw 267 = .ok (.iload_n 1, 1) := by decide +kernel
theorem dX12_readsLaw_268 : decode cX12_readsLaw 268 = .ok (.baload, 1) := by decide +kernel
theorem dX12_readsLaw_269 : decode cX12_readsLaw 269 = .ok (.ifCond .ne 35, 3) := by decide +kernel
theorem dX12_readsLaw_272 : decode cX12_readsLaw 272 = .ok (.aload_n 0, 1) := by decide +kernel
theorem dX12_readsLaw_273 : decode cX12_readsLaw 273 = .ok (.aload_n 0, 1) := by decide +kernel
theorem dX12_readsLaw_274 : decode cX12_readsLaw 274 = .ok (.bipush 60, 2) := by decide +kernel
theorem dX12_readsLaw_276 : decode cX12_readsLaw 276 = .ok (.invokevirtual 207, 3) := by decide +kernel
theorem dX12_readsLaw_279 : decode cX12_readsLaw 279 = .ok (.ifCond .eq 8, 3) := by decide +kernel
theorem dX12_readsLaw_282 : decode cX12_readsLaw 282 = .ok (.bipush 24, 2) := by decide +kernel
theorem dX12_readsLaw_284 : decode cX12_readsLaw 284 = .ok (.goto 5, 3) := by decide +kernel
theorem dX12_readsLaw_287 : decode cX12_readsLaw 287 = .ok (.bipush 25, 2) := by decide +kernel
theorem dX12_readsLaw_289 : decode cX12_readsLaw 289 = .ok (.invokevirtual 214, 3) := by decide +kernel
theorem dX12_readsLaw_292 : decode cX12_readsLaw 292 = .ok (.aload_n 0, 1) := by decide +kernel
theorem dX12_readsLaw_293 : decode cX12_readsLaw 293 = .ok (.getfield 56, 3) := by decide +kernel
theorem dX12_readsLaw_296 : decode cX12_readsLaw 296 = .ok (.iload_n 1, 1) := by decide +kernel
theorem dX12_readsLaw_297 : decode cX12_readsLaw 297 = .ok (.iconst 1, 1) := by decide +kernel
theorem dX12_readsLaw_298 : decode cX12_readsLaw 298 = .ok (.bastore, 1) := by decide +kernel
theorem dX12_readsLaw_299 : decode cX12_readsLaw 299 = .ok (.iconst 1, 1) := by decide +kernel
theorem dX12_readsLaw_300 : decode cX12_readsLaw 300 = .ok (.istore_n 2, 1) := by decide +kernel
theorem dX12_readsLaw_301 : decode cX12_readsLaw 301 = .ok (.goto 123, 3) := by decide +kernel
theorem dX12_readsLaw_304 : decode cX12_readsLaw 304 = .ok (.aload_n 0, 1) := by decide +kernel
theorem dX12_readsLaw_305 : decode cX12_readsLaw 305 = .ok (.ldc2_w 221, 3) := by decide +kernel
theorem dX12_readsLaw_308 : decode cX12_readsLaw 308 = .ok (.invokevirtual 203, 3) := by decide +kernel
theorem dX12_readsLaw_311 : decode cX12_readsLaw 311 = .ok (.ifCond .ne 13, 3) := by decide +kernel
theorem dX12_readsLaw_314 : decode cX12_readsLaw 314 = .ok (.aload_n 0, 1) := by decide +kernel
theorem dX12_readsLaw_315 : decode cX12_readsLaw 315 = .ok (.ldc2_w 223, 3) := by decide +kernel
theorem dX12_readsLaw_318 : decode cX12_readsLaw 318 = .ok (.invokevirtual 203, 3) := by decide +kernel
theorem dX12_readsLaw_321 : decode cX12_readsLaw 321 = .ok (.ifCond .eq 36, 3) := by decide +kernel
theorem dX12_readsLaw_324 : decode cX12_readsLaw 324 = .ok (.aload_n 0, 1) := by decide +kernel
theorem dX12_readsLaw_325 : decode cX12_readsLaw 325 = .ok (.aload_n 0, 1) := by decide +kernel
theorem dX12_readsLaw_326 : decode cX12_readsLaw 326 = .ok (.ldc2_w 221, 3) := by decide +kernel
theorem dX12_readsLaw_329 : decode cX12_readsLaw 329 = .ok (.invokevirtual 203, 3) := by decide +kernel
theorem dX12_readsLaw_332 : decode cX12_readsLaw 332 = .ok (.ifCond .eq 8, 3) := by decide +kernel
theorem dX12_readsLaw_335 : decode cX12_readsLaw 335 = .ok (.bipush 26, 2) := by decide +kernel
theorem dX12_readsLaw_337 : decode cX12_readsLaw 337 = .ok (.goto 5, 3) := by decide +kernel
theorem dX12_readsLaw_340 : decode cX12_readsLaw 340 = .ok (.bipush 27, 2) := by decide +kernel
theorem dX12_readsLaw_342 : decode cX12_readsLaw 342 = .ok (.invokevirtual 214, 3) := by decide +kernel
theorem dX12_readsLaw_345 : decode cX12_readsLaw 345 = .ok (.aload_n 0, 1) := by decide +kernel
theorem dX12_readsLaw_346 : decode cX12_readsLaw 346 = .ok (.getfield 56, 3) := by decide +kernel
theorem dX12_readsLaw_349 : decode cX12_readsLaw 349 = .ok (.iload_n 1, 1) := by decide +kernel
theorem dX12_readsLaw_350 : decode cX12_readsLaw 350 = .ok (.iconst 0, 1) := by decide +kernel
theorem dX12_readsLaw_351 : decode cX12_readsLaw 351 = .ok (.bastore, 1) := by decide +kernel
theorem dX12_readsLaw_352 : decode cX12_readsLaw 352 = .ok (.iconst 1, 1) := by decide +kernel
theorem dX12_readsLaw_353 : decode cX12_readsLaw 353 = .ok (.istore_n 2, 1) := by decide +kernel
theorem dX12_readsLaw_354 : decode cX12_readsLaw 354 = .ok (.goto 70, 3) := by decide +kernel
theorem dX12_readsLaw_357 : decode cX12_readsLaw 357 = .ok (.aload_n 0, 1) := by decide +kernel
theorem dX12_readsLaw_358 : decode cX12_readsLaw 358 = .ok (.bipush 41, 2) := by decide +kernel
theorem dX12_readsLaw_360 : decode cX12_readsLaw 360 = .ok (.invokevirtual 207, 3) := by decide +kernel
theorem dX12_readsLaw_363 : decode cX12_readsLaw 363 = .ok (.ifCond .eq 36, 3) := by decide +kernel
theorem dX12_readsLaw_366 : decode cX12_readsLaw 366 = .ok (.iload_n 1, 1) := by decide +kernel
theorem dX12_readsLaw_367 : decode cX12_readsLaw 367 = .ok (.ifCond .le 32, 3) := by decide +kernel
theorem dX12_readsLaw_370 : decode cX12_readsLaw 370 = .ok (.aload_n 0, 1) := by decide +kernel
theorem dX12_readsLaw_371 : decode cX12_readsLaw 371 = .ok (.bipush 29, 2) := by decide +kernel
theorem dX12_readsLaw_373 : decode cX12_readsLaw 373 = .ok (.invokevirtual 214, 3) := by decide +kernel
theorem dX12_readsLaw_376 : decode cX12_readsLaw 376 = .ok (.iinc 1 (-1), 3) := by decide +kernel
theorem dX12_readsLaw_379 : decode cX12_readsLaw 379 = .ok (.iload_n 1, 1) := by decide +kernel
theorem dX12_readsLaw_380 : decode cX12_readsLaw 380 = .ok (.ifCond .le 44, 3) := by decide +kernel
theorem dX12_readsLaw_383 : decode cX12_readsLaw 383 = .ok (.aload_n 0, 1) := by decide +kernel
theorem dX12_readsLaw_384 : decode cX12_readsLaw 384 = .ok (.getfield 53, 3) := by decide +kernel
theorem dX12_readsLaw_387 : decode cX12_readsLaw 387 = .ok (.iload_n 1, 1) := by decide +kernel
theorem dX12_readsLaw_388 : decode cX12_readsLaw 388 = .ok (.iaload, 1) := by decide +kernel
theorem dX12_readsLaw_389 : decode cX12_readsLaw 389 = .ok (.iconst 1, 1) := by decide +kernel
theorem dX12_readsLaw_390 : decode cX12_readsLaw 390 = .ok (.if_icmp .ne 34, 3) := by decide +kernel
theorem dX12_readsLaw_393 : decode cX12_readsLaw 393 = .ok (.iinc 1 (-1), 3) := by decide +kernel
theorem dX12_readsLaw_396 : decode cX12_readsLaw 396 = .ok (.goto (-17), 3) := by decide +kernel
theorem dX12_readsLaw_399 : decode cX12_readsLaw 399 = .ok (.iload_n 1, 1) := by decide +kernel
theorem dX12_readsLaw_400 : decode cX12_readsLaw 400 = .ok (.ifCond .ne 18, 3) := by decide +kernel
theorem dX12_readsLaw_403 : decode cX12_readsLaw 403 = .ok (.aload_n 0, 1) := by decide +kernel
theorem dX12_readsLaw_404 : decode cX12_readsLaw 404 = .ok (.bipush 59, 2) := by decide +kernel
theorem dX12_readsLaw_406 : decode cX12_readsLaw 406 = .ok (.invokevirtual 207, 3) := by decide +kernel
theorem dX12_readsLaw_409 : decode cX12_readsLaw 409 = .ok (.ifCond .eq 9, 3) := by decide +kernel
theorem dX12_readsLaw_412 : decode cX12_readsLaw 412 = .ok (.aload_n 0, 1) := by decide +kernel
theorem dX12_readsLaw_413 : decode cX12_readsLaw 413 = .ok (.invokevirtual 218, 3) := by decide +kernel
theorem dX12_readsLaw_416 : decode cX12_readsLaw 416 = .ok (.iconst 1, 1) := by decide +kernel
theorem dX12_readsLaw_417 : decode cX12_readsLaw 417 = .ok (.ireturn, 1) := by decide +kernel
theorem dX12_readsLaw_418 : decode cX12_readsLaw 418 = .ok (.aload_n 0, 1) := by decide +kernel
theorem dX12_readsLaw_419 : decode cX12_readsLaw 419 = .ok (.iconst 1, 1) := by decide +kernel
theorem dX12_readsLaw_420 : decode cX12_readsLaw 420 = .ok (.invokevirtual 211, 3) := by decide +kernel
theorem dX12_readsLaw_423 : decode cX12_readsLaw 423 = .ok (.ireturn, 1) := by decide +kernel
theorem dX12_readsLaw_424 : decode cX12_readsLaw 424 = .ok (.aload_n 0, 1) := by decide +kernel
theorem dX12_readsLaw_425 : decode cX12_readsLaw 425 = .ok (.invokevirtual 218, 3) := by decide +kernel
theorem dX12_readsLaw_428 : decode cX12_readsLaw 428 = .ok (.goto (-417), 3) := by decide +kernel
theorem dX12_opens_0 : decode cX12_opens 0 = .ok (.aload_n 0, 1) := by decide +kernel
theorem dX12_opens_1 : decode cX12_opens 1 = .ok (.getfield 63, 3) := by decide +kernel
theorem dX12_opens_4 : decode cX12_opens 4 = .ok (.iload_n 1, 1) := by decide +kernel
theorem dX12_opens_5 : decode cX12_opens 5 = .ok (.iconst 0, 1) := by decide +kernel
theorem dX12_opens_6 : decode cX12_opens 6 = .ok (.iastore, 1) := by decide +kernel
theorem dX12_opens_7 : decode cX12_opens 7 = .ok (.aload_n 0, 1) := by decide +kernel
theorem dX12_opens_8 : decode cX12_opens 8 = .ok (.getfield 69, 3) := by decide +kernel
theorem dX12_opens_11 : decode cX12_opens 11 = .ok (.iload_n 1, 1) := by decide +kernel
theorem dX12_opens_12 : decode cX12_opens 12 = .ok (.iconst 0, 1) := by decide +kernel
theorem dX12_opens_13 : decode cX12_opens 13 = .ok (.iastore, 1) := by decide +kernel
theorem dX12_opens_14 : decode cX12_opens 14 = .ok (.aload_n 0, 1) := by decide +kernel
theorem dX12_opens_15 : decode cX12_opens 15 = .ok (.getfield 72, 3) := by decide +kernel
theorem dX12_opens_18 : decode cX12_opens 18 = .ok (.iload_n 1, 1) := by decide +kernel
theorem dX12_opens_19 : decode cX12_opens 19 = .ok (.iconst 0, 1) := by decide +kernel
theorem dX12_opens_20 : decode cX12_opens 20 = .ok (.iastore, 1) := by decide +kernel
theorem dX12_opens_21 : decode cX12_opens 21 = .ok (.aload_n 0, 1) := by decide +kernel
theorem dX12_opens_22 : decode cX12_opens 22 = .ok (.getfield 75, 3) := by decide +kernel
theorem dX12_opens_25 : decode cX12_opens 25 = .ok (.iload_n 1, 1) := by decide +kernel
theorem dX12_opens_26 : decode cX12_opens 26 = .ok (.bipush 20, 2) := by decide +kernel
theorem dX12_opens_28 : decode cX12_opens 28 = .ok (.iastore, 1) := by decide +kernel
theorem dX12_opens_29 : decode cX12_opens 29 = .ok (.aload_n 0, 1) := by decide +kernel
theorem dX12_opens_30 : decode cX12_opens 30 = .ok (.getfield 81, 3) := by decide +kernel
theorem dX12_opens_33 : decode cX12_opens 33 = .ok (.iload_n 1, 1) := by decide +kernel
theorem dX12_opens_34 : decode cX12_opens 34 = .ok (.iconst 0, 1) := by decide +kernel
theorem dX12_opens_35 : decode cX12_opens 35 = .ok (.iastore, 1) := by decide +kernel
theorem dX12_opens_36 : decode cX12_opens 36 = .ok (.return_, 1) := by decide +kernel
theorem dX12_sums_0 : decode cX12_sums 0 = .ok (.aload_n 0, 1) := by decide +kernel
theorem dX12_sums_1 : decode cX12_sums 1 = .ok (.getfield 72, 3) := by decide +kernel
theorem dX12_sums_4 : decode cX12_sums 4 = .ok (.iload_n 1, 1) := by decide +kernel
theorem dX12_sums_5 : decode cX12_sums 5 = .ok (.aload_n 0, 1) := by decide +kernel
theorem dX12_sums_6 : decode cX12_sums 6 = .ok (.getfield 75, 3) := by decide +kernel
theorem dX12_sums_9 : decode cX12_sums 9 = .ok (.iload_n 1, 1) := by decide +kernel
theorem dX12_sums_10 : decode cX12_sums 10 = .ok (.iaload, 1) := by decide +kernel
theorem dX12_sums_11 : decode cX12_sums 11 = .ok (.bipush 21, 2) := by decide +kernel
theorem dX12_sums_13 : decode cX12_sums 13 = .ok (.if_icmp .ne 19, 3) := by decide +kernel
theorem dX12_sums_16 : decode cX12_sums 16 = .ok (.aload_n 0, 1) := by decide +kernel
theorem dX12_sums_17 : decode cX12_sums 17 = .ok (.getfield 72, 3) := by decide +kernel
theorem dX12_sums_20 : decode cX12_sums 20 = .ok (.iload_n 1, 1) := by decide +kernel
theorem dX12_sums_21 : decode cX12_sums 21 = .ok (.iaload, 1) := by decide +kernel
theorem dX12_sums_22 : decode cX12_sums 22 = .ok (.aload_n 0, 1) := by decide +kernel
theorem dX12_sums_23 : decode cX12_sums 23 = .ok (.getfield 78, 3) := by decide +kernel
theorem dX12_sums_26 : decode cX12_sums 26 = .ok (.iload_n 1, 1) := by decide +kernel
theorem dX12_sums_27 : decode cX12_sums 27 = .ok (.iaload, 1) := by decide +kernel
theorem dX12_sums_28 : decode cX12_sums 28 = .ok (.isub, 1) := by decide +kernel
theorem dX12_sums_29 : decode cX12_sums 29 = .ok (.goto 16, 3) := by decide +kernel
theorem dX12_sums_32 : decode cX12_sums 32 = .ok (.aload_n 0, 1) := by decide +kernel
theorem dX12_sums_33 : decode cX12_sums 33 = .ok (.getfield 72, 3) := by decide +kernel
theorem dX12_sums_36 : decode cX12_sums 36 = .ok (.iload_n 1, 1) := by decide +kernel
theorem dX12_sums_37 : decode cX12_sums 37 = .ok (.iaload, 1) := by decide +kernel
theorem dX12_sums_38 : decode cX12_sums 38 = .ok (.aload_n 0, 1) := by decide +kernel
theorem dX12_sums_39 : decode cX12_sums 39 = .ok (.getfield 78, 3) := by decide +kernel
theorem dX12_sums_42 : decode cX12_sums 42 = .ok (.iload_n 1, 1) := by decide +kernel
theorem dX12_sums_43 : decode cX12_sums 43 = .ok (.iaload, 1) := by decide +kernel
theorem dX12_sums_44 : decode cX12_sums 44 = .ok (.iadd, 1) := by decide +kernel
theorem dX12_sums_45 : decode cX12_sums 45 = .ok (.iastore, 1) := by decide +kernel
theorem dX12_sums_46 : decode cX12_sums 46 = .ok (.aload_n 0, 1) := by decide +kernel
theorem dX12_sums_47 : decode cX12_sums 47 = .ok (.getfield 81, 3) := by decide +kernel
theorem dX12_sums_50 : decode cX12_sums 50 = .ok (.iload_n 1, 1) := by decide +kernel
theorem dX12_sums_51 : decode cX12_sums 51 = .ok (.iconst 0, 1) := by decide +kernel
theorem dX12_sums_52 : decode cX12_sums 52 = .ok (.iastore, 1) := by decide +kernel
theorem dX12_sums_53 : decode cX12_sums 53 = .ok (.return_, 1) := by decide +kernel
theorem dX12_tests_0 : decode cX12_tests 0 = .ok (.aload_n 0, 1) := by decide +kernel
theorem dX12_tests_1 : decode cX12_tests 1 = .ok (.iload_n 1, 1) := by decide +kernel
theorem dX12_tests_2 : decode cX12_tests 2 = .ok (.invokevirtual 225, 3) := by decide +kernel
theorem dX12_tests_5 : decode cX12_tests 5 = .ok (.aload_n 0, 1) := by decide +kernel
theorem dX12_tests_6 : decode cX12_tests 6 = .ok (.getfield 72, 3) := by decide +kernel
theorem dX12_tests_9 : decode cX12_tests 9 = .ok (.iload_n 1, 1) := by decide +kernel
theorem dX12_tests_10 : decode cX12_tests 10 = .ok (.iaload, 1) := by decide +kernel
theorem dX12_tests_11 : decode cX12_tests 11 = .ok (.istore_n 2, 1) := by decide +kernel
theorem dX12_tests_12 : decode cX12_tests 12 = .ok (.aload_n 0, 1) := by decide +kernel
theorem dX12_tests_13 : decode cX12_tests 13 = .ok (.getfield 69, 3) := by decide +kernel
theorem dX12_tests_16 : decode cX12_tests 16 = .ok (.iload_n 1, 1) := by decide +kernel
theorem dX12_tests_17 : decode cX12_tests 17 = .ok (.iaload, 1) := by decide +kernel
theorem dX12_tests_18 : decode cX12_tests 18 = .ok (.bipush 24, 2) := by decide +kernel
theorem dX12_tests_20 : decode cX12_tests 20 = .ok (.if_icmp .ne 24, 3) := by decide +kernel
theorem dX12_tests_23 : decode cX12_tests 23 = .ok (.aload_n 0, 1) := by decide +kernel
theorem dX12_tests_24 : decode cX12_tests 24 = .ok (.getfield 66, 3) := by decide +kernel
theorem dX12_tests_27 : decode cX12_tests 27 = .ok (.iload_n 1, 1) := by decide +kernel
theorem dX12_tests_28 : decode cX12_tests 28 = .ok (.iaload, 1) := by decide +kernel
theorem dX12_tests_29 : decode cX12_tests 29 = .ok (.aload_n 0, 1) := by decide +kernel
theorem dX12_tests_30 : decode cX12_tests 30 = .ok (.getfield 72, 3) := by decide +kernel
theorem dX12_tests_33 : decode cX12_tests 33 = .ok (.iload_n 1, 1) := by decide +kernel
theorem dX12_tests_34 : decode cX12_tests 34 = .ok (.iaload, 1) := by decide +kernel
theorem dX12_tests_35 : decode cX12_tests 35 = .ok (.if_icmp .ge 7, 3) := by decide +kernel
theorem dX12_tests_38 : decode cX12_tests 38 = .ok (.iconst 1, 1) := by decide +kernel
theorem dX12_tests_39 : decode cX12_tests 39 = .ok (.goto 4, 3) := by decide +kernel
theorem dX12_tests_42 : decode cX12_tests 42 = .ok (.iconst 0, 1) := by decide +kernel
theorem dX12_tests_43 : decode cX12_tests 43 = .ok (.istore_n 2, 1) := by decide +kernel
theorem dX12_tests_44 : decode cX12_tests 44 = .ok (.aload_n 0, 1) := by decide +kernel
theorem dX12_tests_45 : decode cX12_tests 45 = .ok (.getfield 69, 3) := by decide +kernel
theorem dX12_tests_48 : decode cX12_tests 48 = .ok (.iload_n 1, 1) := by decide +kernel
theorem dX12_tests_49 : decode cX12_tests 49 = .ok (.iaload, 1) := by decide +kernel
theorem dX12_tests_50 : decode cX12_tests 50 = .ok (.bipush 25, 2) := by decide +kernel
theorem dX12_tests_52 : decode cX12_tests 52 = .ok (.if_icmp .ne 24, 3) := by decide +kernel
theorem dX12_tests_55 : decode cX12_tests 55 = .ok (.aload_n 0, 1) := by decide +kernel
theorem dX12_tests_56 : decode cX12_tests 56 = .ok (.getfield 66, 3) := by decide +kernel
theorem dX12_tests_59 : decode cX12_tests 59 = .ok (.iload_n 1, 1) := by decide +kernel
theorem dX12_tests_60 : decode cX12_tests 60 = .ok (.iaload, 1) := by decide +kernel
theorem dX12_tests_61 : decode cX12_tests 61 = .ok (.aload_n 0, 1) := by decide +kernel
theorem dX12_tests_62 : decode cX12_tests 62 = .ok (.getfield 72, 3) := by decide +kernel
theorem dX12_tests_65 : decode cX12_tests 65 = .ok (.iload_n 1, 1) := by decide +kernel
theorem dX12_tests_66 : decode cX12_tests 66 = .ok (.iaload, 1) := by decide +kernel
theorem dX12_tests_67 : decode cX12_tests 67 = .ok (.if_icmp .ne 7, 3) := by decide +kernel
theorem dX12_tests_70 : decode cX12_tests 70 = .ok (.iconst 1, 1) := by decide +kernel
theorem dX12_tests_71 : decode cX12_tests 71 = .ok (.goto 4, 3) := by decide +kernel
theorem dX12_tests_74 : decode cX12_tests 74 = .ok (.iconst 0, 1) := by decide +kernel
theorem dX12_tests_75 : decode cX12_tests 75 = .ok (.istore_n 2, 1) := by decide +kernel
theorem dX12_tests_76 : decode cX12_tests 76 = .ok (.aload_n 0, 1) := by decide +kernel
theorem dX12_tests_77 : decode cX12_tests 77 = .ok (.getfield 63, 3) := by decide +kernel
theorem dX12_tests_80 : decode cX12_tests 80 = .ok (.iload_n 1, 1) := by decide +kernel
theorem dX12_tests_81 : decode cX12_tests 81 = .ok (.iaload, 1) := by decide +kernel
theorem dX12_tests_82 : decode cX12_tests 82 = .ok (.bipush 26, 2) := by decide +kernel
theorem dX12_tests_84 : decode cX12_tests 84 = .ok (.if_icmp .ne 22, 3) := by decide +kernel
theorem dX12_tests_87 : decode cX12_tests 87 = .ok (.aload_n 0, 1) := by decide +kernel
theorem dX12_tests_88 : decode cX12_tests 88 = .ok (.getfield 60, 3) := by decide +kernel
theorem dX12_tests_91 : decode cX12_tests 91 = .ok (.iload_n 1, 1) := by decide +kernel
theorem dX12_tests_92 : decode cX12_tests 92 = .ok (.iaload, 1) := by decide +kernel
theorem dX12_tests_93 : decode cX12_tests 93 = .ok (.ifCond .eq 11, 3) := by decide +kernel
theorem dX12_tests_96 : decode cX12_tests 96 = .ok (.iload_n 2, 1) := by decide +kernel
theorem dX12_tests_97 : decode cX12_tests 97 = .ok (.ifCond .eq 7, 3) := by decide +kernel
theorem dX12_tests_100 : decode cX12_tests 100 = .ok (.iconst 1, 1) := by decide +kernel
theorem dX12_tests_101 : decode cX12_tests 101 = .ok (.goto 4, 3) := by decide +kernel
theorem dX12_tests_104 : decode cX12_tests 104 = .ok (.iconst 0, 1) := by decide +kernel
theorem dX12_tests_105 : decode cX12_tests 105 = .ok (.istore_n 2, 1) := by decide +kernel
theorem dX12_tests_106 : decode cX12_tests 106 = .ok (.aload_n 0, 1) := by decide +kernel
theorem dX12_tests_107 : decode cX12_tests 107 = .ok (.getfield 63, 3) := by decide +kernel
theorem dX12_tests_110 : decode cX12_tests 110 = .ok (.iload_n 1, 1) := by decide +kernel
theorem dX12_tests_111 : decode cX12_tests 111 = .ok (.iaload, 1) := by decide +kernel
theorem dX12_tests_112 : decode cX12_tests 112 = .ok (.bipush 27, 2) := by decide +kernel
theorem dX12_tests_114 : decode cX12_tests 114 = .ok (.if_icmp .ne 22, 3) := by decide +kernel
theorem dX12_tests_117 : decode cX12_tests 117 = .ok (.aload_n 0, 1) := by decide +kernel
theorem dX12_tests_118 : decode cX12_tests 118 = .ok (.getfield 60, 3) := by decide +kernel
theorem dX12_tests_121 : decode cX12_tests 121 = .ok (.iload_n 1, 1) := by decide +kernel
theorem dX12_tests_122 : decode cX12_tests 122 = .ok (.iaload, 1) := by decide +kernel
theorem dX12_tests_123 : decode cX12_tests 123 = .ok (.ifCond .ne 7, 3) := by decide +kernel
theorem dX12_tests_126 : decode cX12_tests 126 = .ok (.iload_n 2, 1) := by decide +kernel
theorem dX12_tests_127 : decode cX12_tests 127 = .ok (.ifCond .eq 7, 3) := by decide +kernel
theorem dX12_tests_130 : decode cX12_tests 130 = .ok (.iconst 1, 1) := by decide +kernel
theorem dX12_tests_131 : decode cX12_tests 131 = .ok (.goto 4, 3) := by decide +kernel
theorem dX12_tests_134 : decode cX12_tests 134 = .ok (.iconst 0, 1) := by decide +kernel
theorem dX12_tests_135 : decode cX12_tests 135 = .ok (.istore_n 2, 1) := by decide +kernel
theorem dX12_tests_136 : decode cX12_tests 136 = .ok (.aload_n 0, 1) := by decide +kernel
theorem dX12_tests_137 : decode cX12_tests 137 = .ok (.getfield 60, 3) := by decide +kernel
theorem dX12_tests_140 : decode cX12_tests 140 = .ok (.iload_n 1, 1) := by decide +kernel
theorem dX12_tests_141 : decode cX12_tests 141 = .ok (.iload_n 2, 1) := by decide +kernel
theorem dX12_tests_142 : decode cX12_tests 142 = .ok (.iastore, 1) := by decide +kernel
theorem dX12_tests_143 : decode cX12_tests 143 = .ok (.aload_n 0, 1) := by decide +kernel
theorem dX12_tests_144 : decode cX12_tests 144 = .ok (.getfield 69, 3) := by decide +kernel
theorem dX12_tests_147 : decode cX12_tests 147 = .ok (.iload_n 1, 1) := by decide +kernel
theorem dX12_tests_148 : decode cX12_tests 148 = .ok (.iconst 0, 1) := by decide +kernel
theorem dX12_tests_149 : decode cX12_tests 149 = .ok (.iastore, 1) := by decide +kernel
theorem dX12_tests_150 : decode cX12_tests 150 = .ok (.aload_n 0, 1) := by decide +kernel
theorem dX12_tests_151 : decode cX12_tests 151 = .ok (.getfield 72, 3) := by decide +kernel
theorem dX12_tests_154 : decode cX12_tests 154 = .ok (.iload_n 1, 1) := by decide +kernel
theorem dX12_tests_155 : decode cX12_tests 155 = .ok (.iconst 0, 1) := by decide +kernel
theorem dX12_tests_156 : decode cX12_tests 156 = .ok (.iastore, 1) := by decide +kernel
theorem dX12_tests_157 : decode cX12_tests 157 = .ok (.aload_n 0, 1) := by decide +kernel
theorem dX12_tests_158 : decode cX12_tests 158 = .ok (.getfield 75, 3) := by decide +kernel
theorem dX12_tests_161 : decode cX12_tests 161 = .ok (.iload_n 1, 1) := by decide +kernel
theorem dX12_tests_162 : decode cX12_tests 162 = .ok (.bipush 20, 2) := by decide +kernel
theorem dX12_tests_164 : decode cX12_tests 164 = .ok (.iastore, 1) := by decide +kernel
theorem dX12_tests_165 : decode cX12_tests 165 = .ok (.return_, 1) := by decide +kernel
theorem dX12_worked_0 : decode cX12_worked 0 = .ok (.iconst 0, 1) := by decide +kernel
theorem dX12_worked_1 : decode cX12_worked 1 = .ok (.istore_n 2, 1) := by decide +kernel
theorem dX12_worked_2 : decode cX12_worked 2 = .ok (.aload_n 0, 1) := by decide +kernel
theorem dX12_worked_3 : decode cX12_worked 3 = .ok (.iconst 0, 1) := by decide +kernel
theorem dX12_worked_4 : decode cX12_worked 4 = .ok (.invokevirtual 228, 3) := by decide +kernel
theorem dX12_worked_7 : decode cX12_worked 7 = .ok (.aload_n 0, 1) := by decide +kernel
theorem dX12_worked_8 : decode cX12_worked 8 = .ok (.getfield 44, 3) := by decide +kernel
theorem dX12_worked_11 : decode cX12_worked 11 = .ok (.iload_n 1, 1) := by decide +kernel
theorem dX12_worked_12 : decode cX12_worked 12 = .ok (.iaload, 1) := by decide +kernel
theorem dX12_worked_13 : decode cX12_worked 13 = .ok (.istore_n 3, 1) := by decide +kernel
theorem dX12_worked_14 : decode cX12_worked 14 = .ok (.iload_n 3, 1) := by decide +kernel
theorem dX12_worked_15 : decode cX12_worked 15 = .ok (.aload_n 0, 1) := by decide +kernel
theorem dX12_worked_16 : decode cX12_worked 16 = .ok (.getfield 47, 3) := by decide +kernel
theorem dX12_worked_19 : decode cX12_worked 19 = .ok (.iload_n 1, 1) := by decide +kernel
theorem dX12_worked_20 : decode cX12_worked 20 = .ok (.iaload, 1) := by decide +kernel
theorem dX12_worked_21 : decode cX12_worked 21 = .ok (.if_icmp .ge 314, 3) := by decide +kernel
theorem dX12_worked_24 : decode cX12_worked 24 = .ok (.aload_n 0, 1) := by decide +kernel
theorem dX12_worked_25 : decode cX12_worked 25 = .ok (.getfield 50, 3) := by decide +kernel
theorem dX12_worked_28 : decode cX12_worked 28 = .ok (.iload_n 3, 1) := by decide +kernel
theorem dX12_worked_29 : decode cX12_worked 29 = .ok (.iaload, 1) := by decide +kernel
theorem dX12_worked_30 : decode cX12_worked 30 = .ok (.istore 4, 2) := by decide +kernel
theorem dX12_worked_32 : decode cX12_worked 32 = .ok (.iload 4, 2) := by decide +kernel
theorem dX12_worked_34 : decode cX12_worked 34 = .ok (.bipush 28, 2) := by decide +kernel
theorem dX12_worked_36 : decode cX12_worked 36 = .ok (.if_icmp .eq 10, 3) := by decide +kernel
theorem dX12_worked_39 : decode cX12_worked 39 = .ok (.iload 4, 2) := by decide +kernel
theorem dX12_worked_41 : decode cX12_worked 41 = .ok (.bipush 30, 2) := by decide +kernel
theorem dX12_worked_43 : decode cX12_worked 43 = .ok (.if_icmp .ne 32, 3) := by decide +kernel
theorem dX12_worked_46 : decode cX12_worked 46 = .ok (.iinc 2 1, 3) := by decide +kernel
theorem dX12_worked_49 : decode cX12_worked 49 = .ok (.aload_n 0, 1) := by decide +kernel
theorem dX12_worked_50 : decode cX12_worked 50 = .ok (.getfield 84, 3) := by decide +kernel
theorem dX12_worked_53 : decode cX12_worked 53 = .ok (.iload_n 2, 1) := by decide +kernel
theorem dX12_worked_54 : decode cX12_worked 54 = .ok (.iload 4, 2) := by decide +kernel
theorem dX12_worked_56 : decode cX12_worked 56 = .ok (.bipush 30, 2) := by decide +kernel
theorem dX12_worked_58 : decode cX12_worked 58 = .ok (.if_icmp .ne 7, 3) := by decide +kernel
theorem dX12_worked_61 : decode cX12_worked 61 = .ok (.iconst 1, 1) := by decide +kernel
theorem dX12_worked_62 : decode cX12_worked 62 = .ok (.goto 4, 3) := by decide +kernel
theorem dX12_worked_65 : decode cX12_worked 65 = .ok (.iconst 0, 1) := by decide +kernel
theorem dX12_worked_66 : decode cX12_worked 66 = .ok (.iastore, 1) := by decide +kernel
theorem dX12_worked_67 : decode cX12_worked 67 = .ok (.aload_n 0, 1) := by decide +kernel
theorem dX12_worked_68 : decode cX12_worked 68 = .ok (.iload_n 2, 1) := by decide +kernel
theorem dX12_worked_69 : decode cX12_worked 69 = .ok (.invokevirtual 228, 3) := by decide +kernel
theorem dX12_worked_72 : decode cX12_worked 72 = .ok (.goto 257, 3) := by decide +kernel
theorem dX12_worked_75 : decode cX12_worked 75 = .ok (.iload 4, 2) := by decide +kernel
theorem dX12_worked_77 : decode cX12_worked 77 = .ok (.bipush 20, 2) := by decide +kernel
theorem dX12_worked_79 : decode cX12_worked 79 = .ok (.if_icmp .eq 10, 3) := by decide +kernel
theorem dX12_worked_82 : decode cX12_worked 82 = .ok (.iload 4, 2) := by decide +kernel
theorem dX12_worked_84 : decode cX12_worked 84 = .ok (.bipush 21, 2) := by decide +kernel
theorem dX12_worked_86 : decode cX12_worked 86 = .ok (.if_icmp .ne 19, 3) := by decide +kernel
theorem dX12_worked_89 : decode cX12_worked 89 = .ok (.aload_n 0, 1) := by decide +kernel
theorem dX12_worked_90 : decode cX12_worked 90 = .ok (.iload_n 2, 1) := by decide +kernel
theorem dX12_worked_91 : decode cX12_worked 91 = .ok (.invokevirtual 225, 3) := by decide +kernel
theorem dX12_worked_94 : decode cX12_worked 94 = .ok (.aload_n 0, 1) := by decide +kernel
theorem dX12_worked_95 : decode cX12_worked 95 = .ok (.getfield 75, 3) := by decide +kernel
theorem dX12_worked_98 : decode cX12_worked 98 = .ok (.iload_n 2, 1) := by decide +kernel
theorem dX12_worked_99 : decode cX12_worked 99 = .ok (.iload 4, 2) := by decide +kernel
theorem dX12_worked_101 : decode cX12_worked 101 = .ok (.iastore, 1) := by decide +kernel
theorem dX12_worked_102 : decode cX12_worked 102 = .ok (.goto 227, 3) := by decide +kernel
theorem dX12_worked_105 : decode cX12_worked 105 = .ok (.iload 4, 2) := by decide +kernel
theorem dX12_worked_107 : decode cX12_worked 107 = .ok (.bipush 22, 2) := by decide +kernel
theorem dX12_worked_109 : decode cX12_worked 109 = .ok (.if_icmp .ne 14, 3) := by decide +kernel
theorem dX12_worked_112 : decode cX12_worked 112 = .ok (.aload_n 0, 1) := by decide +kernel
theorem dX12_worked_113 : decode cX12_worked 113 = .ok (.getfield 81, 3) := by decide +kernel
theorem dX12_worked_116 : decode cX12_worked 116 = .ok (.iload_n 2, 1) := by decide +kernel
theorem dX12_worked_117 : decode cX12_worked 117 = .ok (.iload 4, 2) := by decide +kernel
theorem dX12_worked_119 : decode cX12_worked 119 = .ok (.iastore, 1) := by decide +kernel
theorem dX12_worked_120 : decode cX12_worked 120 = .ok (.goto 209, 3) := by decide +kernel
theorem dX12_worked_123 : decode cX12_worked 123 = .ok (.iload 4, 2) := by decide +kernel
theorem dX12_worked_125 : decode cX12_worked 125 = .ok (.bipush 24, 2) := by decide +kernel
theorem dX12_worked_127 : decode cX12_worked 127 = .ok (.if_icmp .eq 10, 3) := by decide +kernel
theorem dX12_worked_130 : decode cX12_worked 130 = .ok (.iload 4, 2) := by decide +kernel
theorem dX12_worked_132 : decode cX12_worked 132 = .ok (.bipush 25, 2) := by decide +kernel
theorem dX12_worked_134 : decode cX12_worked 134 = .ok (.if_icmp .ne 46, 3) := by decide +kernel
theorem dX12_worked_137 : decode cX12_worked 137 = .ok (.aload_n 0, 1) := by decide +kernel
theorem dX12_worked_138 : decode cX12_worked 138 = .ok (.iload_n 2, 1) := by decide +kernel
theorem dX12_worked_139 : decode cX12_worked 139 = .ok (.invokevirtual 225, 3) := by decide +kernel
theorem dX12_worked_142 : decode cX12_worked 142 = .ok (.aload_n 0, 1) := by decide +kernel
theorem dX12_worked_143 : decode cX12_worked 143 = .ok (.getfield 66, 3) := by decide +kernel
theorem dX12_worked_146 : decode cX12_worked 146 = .ok (.iload_n 2, 1) := by decide +kernel
theorem dX12_worked_147 : decode cX12_worked 147 = .ok (.aload_n 0, 1) := by decide +kernel
theorem dX12_worked_148 : decode cX12_worked 148 = .ok (.getfield 72, 3) := by decide +kernel
theorem dX12_worked_151 : decode cX12_worked 151 = .ok (.iload_n 2, 1) := by decide +kernel
theorem dX12_worked_152 : decode cX12_worked 152 = .ok (.iaload, 1) := by decide +kernel
theorem dX12_worked_153 : decode cX12_worked 153 = .ok (.iastore, 1) := by decide +kernel
theorem dX12_worked_154 : decode cX12_worked 154 = .ok (.aload_n 0, 1) := by decide +kernel
theorem dX12_worked_155 : decode cX12_worked 155 = .ok (.getfield 69, 3) := by decide +kernel
theorem dX12_worked_158 : decode cX12_worked 158 = .ok (.iload_n 2, 1) := by decide +kernel
theorem dX12_worked_159 : decode cX12_worked 159 = .ok (.iload 4, 2) := by decide +kernel
theorem dX12_worked_161 : decode cX12_worked 161 = .ok (.iastore, 1) := by decide +kernel
theorem dX12_worked_162 : decode cX12_worked 162 = .ok (.aload_n 0, 1) := by decide +kernel
theorem dX12_worked_163 : decode cX12_worked 163 = .ok (.getfield 72, 3) := by decide +kernel
theorem dX12_worked_166 : decode cX12_worked 166 = .ok (.iload_n 2, 1) := by decide +kernel
theorem dX12_worked_167 : decode cX12_worked 167 = .ok (.iconst 0, 1) := by decide +kernel
theorem dX12_worked_168 : decode cX12_worked 168 = .ok (.iastore, 1) := by decide +kernel
theorem dX12_worked_169 : decode cX12_worked 169 = .ok (.aload_n 0, 1) := by decide +kernel
theorem dX12_worked_170 : decode cX12_worked 170 = .ok (.getfield 75, 3) := by decide +kernel
theorem dX12_worked_173 : decode cX12_worked 173 = .ok (.iload_n 2, 1) := by decide +kernel
theorem dX12_worked_174 : decode cX12_worked 174 = .ok (.bipush 20, 2) := by decide +kernel
theorem dX12_worked_176 : decode cX12_worked 176 = .ok (.iastore, 1) := by decide +kernel
theorem dX12_worked_177 : decode cX12_worked 177 = .ok (.goto 152, 3) := by decide +kernel
theorem dX12_worked_180 : decode cX12_worked 180 = .ok (.iload 4, 2) := by decide +kernel
theorem dX12_worked_182 : decode cX12_worked 182 = .ok (.bipush 26, 2) := by decide +kernel
theorem dX12_worked_184 : decode cX12_worked 184 = .ok (.if_icmp .eq 10, 3) := by decide +kernel
theorem dX12_worked_187 : decode cX12_worked 187 = .ok (.iload 4, 2) := by decide +kernel
theorem dX12_worked_189 : decode cX12_worked 189 = .ok (.bipush 27, 2) := by decide +kernel
theorem dX12_worked_191 : decode cX12_worked 191 = .ok (.if_icmp .ne 19, 3) := by decide +kernel
theorem dX12_worked_194 : decode cX12_worked 194 = .ok (.aload_n 0, 1) := by decide +kernel
theorem dX12_worked_195 : decode cX12_worked 195 = .ok (.iload_n 2, 1) := by decide +kernel
theorem dX12_worked_196 : decode cX12_worked 196 = .ok (.invokevirtual 231, 3) := by decide +kernel
theorem dX12_worked_199 : decode cX12_worked 199 = .ok (.aload_n 0, 1) := by decide +kernel
theorem dX12_worked_200 : decode cX12_worked 200 = .ok (.getfield 63, 3) := by decide +kernel
theorem dX12_worked_203 : decode cX12_worked 203 = .ok (.iload_n 2, 1) := by decide +kernel
theorem dX12_worked_204 : decode cX12_worked 204 = .ok (.iload 4, 2) := by decide +kernel
theorem dX12_worked_206 : decode cX12_worked 206 = .ok (.iastore, 1) := by decide +kernel
theorem dX12_worked_207 : decode cX12_worked 207 = .ok (.goto 122, 3) := by decide +kernel
theorem dX12_worked_210 : decode cX12_worked 210 = .ok (.iload 4, 2) := by decide +kernel
theorem dX12_worked_212 : decode cX12_worked 212 = .ok (.bipush 100, 2) := by decide +kernel
theorem dX12_worked_214 : decode cX12_worked 214 = .ok (.if_icmp .lt 11, 3) := by decide +kernel
theorem dX12_worked_217 : decode cX12_worked 217 = .ok (.iload 4, 2) := by decide +kernel
theorem dX12_worked_219 : decode cX12_worked 219 = .ok (.bipush 100, 2) := by decide +kernel
theorem dX12_worked_221 : decode cX12_worked 221 = .ok (.isub, 1) := by decide +kernel
theorem dX12_worked_222 : decode cX12_worked 222 = .ok (.goto 21, 3) := by decide +kernel
theorem dX12_worked_225 : decode cX12_worked 225 = .ok (.iload 4, 2) := by decide +kernel
theorem dX12_worked_227 : decode cX12_worked 227 = .ok (.bipush 20, 2) := by decide +kernel
theorem dX12_worked_229 : decode cX12_worked 229 = .ok (.if_icmp .ge 13, 3) := by decide +kernel
theorem dX12_worked_232 : decode cX12_worked 232 = .ok (.aload_n 0, 1) := by decide +kernel
theorem dX12_worked_233 : decode cX12_worked 233 = .ok (.getfield 87, 3) := by decide +kernel
theorem dX12_worked_236 : decode cX12_worked 236 = .ok (.iload 4, 2) := by decide +kernel
theorem dX12_worked_238 : decode cX12_worked 238 = .ok (.iaload, 1) := by decide +kernel
theorem dX12_worked_239 : decode cX12_worked 239 = .ok (.goto 4, 3) := by decide +kernel
theorem dX12_worked_242 : decode cX12_worked 242 = .ok (.iconst 0, 1) := by decide +kernel
theorem dX12_worked_243 : decode cX12_worked 243 = .ok (.istore 5, 2) := by decide +kernel
theorem dX12_worked_245 : decode cX12_worked 245 = .ok (.iload 4, 2) := by decide +kernel
theorem dX12_worked_247 : decode cX12_worked 247 = .ok (.bipush 29, 2) := by decide +kernel
theorem dX12_worked_249 : decode cX12_worked 249 = .ok (.if_icmp .ne 19, 3) := by decide +kernel
theorem dX12_worked_252 : decode cX12_worked 252 = .ok (.aload_n 0, 1) := by decide +kernel
theorem dX12_worked_253 : decode cX12_worked 253 = .ok (.iload_n 2, 1) := by decide +kernel
theorem dX12_worked_254 : decode cX12_worked 254 = .ok (.invokevirtual 231, 3) := by decide +kernel
theorem dX12_worked_257 : decode cX12_worked 257 = .ok (.aload_n 0, 1) := by decide +kernel
theorem dX12_worked_258 : decode cX12_worked 258 = .ok (.getfield 60, 3) := by decide +kernel
theorem dX12_worked_261 : decode cX12_worked 261 = .ok (.iload_n 2, 1) := by decide +kernel
theorem dX12_worked_262 : decode cX12_worked 262 = .ok (.iaload, 1) := by decide +kernel
theorem dX12_worked_263 : decode cX12_worked 263 = .ok (.istore 5, 2) := by decide +kernel
theorem dX12_worked_265 : decode cX12_worked 265 = .ok (.iinc 2 (-1), 3) := by decide +kernel
theorem dX12_worked_268 : decode cX12_worked 268 = .ok (.iload_n 2, 1) := by decide +kernel
theorem dX12_worked_269 : decode cX12_worked 269 = .ok (.ifCond .le 31, 3) := by decide +kernel
theorem dX12_worked_272 : decode cX12_worked 272 = .ok (.aload_n 0, 1) := by decide +kernel
theorem dX12_worked_273 : decode cX12_worked 273 = .ok (.getfield 84, 3) := by decide +kernel
theorem dX12_worked_276 : decode cX12_worked 276 = .ok (.iload_n 2, 1) := by decide +kernel
theorem dX12_worked_277 : decode cX12_worked 277 = .ok (.iaload, 1) := by decide +kernel
theorem dX12_worked_278 : decode cX12_worked 278 = .ok (.iconst 1, 1) := by decide +kernel
theorem dX12_worked_279 : decode cX12_worked 279 = .ok (.if_icmp .ne 21, 3) := by decide +kernel
theorem dX12_worked_282 : decode cX12_worked 282 = .ok (.iload 5, 2) := by decide +kernel
theorem dX12_worked_284 : decode cX12_worked 284 = .ok (.ifCond .ne 7, 3) := by decide +kernel
theorem dX12_worked_287 : decode cX12_worked 287 = .ok (.iconst 1, 1) := by decide +kernel
theorem dX12_worked_288 : decode cX12_worked 288 = .ok (.goto 4, 3) := by decide +kernel
theorem dX12_worked_291 : decode cX12_worked 291 = .ok (.iconst 0, 1) := by decide +kernel
theorem dX12_worked_292 : decode cX12_worked 292 = .ok (.istore 5, 2) := by decide +kernel
theorem dX12_worked_294 : decode cX12_worked 294 = .ok (.iinc 2 (-1), 3) := by decide +kernel
theorem dX12_worked_297 : decode cX12_worked 297 = .ok (.goto (-29), 3) := by decide +kernel
theorem dX12_worked_300 : decode cX12_worked 300 = .ok (.aload_n 0, 1) := by decide +kernel
theorem dX12_worked_301 : decode cX12_worked 301 = .ok (.getfield 78, 3) := by decide +kernel
theorem dX12_worked_304 : decode cX12_worked 304 = .ok (.iload_n 2, 1) := by decide +kernel
theorem dX12_worked_305 : decode cX12_worked 305 = .ok (.aload_n 0, 1) := by decide +kernel
theorem dX12_worked_306 : decode cX12_worked 306 = .ok (.getfield 81, 3) := by decide +kernel
theorem dX12_worked_309 : decode cX12_worked 309 = .ok (.iload_n 2, 1) := by decide +kernel
theorem dX12_worked_310 : decode cX12_worked 310 = .ok (.iaload, 1) := by decide +kernel
theorem dX12_worked_311 : decode cX12_worked 311 = .ok (.ifCond .ne 8, 3) := by decide +kernel
theorem dX12_worked_314 : decode cX12_worked 314 = .ok (.iload 5, 2) := by decide +kernel
theorem dX12_worked_316 : decode cX12_worked 316 = .ok (.goto 12, 3) := by decide +kernel
theorem dX12_worked_319 : decode cX12_worked 319 = .ok (.aload_n 0, 1) := by decide +kernel
theorem dX12_worked_320 : decode cX12_worked 320 = .ok (.getfield 78, 3) := by decide +kernel
theorem dX12_worked_323 : decode cX12_worked 323 = .ok (.iload_n 2, 1) := by decide +kernel
theorem dX12_worked_324 : decode cX12_worked 324 = .ok (.iaload, 1) := by decide +kernel
theorem dX12_worked_325 : decode cX12_worked 325 = .ok (.iload 5, 2) := by decide +kernel
theorem dX12_worked_327 : decode cX12_worked 327 = .ok (.imul, 1) := by decide +kernel
theorem dX12_worked_328 : decode cX12_worked 328 = .ok (.iastore, 1) := by decide +kernel
theorem dX12_worked_329 : decode cX12_worked 329 = .ok (.iinc 3 1, 3) := by decide +kernel
theorem dX12_worked_332 : decode cX12_worked 332 = .ok (.goto (-318), 3) := by decide +kernel
theorem dX12_worked_335 : decode cX12_worked 335 = .ok (.aload_n 0, 1) := by decide +kernel
theorem dX12_worked_336 : decode cX12_worked 336 = .ok (.iconst 0, 1) := by decide +kernel
theorem dX12_worked_337 : decode cX12_worked 337 = .ok (.invokevirtual 231, 3) := by decide +kernel
theorem dX12_worked_340 : decode cX12_worked 340 = .ok (.aload_n 0, 1) := by decide +kernel
theorem dX12_worked_341 : decode cX12_worked 341 = .ok (.getfield 60, 3) := by decide +kernel
theorem dX12_worked_344 : decode cX12_worked 344 = .ok (.iconst 0, 1) := by decide +kernel
theorem dX12_worked_345 : decode cX12_worked 345 = .ok (.iaload, 1) := by decide +kernel
theorem dX12_worked_346 : decode cX12_worked 346 = .ok (.ireturn, 1) := by decide +kernel
theorem dX12_isKept_0 : decode cX12_isKept 0 = .ok (.aload_n 0, 1) := by decide +kernel
theorem dX12_isKept_1 : decode cX12_isKept 1 = .ok (.getfield 172, 3) := by decide +kernel
theorem dX12_isKept_4 : decode cX12_isKept 4 = .ok (.iconst 1, 1) := by decide +kernel
theorem dX12_isKept_5 : decode cX12_isKept 5 = .ok (.if_icmp .eq 5, 3) := by decide +kernel
theorem dX12_isKept_8 : decode cX12_isKept 8 = .ok (.iconst 1, 1) := by decide +kernel
theorem dX12_isKept_9 : decode cX12_isKept 9 = .ok (.ireturn, 1) := by decide +kernel
theorem dX12_isKept_10 : decode cX12_isKept 10 = .ok (.aload_n 0, 1) := by decide +kernel
theorem dX12_isKept_11 : decode cX12_isKept 11 = .ok (.getfield 165, 3) := by decide +kernel
theorem dX12_isKept_14 : decode cX12_isKept 14 = .ok (.ldc2_w 234, 3) := by decide +kernel
theorem dX12_isKept_17 : decode cX12_isKept 17 = .ok (.lcmp, 1) := by decide +kernel
theorem dX12_isKept_18 : decode cX12_isKept 18 = .ok (.ifCond .eq 212, 3) := by decide +kernel
theorem dX12_isKept_21 : decode cX12_isKept 21 = .ok (.aload_n 0, 1) := by decide +kernel
theorem dX12_isKept_22 : decode cX12_isKept 22 = .ok (.getfield 165, 3) := by decide +kernel
theorem dX12_isKept_25 : decode cX12_isKept 25 = .ok (.ldc2_w 236, 3) := by decide +kernel
theorem dX12_isKept_28 : decode cX12_isKept 28 = .ok (.lcmp, 1) := by decide +kernel
theorem dX12_isKept_29 : decode cX12_isKept 29 = .ok (.ifCond .eq 201, 3) := by decide +kernel
theorem dX12_isKept_32 : decode cX12_isKept 32 = .ok (.aload_n 0, 1) := by decide +kernel
theorem dX12_isKept_33 : decode cX12_isKept 33 = .ok (.getfield 165, 3) := by decide +kernel
theorem dX12_isKept_36 : decode cX12_isKept 36 = .ok (.ldc2_w 238, 3) := by decide +kernel
theorem dX12_isKept_39 : decode cX12_isKept 39 = .ok (.lcmp, 1) := by decide +kernel
theorem dX12_isKept_40 : decode cX12_isKept 40 = .ok (.ifCond .eq 190, 3) := by decide +kernel
theorem dX12_isKept_43 : decode cX12_isKept 43 = .ok (.aload_n 0, 1) := by decide +kernel
theorem dX12_isKept_44 : decode cX12_isKept 44 = .ok (.getfield 165, 3) := by decide +kernel
theorem dX12_isKept_47 : decode cX12_isKept 47 = .ok (.ldc2_w 240, 3) := by decide +kernel
theorem dX12_isKept_50 : decode cX12_isKept 50 = .ok (.lcmp, 1) := by decide +kernel
theorem dX12_isKept_51 : decode cX12_isKept 51 = .ok (.ifCond .eq 179, 3) := by decide +kernel
theorem dX12_isKept_54 : decode cX12_isKept 54 = .ok (.aload_n 0, 1) := by decide +kernel
theorem dX12_isKept_55 : decode cX12_isKept 55 = .ok (.getfield 165, 3) := by decide +kernel
theorem dX12_isKept_58 : decode cX12_isKept 58 = .ok (.ldc2_w 242, 3) := by decide +kernel
theorem dX12_isKept_61 : decode cX12_isKept 61 = .ok (.lcmp, 1) := by decide +kernel
theorem dX12_isKept_62 : decode cX12_isKept 62 = .ok (.ifCond .eq 168, 3) := by decide +kernel
theorem dX12_isKept_65 : decode cX12_isKept 65 = .ok (.aload_n 0, 1) := by decide +kernel
theorem dX12_isKept_66 : decode cX12_isKept 66 = .ok (.getfield 165, 3) := by decide +kernel
theorem dX12_isKept_69 : decode cX12_isKept 69 = .ok (.ldc2_w 244, 3) := by decide +kernel
theorem dX12_isKept_72 : decode cX12_isKept 72 = .ok (.lcmp, 1) := by decide +kernel
theorem dX12_isKept_73 : decode cX12_isKept 73 = .ok (.ifCond .eq 157, 3) := by decide +kernel
theorem dX12_isKept_76 : decode cX12_isKept 76 = .ok (.aload_n 0, 1) := by decide +kernel
theorem dX12_isKept_77 : decode cX12_isKept 77 = .ok (.getfield 165, 3) := by decide +kernel
theorem dX12_isKept_80 : decode cX12_isKept 80 = .ok (.ldc2_w 246, 3) := by decide +kernel
theorem dX12_isKept_83 : decode cX12_isKept 83 = .ok (.lcmp, 1) := by decide +kernel
theorem dX12_isKept_84 : decode cX12_isKept 84 = .ok (.ifCond .eq 146, 3) := by decide +kernel
theorem dX12_isKept_87 : decode cX12_isKept 87 = .ok (.aload_n 0, 1) := by decide +kernel
theorem dX12_isKept_88 : decode cX12_isKept 88 = .ok (.getfield 165, 3) := by decide +kernel
theorem dX12_isKept_91 : decode cX12_isKept 91 = .ok (.ldc2_w 248, 3) := by decide +kernel
theorem dX12_isKept_94 : decode cX12_isKept 94 = .ok (.lcmp, 1) := by decide +kernel
theorem dX12_isKept_95 : decode cX12_isKept 95 = .ok (.ifCond .eq 135, 3) := by decide +kernel
theorem dX12_isKept_98 : decode cX12_isKept 98 = .ok (.aload_n 0, 1) := by decide +kernel
theorem dX12_isKept_99 : decode cX12_isKept 99 = .ok (.getfield 165, 3) := by decide +kernel
theorem dX12_isKept_102 : decode cX12_isKept 102 = .ok (.ldc2_w 250, 3) := by decide +kernel
theorem dX12_isKept_105 : decode cX12_isKept 105 = .ok (.lcmp, 1) := by decide +kernel
theorem dX12_isKept_106 : decode cX12_isKept 106 = .ok (.ifCond .eq 124, 3) := by decide +kernel
theorem dX12_isKept_109 : decode cX12_isKept 109 = .ok (.aload_n 0, 1) := by decide +kernel
theorem dX12_isKept_110 : decode cX12_isKept 110 = .ok (.getfield 165, 3) := by decide +kernel
theorem dX12_isKept_113 : decode cX12_isKept 113 = .ok (.ldc2_w 252, 3) := by decide +kernel
theorem dX12_isKept_116 : decode cX12_isKept 116 = .ok (.lcmp, 1) := by decide +kernel
theorem dX12_isKept_117 : decode cX12_isKept 117 = .ok (.ifCond .eq 113, 3) := by decide +kernel
theorem dX12_isKept_120 : decode cX12_isKept 120 = .ok (.aload_n 0, 1) := by decide +kernel
theorem dX12_isKept_121 : decode cX12_isKept 121 = .ok (.getfield 165, 3) := by decide +kernel
theorem dX12_isKept_124 : decode cX12_isKept 124 = .ok (.ldc2_w 254, 3) := by decide +kernel
theorem dX12_isKept_127 : decode cX12_isKept 127 = .ok (.lcmp, 1) := by decide +kernel
theorem dX12_isKept_128 : decode cX12_isKept 128 = .ok (.ifCond .eq 102, 3) := by decide +kernel
theorem dX12_isKept_131 : decode cX12_isKept 131 = .ok (.aload_n 0, 1) := by decide +kernel
theorem dX12_isKept_132 : decode cX12_isKept 132 = .ok (.getfield 165, 3) := by decide +kernel
theorem dX12_isKept_135 : decode cX12_isKept 135 = .ok (.ldc2_w 256, 3) := by decide +kernel
theorem dX12_isKept_138 : decode cX12_isKept 138 = .ok (.lcmp, 1) := by decide +kernel
theorem dX12_isKept_139 : decode cX12_isKept 139 = .ok (.ifCond .eq 91, 3) := by decide +kernel
theorem dX12_isKept_142 : decode cX12_isKept 142 = .ok (.aload_n 0, 1) := by decide +kernel
theorem dX12_isKept_143 : decode cX12_isKept 143 = .ok (.getfield 165, 3) := by decide +kernel
theorem dX12_isKept_146 : decode cX12_isKept 146 = .ok (.ldc2_w 258, 3) := by decide +kernel
theorem dX12_isKept_149 : decode cX12_isKept 149 = .ok (.lcmp, 1) := by decide +kernel
theorem dX12_isKept_150 : decode cX12_isKept 150 = .ok (.ifCond .eq 80, 3) := by decide +kernel
theorem dX12_isKept_153 : decode cX12_isKept 153 = .ok (.aload_n 0, 1) := by decide +kernel
theorem dX12_isKept_154 : decode cX12_isKept 154 = .ok (.getfield 165, 3) := by decide +kernel
theorem dX12_isKept_157 : decode cX12_isKept 157 = .ok (.ldc2_w 260, 3) := by decide +kernel
theorem dX12_isKept_160 : decode cX12_isKept 160 = .ok (.lcmp, 1) := by decide +kernel
theorem dX12_isKept_161 : decode cX12_isKept 161 = .ok (.ifCond .eq 69, 3) := by decide +kernel
theorem dX12_isKept_164 : decode cX12_isKept 164 = .ok (.aload_n 0, 1) := by decide +kernel
theorem dX12_isKept_165 : decode cX12_isKept 165 = .ok (.getfield 165, 3) := by decide +kernel
theorem dX12_isKept_168 : decode cX12_isKept 168 = .ok (.ldc2_w 262, 3) := by decide +kernel
theorem dX12_isKept_171 : decode cX12_isKept 171 = .ok (.lcmp, 1) := by decide +kernel
theorem dX12_isKept_172 : decode cX12_isKept 172 = .ok (.ifCond .eq 58, 3) := by decide +kernel
theorem dX12_isKept_175 : decode cX12_isKept 175 = .ok (.aload_n 0, 1) := by decide +kernel
theorem dX12_isKept_176 : decode cX12_isKept 176 = .ok (.getfield 165, 3) := by decide +kernel
theorem dX12_isKept_179 : decode cX12_isKept 179 = .ok (.ldc2_w 264, 3) := by decide +kernel
theorem dX12_isKept_182 : decode cX12_isKept 182 = .ok (.lcmp, 1) := by decide +kernel
theorem dX12_isKept_183 : decode cX12_isKept 183 = .ok (.ifCond .eq 47, 3) := by decide +kernel
theorem dX12_isKept_186 : decode cX12_isKept 186 = .ok (.aload_n 0, 1) := by decide +kernel
theorem dX12_isKept_187 : decode cX12_isKept 187 = .ok (.getfield 165, 3) := by decide +kernel
theorem dX12_isKept_190 : decode cX12_isKept 190 = .ok (.ldc2_w 266, 3) := by decide +kernel
theorem dX12_isKept_193 : decode cX12_isKept 193 = .ok (.lcmp, 1) := by decide +kernel
theorem dX12_isKept_194 : decode cX12_isKept 194 = .ok (.ifCond .eq 36, 3) := by decide +kernel
theorem dX12_isKept_197 : decode cX12_isKept 197 = .ok (.aload_n 0, 1) := by decide +kernel
theorem dX12_isKept_198 : decode cX12_isKept 198 = .ok (.getfield 165, 3) := by decide +kernel
theorem dX12_isKept_201 : decode cX12_isKept 201 = .ok (.ldc2_w 201, 3) := by decide +kernel
theorem dX12_isKept_204 : decode cX12_isKept 204 = .ok (.lcmp, 1) := by decide +kernel
theorem dX12_isKept_205 : decode cX12_isKept 205 = .ok (.ifCond .eq 25, 3) := by decide +kernel
theorem dX12_isKept_208 : decode cX12_isKept 208 = .ok (.aload_n 0, 1) := by decide +kernel
theorem dX12_isKept_209 : decode cX12_isKept 209 = .ok (.getfield 165, 3) := by decide +kernel
theorem dX12_isKept_212 : decode cX12_isKept 212 = .ok (.ldc2_w 221, 3) := by decide +kernel
theorem dX12_isKept_215 : decode cX12_isKept 215 = .ok (.lcmp, 1) := by decide +kernel
theorem dX12_isKept_216 : decode cX12_isKept 216 = .ok (.ifCond .eq 14, 3) := by decide +kernel
theorem dX12_isKept_219 : decode cX12_isKept 219 = .ok (.aload_n 0, 1) := by decide +kernel
theorem dX12_isKept_220 : decode cX12_isKept 220 = .ok (.getfield 165, 3) := by decide +kernel
theorem dX12_isKept_223 : decode cX12_isKept 223 = .ok (.ldc2_w 223, 3) := by decide +kernel
theorem dX12_isKept_226 : decode cX12_isKept 226 = .ok (.lcmp, 1) := by decide +kernel
theorem dX12_isKept_227 : decode cX12_isKept 227 = .ok (.ifCond .ne 7, 3) := by decide +kernel
theorem dX12_isKept_230 : decode cX12_isKept 230 = .ok (.iconst 1, 1) := by decide +kernel
theorem dX12_isKept_231 : decode cX12_isKept 231 = .ok (.goto 4, 3) := by decide +kernel
theorem dX12_isKept_234 : decode cX12_isKept 234 = .ok (.iconst 0, 1) := by decide +kernel
theorem dX12_isKept_235 : decode cX12_isKept 235 = .ok (.ireturn, 1) := by decide +kernel
